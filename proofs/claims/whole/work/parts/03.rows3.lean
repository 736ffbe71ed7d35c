theorem dX6_keep_44 : decode cX6_keep 44 = .ok (.getfield 33, 3) := by decide +kernel
theorem dX6_keep_47 : decode cX6_keep 47 = .ok (.invokevirtual 89, 3) := by decide +kernel
theorem dX6_keep_50 : decode cX6_keep 50 = .ok (.iconst 1, 1) := by decide +kernel
theorem dX6_keep_51 : decode cX6_keep 51 = .ok (.ireturn, 1) := by decide +kernel
set_option maxRecDepth 20000 in
theorem ggX6_goBack_X5_copyFrom : GoodIn wsX6_goBack wsX5_copyFrom := goodIn_r _ [14, 15, 16, 17, 18, 19, 20, 21, 22, 23, 24, 43, 44, 45, 46, 47, 48] (by decide +kernel) (by decide +kernel)
set_option maxRecDepth 20000 in
theorem gX6_goBack_X5_copyFrom : GoodIn wsX6_goBack (wsV RX6 86 RX5 yX5_copyFrom wsX5_copyFrom) := goodIn_app (goodIn_of _ (by decide +kernel)) ggX6_goBack_X5_copyFrom
set_option maxRecDepth 20000 in
theorem ggX6_goBack_X3_forget : GoodIn wsX6_goBack wsX3_forget := goodIn_r _ [29, 30, 49, 50, 51] (by decide +kernel) (by decide +kernel)
set_option maxRecDepth 20000 in
theorem gX6_goBack_X3_forget : GoodIn wsX6_goBack (wsV RX6 89 RX3 yX3_forget wsX3_forget) := goodIn_app (goodIn_of _ (by decide +kernel)) ggX6_goBack_X3_forget
theorem dX6_goBack_0 : decode cX6_goBack 0 = .ok (.iload_n 1, 1) := by decide +kernel
theorem dX6_goBack_1 : decode cX6_goBack 1 = .ok (.ifCond .lt 8, 3) := by decide +kernel
theorem dX6_goBack_4 : decode cX6_goBack 4 = .ok (.iload_n 1, 1) := by decide +kernel
theorem dX6_goBack_5 : decode cX6_goBack 5 = .ok (.iconst 2, 1) := by decide +kernel
theorem dX6_goBack_6 : decode cX6_goBack 6 = .ok (.if_icmp .lt 6, 3) := by decide +kernel
theorem dX6_goBack_9 : decode cX6_goBack 9 = .ok (.ldc 147, 2) := by decide +kernel
theorem dX6_goBack_11 : decode cX6_goBack 11 = .ok (.ireturn, 1) := by decide +kernel
theorem dX6_goBack_12 : decode cX6_goBack 12 = .ok (.aload_n 0, 1) := by decide +kernel
theorem dX6_goBack_13 : decode cX6_goBack 13 = .ok (.getfield 46, 3) := by decide +kernel
theorem dX6_goBack_16 : decode cX6_goBack 16 = .ok (.iload_n 1, 1) := by decide +kernel
theorem dX6_goBack_17 : decode cX6_goBack 17 = .ok (.aaload, 1) := by decide +kernel
theorem dX6_goBack_18 : decode cX6_goBack 18 = .ok (.astore_n 2, 1) := by decide +kernel
theorem dX6_goBack_19 : decode cX6_goBack 19 = .ok (.aload_n 2, 1) := by decide +kernel
theorem dX6_goBack_20 : decode cX6_goBack 20 = .ok (.getfield 93, 3) := by decide +kernel
theorem dX6_goBack_23 : decode cX6_goBack 23 = .ok (.ifCond .ne 6, 3) := by decide +kernel
theorem dX6_goBack_26 : decode cX6_goBack 26 = .ok (.ldc 204, 2) := by decide +kernel
theorem dX6_goBack_28 : decode cX6_goBack 28 = .ok (.ireturn, 1) := by decide +kernel
theorem dX6_goBack_29 : decode cX6_goBack 29 = .ok (.aload_n 0, 1) := by decide +kernel
theorem dX6_goBack_30 : decode cX6_goBack 30 = .ok (.getfield 26, 3) := by decide +kernel
theorem dX6_goBack_33 : decode cX6_goBack 33 = .ok (.aload_n 2, 1) := by decide +kernel
theorem dX6_goBack_34 : decode cX6_goBack 34 = .ok (.getfield 278, 3) := by decide +kernel
theorem dX6_goBack_37 : decode cX6_goBack 37 = .ok (.invokevirtual 86, 3) := by decide +kernel
theorem dX6_goBack_40 : decode cX6_goBack 40 = .ok (.aload_n 0, 1) := by decide +kernel
theorem dX6_goBack_41 : decode cX6_goBack 41 = .ok (.aload_n 2, 1) := by decide +kernel
theorem dX6_goBack_42 : decode cX6_goBack 42 = .ok (.getfield 279, 3) := by decide +kernel
theorem dX6_goBack_45 : decode cX6_goBack 45 = .ok (.putfield 58, 3) := by decide +kernel
theorem dX6_goBack_48 : decode cX6_goBack 48 = .ok (.aload_n 0, 1) := by decide +kernel
theorem dX6_goBack_49 : decode cX6_goBack 49 = .ok (.getfield 33, 3) := by decide +kernel
theorem dX6_goBack_52 : decode cX6_goBack 52 = .ok (.invokevirtual 89, 3) := by decide +kernel
theorem dX6_goBack_55 : decode cX6_goBack 55 = .ok (.iconst 1, 1) := by decide +kernel
theorem dX6_goBack_56 : decode cX6_goBack 56 = .ok (.ireturn, 1) := by decide +kernel
theorem dX6_isEstate_0 : decode cX6_isEstate 0 = .ok (.iload_n 0, 1) := by decide +kernel
theorem dX6_isEstate_1 : decode cX6_isEstate 1 = .ok (.ifCond .eq 8, 3) := by decide +kernel
theorem dX6_isEstate_4 : decode cX6_isEstate 4 = .ok (.iload_n 0, 1) := by decide +kernel
theorem dX6_isEstate_5 : decode cX6_isEstate 5 = .ok (.iconst 1, 1) := by decide +kernel
theorem dX6_isEstate_6 : decode cX6_isEstate 6 = .ok (.if_icmp .ne 7, 3) := by decide +kernel
theorem dX6_isEstate_9 : decode cX6_isEstate 9 = .ok (.iconst 1, 1) := by decide +kernel
theorem dX6_isEstate_10 : decode cX6_isEstate 10 = .ok (.goto 4, 3) := by decide +kernel
theorem dX6_isEstate_13 : decode cX6_isEstate 13 = .ok (.iconst 0, 1) := by decide +kernel
theorem dX6_isEstate_14 : decode cX6_isEstate 14 = .ok (.ireturn, 1) := by decide +kernel
theorem dX6_oneIf_0 : decode cX6_oneIf 0 = .ok (.iload_n 0, 1) := by decide +kernel
theorem dX6_oneIf_1 : decode cX6_oneIf 1 = .ok (.ifCond .eq 7, 3) := by decide +kernel
theorem dX6_oneIf_4 : decode cX6_oneIf 4 = .ok (.iconst 1, 1) := by decide +kernel
theorem dX6_oneIf_5 : decode cX6_oneIf 5 = .ok (.goto 4, 3) := by decide +kernel
theorem dX6_oneIf_8 : decode cX6_oneIf 8 = .ok (.iconst 0, 1) := by decide +kernel
theorem dX6_oneIf_9 : decode cX6_oneIf 9 = .ok (.ireturn, 1) := by decide +kernel
theorem dX6_mayPlant_0 : decode cX6_mayPlant 0 = .ok (.aload_n 0, 1) := by decide +kernel
theorem dX6_mayPlant_1 : decode cX6_mayPlant 1 = .ok (.getfield 26, 3) := by decide +kernel
theorem dX6_mayPlant_4 : decode cX6_mayPlant 4 = .ok (.getfield 112, 3) := by decide +kernel
theorem dX6_mayPlant_7 : decode cX6_mayPlant 7 = .ok (.aload_n 0, 1) := by decide +kernel
theorem dX6_mayPlant_8 : decode cX6_mayPlant 8 = .ok (.getfield 19, 3) := by decide +kernel
theorem dX6_mayPlant_11 : decode cX6_mayPlant 11 = .ok (.getfield 194, 3) := by decide +kernel
theorem dX6_mayPlant_14 : decode cX6_mayPlant 14 = .ok (.lor, 1) := by decide +kernel
theorem dX6_mayPlant_15 : decode cX6_mayPlant 15 = .ok (.lload_n 1, 1) := by decide +kernel
theorem dX6_mayPlant_16 : decode cX6_mayPlant 16 = .ok (.land, 1) := by decide +kernel
theorem dX6_mayPlant_17 : decode cX6_mayPlant 17 = .ok (.lconst 0, 1) := by decide +kernel
theorem dX6_mayPlant_18 : decode cX6_mayPlant 18 = .ok (.lcmp, 1) := by decide +kernel
theorem dX6_mayPlant_19 : decode cX6_mayPlant 19 = .ok (.ifCond .ne 7, 3) := by decide +kernel
theorem dX6_mayPlant_22 : decode cX6_mayPlant 22 = .ok (.iconst 1, 1) := by decide +kernel
theorem dX6_mayPlant_23 : decode cX6_mayPlant 23 = .ok (.goto 4, 3) := by decide +kernel
theorem dX6_mayPlant_26 : decode cX6_mayPlant 26 = .ok (.iconst 0, 1) := by decide +kernel
theorem dX6_mayPlant_27 : decode cX6_mayPlant 27 = .ok (.ireturn, 1) := by decide +kernel
set_option maxRecDepth 20000 in
theorem ggX6_passYears_X3_remember : GoodIn wsX6_passYears wsX3_remember := goodIn_r _ [14, 15, 16, 17, 18, 19, 20, 21, 22, 23, 24, 25, 26, 27, 28, 29, 30, 31, 32, 33, 34, 35, 36, 158, 159, 160, 152, 153, 154, 155, 156, 157] (by decide +kernel) (by decide +kernel)
set_option maxRecDepth 20000 in
theorem gX6_passYears_X3_remember : GoodIn wsX6_passYears (wsV RX6 205 RX3 yX3_remember wsX3_remember) := goodIn_app (goodIn_of _ (by decide +kernel)) ggX6_passYears_X3_remember
set_option maxRecDepth 20000 in
theorem ggX6_passYears_X6_sowByDraws : GoodIn wsX6_passYears wsX6_sowByDraws := goodIn_r _ [41, 2, 42, 43, 5, 44, 45, 46, 40, 47, 48, 49, 50, 51, 52, 53, 54, 55, 56, 57, 58, 59, 60, 61, 25, 62, 27, 28, 63, 32, 130, 131, 132, 133, 134, 135, 136, 137, 138, 139, 140, 141, 142, 143, 144, 145, 146, 147, 148, 149, 150, 151, 152, 153, 154, 155, 156, 157] (by decide +kernel) (by decide +kernel)
set_option maxRecDepth 20000 in
theorem gX6_passYears_X6_sowByDraws : GoodIn wsX6_passYears (wsV RX6 280 RX6 yX6_sowByDraws wsX6_sowByDraws) := goodIn_app (goodIn_of _ (by decide +kernel)) ggX6_passYears_X6_sowByDraws
set_option maxRecDepth 20000 in
theorem ggX6_passYears_X6_passOneYear : GoodIn wsX6_passYears wsX6_passOneYear := goodIn_r _ [67, 5, 2, 68, 9, 6, 69, 70, 71, 25, 72, 73, 27, 74, 32, 75, 19, 20, 21, 76, 77, 78, 79, 29, 63, 80, 81, 82, 83, 84, 85, 86, 87, 88, 89, 90, 91, 92, 93, 94, 95, 96, 97, 98, 99, 100, 101, 102, 103, 104, 105, 106, 107, 108, 109, 110, 111, 112, 113, 114, 115, 116, 117, 118, 119, 120, 121, 122, 130, 131, 132, 133, 134, 135, 136, 137, 138, 152, 153, 154, 155, 156, 157, 139, 140, 141, 142, 143, 144, 145, 146, 147, 148, 149, 150, 151] (by decide +kernel) (by decide +kernel)
set_option maxRecDepth 20000 in
theorem gX6_passYears_X6_passOneYear : GoodIn wsX6_passYears (wsV RX6 283 RX6 yX6_passOneYear wsX6_passOneYear) := goodIn_app (goodIn_of _ (by decide +kernel)) ggX6_passYears_X6_passOneYear
set_option maxRecDepth 20000 in
theorem ggX6_passYears_J6_bitCount_0f7a4 : GoodIn wsX6_passYears wsJ6_bitCount_0f7a4 := goodIn_r _ [126, 127, 128, 129] (by decide +kernel) (by decide +kernel)
set_option maxRecDepth 20000 in
theorem gX6_passYears_J6_bitCount_0f7a4 : GoodIn wsX6_passYears (va_wsS RX6 125 yJ6_bitCount_0f7a4 wsJ6_bitCount_0f7a4) := goodIn_app (goodIn_of _ (by decide +kernel)) ggX6_passYears_J6_bitCount_0f7a4
theorem dX6_passYears_0 : decode cX6_passYears 0 = .ok (.iload_n 1, 1) := by decide +kernel
theorem dX6_passYears_1 : decode cX6_passYears 1 = .ok (.iconst 1, 1) := by decide +kernel
theorem dX6_passYears_2 : decode cX6_passYears 2 = .ok (.if_icmp .lt 9, 3) := by decide +kernel
theorem dX6_passYears_5 : decode cX6_passYears 5 = .ok (.iload_n 1, 1) := by decide +kernel
theorem dX6_passYears_6 : decode cX6_passYears 6 = .ok (.bipush 40, 2) := by decide +kernel
theorem dX6_passYears_8 : decode cX6_passYears 8 = .ok (.if_icmp .le 6, 3) := by decide +kernel
theorem dX6_passYears_11 : decode cX6_passYears 11 = .ok (.ldc 62, 2) := by decide +kernel
theorem dX6_passYears_13 : decode cX6_passYears 13 = .ok (.ireturn, 1) := by decide +kernel
theorem dX6_passYears_14 : decode cX6_passYears 14 = .ok (.aload_n 0, 1) := by decide +kernel
theorem dX6_passYears_15 : decode cX6_passYears 15 = .ok (.getfield 19, 3) := by decide +kernel
theorem dX6_passYears_18 : decode cX6_passYears 18 = .ok (.getfield 97, 3) := by decide +kernel
theorem dX6_passYears_21 : decode cX6_passYears 21 = .ok (.ifCond .ne 6, 3) := by decide +kernel
theorem dX6_passYears_24 : decode cX6_passYears 24 = .ok (.ldc 204, 2) := by decide +kernel
theorem dX6_passYears_26 : decode cX6_passYears 26 = .ok (.ireturn, 1) := by decide +kernel
theorem dX6_passYears_27 : decode cX6_passYears 27 = .ok (.aload_n 0, 1) := by decide +kernel
theorem dX6_passYears_28 : decode cX6_passYears 28 = .ok (.getfield 26, 3) := by decide +kernel
theorem dX6_passYears_31 : decode cX6_passYears 31 = .ok (.getfield 109, 3) := by decide +kernel
theorem dX6_passYears_34 : decode cX6_passYears 34 = .ok (.sipush 9000, 3) := by decide +kernel
theorem dX6_passYears_37 : decode cX6_passYears 37 = .ok (.if_icmp .le 6, 3) := by decide +kernel
theorem dX6_passYears_40 : decode cX6_passYears 40 = .ok (.ldc 66, 2) := by decide +kernel
theorem dX6_passYears_42 : decode cX6_passYears 42 = .ok (.ireturn, 1) := by decide +kernel
theorem dX6_passYears_43 : decode cX6_passYears 43 = .ok (.aload_n 0, 1) := by decide +kernel
theorem dX6_passYears_44 : decode cX6_passYears 44 = .ok (.getfield 33, 3) := by decide +kernel
theorem dX6_passYears_47 : decode cX6_passYears 47 = .ok (.aload_n 0, 1) := by decide +kernel
theorem dX6_passYears_48 : decode cX6_passYears 48 = .ok (.getfield 26, 3) := by decide +kernel
theorem dX6_passYears_51 : decode cX6_passYears 51 = .ok (.invokevirtual 205, 3) := by decide +kernel
theorem dX6_passYears_54 : decode cX6_passYears 54 = .ok (.iconst 0, 1) := by decide +kernel
theorem dX6_passYears_55 : decode cX6_passYears 55 = .ok (.istore_n 3, 1) := by decide +kernel
theorem dX6_passYears_56 : decode cX6_passYears 56 = .ok (.iload_n 3, 1) := by decide +kernel
theorem dX6_passYears_57 : decode cX6_passYears 57 = .ok (.iload_n 1, 1) := by decide +kernel
theorem dX6_passYears_58 : decode cX6_passYears 58 = .ok (.if_icmp .ge 21, 3) := by decide +kernel
theorem dX6_passYears_61 : decode cX6_passYears 61 = .ok (.iload_n 2, 1) := by decide +kernel
theorem dX6_passYears_62 : decode cX6_passYears 62 = .ok (.ifCond .eq 7, 3) := by decide +kernel
theorem dX6_passYears_65 : decode cX6_passYears 65 = .ok (.aload_n 0, 1) := by decide +kernel
theorem dX6_passYears_66 : decode cX6_passYears 66 = .ok (.invokevirtual 280, 3) := by decide +kernel
theorem dX6_passYears_69 : decode cX6_passYears 69 = .ok (.aload_n 0, 1) := by decide +kernel
theorem dX6_passYears_70 : decode cX6_passYears 70 = .ok (.invokevirtual 283, 3) := by decide +kernel
theorem dX6_passYears_73 : decode cX6_passYears 73 = .ok (.iinc 3 1, 3) := by decide +kernel
theorem dX6_passYears_76 : decode cX6_passYears 76 = .ok (.goto (-20), 3) := by decide +kernel
theorem dX6_passYears_79 : decode cX6_passYears 79 = .ok (.aload_n 0, 1) := by decide +kernel
theorem dX6_passYears_80 : decode cX6_passYears 80 = .ok (.getfield 26, 3) := by decide +kernel
theorem dX6_passYears_83 : decode cX6_passYears 83 = .ok (.getfield 122, 3) := by decide +kernel
theorem dX6_passYears_86 : decode cX6_passYears 86 = .ok (.invokestatic 125, 3) := by decide +kernel
theorem dX6_passYears_89 : decode cX6_passYears 89 = .ok (.ireturn, 1) := by decide +kernel
set_option maxRecDepth 20000 in
theorem ggX6_passOneYear_X5_growOlder : GoodIn wsX6_passOneYear wsX5_growOlder := goodIn_r _ [10, 11, 12, 13, 14, 15, 16, 17, 18, 83, 84, 85, 86, 87, 88, 89, 90, 91, 92, 93, 94, 95, 77, 78, 79, 80, 81, 82] (by decide +kernel) (by decide +kernel)
set_option maxRecDepth 20000 in
theorem gX6_passOneYear_X5_growOlder : GoodIn wsX6_passOneYear (wsV RX6 286 RX5 yX5_growOlder wsX5_growOlder) := goodIn_app (goodIn_of _ (by decide +kernel)) ggX6_passOneYear_X5_growOlder
set_option maxRecDepth 20000 in
theorem ggX6_passOneYear_X5_shutEdges : GoodIn wsX6_passOneYear wsX5_shutEdges := goodIn_r _ [22, 23, 24, 25, 26, 27, 9, 28, 11, 12, 13, 14, 29, 30, 31, 32, 33, 34, 16, 17, 18, 35, 36, 37, 38, 39, 40, 41, 77, 78, 79, 80, 81, 82, 83, 84, 85, 86, 87, 88, 89, 90, 91, 92, 93, 94, 95] (by decide +kernel) (by decide +kernel)
set_option maxRecDepth 20000 in
theorem gX6_passOneYear_X5_shutEdges : GoodIn wsX6_passOneYear (wsV RX6 154 RX5 yX5_shutEdges wsX5_shutEdges) := goodIn_app (goodIn_of _ (by decide +kernel)) ggX6_passOneYear_X5_shutEdges
set_option maxRecDepth 20000 in
theorem ggX6_passOneYear_X0_ownedAfterMarch : GoodIn wsX6_passOneYear wsX0_ownedAfterMarch := goodIn_r _ [45, 46, 47, 48, 49, 50, 32, 51, 52, 53, 54, 55, 56, 57, 58, 59, 60, 61, 62, 63, 64, 65, 66, 67, 83, 84, 85, 86, 87, 88, 89, 90, 91, 92, 93, 94, 95] (by decide +kernel) (by decide +kernel)
set_option maxRecDepth 20000 in
theorem gX6_passOneYear_X0_ownedAfterMarch : GoodIn wsX6_passOneYear (wsV RX6 289 RX0 yX0_ownedAfterMarch wsX0_ownedAfterMarch) := goodIn_app (goodIn_of _ (by decide +kernel)) ggX6_passOneYear_X0_ownedAfterMarch
theorem dX6_passOneYear_0 : decode cX6_passOneYear 0 = .ok (.aload_n 0, 1) := by decide +kernel
theorem dX6_passOneYear_1 : decode cX6_passOneYear 1 = .ok (.getfield 26, 3) := by decide +kernel
theorem dX6_passOneYear_4 : decode cX6_passOneYear 4 = .ok (.aload_n 0, 1) := by decide +kernel
theorem dX6_passOneYear_5 : decode cX6_passOneYear 5 = .ok (.getfield 19, 3) := by decide +kernel
theorem dX6_passOneYear_8 : decode cX6_passOneYear 8 = .ok (.invokevirtual 286, 3) := by decide +kernel
theorem dX6_passOneYear_11 : decode cX6_passOneYear 11 = .ok (.aload_n 0, 1) := by decide +kernel
theorem dX6_passOneYear_12 : decode cX6_passOneYear 12 = .ok (.getfield 26, 3) := by decide +kernel
theorem dX6_passOneYear_15 : decode cX6_passOneYear 15 = .ok (.aload_n 0, 1) := by decide +kernel
theorem dX6_passOneYear_16 : decode cX6_passOneYear 16 = .ok (.getfield 19, 3) := by decide +kernel
theorem dX6_passOneYear_19 : decode cX6_passOneYear 19 = .ok (.aload_n 0, 1) := by decide +kernel
theorem dX6_passOneYear_20 : decode cX6_passOneYear 20 = .ok (.getfield 26, 3) := by decide +kernel
theorem dX6_passOneYear_23 : decode cX6_passOneYear 23 = .ok (.aload_n 0, 1) := by decide +kernel
theorem dX6_passOneYear_24 : decode cX6_passOneYear 24 = .ok (.getfield 19, 3) := by decide +kernel
theorem dX6_passOneYear_27 : decode cX6_passOneYear 27 = .ok (.invokevirtual 154, 3) := by decide +kernel
theorem dX6_passOneYear_30 : decode cX6_passOneYear 30 = .ok (.aload_n 0, 1) := by decide +kernel
theorem dX6_passOneYear_31 : decode cX6_passOneYear 31 = .ok (.getfield 26, 3) := by decide +kernel
theorem dX6_passOneYear_34 : decode cX6_passOneYear 34 = .ok (.getfield 162, 3) := by decide +kernel
theorem dX6_passOneYear_37 : decode cX6_passOneYear 37 = .ok (.aload_n 0, 1) := by decide +kernel
theorem dX6_passOneYear_38 : decode cX6_passOneYear 38 = .ok (.getfield 26, 3) := by decide +kernel
theorem dX6_passOneYear_41 : decode cX6_passOneYear 41 = .ok (.getfield 122, 3) := by decide +kernel
theorem dX6_passOneYear_44 : decode cX6_passOneYear 44 = .ok (.invokevirtual 289, 3) := by decide +kernel
theorem dX6_passOneYear_47 : decode cX6_passOneYear 47 = .ok (.putfield 122, 3) := by decide +kernel
theorem dX6_passOneYear_50 : decode cX6_passOneYear 50 = .ok (.aload_n 0, 1) := by decide +kernel
theorem dX6_passOneYear_51 : decode cX6_passOneYear 51 = .ok (.getfield 26, 3) := by decide +kernel
theorem dX6_passOneYear_54 : decode cX6_passOneYear 54 = .ok (.dup, 1) := by decide +kernel
theorem dX6_passOneYear_55 : decode cX6_passOneYear 55 = .ok (.getfield 109, 3) := by decide +kernel
theorem dX6_passOneYear_58 : decode cX6_passOneYear 58 = .ok (.iconst 1, 1) := by decide +kernel
theorem dX6_passOneYear_59 : decode cX6_passOneYear 59 = .ok (.iadd, 1) := by decide +kernel
theorem dX6_passOneYear_60 : decode cX6_passOneYear 60 = .ok (.putfield 109, 3) := by decide +kernel
theorem dX6_passOneYear_63 : decode cX6_passOneYear 63 = .ok (.return_, 1) := by decide +kernel
set_option maxRecDepth 20000 in
theorem ggX6_sowByDraws_X6_draw : GoodIn wsX6_sowByDraws wsX6_draw := goodIn_r _ [9, 10, 11, 12, 13, 14, 30, 31, 32, 33, 34, 35, 36, 37, 38] (by decide +kernel) (by decide +kernel)
set_option maxRecDepth 20000 in
theorem gX6_sowByDraws_X6_draw : GoodIn wsX6_sowByDraws (wsV RX6 293 RX6 yX6_draw wsX6_draw) := goodIn_app (goodIn_of _ (by decide +kernel)) ggX6_sowByDraws_X6_draw
set_option maxRecDepth 20000 in
theorem ggX6_sowByDraws_X6_mayPlant : GoodIn wsX6_sowByDraws wsX6_mayPlant := goodIn_r _ [18, 4, 19, 1, 20, 30, 31, 32, 33, 34, 35, 36, 37, 38, 52, 53, 54, 55, 56, 57, 39, 40, 41, 42, 43, 44, 45, 46, 47, 48, 49, 50, 51] (by decide +kernel) (by decide +kernel)
set_option maxRecDepth 20000 in
theorem gX6_sowByDraws_X6_mayPlant : GoodIn wsX6_sowByDraws (wsV RX6 200 RX6 yX6_mayPlant wsX6_mayPlant) := goodIn_app (goodIn_of _ (by decide +kernel)) ggX6_sowByDraws_X6_mayPlant
set_option maxRecDepth 20000 in
theorem ggX6_sowByDraws_X5_setHedge : GoodIn wsX6_sowByDraws wsX5_setHedge := goodIn_r _ [25, 26, 27, 28, 29, 52, 53, 54, 55, 56, 57] (by decide +kernel) (by decide +kernel)
set_option maxRecDepth 20000 in
theorem gX6_sowByDraws_X5_setHedge : GoodIn wsX6_sowByDraws (wsV RX6 208 RX5 yX5_setHedge wsX5_setHedge) := goodIn_app (goodIn_of _ (by decide +kernel)) ggX6_sowByDraws_X5_setHedge
theorem dX6_sowByDraws_0 : decode cX6_sowByDraws 0 = .ok (.aload_n 0, 1) := by decide +kernel
theorem dX6_sowByDraws_1 : decode cX6_sowByDraws 1 = .ok (.aload_n 0, 1) := by decide +kernel
theorem dX6_sowByDraws_2 : decode cX6_sowByDraws 2 = .ok (.getfield 19, 3) := by decide +kernel
theorem dX6_sowByDraws_5 : decode cX6_sowByDraws 5 = .ok (.getfield 106, 3) := by decide +kernel
theorem dX6_sowByDraws_8 : decode cX6_sowByDraws 8 = .ok (.invokevirtual 293, 3) := by decide +kernel
theorem dX6_sowByDraws_11 : decode cX6_sowByDraws 11 = .ok (.istore_n 1, 1) := by decide +kernel
theorem dX6_sowByDraws_12 : decode cX6_sowByDraws 12 = .ok (.aload_n 0, 1) := by decide +kernel
theorem dX6_sowByDraws_13 : decode cX6_sowByDraws 13 = .ok (.iconst 2, 1) := by decide +kernel
theorem dX6_sowByDraws_14 : decode cX6_sowByDraws 14 = .ok (.invokevirtual 293, 3) := by decide +kernel
theorem dX6_sowByDraws_17 : decode cX6_sowByDraws 17 = .ok (.istore_n 2, 1) := by decide +kernel
theorem dX6_sowByDraws_18 : decode cX6_sowByDraws 18 = .ok (.aload_n 0, 1) := by decide +kernel
theorem dX6_sowByDraws_19 : decode cX6_sowByDraws 19 = .ok (.aload_n 0, 1) := by decide +kernel
theorem dX6_sowByDraws_20 : decode cX6_sowByDraws 20 = .ok (.getfield 19, 3) := by decide +kernel
theorem dX6_sowByDraws_23 : decode cX6_sowByDraws 23 = .ok (.getfield 171, 3) := by decide +kernel
theorem dX6_sowByDraws_26 : decode cX6_sowByDraws 26 = .ok (.iload_n 1, 1) := by decide +kernel
theorem dX6_sowByDraws_27 : decode cX6_sowByDraws 27 = .ok (.laload, 1) := by decide +kernel
theorem dX6_sowByDraws_28 : decode cX6_sowByDraws 28 = .ok (.invokevirtual 200, 3) := by decide +kernel
theorem dX6_sowByDraws_31 : decode cX6_sowByDraws 31 = .ok (.ifCond .eq 22, 3) := by decide +kernel
theorem dX6_sowByDraws_34 : decode cX6_sowByDraws 34 = .ok (.aload_n 0, 1) := by decide +kernel
theorem dX6_sowByDraws_35 : decode cX6_sowByDraws 35 = .ok (.getfield 26, 3) := by decide +kernel
theorem dX6_sowByDraws_38 : decode cX6_sowByDraws 38 = .ok (.iload_n 1, 1) := by decide +kernel
theorem dX6_sowByDraws_39 : decode cX6_sowByDraws 39 = .ok (.aload_n 0, 1) := by decide +kernel
theorem dX6_sowByDraws_40 : decode cX6_sowByDraws 40 = .ok (.getfield 19, 3) := by decide +kernel
theorem dX6_sowByDraws_43 : decode cX6_sowByDraws 43 = .ok (.getfield 171, 3) := by decide +kernel
theorem dX6_sowByDraws_46 : decode cX6_sowByDraws 46 = .ok (.iload_n 1, 1) := by decide +kernel
theorem dX6_sowByDraws_47 : decode cX6_sowByDraws 47 = .ok (.laload, 1) := by decide +kernel
theorem dX6_sowByDraws_48 : decode cX6_sowByDraws 48 = .ok (.iload_n 2, 1) := by decide +kernel
theorem dX6_sowByDraws_49 : decode cX6_sowByDraws 49 = .ok (.iconst 0, 1) := by decide +kernel
theorem dX6_sowByDraws_50 : decode cX6_sowByDraws 50 = .ok (.invokevirtual 208, 3) := by decide +kernel
theorem dX6_sowByDraws_53 : decode cX6_sowByDraws 53 = .ok (.return_, 1) := by decide +kernel
theorem dX6_draw_0 : decode cX6_draw 0 = .ok (.aload_n 0, 1) := by decide +kernel
theorem dX6_draw_1 : decode cX6_draw 1 = .ok (.aload_n 0, 1) := by decide +kernel
theorem dX6_draw_2 : decode cX6_draw 2 = .ok (.getfield 58, 3) := by decide +kernel
theorem dX6_draw_5 : decode cX6_draw 5 = .ok (.i2l, 1) := by decide +kernel
theorem dX6_draw_6 : decode cX6_draw 6 = .ok (.ldc2_w 296, 3) := by decide +kernel
theorem dX6_draw_9 : decode cX6_draw 9 = .ok (.lmul, 1) := by decide +kernel
theorem dX6_draw_10 : decode cX6_draw 10 = .ok (.ldc2_w 298, 3) := by decide +kernel
theorem dX6_draw_13 : decode cX6_draw 13 = .ok (.ladd, 1) := by decide +kernel
theorem dX6_draw_14 : decode cX6_draw 14 = .ok (.ldc2_w 300, 3) := by decide +kernel
theorem dX6_draw_17 : decode cX6_draw 17 = .ok (.land, 1) := by decide +kernel
theorem dX6_draw_18 : decode cX6_draw 18 = .ok (.l2i, 1) := by decide +kernel
theorem dX6_draw_19 : decode cX6_draw 19 = .ok (.putfield 58, 3) := by decide +kernel
theorem dX6_draw_22 : decode cX6_draw 22 = .ok (.iload_n 1, 1) := by decide +kernel
theorem dX6_draw_23 : decode cX6_draw 23 = .ok (.ifCond .le 16, 3) := by decide +kernel
theorem dX6_draw_26 : decode cX6_draw 26 = .ok (.aload_n 0, 1) := by decide +kernel
theorem dX6_draw_27 : decode cX6_draw 27 = .ok (.getfield 58, 3) := by decide +kernel
theorem dX6_draw_30 : decode cX6_draw 30 = .ok (.ldc_w 302, 3) := by decide +kernel
theorem dX6_draw_33 : decode cX6_draw 33 = .ok (.idiv, 1) := by decide +kernel
theorem dX6_draw_34 : decode cX6_draw 34 = .ok (.iload_n 1, 1) := by decide +kernel
theorem dX6_draw_35 : decode cX6_draw 35 = .ok (.irem, 1) := by decide +kernel
theorem dX6_draw_36 : decode cX6_draw 36 = .ok (.goto 4, 3) := by decide +kernel
theorem dX6_draw_39 : decode cX6_draw 39 = .ok (.iconst 0, 1) := by decide +kernel
theorem dX6_draw_40 : decode cX6_draw 40 = .ok (.ireturn, 1) := by decide +kernel
set_option maxRecDepth 20000 in
theorem ggX6_slipsTallIn_X6_mayPlant : GoodIn wsX6_slipsTallIn wsX6_mayPlant := goodIn_r _ [8, 9, 10, 1, 11, 24, 25, 26, 27, 28, 29, 30, 31, 32, 46, 47, 48, 49, 50, 51, 33, 34, 35, 36, 37, 38, 39, 40, 41, 42, 43, 44, 45] (by decide +kernel) (by decide +kernel)
set_option maxRecDepth 20000 in
theorem gX6_slipsTallIn_X6_mayPlant : GoodIn wsX6_slipsTallIn (wsV RX6 200 RX6 yX6_mayPlant wsX6_mayPlant) := goodIn_app (goodIn_of _ (by decide +kernel)) ggX6_slipsTallIn_X6_mayPlant
set_option maxRecDepth 20000 in
theorem ggX6_slipsTallIn_X0_ageWhenTall : GoodIn wsX6_slipsTallIn wsX0_ageWhenTall := goodIn_r _ [16, 17, 18, 19, 15, 20, 21, 22, 23, 33, 34, 35, 36, 37, 38, 39, 40, 41, 42, 43, 44, 45] (by decide +kernel) (by decide +kernel)
set_option maxRecDepth 20000 in
theorem gX6_slipsTallIn_X0_ageWhenTall : GoodIn wsX6_slipsTallIn (wsV RX6 240 RX0 yX0_ageWhenTall wsX0_ageWhenTall) := goodIn_app (goodIn_of _ (by decide +kernel)) ggX6_slipsTallIn_X0_ageWhenTall
theorem dX6_slipsTallIn_0 : decode cX6_slipsTallIn 0 = .ok (.lconst 0, 1) := by decide +kernel
theorem dX6_slipsTallIn_1 : decode cX6_slipsTallIn 1 = .ok (.lstore_n 2, 1) := by decide +kernel
theorem dX6_slipsTallIn_2 : decode cX6_slipsTallIn 2 = .ok (.iconst 0, 1) := by decide +kernel
theorem dX6_slipsTallIn_3 : decode cX6_slipsTallIn 3 = .ok (.istore 4, 2) := by decide +kernel
theorem dX6_slipsTallIn_5 : decode cX6_slipsTallIn 5 = .ok (.iload 4, 2) := by decide +kernel
theorem dX6_slipsTallIn_7 : decode cX6_slipsTallIn 7 = .ok (.aload_n 0, 1) := by decide +kernel
theorem dX6_slipsTallIn_8 : decode cX6_slipsTallIn 8 = .ok (.getfield 19, 3) := by decide +kernel
theorem dX6_slipsTallIn_11 : decode cX6_slipsTallIn 11 = .ok (.getfield 106, 3) := by decide +kernel
theorem dX6_slipsTallIn_14 : decode cX6_slipsTallIn 14 = .ok (.if_icmp .ge 52, 3) := by decide +kernel
theorem dX6_slipsTallIn_17 : decode cX6_slipsTallIn 17 = .ok (.aload_n 0, 1) := by decide +kernel
theorem dX6_slipsTallIn_18 : decode cX6_slipsTallIn 18 = .ok (.aload_n 0, 1) := by decide +kernel
theorem dX6_slipsTallIn_19 : decode cX6_slipsTallIn 19 = .ok (.getfield 19, 3) := by decide +kernel
theorem dX6_slipsTallIn_22 : decode cX6_slipsTallIn 22 = .ok (.getfield 171, 3) := by decide +kernel
theorem dX6_slipsTallIn_25 : decode cX6_slipsTallIn 25 = .ok (.iload 4, 2) := by decide +kernel
theorem dX6_slipsTallIn_27 : decode cX6_slipsTallIn 27 = .ok (.laload, 1) := by decide +kernel
theorem dX6_slipsTallIn_28 : decode cX6_slipsTallIn 28 = .ok (.invokevirtual 200, 3) := by decide +kernel
theorem dX6_slipsTallIn_31 : decode cX6_slipsTallIn 31 = .ok (.ifCond .eq 29, 3) := by decide +kernel
theorem dX6_slipsTallIn_34 : decode cX6_slipsTallIn 34 = .ok (.aload_n 0, 1) := by decide +kernel
theorem dX6_slipsTallIn_35 : decode cX6_slipsTallIn 35 = .ok (.getfield 19, 3) := by decide +kernel
theorem dX6_slipsTallIn_38 : decode cX6_slipsTallIn 38 = .ok (.iload 4, 2) := by decide +kernel
theorem dX6_slipsTallIn_40 : decode cX6_slipsTallIn 40 = .ok (.invokevirtual 240, 3) := by decide +kernel
theorem dX6_slipsTallIn_43 : decode cX6_slipsTallIn 43 = .ok (.iload_n 1, 1) := by decide +kernel
theorem dX6_slipsTallIn_44 : decode cX6_slipsTallIn 44 = .ok (.if_icmp .gt 16, 3) := by decide +kernel
theorem dX6_slipsTallIn_47 : decode cX6_slipsTallIn 47 = .ok (.lload_n 2, 1) := by decide +kernel
theorem dX6_slipsTallIn_48 : decode cX6_slipsTallIn 48 = .ok (.aload_n 0, 1) := by decide +kernel
theorem dX6_slipsTallIn_49 : decode cX6_slipsTallIn 49 = .ok (.getfield 19, 3) := by decide +kernel
theorem dX6_slipsTallIn_52 : decode cX6_slipsTallIn 52 = .ok (.getfield 171, 3) := by decide +kernel
theorem dX6_slipsTallIn_55 : decode cX6_slipsTallIn 55 = .ok (.iload 4, 2) := by decide +kernel
theorem dX6_slipsTallIn_57 : decode cX6_slipsTallIn 57 = .ok (.laload, 1) := by decide +kernel
theorem dX6_slipsTallIn_58 : decode cX6_slipsTallIn 58 = .ok (.lor, 1) := by decide +kernel
theorem dX6_slipsTallIn_59 : decode cX6_slipsTallIn 59 = .ok (.lstore_n 2, 1) := by decide +kernel
theorem dX6_slipsTallIn_60 : decode cX6_slipsTallIn 60 = .ok (.iinc 4 1, 3) := by decide +kernel
theorem dX6_slipsTallIn_63 : decode cX6_slipsTallIn 63 = .ok (.goto (-58), 3) := by decide +kernel
theorem dX6_slipsTallIn_66 : decode cX6_slipsTallIn 66 = .ok (.lload_n 2, 1) := by decide +kernel
theorem dX6_slipsTallIn_67 : decode cX6_slipsTallIn 67 = .ok (.lreturn, 1) := by decide +kernel
set_option maxRecDepth 20000 in
theorem ggX6_countOrPick_J13_bitCount_95d88 : GoodIn wsX6_countOrPick wsJ13_bitCount_95d88 := goodIn_r _ [7, 8, 9, 10] (by decide +kernel) (by decide +kernel)
set_option maxRecDepth 20000 in
theorem gX6_countOrPick_J13_bitCount_95d88 : GoodIn wsX6_countOrPick (va_wsS RX6 116 yJ13_bitCount_95d88 wsJ13_bitCount_95d88) := goodIn_app (goodIn_of _ (by decide +kernel)) ggX6_countOrPick_J13_bitCount_95d88
theorem dX6_countOrPick_0 : decode cX6_countOrPick 0 = .ok (.iload_n 3, 1) := by decide +kernel
theorem dX6_countOrPick_1 : decode cX6_countOrPick 1 = .ok (.iconst (-1), 1) := by decide +kernel
theorem dX6_countOrPick_2 : decode cX6_countOrPick 2 = .ok (.if_icmp .ne 8, 3) := by decide +kernel
theorem dX6_countOrPick_5 : decode cX6_countOrPick 5 = .ok (.lload_n 1, 1) := by decide +kernel
theorem dX6_countOrPick_6 : decode cX6_countOrPick 6 = .ok (.invokestatic 116, 3) := by decide +kernel
theorem dX6_countOrPick_9 : decode cX6_countOrPick 9 = .ok (.ireturn, 1) := by decide +kernel
theorem dX6_countOrPick_10 : decode cX6_countOrPick 10 = .ok (.iconst 0, 1) := by decide +kernel
theorem dX6_countOrPick_11 : decode cX6_countOrPick 11 = .ok (.istore 4, 2) := by decide +kernel
theorem dX6_countOrPick_13 : decode cX6_countOrPick 13 = .ok (.iconst 0, 1) := by decide +kernel
theorem dX6_countOrPick_14 : decode cX6_countOrPick 14 = .ok (.istore 5, 2) := by decide +kernel
theorem dX6_countOrPick_16 : decode cX6_countOrPick 16 = .ok (.iload 5, 2) := by decide +kernel
theorem dX6_countOrPick_18 : decode cX6_countOrPick 18 = .ok (.aload_n 0, 1) := by decide +kernel
theorem dX6_countOrPick_19 : decode cX6_countOrPick 19 = .ok (.getfield 19, 3) := by decide +kernel
theorem dX6_countOrPick_22 : decode cX6_countOrPick 22 = .ok (.getfield 106, 3) := by decide +kernel
theorem dX6_countOrPick_25 : decode cX6_countOrPick 25 = .ok (.if_icmp .ge 38, 3) := by decide +kernel
theorem dX6_countOrPick_28 : decode cX6_countOrPick 28 = .ok (.lload_n 1, 1) := by decide +kernel
theorem dX6_countOrPick_29 : decode cX6_countOrPick 29 = .ok (.aload_n 0, 1) := by decide +kernel
theorem dX6_countOrPick_30 : decode cX6_countOrPick 30 = .ok (.getfield 19, 3) := by decide +kernel
theorem dX6_countOrPick_33 : decode cX6_countOrPick 33 = .ok (.getfield 171, 3) := by decide +kernel
theorem dX6_countOrPick_36 : decode cX6_countOrPick 36 = .ok (.iload 5, 2) := by decide +kernel
theorem dX6_countOrPick_38 : decode cX6_countOrPick 38 = .ok (.laload, 1) := by decide +kernel
theorem dX6_countOrPick_39 : decode cX6_countOrPick 39 = .ok (.land, 1) := by decide +kernel
theorem dX6_countOrPick_40 : decode cX6_countOrPick 40 = .ok (.lconst 0, 1) := by decide +kernel
theorem dX6_countOrPick_41 : decode cX6_countOrPick 41 = .ok (.lcmp, 1) := by decide +kernel
theorem dX6_countOrPick_42 : decode cX6_countOrPick 42 = .ok (.ifCond .eq 15, 3) := by decide +kernel
theorem dX6_countOrPick_45 : decode cX6_countOrPick 45 = .ok (.iload 4, 2) := by decide +kernel
theorem dX6_countOrPick_47 : decode cX6_countOrPick 47 = .ok (.iload_n 3, 1) := by decide +kernel
theorem dX6_countOrPick_48 : decode cX6_countOrPick 48 = .ok (.if_icmp .ne 6, 3) := by decide +kernel
theorem dX6_countOrPick_51 : decode cX6_countOrPick 51 = .ok (.iload 5, 2) := by decide +kernel
theorem dX6_countOrPick_53 : decode cX6_countOrPick 53 = .ok (.ireturn, 1) := by decide +kernel
theorem dX6_countOrPick_54 : decode cX6_countOrPick 54 = .ok (.iinc 4 1, 3) := by decide +kernel
theorem dX6_countOrPick_57 : decode cX6_countOrPick 57 = .ok (.iinc 5 1, 3) := by decide +kernel
theorem dX6_countOrPick_60 : decode cX6_countOrPick 60 = .ok (.goto (-44), 3) := by decide +kernel
theorem dX6_countOrPick_63 : decode cX6_countOrPick 63 = .ok (.iconst (-1), 1) := by decide +kernel
theorem dX6_countOrPick_64 : decode cX6_countOrPick 64 = .ok (.ireturn, 1) := by decide +kernel
set_option maxRecDepth 20000 in
theorem ggX6_cheapestLand_J6_bitCount_0f7a4 : GoodIn wsX6_cheapestLand wsJ6_bitCount_0f7a4 := goodIn_r _ [8, 9, 10, 11] (by decide +kernel) (by decide +kernel)
set_option maxRecDepth 20000 in
theorem gX6_cheapestLand_J6_bitCount_0f7a4 : GoodIn wsX6_cheapestLand (va_wsS RX6 125 yJ6_bitCount_0f7a4 wsJ6_bitCount_0f7a4) := goodIn_app (goodIn_of _ (by decide +kernel)) ggX6_cheapestLand_J6_bitCount_0f7a4
set_option maxRecDepth 20000 in
theorem ggX6_cheapestLand_X0_edgesRound : GoodIn wsX6_cheapestLand wsX0_edgesRound := goodIn_r _ [16, 17, 18, 19, 36, 37, 38, 39, 40, 41, 42, 43, 44, 45, 46, 47, 48] (by decide +kernel) (by decide +kernel)
set_option maxRecDepth 20000 in
theorem gX6_cheapestLand_X0_edgesRound : GoodIn wsX6_cheapestLand (wsV RX6 130 RX0 yX0_edgesRound wsX0_edgesRound) := goodIn_app (goodIn_of _ (by decide +kernel)) ggX6_cheapestLand_X0_edgesRound
set_option maxRecDepth 20000 in
theorem ggX6_cheapestLand_J13_bitCount_95d88 : GoodIn wsX6_cheapestLand wsJ13_bitCount_95d88 := goodIn_r _ [23, 24, 25, 26] (by decide +kernel) (by decide +kernel)
set_option maxRecDepth 20000 in
theorem gX6_cheapestLand_J13_bitCount_95d88 : GoodIn wsX6_cheapestLand (va_wsS RX6 116 yJ13_bitCount_95d88 wsJ13_bitCount_95d88) := goodIn_app (goodIn_of _ (by decide +kernel)) ggX6_cheapestLand_J13_bitCount_95d88
theorem dX6_cheapestLand_0 : decode cX6_cheapestLand 0 = .ok (.iconst 1, 1) := by decide +kernel
theorem dX6_cheapestLand_1 : decode cX6_cheapestLand 1 = .ok (.iload_n 1, 1) := by decide +kernel
theorem dX6_cheapestLand_2 : decode cX6_cheapestLand 2 = .ok (.ishl, 1) := by decide +kernel
theorem dX6_cheapestLand_3 : decode cX6_cheapestLand 3 = .ok (.istore 6, 2) := by decide +kernel
theorem dX6_cheapestLand_5 : decode cX6_cheapestLand 5 = .ok (.aload_n 0, 1) := by decide +kernel
theorem dX6_cheapestLand_6 : decode cX6_cheapestLand 6 = .ok (.getfield 19, 3) := by decide +kernel
theorem dX6_cheapestLand_9 : decode cX6_cheapestLand 9 = .ok (.getfield 303, 3) := by decide +kernel
theorem dX6_cheapestLand_12 : decode cX6_cheapestLand 12 = .ok (.iload 6, 2) := by decide +kernel
theorem dX6_cheapestLand_14 : decode cX6_cheapestLand 14 = .ok (.iand, 1) := by decide +kernel
theorem dX6_cheapestLand_15 : decode cX6_cheapestLand 15 = .ok (.ifCond .eq 5, 3) := by decide +kernel
theorem dX6_cheapestLand_18 : decode cX6_cheapestLand 18 = .ok (.iconst 0, 1) := by decide +kernel
theorem dX6_cheapestLand_19 : decode cX6_cheapestLand 19 = .ok (.ireturn, 1) := by decide +kernel
theorem dX6_cheapestLand_20 : decode cX6_cheapestLand 20 = .ok (.aload_n 0, 1) := by decide +kernel
theorem dX6_cheapestLand_21 : decode cX6_cheapestLand 21 = .ok (.getfield 19, 3) := by decide +kernel
theorem dX6_cheapestLand_24 : decode cX6_cheapestLand 24 = .ok (.getfield 306, 3) := by decide +kernel
theorem dX6_cheapestLand_27 : decode cX6_cheapestLand 27 = .ok (.aload_n 0, 1) := by decide +kernel
theorem dX6_cheapestLand_28 : decode cX6_cheapestLand 28 = .ok (.getfield 19, 3) := by decide +kernel
theorem dX6_cheapestLand_31 : decode cX6_cheapestLand 31 = .ok (.getfield 303, 3) := by decide +kernel
theorem dX6_cheapestLand_34 : decode cX6_cheapestLand 34 = .ok (.iconst (-1), 1) := by decide +kernel
theorem dX6_cheapestLand_35 : decode cX6_cheapestLand 35 = .ok (.ixor, 1) := by decide +kernel
theorem dX6_cheapestLand_36 : decode cX6_cheapestLand 36 = .ok (.iand, 1) := by decide +kernel
theorem dX6_cheapestLand_37 : decode cX6_cheapestLand 37 = .ok (.iload 6, 2) := by decide +kernel
theorem dX6_cheapestLand_39 : decode cX6_cheapestLand 39 = .ok (.iconst (-1), 1) := by decide +kernel
theorem dX6_cheapestLand_40 : decode cX6_cheapestLand 40 = .ok (.ixor, 1) := by decide +kernel
theorem dX6_cheapestLand_41 : decode cX6_cheapestLand 41 = .ok (.iand, 1) := by decide +kernel
theorem dX6_cheapestLand_42 : decode cX6_cheapestLand 42 = .ok (.istore 7, 2) := by decide +kernel
theorem dX6_cheapestLand_44 : decode cX6_cheapestLand 44 = .ok (.iconst 1, 1) := by decide +kernel
theorem dX6_cheapestLand_45 : decode cX6_cheapestLand 45 = .ok (.iload 7, 2) := by decide +kernel
theorem dX6_cheapestLand_47 : decode cX6_cheapestLand 47 = .ok (.invokestatic 125, 3) := by decide +kernel
theorem dX6_cheapestLand_50 : decode cX6_cheapestLand 50 = .ok (.ishl, 1) := by decide +kernel
theorem dX6_cheapestLand_51 : decode cX6_cheapestLand 51 = .ok (.istore 8, 2) := by decide +kernel
theorem dX6_cheapestLand_53 : decode cX6_cheapestLand 53 = .ok (.iconst 0, 1) := by decide +kernel
theorem dX6_cheapestLand_54 : decode cX6_cheapestLand 54 = .ok (.istore 9, 2) := by decide +kernel
theorem dX6_cheapestLand_56 : decode cX6_cheapestLand 56 = .ok (.bipush 41, 2) := by decide +kernel
theorem dX6_cheapestLand_58 : decode cX6_cheapestLand 58 = .ok (.istore 10, 2) := by decide +kernel
theorem dX6_cheapestLand_60 : decode cX6_cheapestLand 60 = .ok (.iconst 0, 1) := by decide +kernel
theorem dX6_cheapestLand_61 : decode cX6_cheapestLand 61 = .ok (.istore 11, 2) := by decide +kernel
theorem dX6_cheapestLand_63 : decode cX6_cheapestLand 63 = .ok (.iconst 0, 1) := by decide +kernel
theorem dX6_cheapestLand_64 : decode cX6_cheapestLand 64 = .ok (.istore 12, 2) := by decide +kernel
theorem dX6_cheapestLand_66 : decode cX6_cheapestLand 66 = .ok (.iload 12, 2) := by decide +kernel
theorem dX6_cheapestLand_68 : decode cX6_cheapestLand 68 = .ok (.iload 8, 2) := by decide +kernel
theorem dX6_cheapestLand_70 : decode cX6_cheapestLand 70 = .ok (.if_icmp .ge 78, 3) := by decide +kernel
theorem dX6_cheapestLand_73 : decode cX6_cheapestLand 73 = .ok (.aload_n 0, 1) := by decide +kernel
theorem dX6_cheapestLand_74 : decode cX6_cheapestLand 74 = .ok (.getfield 19, 3) := by decide +kernel
theorem dX6_cheapestLand_77 : decode cX6_cheapestLand 77 = .ok (.iload 6, 2) := by decide +kernel
theorem dX6_cheapestLand_79 : decode cX6_cheapestLand 79 = .ok (.iload 11, 2) := by decide +kernel
theorem dX6_cheapestLand_81 : decode cX6_cheapestLand 81 = .ok (.ior, 1) := by decide +kernel
theorem dX6_cheapestLand_82 : decode cX6_cheapestLand 82 = .ok (.invokevirtual 130, 3) := by decide +kernel
theorem dX6_cheapestLand_85 : decode cX6_cheapestLand 85 = .ok (.lload_n 2, 1) := by decide +kernel
theorem dX6_cheapestLand_86 : decode cX6_cheapestLand 86 = .ok (.ldc2_w 216, 3) := by decide +kernel
theorem dX6_cheapestLand_89 : decode cX6_cheapestLand 89 = .ok (.lxor, 1) := by decide +kernel
theorem dX6_cheapestLand_90 : decode cX6_cheapestLand 90 = .ok (.land, 1) := by decide +kernel
theorem dX6_cheapestLand_91 : decode cX6_cheapestLand 91 = .ok (.lstore 13, 2) := by decide +kernel
theorem dX6_cheapestLand_93 : decode cX6_cheapestLand 93 = .ok (.lload 13, 2) := by decide +kernel
theorem dX6_cheapestLand_95 : decode cX6_cheapestLand 95 = .ok (.invokestatic 116, 3) := by decide +kernel
theorem dX6_cheapestLand_98 : decode cX6_cheapestLand 98 = .ok (.istore 15, 2) := by decide +kernel
theorem dX6_cheapestLand_100 : decode cX6_cheapestLand 100 = .ok (.lload 13, 2) := by decide +kernel
theorem dX6_cheapestLand_102 : decode cX6_cheapestLand 102 = .ok (.lload 4, 2) := by decide +kernel
theorem dX6_cheapestLand_104 : decode cX6_cheapestLand 104 = .ok (.ldc2_w 216, 3) := by decide +kernel
theorem dX6_cheapestLand_107 : decode cX6_cheapestLand 107 = .ok (.lxor, 1) := by decide +kernel
theorem dX6_cheapestLand_108 : decode cX6_cheapestLand 108 = .ok (.land, 1) := by decide +kernel
theorem dX6_cheapestLand_109 : decode cX6_cheapestLand 109 = .ok (.lconst 0, 1) := by decide +kernel
theorem dX6_cheapestLand_110 : decode cX6_cheapestLand 110 = .ok (.lcmp, 1) := by decide +kernel
theorem dX6_cheapestLand_111 : decode cX6_cheapestLand 111 = .ok (.ifCond .ne 21, 3) := by decide +kernel
theorem dX6_cheapestLand_114 : decode cX6_cheapestLand 114 = .ok (.iload 15, 2) := by decide +kernel
theorem dX6_cheapestLand_116 : decode cX6_cheapestLand 116 = .ok (.iload 10, 2) := by decide +kernel
theorem dX6_cheapestLand_118 : decode cX6_cheapestLand 118 = .ok (.if_icmp .ge 14, 3) := by decide +kernel
theorem dX6_cheapestLand_121 : decode cX6_cheapestLand 121 = .ok (.iload 6, 2) := by decide +kernel
theorem dX6_cheapestLand_123 : decode cX6_cheapestLand 123 = .ok (.iload 11, 2) := by decide +kernel
theorem dX6_cheapestLand_125 : decode cX6_cheapestLand 125 = .ok (.ior, 1) := by decide +kernel
theorem dX6_cheapestLand_126 : decode cX6_cheapestLand 126 = .ok (.istore 9, 2) := by decide +kernel
theorem dX6_cheapestLand_128 : decode cX6_cheapestLand 128 = .ok (.iload 15, 2) := by decide +kernel
theorem dX6_cheapestLand_130 : decode cX6_cheapestLand 130 = .ok (.istore 10, 2) := by decide +kernel
theorem dX6_cheapestLand_132 : decode cX6_cheapestLand 132 = .ok (.iload 11, 2) := by decide +kernel
theorem dX6_cheapestLand_134 : decode cX6_cheapestLand 134 = .ok (.iload 7, 2) := by decide +kernel
theorem dX6_cheapestLand_136 : decode cX6_cheapestLand 136 = .ok (.isub, 1) := by decide +kernel
theorem dX6_cheapestLand_137 : decode cX6_cheapestLand 137 = .ok (.iload 7, 2) := by decide +kernel
theorem dX6_cheapestLand_139 : decode cX6_cheapestLand 139 = .ok (.iand, 1) := by decide +kernel
theorem dX6_cheapestLand_140 : decode cX6_cheapestLand 140 = .ok (.istore 11, 2) := by decide +kernel
theorem dX6_cheapestLand_142 : decode cX6_cheapestLand 142 = .ok (.iinc 12 1, 3) := by decide +kernel
theorem dX6_cheapestLand_145 : decode cX6_cheapestLand 145 = .ok (.goto (-79), 3) := by decide +kernel
theorem dX6_cheapestLand_148 : decode cX6_cheapestLand 148 = .ok (.iload 9, 2) := by decide +kernel
theorem dX6_cheapestLand_150 : decode cX6_cheapestLand 150 = .ok (.ireturn, 1) := by decide +kernel
set_option maxRecDepth 20000 in
theorem ggX6_acresAfterAnswer_X6_acresAfter : GoodIn wsX6_acresAfterAnswer wsX6_acresAfter := goodIn_r _ [12, 1, 3, 13, 14, 15, 16, 17, 18, 19, 20, 21, 22, 23, 24, 25, 26, 27, 28, 29, 30, 31, 32, 33, 34, 35, 36, 37, 38, 39, 40, 41, 42, 43, 44, 45, 46, 47, 48, 49, 50, 51, 52, 53, 54, 55, 56, 57, 58, 59, 60, 61, 62, 63, 64, 65, 66, 67, 68, 69, 70, 71, 72, 73, 74, 75, 76, 77, 78, 79, 80, 81, 82, 83, 84, 85, 86, 87, 88, 89, 90] (by decide +kernel) (by decide +kernel)
set_option maxRecDepth 20000 in
theorem gX6_acresAfterAnswer_X6_acresAfter : GoodIn wsX6_acresAfterAnswer (wsV RX6 309 RX6 yX6_acresAfter wsX6_acresAfter) := goodIn_app (goodIn_of _ (by decide +kernel)) ggX6_acresAfterAnswer_X6_acresAfter
theorem dX6_acresAfterAnswer_0 : decode cX6_acresAfterAnswer 0 = .ok (.aload_n 0, 1) := by decide +kernel
theorem dX6_acresAfterAnswer_1 : decode cX6_acresAfterAnswer 1 = .ok (.iload_n 1, 1) := by decide +kernel
theorem dX6_acresAfterAnswer_2 : decode cX6_acresAfterAnswer 2 = .ok (.iload_n 2, 1) := by decide +kernel
theorem dX6_acresAfterAnswer_3 : decode cX6_acresAfterAnswer 3 = .ok (.iload_n 3, 1) := by decide +kernel
theorem dX6_acresAfterAnswer_4 : decode cX6_acresAfterAnswer 4 = .ok (.iconst (-1), 1) := by decide +kernel
theorem dX6_acresAfterAnswer_5 : decode cX6_acresAfterAnswer 5 = .ok (.invokevirtual 309, 3) := by decide +kernel
theorem dX6_acresAfterAnswer_8 : decode cX6_acresAfterAnswer 8 = .ok (.istore 6, 2) := by decide +kernel
theorem dX6_acresAfterAnswer_10 : decode cX6_acresAfterAnswer 10 = .ok (.iconst 0, 1) := by decide +kernel
theorem dX6_acresAfterAnswer_11 : decode cX6_acresAfterAnswer 11 = .ok (.istore 7, 2) := by decide +kernel
theorem dX6_acresAfterAnswer_13 : decode cX6_acresAfterAnswer 13 = .ok (.iload 7, 2) := by decide +kernel
theorem dX6_acresAfterAnswer_15 : decode cX6_acresAfterAnswer 15 = .ok (.aload_n 0, 1) := by decide +kernel
theorem dX6_acresAfterAnswer_16 : decode cX6_acresAfterAnswer 16 = .ok (.getfield 19, 3) := by decide +kernel
theorem dX6_acresAfterAnswer_19 : decode cX6_acresAfterAnswer 19 = .ok (.getfield 106, 3) := by decide +kernel
theorem dX6_acresAfterAnswer_22 : decode cX6_acresAfterAnswer 22 = .ok (.if_icmp .ge 43, 3) := by decide +kernel
theorem dX6_acresAfterAnswer_25 : decode cX6_acresAfterAnswer 25 = .ok (.lload 4, 2) := by decide +kernel
theorem dX6_acresAfterAnswer_27 : decode cX6_acresAfterAnswer 27 = .ok (.aload_n 0, 1) := by decide +kernel
theorem dX6_acresAfterAnswer_28 : decode cX6_acresAfterAnswer 28 = .ok (.getfield 19, 3) := by decide +kernel
theorem dX6_acresAfterAnswer_31 : decode cX6_acresAfterAnswer 31 = .ok (.getfield 171, 3) := by decide +kernel
theorem dX6_acresAfterAnswer_34 : decode cX6_acresAfterAnswer 34 = .ok (.iload 7, 2) := by decide +kernel
theorem dX6_acresAfterAnswer_36 : decode cX6_acresAfterAnswer 36 = .ok (.laload, 1) := by decide +kernel
theorem dX6_acresAfterAnswer_37 : decode cX6_acresAfterAnswer 37 = .ok (.land, 1) := by decide +kernel
theorem dX6_acresAfterAnswer_38 : decode cX6_acresAfterAnswer 38 = .ok (.lconst 0, 1) := by decide +kernel
theorem dX6_acresAfterAnswer_39 : decode cX6_acresAfterAnswer 39 = .ok (.lcmp, 1) := by decide +kernel
theorem dX6_acresAfterAnswer_40 : decode cX6_acresAfterAnswer 40 = .ok (.ifCond .eq 19, 3) := by decide +kernel
theorem dX6_acresAfterAnswer_43 : decode cX6_acresAfterAnswer 43 = .ok (.iload 6, 2) := by decide +kernel
theorem dX6_acresAfterAnswer_45 : decode cX6_acresAfterAnswer 45 = .ok (.aload_n 0, 1) := by decide +kernel
theorem dX6_acresAfterAnswer_46 : decode cX6_acresAfterAnswer 46 = .ok (.iload_n 1, 1) := by decide +kernel
theorem dX6_acresAfterAnswer_47 : decode cX6_acresAfterAnswer 47 = .ok (.iload_n 2, 1) := by decide +kernel
theorem dX6_acresAfterAnswer_48 : decode cX6_acresAfterAnswer 48 = .ok (.iload_n 3, 1) := by decide +kernel
theorem dX6_acresAfterAnswer_49 : decode cX6_acresAfterAnswer 49 = .ok (.iload 7, 2) := by decide +kernel
theorem dX6_acresAfterAnswer_51 : decode cX6_acresAfterAnswer 51 = .ok (.invokevirtual 309, 3) := by decide +kernel
theorem dX6_acresAfterAnswer_54 : decode cX6_acresAfterAnswer 54 = .ok (.invokestatic 313, 3) := by decide +kernel
theorem dX6_acresAfterAnswer_57 : decode cX6_acresAfterAnswer 57 = .ok (.istore 6, 2) := by decide +kernel
theorem dX6_acresAfterAnswer_59 : decode cX6_acresAfterAnswer 59 = .ok (.iinc 7 1, 3) := by decide +kernel
theorem dX6_acresAfterAnswer_62 : decode cX6_acresAfterAnswer 62 = .ok (.goto (-49), 3) := by decide +kernel
theorem dX6_acresAfterAnswer_65 : decode cX6_acresAfterAnswer 65 = .ok (.iload 6, 2) := by decide +kernel
theorem dX6_acresAfterAnswer_67 : decode cX6_acresAfterAnswer 67 = .ok (.ireturn, 1) := by decide +kernel
set_option maxRecDepth 20000 in
theorem ggX6_acresAfter_X0_ageWhenTall : GoodIn wsX6_acresAfter wsX0_ageWhenTall := goodIn_r _ [12, 13, 14, 15, 11, 16, 17, 18, 19, 62, 63, 64, 65, 66, 67, 68, 69, 70, 71, 72, 73, 74] (by decide +kernel) (by decide +kernel)
set_option maxRecDepth 20000 in
theorem gX6_acresAfter_X0_ageWhenTall : GoodIn wsX6_acresAfter (wsV RX6 240 RX0 yX0_ageWhenTall wsX0_ageWhenTall) := goodIn_app (goodIn_of _ (by decide +kernel)) ggX6_acresAfter_X0_ageWhenTall
set_option maxRecDepth 20000 in
theorem ggX6_acresAfter_X0_ownedAfterMarch : GoodIn wsX6_acresAfter wsX0_ownedAfterMarch := goodIn_r _ [23, 24, 25, 26, 27, 28, 11, 29, 30, 31, 32, 33, 34, 35, 36, 37, 38, 39, 40, 41, 42, 43, 44, 45, 62, 63, 64, 65, 66, 67, 68, 69, 70, 71, 72, 73, 74] (by decide +kernel) (by decide +kernel)
set_option maxRecDepth 20000 in
theorem gX6_acresAfter_X0_ownedAfterMarch : GoodIn wsX6_acresAfter (wsV RX6 289 RX0 yX0_ownedAfterMarch wsX0_ownedAfterMarch) := goodIn_app (goodIn_of _ (by decide +kernel)) ggX6_acresAfter_X0_ownedAfterMarch
set_option maxRecDepth 20000 in
theorem ggX6_acresAfter_J6_bitCount_0f7a4 : GoodIn wsX6_acresAfter wsJ6_bitCount_0f7a4 := goodIn_r _ [49, 50, 51, 52] (by decide +kernel) (by decide +kernel)
set_option maxRecDepth 20000 in
theorem gX6_acresAfter_J6_bitCount_0f7a4 : GoodIn wsX6_acresAfter (va_wsS RX6 125 yJ6_bitCount_0f7a4 wsJ6_bitCount_0f7a4) := goodIn_app (goodIn_of _ (by decide +kernel)) ggX6_acresAfter_J6_bitCount_0f7a4
theorem dX6_acresAfter_0 : decode cX6_acresAfter 0 = .ok (.iload_n 3, 1) := by decide +kernel
theorem dX6_acresAfter_1 : decode cX6_acresAfter 1 = .ok (.iconst (-1), 1) := by decide +kernel
theorem dX6_acresAfter_2 : decode cX6_acresAfter 2 = .ok (.if_icmp .ne 7, 3) := by decide +kernel
theorem dX6_acresAfter_5 : decode cX6_acresAfter 5 = .ok (.lconst 0, 1) := by decide +kernel
theorem dX6_acresAfter_6 : decode cX6_acresAfter 6 = .ok (.goto 12, 3) := by decide +kernel
theorem dX6_acresAfter_9 : decode cX6_acresAfter 9 = .ok (.aload_n 0, 1) := by decide +kernel
theorem dX6_acresAfter_10 : decode cX6_acresAfter 10 = .ok (.getfield 19, 3) := by decide +kernel
theorem dX6_acresAfter_13 : decode cX6_acresAfter 13 = .ok (.getfield 171, 3) := by decide +kernel
theorem dX6_acresAfter_16 : decode cX6_acresAfter 16 = .ok (.iload_n 3, 1) := by decide +kernel
theorem dX6_acresAfter_17 : decode cX6_acresAfter 17 = .ok (.laload, 1) := by decide +kernel
theorem dX6_acresAfter_18 : decode cX6_acresAfter 18 = .ok (.lstore 5, 2) := by decide +kernel
theorem dX6_acresAfter_20 : decode cX6_acresAfter 20 = .ok (.iload 4, 2) := by decide +kernel
theorem dX6_acresAfter_22 : decode cX6_acresAfter 22 = .ok (.iconst (-1), 1) := by decide +kernel
theorem dX6_acresAfter_23 : decode cX6_acresAfter 23 = .ok (.if_icmp .ne 7, 3) := by decide +kernel
theorem dX6_acresAfter_26 : decode cX6_acresAfter 26 = .ok (.lconst 0, 1) := by decide +kernel
theorem dX6_acresAfter_27 : decode cX6_acresAfter 27 = .ok (.goto 13, 3) := by decide +kernel
theorem dX6_acresAfter_30 : decode cX6_acresAfter 30 = .ok (.aload_n 0, 1) := by decide +kernel
theorem dX6_acresAfter_31 : decode cX6_acresAfter 31 = .ok (.getfield 19, 3) := by decide +kernel
theorem dX6_acresAfter_34 : decode cX6_acresAfter 34 = .ok (.getfield 171, 3) := by decide +kernel
theorem dX6_acresAfter_37 : decode cX6_acresAfter 37 = .ok (.iload 4, 2) := by decide +kernel
theorem dX6_acresAfter_39 : decode cX6_acresAfter 39 = .ok (.laload, 1) := by decide +kernel
theorem dX6_acresAfter_40 : decode cX6_acresAfter 40 = .ok (.lstore 7, 2) := by decide +kernel
theorem dX6_acresAfter_42 : decode cX6_acresAfter 42 = .ok (.iload_n 3, 1) := by decide +kernel
theorem dX6_acresAfter_43 : decode cX6_acresAfter 43 = .ok (.iconst (-1), 1) := by decide +kernel
theorem dX6_acresAfter_44 : decode cX6_acresAfter 44 = .ok (.if_icmp .ne 7, 3) := by decide +kernel
theorem dX6_acresAfter_47 : decode cX6_acresAfter 47 = .ok (.iconst 0, 1) := by decide +kernel
theorem dX6_acresAfter_48 : decode cX6_acresAfter 48 = .ok (.goto 11, 3) := by decide +kernel
theorem dX6_acresAfter_51 : decode cX6_acresAfter 51 = .ok (.aload_n 0, 1) := by decide +kernel
theorem dX6_acresAfter_52 : decode cX6_acresAfter 52 = .ok (.getfield 19, 3) := by decide +kernel
theorem dX6_acresAfter_55 : decode cX6_acresAfter 55 = .ok (.iload_n 3, 1) := by decide +kernel
theorem dX6_acresAfter_56 : decode cX6_acresAfter 56 = .ok (.invokevirtual 240, 3) := by decide +kernel
theorem dX6_acresAfter_59 : decode cX6_acresAfter 59 = .ok (.istore 9, 2) := by decide +kernel
theorem dX6_acresAfter_61 : decode cX6_acresAfter 61 = .ok (.iload 4, 2) := by decide +kernel
theorem dX6_acresAfter_63 : decode cX6_acresAfter 63 = .ok (.iconst (-1), 1) := by decide +kernel
theorem dX6_acresAfter_64 : decode cX6_acresAfter 64 = .ok (.if_icmp .ne 7, 3) := by decide +kernel
theorem dX6_acresAfter_67 : decode cX6_acresAfter 67 = .ok (.iconst 0, 1) := by decide +kernel
theorem dX6_acresAfter_68 : decode cX6_acresAfter 68 = .ok (.goto 12, 3) := by decide +kernel
theorem dX6_acresAfter_71 : decode cX6_acresAfter 71 = .ok (.aload_n 0, 1) := by decide +kernel
theorem dX6_acresAfter_72 : decode cX6_acresAfter 72 = .ok (.getfield 19, 3) := by decide +kernel
theorem dX6_acresAfter_75 : decode cX6_acresAfter 75 = .ok (.iload 4, 2) := by decide +kernel
theorem dX6_acresAfter_77 : decode cX6_acresAfter 77 = .ok (.invokevirtual 240, 3) := by decide +kernel
theorem dX6_acresAfter_80 : decode cX6_acresAfter 80 = .ok (.istore 10, 2) := by decide +kernel
theorem dX6_acresAfter_82 : decode cX6_acresAfter 82 = .ok (.aload_n 0, 1) := by decide +kernel
theorem dX6_acresAfter_83 : decode cX6_acresAfter 83 = .ok (.getfield 26, 3) := by decide +kernel
theorem dX6_acresAfter_86 : decode cX6_acresAfter 86 = .ok (.getfield 162, 3) := by decide +kernel
theorem dX6_acresAfter_89 : decode cX6_acresAfter 89 = .ok (.iload_n 1, 1) := by decide +kernel
theorem dX6_acresAfter_90 : decode cX6_acresAfter 90 = .ok (.iconst 1, 1) := by decide +kernel
theorem dX6_acresAfter_91 : decode cX6_acresAfter 91 = .ok (.if_icmp .ne 8, 3) := by decide +kernel
theorem dX6_acresAfter_94 : decode cX6_acresAfter 94 = .ok (.lload 5, 2) := by decide +kernel
theorem dX6_acresAfter_96 : decode cX6_acresAfter 96 = .ok (.goto 5, 3) := by decide +kernel
theorem dX6_acresAfter_99 : decode cX6_acresAfter 99 = .ok (.lload 7, 2) := by decide +kernel
theorem dX6_acresAfter_101 : decode cX6_acresAfter 101 = .ok (.lor, 1) := by decide +kernel
theorem dX6_acresAfter_102 : decode cX6_acresAfter 102 = .ok (.lstore 11, 2) := by decide +kernel
theorem dX6_acresAfter_104 : decode cX6_acresAfter 104 = .ok (.aload_n 0, 1) := by decide +kernel
theorem dX6_acresAfter_105 : decode cX6_acresAfter 105 = .ok (.getfield 26, 3) := by decide +kernel
theorem dX6_acresAfter_108 : decode cX6_acresAfter 108 = .ok (.getfield 122, 3) := by decide +kernel
theorem dX6_acresAfter_111 : decode cX6_acresAfter 111 = .ok (.istore 13, 2) := by decide +kernel
theorem dX6_acresAfter_113 : decode cX6_acresAfter 113 = .ok (.lconst 0, 1) := by decide +kernel
theorem dX6_acresAfter_114 : decode cX6_acresAfter 114 = .ok (.lstore 14, 2) := by decide +kernel
theorem dX6_acresAfter_116 : decode cX6_acresAfter 116 = .ok (.iconst 1, 1) := by decide +kernel
theorem dX6_acresAfter_117 : decode cX6_acresAfter 117 = .ok (.istore 16, 2) := by decide +kernel
theorem dX6_acresAfter_119 : decode cX6_acresAfter 119 = .ok (.iload 16, 2) := by decide +kernel
theorem dX6_acresAfter_121 : decode cX6_acresAfter 121 = .ok (.iload_n 2, 1) := by decide +kernel
theorem dX6_acresAfter_122 : decode cX6_acresAfter 122 = .ok (.if_icmp .gt 79, 3) := by decide +kernel
theorem dX6_acresAfter_125 : decode cX6_acresAfter 125 = .ok (.aload_n 0, 1) := by decide +kernel
theorem dX6_acresAfter_126 : decode cX6_acresAfter 126 = .ok (.getfield 50, 3) := by decide +kernel
theorem dX6_acresAfter_129 : decode cX6_acresAfter 129 = .ok (.iload 16, 2) := by decide +kernel
theorem dX6_acresAfter_131 : decode cX6_acresAfter 131 = .ok (.laload, 1) := by decide +kernel
theorem dX6_acresAfter_132 : decode cX6_acresAfter 132 = .ok (.iload 16, 2) := by decide +kernel
theorem dX6_acresAfter_134 : decode cX6_acresAfter 134 = .ok (.iload 9, 2) := by decide +kernel
theorem dX6_acresAfter_136 : decode cX6_acresAfter 136 = .ok (.if_icmp .lt 8, 3) := by decide +kernel
theorem dX6_acresAfter_139 : decode cX6_acresAfter 139 = .ok (.lload 5, 2) := by decide +kernel
theorem dX6_acresAfter_141 : decode cX6_acresAfter 141 = .ok (.goto 4, 3) := by decide +kernel
theorem dX6_acresAfter_144 : decode cX6_acresAfter 144 = .ok (.lconst 0, 1) := by decide +kernel
theorem dX6_acresAfter_145 : decode cX6_acresAfter 145 = .ok (.lor, 1) := by decide +kernel
theorem dX6_acresAfter_146 : decode cX6_acresAfter 146 = .ok (.iload 16, 2) := by decide +kernel
theorem dX6_acresAfter_148 : decode cX6_acresAfter 148 = .ok (.iload 10, 2) := by decide +kernel
theorem dX6_acresAfter_150 : decode cX6_acresAfter 150 = .ok (.if_icmp .lt 8, 3) := by decide +kernel
theorem dX6_acresAfter_153 : decode cX6_acresAfter 153 = .ok (.lload 7, 2) := by decide +kernel
theorem dX6_acresAfter_155 : decode cX6_acresAfter 155 = .ok (.goto 4, 3) := by decide +kernel
theorem dX6_acresAfter_158 : decode cX6_acresAfter 158 = .ok (.lconst 0, 1) := by decide +kernel
theorem dX6_acresAfter_159 : decode cX6_acresAfter 159 = .ok (.lor, 1) := by decide +kernel
theorem dX6_acresAfter_160 : decode cX6_acresAfter 160 = .ok (.lstore 17, 2) := by decide +kernel
theorem dX6_acresAfter_162 : decode cX6_acresAfter 162 = .ok (.iload 16, 2) := by decide +kernel
theorem dX6_acresAfter_164 : decode cX6_acresAfter 164 = .ok (.iconst 1, 1) := by decide +kernel
theorem dX6_acresAfter_165 : decode cX6_acresAfter 165 = .ok (.if_icmp .eq 11, 3) := by decide +kernel
theorem dX6_acresAfter_168 : decode cX6_acresAfter 168 = .ok (.lload 17, 2) := by decide +kernel
theorem dX6_acresAfter_170 : decode cX6_acresAfter 170 = .ok (.lload 14, 2) := by decide +kernel
theorem dX6_acresAfter_172 : decode cX6_acresAfter 172 = .ok (.lcmp, 1) := by decide +kernel
theorem dX6_acresAfter_173 : decode cX6_acresAfter 173 = .ok (.ifCond .eq 18, 3) := by decide +kernel
theorem dX6_acresAfter_176 : decode cX6_acresAfter 176 = .ok (.aload_n 0, 1) := by decide +kernel
theorem dX6_acresAfter_177 : decode cX6_acresAfter 177 = .ok (.getfield 19, 3) := by decide +kernel
theorem dX6_acresAfter_180 : decode cX6_acresAfter 180 = .ok (.lload 17, 2) := by decide +kernel
theorem dX6_acresAfter_182 : decode cX6_acresAfter 182 = .ok (.lload 11, 2) := by decide +kernel
theorem dX6_acresAfter_184 : decode cX6_acresAfter 184 = .ok (.iload 13, 2) := by decide +kernel
theorem dX6_acresAfter_186 : decode cX6_acresAfter 186 = .ok (.invokevirtual 289, 3) := by decide +kernel
theorem dX6_acresAfter_189 : decode cX6_acresAfter 189 = .ok (.istore 13, 2) := by decide +kernel
theorem dX6_acresAfter_191 : decode cX6_acresAfter 191 = .ok (.lload 17, 2) := by decide +kernel
theorem dX6_acresAfter_193 : decode cX6_acresAfter 193 = .ok (.lstore 14, 2) := by decide +kernel
theorem dX6_acresAfter_195 : decode cX6_acresAfter 195 = .ok (.iinc 16 1, 3) := by decide +kernel
theorem dX6_acresAfter_198 : decode cX6_acresAfter 198 = .ok (.goto (-79), 3) := by decide +kernel
theorem dX6_acresAfter_201 : decode cX6_acresAfter 201 = .ok (.iload 13, 2) := by decide +kernel
theorem dX6_acresAfter_203 : decode cX6_acresAfter 203 = .ok (.invokestatic 125, 3) := by decide +kernel
theorem dX6_acresAfter_206 : decode cX6_acresAfter 206 = .ok (.istore 16, 2) := by decide +kernel
theorem dX6_acresAfter_208 : decode cX6_acresAfter 208 = .ok (.iload_n 1, 1) := by decide +kernel
theorem dX6_acresAfter_209 : decode cX6_acresAfter 209 = .ok (.iconst 1, 1) := by decide +kernel
theorem dX6_acresAfter_210 : decode cX6_acresAfter 210 = .ok (.if_icmp .ne 8, 3) := by decide +kernel
theorem dX6_acresAfter_213 : decode cX6_acresAfter 213 = .ok (.iload 16, 2) := by decide +kernel
theorem dX6_acresAfter_215 : decode cX6_acresAfter 215 = .ok (.goto 13, 3) := by decide +kernel
theorem dX6_acresAfter_218 : decode cX6_acresAfter 218 = .ok (.aload_n 0, 1) := by decide +kernel
theorem dX6_acresAfter_219 : decode cX6_acresAfter 219 = .ok (.getfield 19, 3) := by decide +kernel
theorem dX6_acresAfter_222 : decode cX6_acresAfter 222 = .ok (.getfield 97, 3) := by decide +kernel
theorem dX6_acresAfter_225 : decode cX6_acresAfter 225 = .ok (.iload 16, 2) := by decide +kernel
theorem dX6_acresAfter_227 : decode cX6_acresAfter 227 = .ok (.isub, 1) := by decide +kernel
theorem dX6_acresAfter_228 : decode cX6_acresAfter 228 = .ok (.ireturn, 1) := by decide +kernel
theorem dX7_init_0 : decode cX7_init 0 = .ok (.aload_n 0, 1) := by decide +kernel
theorem dX7_init_1 : decode cX7_init 1 = .ok (.invokespecial 1, 3) := by decide +kernel
theorem dX7_init_4 : decode cX7_init 4 = .ok (.aload_n 0, 1) := by decide +kernel
theorem dX7_init_5 : decode cX7_init 5 = .ok (.bipush 25, 2) := by decide +kernel
theorem dX7_init_7 : decode cX7_init 7 = .ok (.newarray .int, 2) := by decide +kernel
theorem dX7_init_9 : decode cX7_init 9 = .ok (.putfield 7, 3) := by decide +kernel
theorem dX7_init_12 : decode cX7_init 12 = .ok (.aload_n 0, 1) := by decide +kernel
theorem dX7_init_13 : decode cX7_init 13 = .ok (.bipush 40, 2) := by decide +kernel
theorem dX7_init_15 : decode cX7_init 15 = .ok (.newarray .int, 2) := by decide +kernel
theorem dX7_init_17 : decode cX7_init 17 = .ok (.putfield 13, 3) := by decide +kernel
theorem dX7_init_20 : decode cX7_init 20 = .ok (.aload_n 0, 1) := by decide +kernel
theorem dX7_init_21 : decode cX7_init 21 = .ok (.bipush 40, 2) := by decide +kernel
theorem dX7_init_23 : decode cX7_init 23 = .ok (.newarray .int, 2) := by decide +kernel
theorem dX7_init_25 : decode cX7_init 25 = .ok (.putfield 16, 3) := by decide +kernel
theorem dX7_init_28 : decode cX7_init 28 = .ok (.aload_n 0, 1) := by decide +kernel
theorem dX7_init_29 : decode cX7_init 29 = .ok (.bipush 40, 2) := by decide +kernel
theorem dX7_init_31 : decode cX7_init 31 = .ok (.newarray .boolean, 2) := by decide +kernel
theorem dX7_init_33 : decode cX7_init 33 = .ok (.putfield 19, 3) := by decide +kernel
theorem dX7_init_36 : decode cX7_init 36 = .ok (.aload_n 0, 1) := by decide +kernel
theorem dX7_init_37 : decode cX7_init 37 = .ok (.bipush 122, 2) := by decide +kernel
theorem dX7_init_39 : decode cX7_init 39 = .ok (.newarray .int, 2) := by decide +kernel
theorem dX7_init_41 : decode cX7_init 41 = .ok (.putfield 23, 3) := by decide +kernel
theorem dX7_init_44 : decode cX7_init 44 = .ok (.aload_n 0, 1) := by decide +kernel
theorem dX7_init_45 : decode cX7_init 45 = .ok (.sipush 240, 3) := by decide +kernel
theorem dX7_init_48 : decode cX7_init 48 = .ok (.newarray .int, 2) := by decide +kernel
theorem dX7_init_50 : decode cX7_init 50 = .ok (.putfield 26, 3) := by decide +kernel
theorem dX7_init_53 : decode cX7_init 53 = .ok (.aload_n 0, 1) := by decide +kernel
theorem dX7_init_54 : decode cX7_init 54 = .ok (.iconst (-1), 1) := by decide +kernel
theorem dX7_init_55 : decode cX7_init 55 = .ok (.putfield 29, 3) := by decide +kernel
theorem dX7_init_58 : decode cX7_init 58 = .ok (.aload_n 0, 1) := by decide +kernel
theorem dX7_init_59 : decode cX7_init 59 = .ok (.iconst 3, 1) := by decide +kernel
theorem dX7_init_60 : decode cX7_init 60 = .ok (.newarray .int, 2) := by decide +kernel
theorem dX7_init_62 : decode cX7_init 62 = .ok (.putfield 33, 3) := by decide +kernel
theorem dX7_init_65 : decode cX7_init 65 = .ok (.aload_n 0, 1) := by decide +kernel
theorem dX7_init_66 : decode cX7_init 66 = .ok (.bipush 25, 2) := by decide +kernel
theorem dX7_init_68 : decode cX7_init 68 = .ok (.newarray .int, 2) := by decide +kernel
theorem dX7_init_70 : decode cX7_init 70 = .ok (.putfield 36, 3) := by decide +kernel
theorem dX7_init_73 : decode cX7_init 73 = .ok (.aload_n 0, 1) := by decide +kernel
theorem dX7_init_74 : decode cX7_init 74 = .ok (.bipush 40, 2) := by decide +kernel
theorem dX7_init_76 : decode cX7_init 76 = .ok (.newarray .boolean, 2) := by decide +kernel
theorem dX7_init_78 : decode cX7_init 78 = .ok (.putfield 39, 3) := by decide +kernel
theorem dX7_init_81 : decode cX7_init 81 = .ok (.aload_n 0, 1) := by decide +kernel
theorem dX7_init_82 : decode cX7_init 82 = .ok (.bipush 40, 2) := by decide +kernel
theorem dX7_init_84 : decode cX7_init 84 = .ok (.newarray .int, 2) := by decide +kernel
theorem dX7_init_86 : decode cX7_init 86 = .ok (.putfield 42, 3) := by decide +kernel
theorem dX7_init_89 : decode cX7_init 89 = .ok (.aload_n 0, 1) := by decide +kernel
theorem dX7_init_90 : decode cX7_init 90 = .ok (.bipush 40, 2) := by decide +kernel
theorem dX7_init_92 : decode cX7_init 92 = .ok (.newarray .int, 2) := by decide +kernel
theorem dX7_init_94 : decode cX7_init 94 = .ok (.putfield 45, 3) := by decide +kernel
theorem dX7_init_97 : decode cX7_init 97 = .ok (.aload_n 0, 1) := by decide +kernel
theorem dX7_init_98 : decode cX7_init 98 = .ok (.sipush 2440, 3) := by decide +kernel
theorem dX7_init_101 : decode cX7_init 101 = .ok (.newarray .int, 2) := by decide +kernel
theorem dX7_init_103 : decode cX7_init 103 = .ok (.putfield 48, 3) := by decide +kernel
theorem dX7_init_106 : decode cX7_init 106 = .ok (.aload_n 0, 1) := by decide +kernel
theorem dX7_init_107 : decode cX7_init 107 = .ok (.bipush 40, 2) := by decide +kernel
theorem dX7_init_109 : decode cX7_init 109 = .ok (.newarray .int, 2) := by decide +kernel
theorem dX7_init_111 : decode cX7_init 111 = .ok (.putfield 51, 3) := by decide +kernel
theorem dX7_init_114 : decode cX7_init 114 = .ok (.aload_n 0, 1) := by decide +kernel
theorem dX7_init_115 : decode cX7_init 115 = .ok (.bipush 40, 2) := by decide +kernel
theorem dX7_init_117 : decode cX7_init 117 = .ok (.newarray .int, 2) := by decide +kernel
theorem dX7_init_119 : decode cX7_init 119 = .ok (.putfield 54, 3) := by decide +kernel
theorem dX7_init_122 : decode cX7_init 122 = .ok (.aload_n 0, 1) := by decide +kernel
theorem dX7_init_123 : decode cX7_init 123 = .ok (.bipush 25, 2) := by decide +kernel
theorem dX7_init_125 : decode cX7_init 125 = .ok (.newarray .int, 2) := by decide +kernel
theorem dX7_init_127 : decode cX7_init 127 = .ok (.putfield 57, 3) := by decide +kernel
theorem dX7_init_130 : decode cX7_init 130 = .ok (.aload_n 0, 1) := by decide +kernel
theorem dX7_init_131 : decode cX7_init 131 = .ok (.bipush 122, 2) := by decide +kernel
theorem dX7_init_133 : decode cX7_init 133 = .ok (.newarray .int, 2) := by decide +kernel
theorem dX7_init_135 : decode cX7_init 135 = .ok (.putfield 60, 3) := by decide +kernel
theorem dX7_init_138 : decode cX7_init 138 = .ok (.aload_n 0, 1) := by decide +kernel
theorem dX7_init_139 : decode cX7_init 139 = .ok (.bipush 6, 2) := by decide +kernel
theorem dX7_init_141 : decode cX7_init 141 = .ok (.newarray .int, 2) := by decide +kernel
theorem dX7_init_143 : decode cX7_init 143 = .ok (.putfield 63, 3) := by decide +kernel
theorem dX7_init_146 : decode cX7_init 146 = .ok (.aload_n 0, 1) := by decide +kernel
theorem dX7_init_147 : decode cX7_init 147 = .ok (.bipush 6, 2) := by decide +kernel
theorem dX7_init_149 : decode cX7_init 149 = .ok (.newarray .int, 2) := by decide +kernel
theorem dX7_init_151 : decode cX7_init 151 = .ok (.putfield 66, 3) := by decide +kernel
theorem dX7_init_154 : decode cX7_init 154 = .ok (.aload_n 0, 1) := by decide +kernel
theorem dX7_init_155 : decode cX7_init 155 = .ok (.bipush 100, 2) := by decide +kernel
theorem dX7_init_157 : decode cX7_init 157 = .ok (.newarray .int, 2) := by decide +kernel
theorem dX7_init_159 : decode cX7_init 159 = .ok (.putfield 69, 3) := by decide +kernel
theorem dX7_init_162 : decode cX7_init 162 = .ok (.aload_n 0, 1) := by decide +kernel
theorem dX7_init_163 : decode cX7_init 163 = .ok (.bipush 15, 2) := by decide +kernel
theorem dX7_init_165 : decode cX7_init 165 = .ok (.newarray .int, 2) := by decide +kernel
theorem dX7_init_167 : decode cX7_init 167 = .ok (.putfield 72, 3) := by decide +kernel
theorem dX7_init_170 : decode cX7_init 170 = .ok (.aload_n 0, 1) := by decide +kernel
theorem dX7_init_171 : decode cX7_init 171 = .ok (.bipush 15, 2) := by decide +kernel
theorem dX7_init_173 : decode cX7_init 173 = .ok (.newarray .int, 2) := by decide +kernel
theorem dX7_init_175 : decode cX7_init 175 = .ok (.putfield 75, 3) := by decide +kernel
theorem dX7_init_178 : decode cX7_init 178 = .ok (.aload_n 0, 1) := by decide +kernel
theorem dX7_init_179 : decode cX7_init 179 = .ok (.sipush 246, 3) := by decide +kernel
theorem dX7_init_182 : decode cX7_init 182 = .ok (.newarray .int, 2) := by decide +kernel
theorem dX7_init_184 : decode cX7_init 184 = .ok (.putfield 78, 3) := by decide +kernel
theorem dX7_init_187 : decode cX7_init 187 = .ok (.aload_n 0, 1) := by decide +kernel
theorem dX7_init_188 : decode cX7_init 188 = .ok (.iconst 2, 1) := by decide +kernel
theorem dX7_init_189 : decode cX7_init 189 = .ok (.newarray .boolean, 2) := by decide +kernel
theorem dX7_init_191 : decode cX7_init 191 = .ok (.putfield 81, 3) := by decide +kernel
theorem dX7_init_194 : decode cX7_init 194 = .ok (.iconst 0, 1) := by decide +kernel
theorem dX7_init_195 : decode cX7_init 195 = .ok (.istore_n 1, 1) := by decide +kernel
theorem dX7_init_196 : decode cX7_init 196 = .ok (.iload_n 1, 1) := by decide +kernel
theorem dX7_init_197 : decode cX7_init 197 = .ok (.bipush 40, 2) := by decide +kernel
theorem dX7_init_199 : decode cX7_init 199 = .ok (.if_icmp .ge 16, 3) := by decide +kernel
theorem dX7_init_202 : decode cX7_init 202 = .ok (.aload_n 0, 1) := by decide +kernel
theorem dX7_init_203 : decode cX7_init 203 = .ok (.getfield 23, 3) := by decide +kernel
theorem dX7_init_206 : decode cX7_init 206 = .ok (.iload_n 1, 1) := by decide +kernel
theorem dX7_init_207 : decode cX7_init 207 = .ok (.iconst (-1), 1) := by decide +kernel
theorem dX7_init_208 : decode cX7_init 208 = .ok (.iastore, 1) := by decide +kernel
theorem dX7_init_209 : decode cX7_init 209 = .ok (.iinc 1 1, 3) := by decide +kernel
theorem dX7_init_212 : decode cX7_init 212 = .ok (.goto (-16), 3) := by decide +kernel
theorem dX7_init_215 : decode cX7_init 215 = .ok (.return_, 1) := by decide +kernel
theorem dX7_in_0 : decode cX7_in 0 = .ok (.lload_n 0, 1) := by decide +kernel
theorem dX7_in_1 : decode cX7_in 1 = .ok (.lload_n 2, 1) := by decide +kernel
theorem dX7_in_2 : decode cX7_in 2 = .ok (.lcmp, 1) := by decide +kernel
theorem dX7_in_3 : decode cX7_in 3 = .ok (.ifCond .lt 14, 3) := by decide +kernel
theorem dX7_in_6 : decode cX7_in 6 = .ok (.lload_n 0, 1) := by decide +kernel
theorem dX7_in_7 : decode cX7_in 7 = .ok (.lload 4, 2) := by decide +kernel
theorem dX7_in_9 : decode cX7_in 9 = .ok (.lcmp, 1) := by decide +kernel
theorem dX7_in_10 : decode cX7_in 10 = .ok (.ifCond .gt 7, 3) := by decide +kernel
theorem dX7_in_13 : decode cX7_in 13 = .ok (.iconst 1, 1) := by decide +kernel
theorem dX7_in_14 : decode cX7_in 14 = .ok (.goto 4, 3) := by decide +kernel
theorem dX7_in_17 : decode cX7_in 17 = .ok (.iconst 0, 1) := by decide +kernel
theorem dX7_in_18 : decode cX7_in 18 = .ok (.ireturn, 1) := by decide +kernel
theorem dX7_has_0 : decode cX7_has 0 = .ok (.iload_n 0, 1) := by decide +kernel
theorem dX7_has_1 : decode cX7_has 1 = .ok (.iload_n 1, 1) := by decide +kernel
theorem dX7_has_2 : decode cX7_has 2 = .ok (.ishr, 1) := by decide +kernel
theorem dX7_has_3 : decode cX7_has 3 = .ok (.iconst 1, 1) := by decide +kernel
theorem dX7_has_4 : decode cX7_has 4 = .ok (.iand, 1) := by decide +kernel
theorem dX7_has_5 : decode cX7_has 5 = .ok (.iconst 1, 1) := by decide +kernel
theorem dX7_has_6 : decode cX7_has 6 = .ok (.if_icmp .ne 7, 3) := by decide +kernel
theorem dX7_has_9 : decode cX7_has 9 = .ok (.iconst 1, 1) := by decide +kernel
theorem dX7_has_10 : decode cX7_has 10 = .ok (.goto 4, 3) := by decide +kernel
theorem dX7_has_13 : decode cX7_has 13 = .ok (.iconst 0, 1) := by decide +kernel
theorem dX7_has_14 : decode cX7_has 14 = .ok (.ireturn, 1) := by decide +kernel
theorem dX7_bits_0 : decode cX7_bits 0 = .ok (.iconst 0, 1) := by decide +kernel
theorem dX7_bits_1 : decode cX7_bits 1 = .ok (.istore_n 1, 1) := by decide +kernel
theorem dX7_bits_2 : decode cX7_bits 2 = .ok (.iconst 0, 1) := by decide +kernel
theorem dX7_bits_3 : decode cX7_bits 3 = .ok (.istore_n 2, 1) := by decide +kernel
theorem dX7_bits_4 : decode cX7_bits 4 = .ok (.iload_n 2, 1) := by decide +kernel
theorem dX7_bits_5 : decode cX7_bits 5 = .ok (.bipush 25, 2) := by decide +kernel
theorem dX7_bits_7 : decode cX7_bits 7 = .ok (.if_icmp .ge 17, 3) := by decide +kernel
theorem dX7_bits_10 : decode cX7_bits 10 = .ok (.iload_n 1, 1) := by decide +kernel
theorem dX7_bits_11 : decode cX7_bits 11 = .ok (.iload_n 0, 1) := by decide +kernel
theorem dX7_bits_12 : decode cX7_bits 12 = .ok (.iload_n 2, 1) := by decide +kernel
theorem dX7_bits_13 : decode cX7_bits 13 = .ok (.ishr, 1) := by decide +kernel
theorem dX7_bits_14 : decode cX7_bits 14 = .ok (.iconst 1, 1) := by decide +kernel
theorem dX7_bits_15 : decode cX7_bits 15 = .ok (.iand, 1) := by decide +kernel
theorem dX7_bits_16 : decode cX7_bits 16 = .ok (.iadd, 1) := by decide +kernel
theorem dX7_bits_17 : decode cX7_bits 17 = .ok (.istore_n 1, 1) := by decide +kernel
theorem dX7_bits_18 : decode cX7_bits 18 = .ok (.iinc 2 1, 3) := by decide +kernel
theorem dX7_bits_21 : decode cX7_bits 21 = .ok (.goto (-17), 3) := by decide +kernel
theorem dX7_bits_24 : decode cX7_bits 24 = .ok (.iload_n 1, 1) := by decide +kernel
theorem dX7_bits_25 : decode cX7_bits 25 = .ok (.ireturn, 1) := by decide +kernel
set_option maxRecDepth 20000 in
theorem ggX7_isField_X7_in : GoodIn wsX7_isField wsX7_in := goodIn_r _ [5] (by decide +kernel) (by decide +kernel)
set_option maxRecDepth 20000 in
theorem gX7_isField_X7_in : GoodIn wsX7_isField (va_wsS RX7 87 yX7_in wsX7_in) := goodIn_app (goodIn_of _ (by decide +kernel)) ggX7_isField_X7_in
theorem dX7_isField_0 : decode cX7_isField 0 = .ok (.iload_n 1, 1) := by decide +kernel
theorem dX7_isField_1 : decode cX7_isField 1 = .ok (.i2l, 1) := by decide +kernel
theorem dX7_isField_2 : decode cX7_isField 2 = .ok (.lconst 0, 1) := by decide +kernel
theorem dX7_isField_3 : decode cX7_isField 3 = .ok (.aload_n 0, 1) := by decide +kernel
theorem dX7_isField_4 : decode cX7_isField 4 = .ok (.getfield 84, 3) := by decide +kernel
theorem dX7_isField_7 : decode cX7_isField 7 = .ok (.iconst 1, 1) := by decide +kernel
theorem dX7_isField_8 : decode cX7_isField 8 = .ok (.isub, 1) := by decide +kernel
theorem dX7_isField_9 : decode cX7_isField 9 = .ok (.i2l, 1) := by decide +kernel
theorem dX7_isField_10 : decode cX7_isField 10 = .ok (.invokestatic 87, 3) := by decide +kernel
theorem dX7_isField_13 : decode cX7_isField 13 = .ok (.ireturn, 1) := by decide +kernel
set_option maxRecDepth 20000 in
theorem ggX7_isEdge_X7_in : GoodIn wsX7_isEdge wsX7_in := goodIn_r _ [5] (by decide +kernel) (by decide +kernel)
set_option maxRecDepth 20000 in
theorem gX7_isEdge_X7_in : GoodIn wsX7_isEdge (va_wsS RX7 87 yX7_in wsX7_in) := goodIn_app (goodIn_of _ (by decide +kernel)) ggX7_isEdge_X7_in
theorem dX7_isEdge_0 : decode cX7_isEdge 0 = .ok (.iload_n 1, 1) := by decide +kernel
theorem dX7_isEdge_1 : decode cX7_isEdge 1 = .ok (.i2l, 1) := by decide +kernel
theorem dX7_isEdge_2 : decode cX7_isEdge 2 = .ok (.lconst 0, 1) := by decide +kernel
theorem dX7_isEdge_3 : decode cX7_isEdge 3 = .ok (.aload_n 0, 1) := by decide +kernel
theorem dX7_isEdge_4 : decode cX7_isEdge 4 = .ok (.getfield 91, 3) := by decide +kernel
theorem dX7_isEdge_7 : decode cX7_isEdge 7 = .ok (.iconst 1, 1) := by decide +kernel
theorem dX7_isEdge_8 : decode cX7_isEdge 8 = .ok (.isub, 1) := by decide +kernel
theorem dX7_isEdge_9 : decode cX7_isEdge 9 = .ok (.i2l, 1) := by decide +kernel
theorem dX7_isEdge_10 : decode cX7_isEdge 10 = .ok (.invokestatic 87, 3) := by decide +kernel
theorem dX7_isEdge_13 : decode cX7_isEdge 13 = .ok (.ireturn, 1) := by decide +kernel
theorem dX7_isEstate_0 : decode cX7_isEstate 0 = .ok (.iload_n 0, 1) := by decide +kernel
theorem dX7_isEstate_1 : decode cX7_isEstate 1 = .ok (.ifCond .eq 8, 3) := by decide +kernel
theorem dX7_isEstate_4 : decode cX7_isEstate 4 = .ok (.iload_n 0, 1) := by decide +kernel
theorem dX7_isEstate_5 : decode cX7_isEstate 5 = .ok (.iconst 1, 1) := by decide +kernel
theorem dX7_isEstate_6 : decode cX7_isEstate 6 = .ok (.if_icmp .ne 7, 3) := by decide +kernel
theorem dX7_isEstate_9 : decode cX7_isEstate 9 = .ok (.iconst 1, 1) := by decide +kernel
theorem dX7_isEstate_10 : decode cX7_isEstate 10 = .ok (.goto 4, 3) := by decide +kernel
theorem dX7_isEstate_13 : decode cX7_isEstate 13 = .ok (.iconst 0, 1) := by decide +kernel
theorem dX7_isEstate_14 : decode cX7_isEstate 14 = .ok (.ireturn, 1) := by decide +kernel
set_option maxRecDepth 20000 in
theorem ggX7_feed_X7_in : GoodIn wsX7_feed wsX7_in := goodIn_r _ [9] (by decide +kernel) (by decide +kernel)
set_option maxRecDepth 20000 in
theorem gX7_feed_X7_in : GoodIn wsX7_feed (va_wsS RX7 87 yX7_in wsX7_in) := goodIn_app (goodIn_of _ (by decide +kernel)) ggX7_feed_X7_in
theorem dX7_feed_0 : decode cX7_feed 0 = .ok (.iload_n 1, 1) := by decide +kernel
theorem dX7_feed_1 : decode cX7_feed 1 = .ok (.i2l, 1) := by decide +kernel
theorem dX7_feed_2 : decode cX7_feed 2 = .ok (.lconst 0, 1) := by decide +kernel
theorem dX7_feed_3 : decode cX7_feed 3 = .ok (.ldc2_w 94, 3) := by decide +kernel
theorem dX7_feed_6 : decode cX7_feed 6 = .ok (.invokestatic 87, 3) := by decide +kernel
theorem dX7_feed_9 : decode cX7_feed 9 = .ok (.ifCond .ne 6, 3) := by decide +kernel
theorem dX7_feed_12 : decode cX7_feed 12 = .ok (.ldc 96, 2) := by decide +kernel
theorem dX7_feed_14 : decode cX7_feed 14 = .ok (.ireturn, 1) := by decide +kernel
theorem dX7_feed_15 : decode cX7_feed 15 = .ok (.aload_n 0, 1) := by decide +kernel
theorem dX7_feed_16 : decode cX7_feed 16 = .ok (.getfield 97, 3) := by decide +kernel
theorem dX7_feed_19 : decode cX7_feed 19 = .ok (.sipush 240, 3) := by decide +kernel
theorem dX7_feed_22 : decode cX7_feed 22 = .ok (.if_icmp .ne 6, 3) := by decide +kernel
theorem dX7_feed_25 : decode cX7_feed 25 = .ok (.ldc 100, 2) := by decide +kernel
theorem dX7_feed_27 : decode cX7_feed 27 = .ok (.ireturn, 1) := by decide +kernel
theorem dX7_feed_28 : decode cX7_feed 28 = .ok (.aload_n 0, 1) := by decide +kernel
theorem dX7_feed_29 : decode cX7_feed 29 = .ok (.getfield 26, 3) := by decide +kernel
theorem dX7_feed_32 : decode cX7_feed 32 = .ok (.aload_n 0, 1) := by decide +kernel
theorem dX7_feed_33 : decode cX7_feed 33 = .ok (.getfield 97, 3) := by decide +kernel
theorem dX7_feed_36 : decode cX7_feed 36 = .ok (.iload_n 1, 1) := by decide +kernel
theorem dX7_feed_37 : decode cX7_feed 37 = .ok (.iastore, 1) := by decide +kernel
theorem dX7_feed_38 : decode cX7_feed 38 = .ok (.aload_n 0, 1) := by decide +kernel
theorem dX7_feed_39 : decode cX7_feed 39 = .ok (.dup, 1) := by decide +kernel
theorem dX7_feed_40 : decode cX7_feed 40 = .ok (.getfield 97, 3) := by decide +kernel
theorem dX7_feed_43 : decode cX7_feed 43 = .ok (.iconst 1, 1) := by decide +kernel
theorem dX7_feed_44 : decode cX7_feed 44 = .ok (.iadd, 1) := by decide +kernel
theorem dX7_feed_45 : decode cX7_feed 45 = .ok (.putfield 97, 3) := by decide +kernel
theorem dX7_feed_48 : decode cX7_feed 48 = .ok (.aload_n 0, 1) := by decide +kernel
theorem dX7_feed_49 : decode cX7_feed 49 = .ok (.getfield 97, 3) := by decide +kernel
theorem dX7_feed_52 : decode cX7_feed 52 = .ok (.ireturn, 1) := by decide +kernel
theorem dX7_here_0 : decode cX7_here 0 = .ok (.aload_n 0, 1) := by decide +kernel
theorem dX7_here_1 : decode cX7_here 1 = .ok (.getfield 101, 3) := by decide +kernel
theorem dX7_here_4 : decode cX7_here 4 = .ok (.aload_n 0, 1) := by decide +kernel
theorem dX7_here_5 : decode cX7_here 5 = .ok (.getfield 97, 3) := by decide +kernel
theorem dX7_here_8 : decode cX7_here 8 = .ok (.if_icmp .ge 30, 3) := by decide +kernel
theorem dX7_here_11 : decode cX7_here 11 = .ok (.aload_n 0, 1) := by decide +kernel
theorem dX7_here_12 : decode cX7_here 12 = .ok (.getfield 26, 3) := by decide +kernel
theorem dX7_here_15 : decode cX7_here 15 = .ok (.aload_n 0, 1) := by decide +kernel
theorem dX7_here_16 : decode cX7_here 16 = .ok (.getfield 101, 3) := by decide +kernel
theorem dX7_here_19 : decode cX7_here 19 = .ok (.iaload, 1) := by decide +kernel
theorem dX7_here_20 : decode cX7_here 20 = .ok (.bipush 32, 2) := by decide +kernel
theorem dX7_here_22 : decode cX7_here 22 = .ok (.if_icmp .ne 16, 3) := by decide +kernel
theorem dX7_here_25 : decode cX7_here 25 = .ok (.aload_n 0, 1) := by decide +kernel
theorem dX7_here_26 : decode cX7_here 26 = .ok (.dup, 1) := by decide +kernel
theorem dX7_here_27 : decode cX7_here 27 = .ok (.getfield 101, 3) := by decide +kernel
theorem dX7_here_30 : decode cX7_here 30 = .ok (.iconst 1, 1) := by decide +kernel
theorem dX7_here_31 : decode cX7_here 31 = .ok (.iadd, 1) := by decide +kernel
theorem dX7_here_32 : decode cX7_here 32 = .ok (.putfield 101, 3) := by decide +kernel
theorem dX7_here_35 : decode cX7_here 35 = .ok (.goto (-35), 3) := by decide +kernel
theorem dX7_here_38 : decode cX7_here 38 = .ok (.aload_n 0, 1) := by decide +kernel
theorem dX7_here_39 : decode cX7_here 39 = .ok (.getfield 101, 3) := by decide +kernel
theorem dX7_here_42 : decode cX7_here 42 = .ok (.aload_n 0, 1) := by decide +kernel
theorem dX7_here_43 : decode cX7_here 43 = .ok (.getfield 97, 3) := by decide +kernel
theorem dX7_here_46 : decode cX7_here 46 = .ok (.if_icmp .ge 15, 3) := by decide +kernel
theorem dX7_here_49 : decode cX7_here 49 = .ok (.aload_n 0, 1) := by decide +kernel
theorem dX7_here_50 : decode cX7_here 50 = .ok (.getfield 26, 3) := by decide +kernel
theorem dX7_here_53 : decode cX7_here 53 = .ok (.aload_n 0, 1) := by decide +kernel
theorem dX7_here_54 : decode cX7_here 54 = .ok (.getfield 101, 3) := by decide +kernel
theorem dX7_here_57 : decode cX7_here 57 = .ok (.iaload, 1) := by decide +kernel
theorem dX7_here_58 : decode cX7_here 58 = .ok (.goto 4, 3) := by decide +kernel
theorem dX7_here_61 : decode cX7_here 61 = .ok (.iconst (-1), 1) := by decide +kernel
theorem dX7_here_62 : decode cX7_here 62 = .ok (.ireturn, 1) := by decide +kernel
theorem dX7_fails_0 : decode cX7_fails 0 = .ok (.aload_n 0, 1) := by decide +kernel
theorem dX7_fails_1 : decode cX7_fails 1 = .ok (.iload_n 2, 1) := by decide +kernel
theorem dX7_fails_2 : decode cX7_fails 2 = .ok (.putfield 29, 3) := by decide +kernel
theorem dX7_fails_5 : decode cX7_fails 5 = .ok (.iload_n 1, 1) := by decide +kernel
theorem dX7_fails_6 : decode cX7_fails 6 = .ok (.ireturn, 1) := by decide +kernel
set_option maxRecDepth 20000 in
theorem ggX7_takeNumber_X7_here : GoodIn wsX7_takeNumber wsX7_here := goodIn_r _ [12, 3, 6, 7, 21, 22, 23, 24, 25, 26, 27, 28, 29, 30, 31, 32, 33, 34, 35, 36, 37, 38, 39, 40, 41, 42, 43, 44, 45, 46, 47, 48, 49, 50, 51, 52, 53, 54, 55, 56, 57, 58] (by decide +kernel) (by decide +kernel)
set_option maxRecDepth 20000 in
theorem gX7_takeNumber_X7_here : GoodIn wsX7_takeNumber (wsV RX7 104 RX7 yX7_here wsX7_here) := goodIn_app (goodIn_of _ (by decide +kernel)) ggX7_takeNumber_X7_here
set_option maxRecDepth 20000 in
theorem ggX7_takeNumber_X7_in : GoodIn wsX7_takeNumber wsX7_in := goodIn_r _ [15] (by decide +kernel) (by decide +kernel)
set_option maxRecDepth 20000 in
theorem gX7_takeNumber_X7_in : GoodIn wsX7_takeNumber (va_wsS RX7 87 yX7_in wsX7_in) := goodIn_app (goodIn_of _ (by decide +kernel)) ggX7_takeNumber_X7_in
set_option maxRecDepth 20000 in
theorem ggX7_takeNumber_X7_fails : GoodIn wsX7_takeNumber wsX7_fails := goodIn_r _ [19, 20, 21, 22, 23, 24, 25, 26, 27, 28, 29, 30, 31, 32, 33, 34, 35, 36, 37, 38, 39, 40, 41, 42, 43, 44, 45, 46, 47, 48, 49, 50, 51, 52, 53, 54, 55, 56, 57, 58] (by decide +kernel) (by decide +kernel)
set_option maxRecDepth 20000 in
theorem gX7_takeNumber_X7_fails : GoodIn wsX7_takeNumber (wsV RX7 112 RX7 yX7_fails wsX7_fails) := goodIn_app (goodIn_of _ (by decide +kernel)) ggX7_takeNumber_X7_fails
theorem dX7_takeNumber_0 : decode cX7_takeNumber 0 = .ok (.aload_n 0, 1) := by decide +kernel
theorem dX7_takeNumber_1 : decode cX7_takeNumber 1 = .ok (.invokevirtual 104, 3) := by decide +kernel
theorem dX7_takeNumber_4 : decode cX7_takeNumber 4 = .ok (.istore_n 3, 1) := by decide +kernel
theorem dX7_takeNumber_5 : decode cX7_takeNumber 5 = .ok (.iload_n 3, 1) := by decide +kernel
theorem dX7_takeNumber_6 : decode cX7_takeNumber 6 = .ok (.i2l, 1) := by decide +kernel
theorem dX7_takeNumber_7 : decode cX7_takeNumber 7 = .ok (.ldc2_w 108, 3) := by decide +kernel
theorem dX7_takeNumber_10 : decode cX7_takeNumber 10 = .ok (.ldc2_w 110, 3) := by decide +kernel
theorem dX7_takeNumber_13 : decode cX7_takeNumber 13 = .ok (.invokestatic 87, 3) := by decide +kernel
theorem dX7_takeNumber_16 : decode cX7_takeNumber 16 = .ok (.ifCond .ne 13, 3) := by decide +kernel
theorem dX7_takeNumber_19 : decode cX7_takeNumber 19 = .ok (.aload_n 0, 1) := by decide +kernel
theorem dX7_takeNumber_20 : decode cX7_takeNumber 20 = .ok (.iconst 1, 1) := by decide +kernel
theorem dX7_takeNumber_21 : decode cX7_takeNumber 21 = .ok (.aload_n 0, 1) := by decide +kernel
theorem dX7_takeNumber_22 : decode cX7_takeNumber 22 = .ok (.getfield 101, 3) := by decide +kernel
theorem dX7_takeNumber_25 : decode cX7_takeNumber 25 = .ok (.invokevirtual 112, 3) := by decide +kernel
theorem dX7_takeNumber_28 : decode cX7_takeNumber 28 = .ok (.ireturn, 1) := by decide +kernel
theorem dX7_takeNumber_29 : decode cX7_takeNumber 29 = .ok (.aload_n 0, 1) := by decide +kernel
theorem dX7_takeNumber_30 : decode cX7_takeNumber 30 = .ok (.aload_n 0, 1) := by decide +kernel
theorem dX7_takeNumber_31 : decode cX7_takeNumber 31 = .ok (.getfield 101, 3) := by decide +kernel
theorem dX7_takeNumber_34 : decode cX7_takeNumber 34 = .ok (.putfield 116, 3) := by decide +kernel
theorem dX7_takeNumber_37 : decode cX7_takeNumber 37 = .ok (.aload_n 0, 1) := by decide +kernel
theorem dX7_takeNumber_38 : decode cX7_takeNumber 38 = .ok (.iconst 0, 1) := by decide +kernel
theorem dX7_takeNumber_39 : decode cX7_takeNumber 39 = .ok (.putfield 119, 3) := by decide +kernel
theorem dX7_takeNumber_42 : decode cX7_takeNumber 42 = .ok (.aload_n 0, 1) := by decide +kernel
theorem dX7_takeNumber_43 : decode cX7_takeNumber 43 = .ok (.getfield 101, 3) := by decide +kernel
theorem dX7_takeNumber_46 : decode cX7_takeNumber 46 = .ok (.aload_n 0, 1) := by decide +kernel
theorem dX7_takeNumber_47 : decode cX7_takeNumber 47 = .ok (.getfield 97, 3) := by decide +kernel
theorem dX7_takeNumber_50 : decode cX7_takeNumber 50 = .ok (.if_icmp .ge 79, 3) := by decide +kernel
theorem dX7_takeNumber_53 : decode cX7_takeNumber 53 = .ok (.aload_n 0, 1) := by decide +kernel
theorem dX7_takeNumber_54 : decode cX7_takeNumber 54 = .ok (.getfield 26, 3) := by decide +kernel
theorem dX7_takeNumber_57 : decode cX7_takeNumber 57 = .ok (.aload_n 0, 1) := by decide +kernel
theorem dX7_takeNumber_58 : decode cX7_takeNumber 58 = .ok (.getfield 101, 3) := by decide +kernel
theorem dX7_takeNumber_61 : decode cX7_takeNumber 61 = .ok (.iaload, 1) := by decide +kernel
theorem dX7_takeNumber_62 : decode cX7_takeNumber 62 = .ok (.i2l, 1) := by decide +kernel
theorem dX7_takeNumber_63 : decode cX7_takeNumber 63 = .ok (.ldc2_w 108, 3) := by decide +kernel
theorem dX7_takeNumber_66 : decode cX7_takeNumber 66 = .ok (.ldc2_w 110, 3) := by decide +kernel
theorem dX7_takeNumber_69 : decode cX7_takeNumber 69 = .ok (.invokestatic 87, 3) := by decide +kernel
theorem dX7_takeNumber_72 : decode cX7_takeNumber 72 = .ok (.ifCond .eq 57, 3) := by decide +kernel
theorem dX7_takeNumber_75 : decode cX7_takeNumber 75 = .ok (.aload_n 0, 1) := by decide +kernel
theorem dX7_takeNumber_76 : decode cX7_takeNumber 76 = .ok (.aload_n 0, 1) := by decide +kernel
theorem dX7_takeNumber_77 : decode cX7_takeNumber 77 = .ok (.getfield 119, 3) := by decide +kernel
theorem dX7_takeNumber_80 : decode cX7_takeNumber 80 = .ok (.sipush 10000, 3) := by decide +kernel
theorem dX7_takeNumber_83 : decode cX7_takeNumber 83 = .ok (.if_icmp .le 10, 3) := by decide +kernel
theorem dX7_takeNumber_86 : decode cX7_takeNumber 86 = .ok (.aload_n 0, 1) := by decide +kernel
theorem dX7_takeNumber_87 : decode cX7_takeNumber 87 = .ok (.getfield 119, 3) := by decide +kernel
theorem dX7_takeNumber_90 : decode cX7_takeNumber 90 = .ok (.goto 23, 3) := by decide +kernel
theorem dX7_takeNumber_93 : decode cX7_takeNumber 93 = .ok (.bipush 10, 2) := by decide +kernel
theorem dX7_takeNumber_95 : decode cX7_takeNumber 95 = .ok (.aload_n 0, 1) := by decide +kernel
theorem dX7_takeNumber_96 : decode cX7_takeNumber 96 = .ok (.getfield 119, 3) := by decide +kernel
theorem dX7_takeNumber_99 : decode cX7_takeNumber 99 = .ok (.imul, 1) := by decide +kernel
theorem dX7_takeNumber_100 : decode cX7_takeNumber 100 = .ok (.aload_n 0, 1) := by decide +kernel
theorem dX7_takeNumber_101 : decode cX7_takeNumber 101 = .ok (.getfield 26, 3) := by decide +kernel
theorem dX7_takeNumber_104 : decode cX7_takeNumber 104 = .ok (.aload_n 0, 1) := by decide +kernel
theorem dX7_takeNumber_105 : decode cX7_takeNumber 105 = .ok (.getfield 101, 3) := by decide +kernel
theorem dX7_takeNumber_108 : decode cX7_takeNumber 108 = .ok (.iaload, 1) := by decide +kernel
theorem dX7_takeNumber_109 : decode cX7_takeNumber 109 = .ok (.iadd, 1) := by decide +kernel
theorem dX7_takeNumber_110 : decode cX7_takeNumber 110 = .ok (.bipush 48, 2) := by decide +kernel
theorem dX7_takeNumber_112 : decode cX7_takeNumber 112 = .ok (.isub, 1) := by decide +kernel
theorem dX7_takeNumber_113 : decode cX7_takeNumber 113 = .ok (.putfield 119, 3) := by decide +kernel
theorem dX7_takeNumber_116 : decode cX7_takeNumber 116 = .ok (.aload_n 0, 1) := by decide +kernel
theorem dX7_takeNumber_117 : decode cX7_takeNumber 117 = .ok (.dup, 1) := by decide +kernel
theorem dX7_takeNumber_118 : decode cX7_takeNumber 118 = .ok (.getfield 101, 3) := by decide +kernel
theorem dX7_takeNumber_121 : decode cX7_takeNumber 121 = .ok (.iconst 1, 1) := by decide +kernel
theorem dX7_takeNumber_122 : decode cX7_takeNumber 122 = .ok (.iadd, 1) := by decide +kernel
theorem dX7_takeNumber_123 : decode cX7_takeNumber 123 = .ok (.putfield 101, 3) := by decide +kernel
theorem dX7_takeNumber_126 : decode cX7_takeNumber 126 = .ok (.goto (-84), 3) := by decide +kernel
theorem dX7_takeNumber_129 : decode cX7_takeNumber 129 = .ok (.aload_n 0, 1) := by decide +kernel
theorem dX7_takeNumber_130 : decode cX7_takeNumber 130 = .ok (.getfield 101, 3) := by decide +kernel
theorem dX7_takeNumber_133 : decode cX7_takeNumber 133 = .ok (.aload_n 0, 1) := by decide +kernel
theorem dX7_takeNumber_134 : decode cX7_takeNumber 134 = .ok (.getfield 116, 3) := by decide +kernel
theorem dX7_takeNumber_137 : decode cX7_takeNumber 137 = .ok (.isub, 1) := by decide +kernel
theorem dX7_takeNumber_138 : decode cX7_takeNumber 138 = .ok (.iconst 3, 1) := by decide +kernel
theorem dX7_takeNumber_139 : decode cX7_takeNumber 139 = .ok (.if_icmp .gt 18, 3) := by decide +kernel
theorem dX7_takeNumber_142 : decode cX7_takeNumber 142 = .ok (.aload_n 0, 1) := by decide +kernel
theorem dX7_takeNumber_143 : decode cX7_takeNumber 143 = .ok (.getfield 119, 3) := by decide +kernel
theorem dX7_takeNumber_146 : decode cX7_takeNumber 146 = .ok (.i2l, 1) := by decide +kernel
theorem dX7_takeNumber_147 : decode cX7_takeNumber 147 = .ok (.iload_n 1, 1) := by decide +kernel
theorem dX7_takeNumber_148 : decode cX7_takeNumber 148 = .ok (.i2l, 1) := by decide +kernel
theorem dX7_takeNumber_149 : decode cX7_takeNumber 149 = .ok (.iload_n 2, 1) := by decide +kernel
theorem dX7_takeNumber_150 : decode cX7_takeNumber 150 = .ok (.i2l, 1) := by decide +kernel
theorem dX7_takeNumber_151 : decode cX7_takeNumber 151 = .ok (.invokestatic 87, 3) := by decide +kernel
theorem dX7_takeNumber_154 : decode cX7_takeNumber 154 = .ok (.ifCond .ne 15, 3) := by decide +kernel
theorem dX7_takeNumber_157 : decode cX7_takeNumber 157 = .ok (.aload_n 0, 1) := by decide +kernel
theorem dX7_takeNumber_158 : decode cX7_takeNumber 158 = .ok (.iconst 2, 1) := by decide +kernel
theorem dX7_takeNumber_159 : decode cX7_takeNumber 159 = .ok (.aload_n 0, 1) := by decide +kernel
theorem dX7_takeNumber_160 : decode cX7_takeNumber 160 = .ok (.getfield 116, 3) := by decide +kernel
theorem dX7_takeNumber_163 : decode cX7_takeNumber 163 = .ok (.invokevirtual 112, 3) := by decide +kernel
theorem dX7_takeNumber_166 : decode cX7_takeNumber 166 = .ok (.goto 4, 3) := by decide +kernel
theorem dX7_takeNumber_169 : decode cX7_takeNumber 169 = .ok (.iconst 0, 1) := by decide +kernel
theorem dX7_takeNumber_170 : decode cX7_takeNumber 170 = .ok (.ireturn, 1) := by decide +kernel
set_option maxRecDepth 20000 in
theorem ggX7_into_X7_takeNumber : GoodIn wsX7_into wsX7_takeNumber := goodIn_r _ [6, 7, 8, 9, 10, 1, 11, 12, 13, 14, 15, 5, 16, 17, 18, 19, 20, 21, 22, 23, 24, 25, 26, 27, 28, 29, 30, 31, 32, 33, 34, 35, 36, 37, 38, 39, 40, 41, 42, 43, 44, 45, 46, 47, 48, 49, 50, 51, 52, 53, 54, 55, 56, 57, 58, 59, 60, 61, 62] (by decide +kernel) (by decide +kernel)
set_option maxRecDepth 20000 in
theorem gX7_into_X7_takeNumber : GoodIn wsX7_into (wsV RX7 122 RX7 yX7_takeNumber wsX7_takeNumber) := goodIn_app (goodIn_of _ (by decide +kernel)) ggX7_into_X7_takeNumber
theorem dX7_into_0 : decode cX7_into 0 = .ok (.aload_n 0, 1) := by decide +kernel
theorem dX7_into_1 : decode cX7_into 1 = .ok (.iload_n 3, 1) := by decide +kernel
theorem dX7_into_2 : decode cX7_into 2 = .ok (.iload 4, 2) := by decide +kernel
theorem dX7_into_4 : decode cX7_into 4 = .ok (.invokevirtual 122, 3) := by decide +kernel
theorem dX7_into_7 : decode cX7_into 7 = .ok (.istore 5, 2) := by decide +kernel
theorem dX7_into_9 : decode cX7_into 9 = .ok (.aload_n 1, 1) := by decide +kernel
theorem dX7_into_10 : decode cX7_into 10 = .ok (.iload_n 2, 1) := by decide +kernel
theorem dX7_into_11 : decode cX7_into 11 = .ok (.aload_n 0, 1) := by decide +kernel
theorem dX7_into_12 : decode cX7_into 12 = .ok (.getfield 119, 3) := by decide +kernel
theorem dX7_into_15 : decode cX7_into 15 = .ok (.iastore, 1) := by decide +kernel
theorem dX7_into_16 : decode cX7_into 16 = .ok (.iload 5, 2) := by decide +kernel
theorem dX7_into_18 : decode cX7_into 18 = .ok (.ireturn, 1) := by decide +kernel
theorem dX7_readFields_0 : decode cX7_readFields 0 = .ok (.aload_n 0, 1) := by decide +kernel
theorem dX7_readFields_1 : decode cX7_readFields 1 = .ok (.getfield 33, 3) := by decide +kernel
theorem dX7_readFields_4 : decode cX7_readFields 4 = .ok (.iconst 0, 1) := by decide +kernel
theorem dX7_readFields_5 : decode cX7_readFields 5 = .ok (.iaload, 1) := by decide +kernel
theorem dX7_readFields_6 : decode cX7_readFields 6 = .ok (.aload_n 0, 1) := by decide +kernel
theorem dX7_readFields_7 : decode cX7_readFields 7 = .ok (.getfield 33, 3) := by decide +kernel
theorem dX7_readFields_10 : decode cX7_readFields 10 = .ok (.iconst 1, 1) := by decide +kernel
theorem dX7_readFields_11 : decode cX7_readFields 11 = .ok (.iaload, 1) := by decide +kernel
theorem dX7_readFields_12 : decode cX7_readFields 12 = .ok (.imul, 1) := by decide +kernel
theorem dX7_readFields_13 : decode cX7_readFields 13 = .ok (.ireturn, 1) := by decide +kernel
theorem dX7_readEdges_0 : decode cX7_readEdges 0 = .ok (.aload_n 0, 1) := by decide +kernel
theorem dX7_readEdges_1 : decode cX7_readEdges 1 = .ok (.getfield 33, 3) := by decide +kernel
theorem dX7_readEdges_4 : decode cX7_readEdges 4 = .ok (.iconst 0, 1) := by decide +kernel
theorem dX7_readEdges_5 : decode cX7_readEdges 5 = .ok (.iaload, 1) := by decide +kernel
theorem dX7_readEdges_6 : decode cX7_readEdges 6 = .ok (.iconst 1, 1) := by decide +kernel
theorem dX7_readEdges_7 : decode cX7_readEdges 7 = .ok (.isub, 1) := by decide +kernel
theorem dX7_readEdges_8 : decode cX7_readEdges 8 = .ok (.aload_n 0, 1) := by decide +kernel
theorem dX7_readEdges_9 : decode cX7_readEdges 9 = .ok (.getfield 33, 3) := by decide +kernel
theorem dX7_readEdges_12 : decode cX7_readEdges 12 = .ok (.iconst 1, 1) := by decide +kernel
theorem dX7_readEdges_13 : decode cX7_readEdges 13 = .ok (.iaload, 1) := by decide +kernel
theorem dX7_readEdges_14 : decode cX7_readEdges 14 = .ok (.imul, 1) := by decide +kernel
theorem dX7_readEdges_15 : decode cX7_readEdges 15 = .ok (.aload_n 0, 1) := by decide +kernel
theorem dX7_readEdges_16 : decode cX7_readEdges 16 = .ok (.getfield 33, 3) := by decide +kernel
theorem dX7_readEdges_19 : decode cX7_readEdges 19 = .ok (.iconst 0, 1) := by decide +kernel
theorem dX7_readEdges_20 : decode cX7_readEdges 20 = .ok (.iaload, 1) := by decide +kernel
theorem dX7_readEdges_21 : decode cX7_readEdges 21 = .ok (.aload_n 0, 1) := by decide +kernel
theorem dX7_readEdges_22 : decode cX7_readEdges 22 = .ok (.getfield 33, 3) := by decide +kernel
theorem dX7_readEdges_25 : decode cX7_readEdges 25 = .ok (.iconst 1, 1) := by decide +kernel
theorem dX7_readEdges_26 : decode cX7_readEdges 26 = .ok (.iaload, 1) := by decide +kernel
theorem dX7_readEdges_27 : decode cX7_readEdges 27 = .ok (.iconst 1, 1) := by decide +kernel
theorem dX7_readEdges_28 : decode cX7_readEdges 28 = .ok (.isub, 1) := by decide +kernel
theorem dX7_readEdges_29 : decode cX7_readEdges 29 = .ok (.imul, 1) := by decide +kernel
theorem dX7_readEdges_30 : decode cX7_readEdges 30 = .ok (.iadd, 1) := by decide +kernel
theorem dX7_readEdges_31 : decode cX7_readEdges 31 = .ok (.ireturn, 1) := by decide +kernel
set_option maxRecDepth 20000 in
theorem ggX7_takeGround_X7_into : GoodIn wsX7_takeGround wsX7_into := goodIn_r _ [7, 8, 9, 10, 11, 6, 12, 13, 14, 15, 16, 17, 18, 19, 20, 21, 22, 23, 24, 25, 26, 27, 28, 29, 30, 31, 32, 33, 34, 35, 36, 37, 38, 39, 40, 41, 42, 43, 44, 45, 46, 47, 48, 49, 50, 51, 52, 53, 54, 55, 56, 57, 58, 59, 60, 61, 62, 63, 64, 65, 66, 67, 68] (by decide +kernel) (by decide +kernel)
set_option maxRecDepth 20000 in
theorem gX7_takeGround_X7_into : GoodIn wsX7_takeGround (wsV RX7 125 RX7 yX7_into wsX7_into) := goodIn_app (goodIn_of _ (by decide +kernel)) ggX7_takeGround_X7_into
