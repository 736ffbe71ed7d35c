theorem dX0_init_0 : decode cX0_init 0 = .ok (.aload_n 0, 1) := by decide +kernel
theorem dX0_init_1 : decode cX0_init 1 = .ok (.invokespecial 3, 3) := by decide +kernel
theorem dX0_init_4 : decode cX0_init 4 = .ok (.aload_n 0, 1) := by decide +kernel
theorem dX0_init_5 : decode cX0_init 5 = .ok (.bipush 25, 2) := by decide +kernel
theorem dX0_init_7 : decode cX0_init 7 = .ok (.newarray .int, 2) := by decide +kernel
theorem dX0_init_9 : decode cX0_init 9 = .ok (.putfield 9, 3) := by decide +kernel
theorem dX0_init_12 : decode cX0_init 12 = .ok (.aload_n 0, 1) := by decide +kernel
theorem dX0_init_13 : decode cX0_init 13 = .ok (.bipush 40, 2) := by decide +kernel
theorem dX0_init_15 : decode cX0_init 15 = .ok (.newarray .int, 2) := by decide +kernel
theorem dX0_init_17 : decode cX0_init 17 = .ok (.putfield 15, 3) := by decide +kernel
theorem dX0_init_20 : decode cX0_init 20 = .ok (.aload_n 0, 1) := by decide +kernel
theorem dX0_init_21 : decode cX0_init 21 = .ok (.bipush 40, 2) := by decide +kernel
theorem dX0_init_23 : decode cX0_init 23 = .ok (.newarray .int, 2) := by decide +kernel
theorem dX0_init_25 : decode cX0_init 25 = .ok (.putfield 18, 3) := by decide +kernel
theorem dX0_init_28 : decode cX0_init 28 = .ok (.aload_n 0, 1) := by decide +kernel
theorem dX0_init_29 : decode cX0_init 29 = .ok (.bipush 40, 2) := by decide +kernel
theorem dX0_init_31 : decode cX0_init 31 = .ok (.newarray .long, 2) := by decide +kernel
theorem dX0_init_33 : decode cX0_init 33 = .ok (.putfield 21, 3) := by decide +kernel
theorem dX0_init_36 : decode cX0_init 36 = .ok (.return_, 1) := by decide +kernel
theorem dX0_clear_0 : decode cX0_clear 0 = .ok (.aload_n 0, 1) := by decide +kernel
theorem dX0_clear_1 : decode cX0_clear 1 = .ok (.iconst 0, 1) := by decide +kernel
theorem dX0_clear_2 : decode cX0_clear 2 = .ok (.putfield 25, 3) := by decide +kernel
theorem dX0_clear_5 : decode cX0_clear 5 = .ok (.aload_n 0, 1) := by decide +kernel
theorem dX0_clear_6 : decode cX0_clear 6 = .ok (.iconst 0, 1) := by decide +kernel
theorem dX0_clear_7 : decode cX0_clear 7 = .ok (.putfield 29, 3) := by decide +kernel
theorem dX0_clear_10 : decode cX0_clear 10 = .ok (.aload_n 0, 1) := by decide +kernel
theorem dX0_clear_11 : decode cX0_clear 11 = .ok (.iconst 0, 1) := by decide +kernel
theorem dX0_clear_12 : decode cX0_clear 12 = .ok (.putfield 32, 3) := by decide +kernel
theorem dX0_clear_15 : decode cX0_clear 15 = .ok (.aload_n 0, 1) := by decide +kernel
theorem dX0_clear_16 : decode cX0_clear 16 = .ok (.iconst 0, 1) := by decide +kernel
theorem dX0_clear_17 : decode cX0_clear 17 = .ok (.putfield 35, 3) := by decide +kernel
theorem dX0_clear_20 : decode cX0_clear 20 = .ok (.aload_n 0, 1) := by decide +kernel
theorem dX0_clear_21 : decode cX0_clear 21 = .ok (.iconst 0, 1) := by decide +kernel
theorem dX0_clear_22 : decode cX0_clear 22 = .ok (.putfield 38, 3) := by decide +kernel
theorem dX0_clear_25 : decode cX0_clear 25 = .ok (.aload_n 0, 1) := by decide +kernel
theorem dX0_clear_26 : decode cX0_clear 26 = .ok (.iconst 0, 1) := by decide +kernel
theorem dX0_clear_27 : decode cX0_clear 27 = .ok (.putfield 41, 3) := by decide +kernel
theorem dX0_clear_30 : decode cX0_clear 30 = .ok (.aload_n 0, 1) := by decide +kernel
theorem dX0_clear_31 : decode cX0_clear 31 = .ok (.iconst 0, 1) := by decide +kernel
theorem dX0_clear_32 : decode cX0_clear 32 = .ok (.putfield 44, 3) := by decide +kernel
theorem dX0_clear_35 : decode cX0_clear 35 = .ok (.aload_n 0, 1) := by decide +kernel
theorem dX0_clear_36 : decode cX0_clear 36 = .ok (.iconst 0, 1) := by decide +kernel
theorem dX0_clear_37 : decode cX0_clear 37 = .ok (.putfield 47, 3) := by decide +kernel
theorem dX0_clear_40 : decode cX0_clear 40 = .ok (.aload_n 0, 1) := by decide +kernel
theorem dX0_clear_41 : decode cX0_clear 41 = .ok (.lconst 0, 1) := by decide +kernel
theorem dX0_clear_42 : decode cX0_clear 42 = .ok (.putfield 50, 3) := by decide +kernel
theorem dX0_clear_45 : decode cX0_clear 45 = .ok (.return_, 1) := by decide +kernel
theorem dX0_copyFrom_0 : decode cX0_copyFrom 0 = .ok (.aload_n 0, 1) := by decide +kernel
theorem dX0_copyFrom_1 : decode cX0_copyFrom 1 = .ok (.aload_n 1, 1) := by decide +kernel
theorem dX0_copyFrom_2 : decode cX0_copyFrom 2 = .ok (.getfield 25, 3) := by decide +kernel
theorem dX0_copyFrom_5 : decode cX0_copyFrom 5 = .ok (.putfield 25, 3) := by decide +kernel
theorem dX0_copyFrom_8 : decode cX0_copyFrom 8 = .ok (.aload_n 0, 1) := by decide +kernel
theorem dX0_copyFrom_9 : decode cX0_copyFrom 9 = .ok (.aload_n 1, 1) := by decide +kernel
theorem dX0_copyFrom_10 : decode cX0_copyFrom 10 = .ok (.getfield 29, 3) := by decide +kernel
theorem dX0_copyFrom_13 : decode cX0_copyFrom 13 = .ok (.putfield 29, 3) := by decide +kernel
theorem dX0_copyFrom_16 : decode cX0_copyFrom 16 = .ok (.aload_n 0, 1) := by decide +kernel
theorem dX0_copyFrom_17 : decode cX0_copyFrom 17 = .ok (.aload_n 1, 1) := by decide +kernel
theorem dX0_copyFrom_18 : decode cX0_copyFrom 18 = .ok (.getfield 32, 3) := by decide +kernel
theorem dX0_copyFrom_21 : decode cX0_copyFrom 21 = .ok (.putfield 32, 3) := by decide +kernel
theorem dX0_copyFrom_24 : decode cX0_copyFrom 24 = .ok (.aload_n 0, 1) := by decide +kernel
theorem dX0_copyFrom_25 : decode cX0_copyFrom 25 = .ok (.aload_n 1, 1) := by decide +kernel
theorem dX0_copyFrom_26 : decode cX0_copyFrom 26 = .ok (.getfield 35, 3) := by decide +kernel
theorem dX0_copyFrom_29 : decode cX0_copyFrom 29 = .ok (.putfield 35, 3) := by decide +kernel
theorem dX0_copyFrom_32 : decode cX0_copyFrom 32 = .ok (.aload_n 0, 1) := by decide +kernel
theorem dX0_copyFrom_33 : decode cX0_copyFrom 33 = .ok (.aload_n 1, 1) := by decide +kernel
theorem dX0_copyFrom_34 : decode cX0_copyFrom 34 = .ok (.getfield 38, 3) := by decide +kernel
theorem dX0_copyFrom_37 : decode cX0_copyFrom 37 = .ok (.putfield 38, 3) := by decide +kernel
theorem dX0_copyFrom_40 : decode cX0_copyFrom 40 = .ok (.aload_n 0, 1) := by decide +kernel
theorem dX0_copyFrom_41 : decode cX0_copyFrom 41 = .ok (.aload_n 1, 1) := by decide +kernel
theorem dX0_copyFrom_42 : decode cX0_copyFrom 42 = .ok (.getfield 41, 3) := by decide +kernel
theorem dX0_copyFrom_45 : decode cX0_copyFrom 45 = .ok (.putfield 41, 3) := by decide +kernel
theorem dX0_copyFrom_48 : decode cX0_copyFrom 48 = .ok (.aload_n 0, 1) := by decide +kernel
theorem dX0_copyFrom_49 : decode cX0_copyFrom 49 = .ok (.aload_n 1, 1) := by decide +kernel
theorem dX0_copyFrom_50 : decode cX0_copyFrom 50 = .ok (.getfield 44, 3) := by decide +kernel
theorem dX0_copyFrom_53 : decode cX0_copyFrom 53 = .ok (.putfield 44, 3) := by decide +kernel
theorem dX0_copyFrom_56 : decode cX0_copyFrom 56 = .ok (.aload_n 0, 1) := by decide +kernel
theorem dX0_copyFrom_57 : decode cX0_copyFrom 57 = .ok (.aload_n 1, 1) := by decide +kernel
theorem dX0_copyFrom_58 : decode cX0_copyFrom 58 = .ok (.getfield 47, 3) := by decide +kernel
theorem dX0_copyFrom_61 : decode cX0_copyFrom 61 = .ok (.putfield 47, 3) := by decide +kernel
theorem dX0_copyFrom_64 : decode cX0_copyFrom 64 = .ok (.aload_n 0, 1) := by decide +kernel
theorem dX0_copyFrom_65 : decode cX0_copyFrom 65 = .ok (.aload_n 1, 1) := by decide +kernel
theorem dX0_copyFrom_66 : decode cX0_copyFrom 66 = .ok (.getfield 50, 3) := by decide +kernel
theorem dX0_copyFrom_69 : decode cX0_copyFrom 69 = .ok (.putfield 50, 3) := by decide +kernel
theorem dX0_copyFrom_72 : decode cX0_copyFrom 72 = .ok (.aload_n 1, 1) := by decide +kernel
theorem dX0_copyFrom_73 : decode cX0_copyFrom 73 = .ok (.getfield 9, 3) := by decide +kernel
theorem dX0_copyFrom_76 : decode cX0_copyFrom 76 = .ok (.iconst 0, 1) := by decide +kernel
theorem dX0_copyFrom_77 : decode cX0_copyFrom 77 = .ok (.aload_n 0, 1) := by decide +kernel
theorem dX0_copyFrom_78 : decode cX0_copyFrom 78 = .ok (.getfield 9, 3) := by decide +kernel
theorem dX0_copyFrom_81 : decode cX0_copyFrom 81 = .ok (.iconst 0, 1) := by decide +kernel
theorem dX0_copyFrom_82 : decode cX0_copyFrom 82 = .ok (.bipush 25, 2) := by decide +kernel
theorem dX0_copyFrom_84 : decode cX0_copyFrom 84 = .ok (.invokestatic 54, 3) := by decide +kernel
theorem dX0_copyFrom_87 : decode cX0_copyFrom 87 = .ok (.aload_n 1, 1) := by decide +kernel
theorem dX0_copyFrom_88 : decode cX0_copyFrom 88 = .ok (.getfield 15, 3) := by decide +kernel
theorem dX0_copyFrom_91 : decode cX0_copyFrom 91 = .ok (.iconst 0, 1) := by decide +kernel
theorem dX0_copyFrom_92 : decode cX0_copyFrom 92 = .ok (.aload_n 0, 1) := by decide +kernel
theorem dX0_copyFrom_93 : decode cX0_copyFrom 93 = .ok (.getfield 15, 3) := by decide +kernel
theorem dX0_copyFrom_96 : decode cX0_copyFrom 96 = .ok (.iconst 0, 1) := by decide +kernel
theorem dX0_copyFrom_97 : decode cX0_copyFrom 97 = .ok (.bipush 40, 2) := by decide +kernel
theorem dX0_copyFrom_99 : decode cX0_copyFrom 99 = .ok (.invokestatic 54, 3) := by decide +kernel
theorem dX0_copyFrom_102 : decode cX0_copyFrom 102 = .ok (.aload_n 1, 1) := by decide +kernel
theorem dX0_copyFrom_103 : decode cX0_copyFrom 103 = .ok (.getfield 18, 3) := by decide +kernel
theorem dX0_copyFrom_106 : decode cX0_copyFrom 106 = .ok (.iconst 0, 1) := by decide +kernel
theorem dX0_copyFrom_107 : decode cX0_copyFrom 107 = .ok (.aload_n 0, 1) := by decide +kernel
theorem dX0_copyFrom_108 : decode cX0_copyFrom 108 = .ok (.getfield 18, 3) := by decide +kernel
theorem dX0_copyFrom_111 : decode cX0_copyFrom 111 = .ok (.iconst 0, 1) := by decide +kernel
theorem dX0_copyFrom_112 : decode cX0_copyFrom 112 = .ok (.bipush 40, 2) := by decide +kernel
theorem dX0_copyFrom_114 : decode cX0_copyFrom 114 = .ok (.invokestatic 54, 3) := by decide +kernel
theorem dX0_copyFrom_117 : decode cX0_copyFrom 117 = .ok (.aload_n 1, 1) := by decide +kernel
theorem dX0_copyFrom_118 : decode cX0_copyFrom 118 = .ok (.getfield 21, 3) := by decide +kernel
theorem dX0_copyFrom_121 : decode cX0_copyFrom 121 = .ok (.iconst 0, 1) := by decide +kernel
theorem dX0_copyFrom_122 : decode cX0_copyFrom 122 = .ok (.aload_n 0, 1) := by decide +kernel
theorem dX0_copyFrom_123 : decode cX0_copyFrom 123 = .ok (.getfield 21, 3) := by decide +kernel
theorem dX0_copyFrom_126 : decode cX0_copyFrom 126 = .ok (.iconst 0, 1) := by decide +kernel
theorem dX0_copyFrom_127 : decode cX0_copyFrom 127 = .ok (.bipush 40, 2) := by decide +kernel
theorem dX0_copyFrom_129 : decode cX0_copyFrom 129 = .ok (.invokestatic 54, 3) := by decide +kernel
theorem dX0_copyFrom_132 : decode cX0_copyFrom 132 = .ok (.return_, 1) := by decide +kernel
set_option maxRecDepth 20000 in
theorem ggX0_layOut_X0_clear : GoodIn wsX0_layOut wsX0_clear := goodIn_r _ [12, 1, 2, 3, 13, 5, 14, 6, 7, 15, 27, 28, 29, 30, 31, 32, 33, 34, 35, 36, 37, 38, 39] (by decide +kernel) (by decide +kernel)
set_option maxRecDepth 20000 in
theorem gX0_layOut_X0_clear : GoodIn wsX0_layOut (wsV RX0 60 RX0 yX0_clear wsX0_clear) := goodIn_app (goodIn_of _ (by decide +kernel)) ggX0_layOut_X0_clear
set_option maxRecDepth 20000 in
theorem ggX0_layOut_X0_layField : GoodIn wsX0_layOut wsX0_layField := goodIn_r _ [19, 1, 2, 14, 6, 7, 27, 28, 29, 30, 31, 32, 33, 34, 35, 36, 37, 38, 39] (by decide +kernel) (by decide +kernel)
set_option maxRecDepth 20000 in
theorem gX0_layOut_X0_layField : GoodIn wsX0_layOut (wsV RX0 63 RX0 yX0_layField wsX0_layField) := goodIn_app (goodIn_of _ (by decide +kernel)) ggX0_layOut_X0_layField
set_option maxRecDepth 20000 in
theorem ggX0_layOut_X0_addEdge : GoodIn wsX0_layOut wsX0_addEdge := goodIn_r _ [23, 13, 24, 25, 26, 27, 28, 29, 30, 31, 32, 33, 34, 35, 36, 37, 38, 39] (by decide +kernel) (by decide +kernel)
set_option maxRecDepth 20000 in
theorem gX0_layOut_X0_addEdge : GoodIn wsX0_layOut (wsV RX0 67 RX0 yX0_addEdge wsX0_addEdge) := goodIn_app (goodIn_of _ (by decide +kernel)) ggX0_layOut_X0_addEdge
theorem dX0_layOut_0 : decode cX0_layOut 0 = .ok (.aload_n 0, 1) := by decide +kernel
theorem dX0_layOut_1 : decode cX0_layOut 1 = .ok (.invokevirtual 60, 3) := by decide +kernel
theorem dX0_layOut_4 : decode cX0_layOut 4 = .ok (.aload_n 0, 1) := by decide +kernel
theorem dX0_layOut_5 : decode cX0_layOut 5 = .ok (.iload_n 1, 1) := by decide +kernel
theorem dX0_layOut_6 : decode cX0_layOut 6 = .ok (.putfield 25, 3) := by decide +kernel
theorem dX0_layOut_9 : decode cX0_layOut 9 = .ok (.aload_n 0, 1) := by decide +kernel
theorem dX0_layOut_10 : decode cX0_layOut 10 = .ok (.iload_n 2, 1) := by decide +kernel
theorem dX0_layOut_11 : decode cX0_layOut 11 = .ok (.putfield 29, 3) := by decide +kernel
theorem dX0_layOut_14 : decode cX0_layOut 14 = .ok (.aload_n 0, 1) := by decide +kernel
theorem dX0_layOut_15 : decode cX0_layOut 15 = .ok (.iload_n 1, 1) := by decide +kernel
theorem dX0_layOut_16 : decode cX0_layOut 16 = .ok (.iload_n 2, 1) := by decide +kernel
theorem dX0_layOut_17 : decode cX0_layOut 17 = .ok (.imul, 1) := by decide +kernel
theorem dX0_layOut_18 : decode cX0_layOut 18 = .ok (.putfield 32, 3) := by decide +kernel
theorem dX0_layOut_21 : decode cX0_layOut 21 = .ok (.iconst 0, 1) := by decide +kernel
theorem dX0_layOut_22 : decode cX0_layOut 22 = .ok (.istore 4, 2) := by decide +kernel
theorem dX0_layOut_24 : decode cX0_layOut 24 = .ok (.iload 4, 2) := by decide +kernel
theorem dX0_layOut_26 : decode cX0_layOut 26 = .ok (.aload_n 0, 1) := by decide +kernel
theorem dX0_layOut_27 : decode cX0_layOut 27 = .ok (.getfield 32, 3) := by decide +kernel
theorem dX0_layOut_30 : decode cX0_layOut 30 = .ok (.if_icmp .ge 37, 3) := by decide +kernel
theorem dX0_layOut_33 : decode cX0_layOut 33 = .ok (.iload 4, 2) := by decide +kernel
theorem dX0_layOut_35 : decode cX0_layOut 35 = .ok (.bipush 25, 2) := by decide +kernel
theorem dX0_layOut_37 : decode cX0_layOut 37 = .ok (.if_icmp .ge 30, 3) := by decide +kernel
theorem dX0_layOut_40 : decode cX0_layOut 40 = .ok (.aload_n 0, 1) := by decide +kernel
theorem dX0_layOut_41 : decode cX0_layOut 41 = .ok (.getfield 9, 3) := by decide +kernel
theorem dX0_layOut_44 : decode cX0_layOut 44 = .ok (.iload 4, 2) := by decide +kernel
theorem dX0_layOut_46 : decode cX0_layOut 46 = .ok (.iload_n 3, 1) := by decide +kernel
theorem dX0_layOut_47 : decode cX0_layOut 47 = .ok (.iastore, 1) := by decide +kernel
theorem dX0_layOut_48 : decode cX0_layOut 48 = .ok (.aload_n 0, 1) := by decide +kernel
theorem dX0_layOut_49 : decode cX0_layOut 49 = .ok (.dup, 1) := by decide +kernel
theorem dX0_layOut_50 : decode cX0_layOut 50 = .ok (.getfield 38, 3) := by decide +kernel
theorem dX0_layOut_53 : decode cX0_layOut 53 = .ok (.iconst 1, 1) := by decide +kernel
theorem dX0_layOut_54 : decode cX0_layOut 54 = .ok (.iload 4, 2) := by decide +kernel
theorem dX0_layOut_56 : decode cX0_layOut 56 = .ok (.ishl, 1) := by decide +kernel
theorem dX0_layOut_57 : decode cX0_layOut 57 = .ok (.ior, 1) := by decide +kernel
theorem dX0_layOut_58 : decode cX0_layOut 58 = .ok (.putfield 38, 3) := by decide +kernel
theorem dX0_layOut_61 : decode cX0_layOut 61 = .ok (.iinc 4 1, 3) := by decide +kernel
theorem dX0_layOut_64 : decode cX0_layOut 64 = .ok (.goto (-40), 3) := by decide +kernel
theorem dX0_layOut_67 : decode cX0_layOut 67 = .ok (.iconst 0, 1) := by decide +kernel
theorem dX0_layOut_68 : decode cX0_layOut 68 = .ok (.istore 4, 2) := by decide +kernel
theorem dX0_layOut_70 : decode cX0_layOut 70 = .ok (.iload 4, 2) := by decide +kernel
theorem dX0_layOut_72 : decode cX0_layOut 72 = .ok (.iload_n 2, 1) := by decide +kernel
theorem dX0_layOut_73 : decode cX0_layOut 73 = .ok (.if_icmp .ge 32, 3) := by decide +kernel
theorem dX0_layOut_76 : decode cX0_layOut 76 = .ok (.iconst 0, 1) := by decide +kernel
theorem dX0_layOut_77 : decode cX0_layOut 77 = .ok (.istore 5, 2) := by decide +kernel
theorem dX0_layOut_79 : decode cX0_layOut 79 = .ok (.iload 5, 2) := by decide +kernel
theorem dX0_layOut_81 : decode cX0_layOut 81 = .ok (.iload_n 1, 1) := by decide +kernel
theorem dX0_layOut_82 : decode cX0_layOut 82 = .ok (.if_icmp .ge 17, 3) := by decide +kernel
theorem dX0_layOut_85 : decode cX0_layOut 85 = .ok (.aload_n 0, 1) := by decide +kernel
theorem dX0_layOut_86 : decode cX0_layOut 86 = .ok (.iload 5, 2) := by decide +kernel
theorem dX0_layOut_88 : decode cX0_layOut 88 = .ok (.iload 4, 2) := by decide +kernel
theorem dX0_layOut_90 : decode cX0_layOut 90 = .ok (.invokevirtual 63, 3) := by decide +kernel
theorem dX0_layOut_93 : decode cX0_layOut 93 = .ok (.iinc 5 1, 3) := by decide +kernel
theorem dX0_layOut_96 : decode cX0_layOut 96 = .ok (.goto (-17), 3) := by decide +kernel
theorem dX0_layOut_99 : decode cX0_layOut 99 = .ok (.iinc 4 1, 3) := by decide +kernel
theorem dX0_layOut_102 : decode cX0_layOut 102 = .ok (.goto (-32), 3) := by decide +kernel
theorem dX0_layOut_105 : decode cX0_layOut 105 = .ok (.iconst 0, 1) := by decide +kernel
theorem dX0_layOut_106 : decode cX0_layOut 106 = .ok (.istore 4, 2) := by decide +kernel
theorem dX0_layOut_108 : decode cX0_layOut 108 = .ok (.iload 4, 2) := by decide +kernel
theorem dX0_layOut_110 : decode cX0_layOut 110 = .ok (.aload_n 0, 1) := by decide +kernel
theorem dX0_layOut_111 : decode cX0_layOut 111 = .ok (.getfield 32, 3) := by decide +kernel
theorem dX0_layOut_114 : decode cX0_layOut 114 = .ok (.if_icmp .ge 35, 3) := by decide +kernel
theorem dX0_layOut_117 : decode cX0_layOut 117 = .ok (.aload_n 0, 1) := by decide +kernel
theorem dX0_layOut_118 : decode cX0_layOut 118 = .ok (.getfield 44, 3) := by decide +kernel
theorem dX0_layOut_121 : decode cX0_layOut 121 = .ok (.iconst 1, 1) := by decide +kernel
theorem dX0_layOut_122 : decode cX0_layOut 122 = .ok (.iload 4, 2) := by decide +kernel
theorem dX0_layOut_124 : decode cX0_layOut 124 = .ok (.ishl, 1) := by decide +kernel
theorem dX0_layOut_125 : decode cX0_layOut 125 = .ok (.iand, 1) := by decide +kernel
theorem dX0_layOut_126 : decode cX0_layOut 126 = .ok (.ifCond .eq 17, 3) := by decide +kernel
theorem dX0_layOut_129 : decode cX0_layOut 129 = .ok (.aload_n 0, 1) := by decide +kernel
theorem dX0_layOut_130 : decode cX0_layOut 130 = .ok (.iload 4, 2) := by decide +kernel
theorem dX0_layOut_132 : decode cX0_layOut 132 = .ok (.iload 4, 2) := by decide +kernel
theorem dX0_layOut_134 : decode cX0_layOut 134 = .ok (.iconst 1, 1) := by decide +kernel
theorem dX0_layOut_135 : decode cX0_layOut 135 = .ok (.iadd, 1) := by decide +kernel
theorem dX0_layOut_136 : decode cX0_layOut 136 = .ok (.lconst 1, 1) := by decide +kernel
theorem dX0_layOut_137 : decode cX0_layOut 137 = .ok (.iload 4, 2) := by decide +kernel
theorem dX0_layOut_139 : decode cX0_layOut 139 = .ok (.lshl, 1) := by decide +kernel
theorem dX0_layOut_140 : decode cX0_layOut 140 = .ok (.invokevirtual 67, 3) := by decide +kernel
theorem dX0_layOut_143 : decode cX0_layOut 143 = .ok (.iinc 4 1, 3) := by decide +kernel
theorem dX0_layOut_146 : decode cX0_layOut 146 = .ok (.goto (-38), 3) := by decide +kernel
theorem dX0_layOut_149 : decode cX0_layOut 149 = .ok (.iconst 0, 1) := by decide +kernel
theorem dX0_layOut_150 : decode cX0_layOut 150 = .ok (.istore 4, 2) := by decide +kernel
theorem dX0_layOut_152 : decode cX0_layOut 152 = .ok (.iload 4, 2) := by decide +kernel
theorem dX0_layOut_154 : decode cX0_layOut 154 = .ok (.aload_n 0, 1) := by decide +kernel
theorem dX0_layOut_155 : decode cX0_layOut 155 = .ok (.getfield 32, 3) := by decide +kernel
theorem dX0_layOut_158 : decode cX0_layOut 158 = .ok (.if_icmp .ge 38, 3) := by decide +kernel
theorem dX0_layOut_161 : decode cX0_layOut 161 = .ok (.aload_n 0, 1) := by decide +kernel
theorem dX0_layOut_162 : decode cX0_layOut 162 = .ok (.getfield 47, 3) := by decide +kernel
theorem dX0_layOut_165 : decode cX0_layOut 165 = .ok (.iconst 1, 1) := by decide +kernel
theorem dX0_layOut_166 : decode cX0_layOut 166 = .ok (.iload 4, 2) := by decide +kernel
theorem dX0_layOut_168 : decode cX0_layOut 168 = .ok (.ishl, 1) := by decide +kernel
theorem dX0_layOut_169 : decode cX0_layOut 169 = .ok (.iand, 1) := by decide +kernel
theorem dX0_layOut_170 : decode cX0_layOut 170 = .ok (.ifCond .eq 20, 3) := by decide +kernel
theorem dX0_layOut_173 : decode cX0_layOut 173 = .ok (.aload_n 0, 1) := by decide +kernel
theorem dX0_layOut_174 : decode cX0_layOut 174 = .ok (.iload 4, 2) := by decide +kernel
theorem dX0_layOut_176 : decode cX0_layOut 176 = .ok (.iload 4, 2) := by decide +kernel
theorem dX0_layOut_178 : decode cX0_layOut 178 = .ok (.iload_n 1, 1) := by decide +kernel
theorem dX0_layOut_179 : decode cX0_layOut 179 = .ok (.iadd, 1) := by decide +kernel
theorem dX0_layOut_180 : decode cX0_layOut 180 = .ok (.lconst 1, 1) := by decide +kernel
theorem dX0_layOut_181 : decode cX0_layOut 181 = .ok (.bipush 32, 2) := by decide +kernel
theorem dX0_layOut_183 : decode cX0_layOut 183 = .ok (.iload 4, 2) := by decide +kernel
theorem dX0_layOut_185 : decode cX0_layOut 185 = .ok (.iadd, 1) := by decide +kernel
theorem dX0_layOut_186 : decode cX0_layOut 186 = .ok (.lshl, 1) := by decide +kernel
theorem dX0_layOut_187 : decode cX0_layOut 187 = .ok (.invokevirtual 67, 3) := by decide +kernel
theorem dX0_layOut_190 : decode cX0_layOut 190 = .ok (.iinc 4 1, 3) := by decide +kernel
theorem dX0_layOut_193 : decode cX0_layOut 193 = .ok (.goto (-41), 3) := by decide +kernel
theorem dX0_layOut_196 : decode cX0_layOut 196 = .ok (.return_, 1) := by decide +kernel
theorem dX0_layField_0 : decode cX0_layField 0 = .ok (.iconst 1, 1) := by decide +kernel
theorem dX0_layField_1 : decode cX0_layField 1 = .ok (.iload_n 2, 1) := by decide +kernel
theorem dX0_layField_2 : decode cX0_layField 2 = .ok (.aload_n 0, 1) := by decide +kernel
theorem dX0_layField_3 : decode cX0_layField 3 = .ok (.getfield 25, 3) := by decide +kernel
theorem dX0_layField_6 : decode cX0_layField 6 = .ok (.imul, 1) := by decide +kernel
theorem dX0_layField_7 : decode cX0_layField 7 = .ok (.iload_n 1, 1) := by decide +kernel
theorem dX0_layField_8 : decode cX0_layField 8 = .ok (.iadd, 1) := by decide +kernel
theorem dX0_layField_9 : decode cX0_layField 9 = .ok (.ishl, 1) := by decide +kernel
theorem dX0_layField_10 : decode cX0_layField 10 = .ok (.istore_n 3, 1) := by decide +kernel
theorem dX0_layField_11 : decode cX0_layField 11 = .ok (.iload_n 1, 1) := by decide +kernel
theorem dX0_layField_12 : decode cX0_layField 12 = .ok (.ifCond .eq 27, 3) := by decide +kernel
theorem dX0_layField_15 : decode cX0_layField 15 = .ok (.iload_n 2, 1) := by decide +kernel
theorem dX0_layField_16 : decode cX0_layField 16 = .ok (.ifCond .eq 23, 3) := by decide +kernel
theorem dX0_layField_19 : decode cX0_layField 19 = .ok (.iload_n 1, 1) := by decide +kernel
theorem dX0_layField_20 : decode cX0_layField 20 = .ok (.aload_n 0, 1) := by decide +kernel
theorem dX0_layField_21 : decode cX0_layField 21 = .ok (.getfield 25, 3) := by decide +kernel
theorem dX0_layField_24 : decode cX0_layField 24 = .ok (.iconst 1, 1) := by decide +kernel
theorem dX0_layField_25 : decode cX0_layField 25 = .ok (.isub, 1) := by decide +kernel
theorem dX0_layField_26 : decode cX0_layField 26 = .ok (.if_icmp .eq 13, 3) := by decide +kernel
theorem dX0_layField_29 : decode cX0_layField 29 = .ok (.iload_n 2, 1) := by decide +kernel
theorem dX0_layField_30 : decode cX0_layField 30 = .ok (.aload_n 0, 1) := by decide +kernel
theorem dX0_layField_31 : decode cX0_layField 31 = .ok (.getfield 29, 3) := by decide +kernel
theorem dX0_layField_34 : decode cX0_layField 34 = .ok (.iconst 1, 1) := by decide +kernel
theorem dX0_layField_35 : decode cX0_layField 35 = .ok (.isub, 1) := by decide +kernel
theorem dX0_layField_36 : decode cX0_layField 36 = .ok (.if_icmp .ne 13, 3) := by decide +kernel
theorem dX0_layField_39 : decode cX0_layField 39 = .ok (.aload_n 0, 1) := by decide +kernel
theorem dX0_layField_40 : decode cX0_layField 40 = .ok (.dup, 1) := by decide +kernel
theorem dX0_layField_41 : decode cX0_layField 41 = .ok (.getfield 41, 3) := by decide +kernel
theorem dX0_layField_44 : decode cX0_layField 44 = .ok (.iload_n 3, 1) := by decide +kernel
theorem dX0_layField_45 : decode cX0_layField 45 = .ok (.ior, 1) := by decide +kernel
theorem dX0_layField_46 : decode cX0_layField 46 = .ok (.putfield 41, 3) := by decide +kernel
theorem dX0_layField_49 : decode cX0_layField 49 = .ok (.iload_n 1, 1) := by decide +kernel
theorem dX0_layField_50 : decode cX0_layField 50 = .ok (.aload_n 0, 1) := by decide +kernel
theorem dX0_layField_51 : decode cX0_layField 51 = .ok (.getfield 25, 3) := by decide +kernel
theorem dX0_layField_54 : decode cX0_layField 54 = .ok (.iconst 1, 1) := by decide +kernel
theorem dX0_layField_55 : decode cX0_layField 55 = .ok (.isub, 1) := by decide +kernel
theorem dX0_layField_56 : decode cX0_layField 56 = .ok (.if_icmp .ge 13, 3) := by decide +kernel
theorem dX0_layField_59 : decode cX0_layField 59 = .ok (.aload_n 0, 1) := by decide +kernel
theorem dX0_layField_60 : decode cX0_layField 60 = .ok (.dup, 1) := by decide +kernel
theorem dX0_layField_61 : decode cX0_layField 61 = .ok (.getfield 44, 3) := by decide +kernel
theorem dX0_layField_64 : decode cX0_layField 64 = .ok (.iload_n 3, 1) := by decide +kernel
theorem dX0_layField_65 : decode cX0_layField 65 = .ok (.ior, 1) := by decide +kernel
theorem dX0_layField_66 : decode cX0_layField 66 = .ok (.putfield 44, 3) := by decide +kernel
theorem dX0_layField_69 : decode cX0_layField 69 = .ok (.iload_n 2, 1) := by decide +kernel
theorem dX0_layField_70 : decode cX0_layField 70 = .ok (.aload_n 0, 1) := by decide +kernel
theorem dX0_layField_71 : decode cX0_layField 71 = .ok (.getfield 29, 3) := by decide +kernel
theorem dX0_layField_74 : decode cX0_layField 74 = .ok (.iconst 1, 1) := by decide +kernel
theorem dX0_layField_75 : decode cX0_layField 75 = .ok (.isub, 1) := by decide +kernel
theorem dX0_layField_76 : decode cX0_layField 76 = .ok (.if_icmp .ge 13, 3) := by decide +kernel
theorem dX0_layField_79 : decode cX0_layField 79 = .ok (.aload_n 0, 1) := by decide +kernel
theorem dX0_layField_80 : decode cX0_layField 80 = .ok (.dup, 1) := by decide +kernel
theorem dX0_layField_81 : decode cX0_layField 81 = .ok (.getfield 47, 3) := by decide +kernel
theorem dX0_layField_84 : decode cX0_layField 84 = .ok (.iload_n 3, 1) := by decide +kernel
theorem dX0_layField_85 : decode cX0_layField 85 = .ok (.ior, 1) := by decide +kernel
theorem dX0_layField_86 : decode cX0_layField 86 = .ok (.putfield 47, 3) := by decide +kernel
theorem dX0_layField_89 : decode cX0_layField 89 = .ok (.return_, 1) := by decide +kernel
theorem dX0_addEdge_0 : decode cX0_addEdge 0 = .ok (.aload_n 0, 1) := by decide +kernel
theorem dX0_addEdge_1 : decode cX0_addEdge 1 = .ok (.getfield 35, 3) := by decide +kernel
theorem dX0_addEdge_4 : decode cX0_addEdge 4 = .ok (.bipush 40, 2) := by decide +kernel
theorem dX0_addEdge_6 : decode cX0_addEdge 6 = .ok (.if_icmp .ge 43, 3) := by decide +kernel
theorem dX0_addEdge_9 : decode cX0_addEdge 9 = .ok (.aload_n 0, 1) := by decide +kernel
theorem dX0_addEdge_10 : decode cX0_addEdge 10 = .ok (.getfield 15, 3) := by decide +kernel
theorem dX0_addEdge_13 : decode cX0_addEdge 13 = .ok (.aload_n 0, 1) := by decide +kernel
theorem dX0_addEdge_14 : decode cX0_addEdge 14 = .ok (.getfield 35, 3) := by decide +kernel
theorem dX0_addEdge_17 : decode cX0_addEdge 17 = .ok (.iload_n 1, 1) := by decide +kernel
theorem dX0_addEdge_18 : decode cX0_addEdge 18 = .ok (.iastore, 1) := by decide +kernel
theorem dX0_addEdge_19 : decode cX0_addEdge 19 = .ok (.aload_n 0, 1) := by decide +kernel
theorem dX0_addEdge_20 : decode cX0_addEdge 20 = .ok (.getfield 18, 3) := by decide +kernel
theorem dX0_addEdge_23 : decode cX0_addEdge 23 = .ok (.aload_n 0, 1) := by decide +kernel
theorem dX0_addEdge_24 : decode cX0_addEdge 24 = .ok (.getfield 35, 3) := by decide +kernel
theorem dX0_addEdge_27 : decode cX0_addEdge 27 = .ok (.iload_n 2, 1) := by decide +kernel
theorem dX0_addEdge_28 : decode cX0_addEdge 28 = .ok (.iastore, 1) := by decide +kernel
theorem dX0_addEdge_29 : decode cX0_addEdge 29 = .ok (.aload_n 0, 1) := by decide +kernel
theorem dX0_addEdge_30 : decode cX0_addEdge 30 = .ok (.getfield 21, 3) := by decide +kernel
theorem dX0_addEdge_33 : decode cX0_addEdge 33 = .ok (.aload_n 0, 1) := by decide +kernel
theorem dX0_addEdge_34 : decode cX0_addEdge 34 = .ok (.getfield 35, 3) := by decide +kernel
theorem dX0_addEdge_37 : decode cX0_addEdge 37 = .ok (.lload_n 3, 1) := by decide +kernel
theorem dX0_addEdge_38 : decode cX0_addEdge 38 = .ok (.lastore, 1) := by decide +kernel
theorem dX0_addEdge_39 : decode cX0_addEdge 39 = .ok (.aload_n 0, 1) := by decide +kernel
theorem dX0_addEdge_40 : decode cX0_addEdge 40 = .ok (.dup, 1) := by decide +kernel
theorem dX0_addEdge_41 : decode cX0_addEdge 41 = .ok (.getfield 35, 3) := by decide +kernel
theorem dX0_addEdge_44 : decode cX0_addEdge 44 = .ok (.iconst 1, 1) := by decide +kernel
theorem dX0_addEdge_45 : decode cX0_addEdge 45 = .ok (.iadd, 1) := by decide +kernel
theorem dX0_addEdge_46 : decode cX0_addEdge 46 = .ok (.putfield 35, 3) := by decide +kernel
theorem dX0_addEdge_49 : decode cX0_addEdge 49 = .ok (.return_, 1) := by decide +kernel
theorem dX0_hasField_0 : decode cX0_hasField 0 = .ok (.iload_n 1, 1) := by decide +kernel
theorem dX0_hasField_1 : decode cX0_hasField 1 = .ok (.ifCond .lt 15, 3) := by decide +kernel
theorem dX0_hasField_4 : decode cX0_hasField 4 = .ok (.iload_n 1, 1) := by decide +kernel
theorem dX0_hasField_5 : decode cX0_hasField 5 = .ok (.aload_n 0, 1) := by decide +kernel
theorem dX0_hasField_6 : decode cX0_hasField 6 = .ok (.getfield 32, 3) := by decide +kernel
theorem dX0_hasField_9 : decode cX0_hasField 9 = .ok (.if_icmp .ge 7, 3) := by decide +kernel
theorem dX0_hasField_12 : decode cX0_hasField 12 = .ok (.iconst 1, 1) := by decide +kernel
theorem dX0_hasField_13 : decode cX0_hasField 13 = .ok (.goto 4, 3) := by decide +kernel
theorem dX0_hasField_16 : decode cX0_hasField 16 = .ok (.iconst 0, 1) := by decide +kernel
theorem dX0_hasField_17 : decode cX0_hasField 17 = .ok (.ireturn, 1) := by decide +kernel
theorem dX0_hasEdge_0 : decode cX0_hasEdge 0 = .ok (.iload_n 1, 1) := by decide +kernel
theorem dX0_hasEdge_1 : decode cX0_hasEdge 1 = .ok (.ifCond .lt 15, 3) := by decide +kernel
theorem dX0_hasEdge_4 : decode cX0_hasEdge 4 = .ok (.iload_n 1, 1) := by decide +kernel
theorem dX0_hasEdge_5 : decode cX0_hasEdge 5 = .ok (.aload_n 0, 1) := by decide +kernel
theorem dX0_hasEdge_6 : decode cX0_hasEdge 6 = .ok (.getfield 35, 3) := by decide +kernel
theorem dX0_hasEdge_9 : decode cX0_hasEdge 9 = .ok (.if_icmp .ge 7, 3) := by decide +kernel
theorem dX0_hasEdge_12 : decode cX0_hasEdge 12 = .ok (.iconst 1, 1) := by decide +kernel
theorem dX0_hasEdge_13 : decode cX0_hasEdge 13 = .ok (.goto 4, 3) := by decide +kernel
theorem dX0_hasEdge_16 : decode cX0_hasEdge 16 = .ok (.iconst 0, 1) := by decide +kernel
theorem dX0_hasEdge_17 : decode cX0_hasEdge 17 = .ok (.ireturn, 1) := by decide +kernel
theorem dX0_growthOn_0 : decode cX0_growthOn 0 = .ok (.iconst 2, 1) := by decide +kernel
theorem dX0_growthOn_1 : decode cX0_growthOn 1 = .ok (.aload_n 0, 1) := by decide +kernel
theorem dX0_growthOn_2 : decode cX0_growthOn 2 = .ok (.getfield 9, 3) := by decide +kernel
theorem dX0_growthOn_5 : decode cX0_growthOn 5 = .ok (.aload_n 0, 1) := by decide +kernel
theorem dX0_growthOn_6 : decode cX0_growthOn 6 = .ok (.getfield 15, 3) := by decide +kernel
theorem dX0_growthOn_9 : decode cX0_growthOn 9 = .ok (.iload_n 1, 1) := by decide +kernel
theorem dX0_growthOn_10 : decode cX0_growthOn 10 = .ok (.iaload, 1) := by decide +kernel
theorem dX0_growthOn_11 : decode cX0_growthOn 11 = .ok (.iaload, 1) := by decide +kernel
theorem dX0_growthOn_12 : decode cX0_growthOn 12 = .ok (.aload_n 0, 1) := by decide +kernel
theorem dX0_growthOn_13 : decode cX0_growthOn 13 = .ok (.getfield 9, 3) := by decide +kernel
theorem dX0_growthOn_16 : decode cX0_growthOn 16 = .ok (.aload_n 0, 1) := by decide +kernel
theorem dX0_growthOn_17 : decode cX0_growthOn 17 = .ok (.getfield 18, 3) := by decide +kernel
theorem dX0_growthOn_20 : decode cX0_growthOn 20 = .ok (.iload_n 1, 1) := by decide +kernel
theorem dX0_growthOn_21 : decode cX0_growthOn 21 = .ok (.iaload, 1) := by decide +kernel
theorem dX0_growthOn_22 : decode cX0_growthOn 22 = .ok (.iaload, 1) := by decide +kernel
theorem dX0_growthOn_23 : decode cX0_growthOn 23 = .ok (.iadd, 1) := by decide +kernel
theorem dX0_growthOn_24 : decode cX0_growthOn 24 = .ok (.iconst 4, 1) := by decide +kernel
theorem dX0_growthOn_25 : decode cX0_growthOn 25 = .ok (.idiv, 1) := by decide +kernel
theorem dX0_growthOn_26 : decode cX0_growthOn 26 = .ok (.iadd, 1) := by decide +kernel
theorem dX0_growthOn_27 : decode cX0_growthOn 27 = .ok (.ireturn, 1) := by decide +kernel
set_option maxRecDepth 20000 in
theorem ggX0_heightOn_X0_growthOn : GoodIn wsX0_heightOn wsX0_growthOn := goodIn_r _ [9, 10, 11, 12, 13, 14, 15, 16, 17, 18, 19, 20, 21, 22, 23, 24, 25] (by decide +kernel) (by decide +kernel)
set_option maxRecDepth 20000 in
theorem gX0_heightOn_X0_growthOn : GoodIn wsX0_heightOn (wsV RX0 71 RX0 yX0_growthOn wsX0_growthOn) := goodIn_app (goodIn_of _ (by decide +kernel)) ggX0_heightOn_X0_growthOn
theorem dX0_heightOn_0 : decode cX0_heightOn 0 = .ok (.bipush 99, 2) := by decide +kernel
theorem dX0_heightOn_2 : decode cX0_heightOn 2 = .ok (.iload_n 2, 1) := by decide +kernel
theorem dX0_heightOn_3 : decode cX0_heightOn 3 = .ok (.aload_n 0, 1) := by decide +kernel
theorem dX0_heightOn_4 : decode cX0_heightOn 4 = .ok (.iload_n 1, 1) := by decide +kernel
theorem dX0_heightOn_5 : decode cX0_heightOn 5 = .ok (.invokevirtual 71, 3) := by decide +kernel
theorem dX0_heightOn_8 : decode cX0_heightOn 8 = .ok (.imul, 1) := by decide +kernel
theorem dX0_heightOn_9 : decode cX0_heightOn 9 = .ok (.invokestatic 75, 3) := by decide +kernel
theorem dX0_heightOn_12 : decode cX0_heightOn 12 = .ok (.ireturn, 1) := by decide +kernel
set_option maxRecDepth 20000 in
theorem ggX0_ageWhenTall_X0_growthOn : GoodIn wsX0_ageWhenTall wsX0_growthOn := goodIn_r _ [5, 6, 7, 8, 9, 10, 11, 12, 13, 14, 15, 16, 17, 18, 19, 20, 21] (by decide +kernel) (by decide +kernel)
set_option maxRecDepth 20000 in
theorem gX0_ageWhenTall_X0_growthOn : GoodIn wsX0_ageWhenTall (wsV RX0 71 RX0 yX0_growthOn wsX0_growthOn) := goodIn_app (goodIn_of _ (by decide +kernel)) ggX0_ageWhenTall_X0_growthOn
theorem dX0_ageWhenTall_0 : decode cX0_ageWhenTall 0 = .ok (.aload_n 0, 1) := by decide +kernel
theorem dX0_ageWhenTall_1 : decode cX0_ageWhenTall 1 = .ok (.iload_n 1, 1) := by decide +kernel
theorem dX0_ageWhenTall_2 : decode cX0_ageWhenTall 2 = .ok (.invokevirtual 71, 3) := by decide +kernel
theorem dX0_ageWhenTall_5 : decode cX0_ageWhenTall 5 = .ok (.istore_n 2, 1) := by decide +kernel
theorem dX0_ageWhenTall_6 : decode cX0_ageWhenTall 6 = .ok (.iconst 0, 1) := by decide +kernel
theorem dX0_ageWhenTall_7 : decode cX0_ageWhenTall 7 = .ok (.istore_n 3, 1) := by decide +kernel
theorem dX0_ageWhenTall_8 : decode cX0_ageWhenTall 8 = .ok (.iload_n 3, 1) := by decide +kernel
theorem dX0_ageWhenTall_9 : decode cX0_ageWhenTall 9 = .ok (.bipush 12, 2) := by decide +kernel
theorem dX0_ageWhenTall_11 : decode cX0_ageWhenTall 11 = .ok (.if_icmp .ge 17, 3) := by decide +kernel
theorem dX0_ageWhenTall_14 : decode cX0_ageWhenTall 14 = .ok (.iload_n 3, 1) := by decide +kernel
theorem dX0_ageWhenTall_15 : decode cX0_ageWhenTall 15 = .ok (.iload_n 2, 1) := by decide +kernel
theorem dX0_ageWhenTall_16 : decode cX0_ageWhenTall 16 = .ok (.imul, 1) := by decide +kernel
theorem dX0_ageWhenTall_17 : decode cX0_ageWhenTall 17 = .ok (.bipush 12, 2) := by decide +kernel
theorem dX0_ageWhenTall_19 : decode cX0_ageWhenTall 19 = .ok (.if_icmp .ge 9, 3) := by decide +kernel
theorem dX0_ageWhenTall_22 : decode cX0_ageWhenTall 22 = .ok (.iinc 3 1, 3) := by decide +kernel
theorem dX0_ageWhenTall_25 : decode cX0_ageWhenTall 25 = .ok (.goto (-17), 3) := by decide +kernel
theorem dX0_ageWhenTall_28 : decode cX0_ageWhenTall 28 = .ok (.iload_n 3, 1) := by decide +kernel
theorem dX0_ageWhenTall_29 : decode cX0_ageWhenTall 29 = .ok (.ireturn, 1) := by decide +kernel
set_option maxRecDepth 20000 in
theorem ggX0_mostAlikeOn_X0_heightOn : GoodIn wsX0_mostAlikeOn wsX0_heightOn := goodIn_r _ [9, 10, 11, 3, 12, 13, 14, 15, 8, 16, 17, 18, 19, 20, 21, 22, 23, 24, 25, 26, 27, 28, 29, 30, 31, 32] (by decide +kernel) (by decide +kernel)
set_option maxRecDepth 20000 in
theorem gX0_mostAlikeOn_X0_heightOn : GoodIn wsX0_mostAlikeOn (wsV RX0 81 RX0 yX0_heightOn wsX0_heightOn) := goodIn_app (goodIn_of _ (by decide +kernel)) ggX0_mostAlikeOn_X0_heightOn
theorem dX0_mostAlikeOn_0 : decode cX0_mostAlikeOn 0 = .ok (.iconst 0, 1) := by decide +kernel
theorem dX0_mostAlikeOn_1 : decode cX0_mostAlikeOn 1 = .ok (.istore_n 3, 1) := by decide +kernel
theorem dX0_mostAlikeOn_2 : decode cX0_mostAlikeOn 2 = .ok (.iconst 0, 1) := by decide +kernel
theorem dX0_mostAlikeOn_3 : decode cX0_mostAlikeOn 3 = .ok (.istore 4, 2) := by decide +kernel
theorem dX0_mostAlikeOn_5 : decode cX0_mostAlikeOn 5 = .ok (.iload 4, 2) := by decide +kernel
theorem dX0_mostAlikeOn_7 : decode cX0_mostAlikeOn 7 = .ok (.bipush 20, 2) := by decide +kernel
theorem dX0_mostAlikeOn_9 : decode cX0_mostAlikeOn 9 = .ok (.if_icmp .gt 64, 3) := by decide +kernel
theorem dX0_mostAlikeOn_12 : decode cX0_mostAlikeOn 12 = .ok (.iconst 0, 1) := by decide +kernel
theorem dX0_mostAlikeOn_13 : decode cX0_mostAlikeOn 13 = .ok (.istore 5, 2) := by decide +kernel
theorem dX0_mostAlikeOn_15 : decode cX0_mostAlikeOn 15 = .ok (.iconst 0, 1) := by decide +kernel
theorem dX0_mostAlikeOn_16 : decode cX0_mostAlikeOn 16 = .ok (.istore 6, 2) := by decide +kernel
theorem dX0_mostAlikeOn_18 : decode cX0_mostAlikeOn 18 = .ok (.iload 6, 2) := by decide +kernel
theorem dX0_mostAlikeOn_20 : decode cX0_mostAlikeOn 20 = .ok (.bipush 20, 2) := by decide +kernel
theorem dX0_mostAlikeOn_22 : decode cX0_mostAlikeOn 22 = .ok (.if_icmp .gt 38, 3) := by decide +kernel
theorem dX0_mostAlikeOn_25 : decode cX0_mostAlikeOn 25 = .ok (.iload_n 2, 1) := by decide +kernel
theorem dX0_mostAlikeOn_26 : decode cX0_mostAlikeOn 26 = .ok (.iconst 1, 1) := by decide +kernel
theorem dX0_mostAlikeOn_27 : decode cX0_mostAlikeOn 27 = .ok (.iload 6, 2) := by decide +kernel
theorem dX0_mostAlikeOn_29 : decode cX0_mostAlikeOn 29 = .ok (.ishl, 1) := by decide +kernel
theorem dX0_mostAlikeOn_30 : decode cX0_mostAlikeOn 30 = .ok (.iand, 1) := by decide +kernel
theorem dX0_mostAlikeOn_31 : decode cX0_mostAlikeOn 31 = .ok (.ifCond .eq 23, 3) := by decide +kernel
theorem dX0_mostAlikeOn_34 : decode cX0_mostAlikeOn 34 = .ok (.aload_n 0, 1) := by decide +kernel
theorem dX0_mostAlikeOn_35 : decode cX0_mostAlikeOn 35 = .ok (.iload_n 1, 1) := by decide +kernel
theorem dX0_mostAlikeOn_36 : decode cX0_mostAlikeOn 36 = .ok (.iload 4, 2) := by decide +kernel
theorem dX0_mostAlikeOn_38 : decode cX0_mostAlikeOn 38 = .ok (.invokevirtual 81, 3) := by decide +kernel
theorem dX0_mostAlikeOn_41 : decode cX0_mostAlikeOn 41 = .ok (.aload_n 0, 1) := by decide +kernel
theorem dX0_mostAlikeOn_42 : decode cX0_mostAlikeOn 42 = .ok (.iload_n 1, 1) := by decide +kernel
theorem dX0_mostAlikeOn_43 : decode cX0_mostAlikeOn 43 = .ok (.iload 6, 2) := by decide +kernel
theorem dX0_mostAlikeOn_45 : decode cX0_mostAlikeOn 45 = .ok (.invokevirtual 81, 3) := by decide +kernel
theorem dX0_mostAlikeOn_48 : decode cX0_mostAlikeOn 48 = .ok (.if_icmp .ne 6, 3) := by decide +kernel
theorem dX0_mostAlikeOn_51 : decode cX0_mostAlikeOn 51 = .ok (.iinc 5 1, 3) := by decide +kernel
theorem dX0_mostAlikeOn_54 : decode cX0_mostAlikeOn 54 = .ok (.iinc 6 1, 3) := by decide +kernel
theorem dX0_mostAlikeOn_57 : decode cX0_mostAlikeOn 57 = .ok (.goto (-39), 3) := by decide +kernel
theorem dX0_mostAlikeOn_60 : decode cX0_mostAlikeOn 60 = .ok (.iload_n 3, 1) := by decide +kernel
theorem dX0_mostAlikeOn_61 : decode cX0_mostAlikeOn 61 = .ok (.iload 5, 2) := by decide +kernel
theorem dX0_mostAlikeOn_63 : decode cX0_mostAlikeOn 63 = .ok (.invokestatic 84, 3) := by decide +kernel
theorem dX0_mostAlikeOn_66 : decode cX0_mostAlikeOn 66 = .ok (.istore_n 3, 1) := by decide +kernel
theorem dX0_mostAlikeOn_67 : decode cX0_mostAlikeOn 67 = .ok (.iinc 4 1, 3) := by decide +kernel
theorem dX0_mostAlikeOn_70 : decode cX0_mostAlikeOn 70 = .ok (.goto (-65), 3) := by decide +kernel
theorem dX0_mostAlikeOn_73 : decode cX0_mostAlikeOn 73 = .ok (.iload_n 3, 1) := by decide +kernel
theorem dX0_mostAlikeOn_74 : decode cX0_mostAlikeOn 74 = .ok (.ireturn, 1) := by decide +kernel
theorem dX0_oneStepFrom_0 : decode cX0_oneStepFrom 0 = .ok (.aload_n 0, 1) := by decide +kernel
theorem dX0_oneStepFrom_1 : decode cX0_oneStepFrom 1 = .ok (.getfield 44, 3) := by decide +kernel
theorem dX0_oneStepFrom_4 : decode cX0_oneStepFrom 4 = .ok (.lload_n 2, 1) := by decide +kernel
theorem dX0_oneStepFrom_5 : decode cX0_oneStepFrom 5 = .ok (.l2i, 1) := by decide +kernel
theorem dX0_oneStepFrom_6 : decode cX0_oneStepFrom 6 = .ok (.iconst (-1), 1) := by decide +kernel
theorem dX0_oneStepFrom_7 : decode cX0_oneStepFrom 7 = .ok (.ixor, 1) := by decide +kernel
theorem dX0_oneStepFrom_8 : decode cX0_oneStepFrom 8 = .ok (.iand, 1) := by decide +kernel
theorem dX0_oneStepFrom_9 : decode cX0_oneStepFrom 9 = .ok (.istore 4, 2) := by decide +kernel
theorem dX0_oneStepFrom_11 : decode cX0_oneStepFrom 11 = .ok (.aload_n 0, 1) := by decide +kernel
theorem dX0_oneStepFrom_12 : decode cX0_oneStepFrom 12 = .ok (.getfield 47, 3) := by decide +kernel
theorem dX0_oneStepFrom_15 : decode cX0_oneStepFrom 15 = .ok (.lload_n 2, 1) := by decide +kernel
theorem dX0_oneStepFrom_16 : decode cX0_oneStepFrom 16 = .ok (.bipush 32, 2) := by decide +kernel
theorem dX0_oneStepFrom_18 : decode cX0_oneStepFrom 18 = .ok (.lushr, 1) := by decide +kernel
theorem dX0_oneStepFrom_19 : decode cX0_oneStepFrom 19 = .ok (.l2i, 1) := by decide +kernel
theorem dX0_oneStepFrom_20 : decode cX0_oneStepFrom 20 = .ok (.iconst (-1), 1) := by decide +kernel
theorem dX0_oneStepFrom_21 : decode cX0_oneStepFrom 21 = .ok (.ixor, 1) := by decide +kernel
theorem dX0_oneStepFrom_22 : decode cX0_oneStepFrom 22 = .ok (.iand, 1) := by decide +kernel
theorem dX0_oneStepFrom_23 : decode cX0_oneStepFrom 23 = .ok (.istore 5, 2) := by decide +kernel
theorem dX0_oneStepFrom_25 : decode cX0_oneStepFrom 25 = .ok (.iload_n 1, 1) := by decide +kernel
theorem dX0_oneStepFrom_26 : decode cX0_oneStepFrom 26 = .ok (.iload 4, 2) := by decide +kernel
theorem dX0_oneStepFrom_28 : decode cX0_oneStepFrom 28 = .ok (.iand, 1) := by decide +kernel
theorem dX0_oneStepFrom_29 : decode cX0_oneStepFrom 29 = .ok (.iconst 1, 1) := by decide +kernel
theorem dX0_oneStepFrom_30 : decode cX0_oneStepFrom 30 = .ok (.ishl, 1) := by decide +kernel
theorem dX0_oneStepFrom_31 : decode cX0_oneStepFrom 31 = .ok (.iload_n 1, 1) := by decide +kernel
theorem dX0_oneStepFrom_32 : decode cX0_oneStepFrom 32 = .ok (.iconst 1, 1) := by decide +kernel
theorem dX0_oneStepFrom_33 : decode cX0_oneStepFrom 33 = .ok (.iushr, 1) := by decide +kernel
theorem dX0_oneStepFrom_34 : decode cX0_oneStepFrom 34 = .ok (.iload 4, 2) := by decide +kernel
theorem dX0_oneStepFrom_36 : decode cX0_oneStepFrom 36 = .ok (.iand, 1) := by decide +kernel
theorem dX0_oneStepFrom_37 : decode cX0_oneStepFrom 37 = .ok (.ior, 1) := by decide +kernel
theorem dX0_oneStepFrom_38 : decode cX0_oneStepFrom 38 = .ok (.istore 6, 2) := by decide +kernel
theorem dX0_oneStepFrom_40 : decode cX0_oneStepFrom 40 = .ok (.iload_n 1, 1) := by decide +kernel
theorem dX0_oneStepFrom_41 : decode cX0_oneStepFrom 41 = .ok (.iload 5, 2) := by decide +kernel
theorem dX0_oneStepFrom_43 : decode cX0_oneStepFrom 43 = .ok (.iand, 1) := by decide +kernel
theorem dX0_oneStepFrom_44 : decode cX0_oneStepFrom 44 = .ok (.aload_n 0, 1) := by decide +kernel
theorem dX0_oneStepFrom_45 : decode cX0_oneStepFrom 45 = .ok (.getfield 25, 3) := by decide +kernel
theorem dX0_oneStepFrom_48 : decode cX0_oneStepFrom 48 = .ok (.ishl, 1) := by decide +kernel
theorem dX0_oneStepFrom_49 : decode cX0_oneStepFrom 49 = .ok (.iload_n 1, 1) := by decide +kernel
theorem dX0_oneStepFrom_50 : decode cX0_oneStepFrom 50 = .ok (.aload_n 0, 1) := by decide +kernel
theorem dX0_oneStepFrom_51 : decode cX0_oneStepFrom 51 = .ok (.getfield 25, 3) := by decide +kernel
theorem dX0_oneStepFrom_54 : decode cX0_oneStepFrom 54 = .ok (.iushr, 1) := by decide +kernel
theorem dX0_oneStepFrom_55 : decode cX0_oneStepFrom 55 = .ok (.iload 5, 2) := by decide +kernel
theorem dX0_oneStepFrom_57 : decode cX0_oneStepFrom 57 = .ok (.iand, 1) := by decide +kernel
theorem dX0_oneStepFrom_58 : decode cX0_oneStepFrom 58 = .ok (.ior, 1) := by decide +kernel
theorem dX0_oneStepFrom_59 : decode cX0_oneStepFrom 59 = .ok (.istore 7, 2) := by decide +kernel
theorem dX0_oneStepFrom_61 : decode cX0_oneStepFrom 61 = .ok (.iload_n 1, 1) := by decide +kernel
theorem dX0_oneStepFrom_62 : decode cX0_oneStepFrom 62 = .ok (.iload 6, 2) := by decide +kernel
theorem dX0_oneStepFrom_64 : decode cX0_oneStepFrom 64 = .ok (.ior, 1) := by decide +kernel
theorem dX0_oneStepFrom_65 : decode cX0_oneStepFrom 65 = .ok (.iload 7, 2) := by decide +kernel
theorem dX0_oneStepFrom_67 : decode cX0_oneStepFrom 67 = .ok (.ior, 1) := by decide +kernel
theorem dX0_oneStepFrom_68 : decode cX0_oneStepFrom 68 = .ok (.ireturn, 1) := by decide +kernel
set_option maxRecDepth 20000 in
theorem ggX0_landFrom_X0_oneStepFrom : GoodIn wsX0_landFrom wsX0_oneStepFrom := goodIn_r _ [5, 6, 7, 8, 9, 10, 11, 12, 13, 14, 15, 16, 17, 18, 19, 20, 21] (by decide +kernel) (by decide +kernel)
set_option maxRecDepth 20000 in
theorem gX0_landFrom_X0_oneStepFrom : GoodIn wsX0_landFrom (wsV RX0 87 RX0 yX0_oneStepFrom wsX0_oneStepFrom) := goodIn_app (goodIn_of _ (by decide +kernel)) ggX0_landFrom_X0_oneStepFrom
theorem dX0_landFrom_0 : decode cX0_landFrom 0 = .ok (.iload_n 1, 1) := by decide +kernel
theorem dX0_landFrom_1 : decode cX0_landFrom 1 = .ok (.istore 4, 2) := by decide +kernel
theorem dX0_landFrom_3 : decode cX0_landFrom 3 = .ok (.iconst 0, 1) := by decide +kernel
theorem dX0_landFrom_4 : decode cX0_landFrom 4 = .ok (.istore 5, 2) := by decide +kernel
theorem dX0_landFrom_6 : decode cX0_landFrom 6 = .ok (.iload 5, 2) := by decide +kernel
theorem dX0_landFrom_8 : decode cX0_landFrom 8 = .ok (.bipush 25, 2) := by decide +kernel
theorem dX0_landFrom_10 : decode cX0_landFrom 10 = .ok (.if_icmp .ge 32, 3) := by decide +kernel
theorem dX0_landFrom_13 : decode cX0_landFrom 13 = .ok (.aload_n 0, 1) := by decide +kernel
theorem dX0_landFrom_14 : decode cX0_landFrom 14 = .ok (.iload 4, 2) := by decide +kernel
theorem dX0_landFrom_16 : decode cX0_landFrom 16 = .ok (.lload_n 2, 1) := by decide +kernel
theorem dX0_landFrom_17 : decode cX0_landFrom 17 = .ok (.invokevirtual 87, 3) := by decide +kernel
theorem dX0_landFrom_20 : decode cX0_landFrom 20 = .ok (.istore 6, 2) := by decide +kernel
theorem dX0_landFrom_22 : decode cX0_landFrom 22 = .ok (.iload 6, 2) := by decide +kernel
theorem dX0_landFrom_24 : decode cX0_landFrom 24 = .ok (.iload 4, 2) := by decide +kernel
theorem dX0_landFrom_26 : decode cX0_landFrom 26 = .ok (.if_icmp .ne 6, 3) := by decide +kernel
theorem dX0_landFrom_29 : decode cX0_landFrom 29 = .ok (.goto 13, 3) := by decide +kernel
theorem dX0_landFrom_32 : decode cX0_landFrom 32 = .ok (.iload 6, 2) := by decide +kernel
theorem dX0_landFrom_34 : decode cX0_landFrom 34 = .ok (.istore 4, 2) := by decide +kernel
theorem dX0_landFrom_36 : decode cX0_landFrom 36 = .ok (.iinc 5 1, 3) := by decide +kernel
theorem dX0_landFrom_39 : decode cX0_landFrom 39 = .ok (.goto (-33), 3) := by decide +kernel
theorem dX0_landFrom_42 : decode cX0_landFrom 42 = .ok (.iload 4, 2) := by decide +kernel
theorem dX0_landFrom_44 : decode cX0_landFrom 44 = .ok (.ireturn, 1) := by decide +kernel
theorem dX0_edgesRound_0 : decode cX0_edgesRound 0 = .ok (.iload_n 1, 1) := by decide +kernel
theorem dX0_edgesRound_1 : decode cX0_edgesRound 1 = .ok (.iload_n 1, 1) := by decide +kernel
theorem dX0_edgesRound_2 : decode cX0_edgesRound 2 = .ok (.iconst 1, 1) := by decide +kernel
theorem dX0_edgesRound_3 : decode cX0_edgesRound 3 = .ok (.iushr, 1) := by decide +kernel
theorem dX0_edgesRound_4 : decode cX0_edgesRound 4 = .ok (.ixor, 1) := by decide +kernel
theorem dX0_edgesRound_5 : decode cX0_edgesRound 5 = .ok (.aload_n 0, 1) := by decide +kernel
theorem dX0_edgesRound_6 : decode cX0_edgesRound 6 = .ok (.getfield 44, 3) := by decide +kernel
theorem dX0_edgesRound_9 : decode cX0_edgesRound 9 = .ok (.iand, 1) := by decide +kernel
theorem dX0_edgesRound_10 : decode cX0_edgesRound 10 = .ok (.istore_n 2, 1) := by decide +kernel
theorem dX0_edgesRound_11 : decode cX0_edgesRound 11 = .ok (.iload_n 1, 1) := by decide +kernel
theorem dX0_edgesRound_12 : decode cX0_edgesRound 12 = .ok (.iload_n 1, 1) := by decide +kernel
theorem dX0_edgesRound_13 : decode cX0_edgesRound 13 = .ok (.aload_n 0, 1) := by decide +kernel
theorem dX0_edgesRound_14 : decode cX0_edgesRound 14 = .ok (.getfield 25, 3) := by decide +kernel
theorem dX0_edgesRound_17 : decode cX0_edgesRound 17 = .ok (.iushr, 1) := by decide +kernel
theorem dX0_edgesRound_18 : decode cX0_edgesRound 18 = .ok (.ixor, 1) := by decide +kernel
theorem dX0_edgesRound_19 : decode cX0_edgesRound 19 = .ok (.aload_n 0, 1) := by decide +kernel
theorem dX0_edgesRound_20 : decode cX0_edgesRound 20 = .ok (.getfield 47, 3) := by decide +kernel
theorem dX0_edgesRound_23 : decode cX0_edgesRound 23 = .ok (.iand, 1) := by decide +kernel
theorem dX0_edgesRound_24 : decode cX0_edgesRound 24 = .ok (.istore_n 3, 1) := by decide +kernel
theorem dX0_edgesRound_25 : decode cX0_edgesRound 25 = .ok (.iload_n 3, 1) := by decide +kernel
theorem dX0_edgesRound_26 : decode cX0_edgesRound 26 = .ok (.i2l, 1) := by decide +kernel
theorem dX0_edgesRound_27 : decode cX0_edgesRound 27 = .ok (.bipush 32, 2) := by decide +kernel
theorem dX0_edgesRound_29 : decode cX0_edgesRound 29 = .ok (.lshl, 1) := by decide +kernel
theorem dX0_edgesRound_30 : decode cX0_edgesRound 30 = .ok (.iload_n 2, 1) := by decide +kernel
theorem dX0_edgesRound_31 : decode cX0_edgesRound 31 = .ok (.i2l, 1) := by decide +kernel
theorem dX0_edgesRound_32 : decode cX0_edgesRound 32 = .ok (.lor, 1) := by decide +kernel
theorem dX0_edgesRound_33 : decode cX0_edgesRound 33 = .ok (.lreturn, 1) := by decide +kernel
set_option maxRecDepth 20000 in
theorem ggX0_shutInBy_X0_edgesRound : GoodIn wsX0_shutInBy wsX0_edgesRound := goodIn_r _ [7, 8, 9, 10, 11, 12, 13, 14, 15, 16, 17, 18, 19, 20, 21, 22, 23] (by decide +kernel) (by decide +kernel)
set_option maxRecDepth 20000 in
theorem gX0_shutInBy_X0_edgesRound : GoodIn wsX0_shutInBy (wsV RX0 91 RX0 yX0_edgesRound wsX0_edgesRound) := goodIn_app (goodIn_of _ (by decide +kernel)) ggX0_shutInBy_X0_edgesRound
theorem dX0_shutInBy_0 : decode cX0_shutInBy 0 = .ok (.iload_n 1, 1) := by decide +kernel
theorem dX0_shutInBy_1 : decode cX0_shutInBy 1 = .ok (.aload_n 0, 1) := by decide +kernel
theorem dX0_shutInBy_2 : decode cX0_shutInBy 2 = .ok (.getfield 41, 3) := by decide +kernel
theorem dX0_shutInBy_5 : decode cX0_shutInBy 5 = .ok (.iand, 1) := by decide +kernel
theorem dX0_shutInBy_6 : decode cX0_shutInBy 6 = .ok (.ifCond .eq 5, 3) := by decide +kernel
theorem dX0_shutInBy_9 : decode cX0_shutInBy 9 = .ok (.iconst (-1), 1) := by decide +kernel
theorem dX0_shutInBy_10 : decode cX0_shutInBy 10 = .ok (.ireturn, 1) := by decide +kernel
theorem dX0_shutInBy_11 : decode cX0_shutInBy 11 = .ok (.aload_n 0, 1) := by decide +kernel
theorem dX0_shutInBy_12 : decode cX0_shutInBy 12 = .ok (.iload_n 1, 1) := by decide +kernel
theorem dX0_shutInBy_13 : decode cX0_shutInBy 13 = .ok (.invokevirtual 91, 3) := by decide +kernel
theorem dX0_shutInBy_16 : decode cX0_shutInBy 16 = .ok (.lstore 4, 2) := by decide +kernel
theorem dX0_shutInBy_18 : decode cX0_shutInBy 18 = .ok (.lload 4, 2) := by decide +kernel
theorem dX0_shutInBy_20 : decode cX0_shutInBy 20 = .ok (.lload_n 2, 1) := by decide +kernel
theorem dX0_shutInBy_21 : decode cX0_shutInBy 21 = .ok (.land, 1) := by decide +kernel
theorem dX0_shutInBy_22 : decode cX0_shutInBy 22 = .ok (.lconst 0, 1) := by decide +kernel
theorem dX0_shutInBy_23 : decode cX0_shutInBy 23 = .ok (.lcmp, 1) := by decide +kernel
theorem dX0_shutInBy_24 : decode cX0_shutInBy 24 = .ok (.ifCond .ne 5, 3) := by decide +kernel
theorem dX0_shutInBy_27 : decode cX0_shutInBy 27 = .ok (.iconst 0, 1) := by decide +kernel
theorem dX0_shutInBy_28 : decode cX0_shutInBy 28 = .ok (.ireturn, 1) := by decide +kernel
theorem dX0_shutInBy_29 : decode cX0_shutInBy 29 = .ok (.lload 4, 2) := by decide +kernel
theorem dX0_shutInBy_31 : decode cX0_shutInBy 31 = .ok (.lload_n 2, 1) := by decide +kernel
theorem dX0_shutInBy_32 : decode cX0_shutInBy 32 = .ok (.ldc2_w 95, 3) := by decide +kernel
theorem dX0_shutInBy_35 : decode cX0_shutInBy 35 = .ok (.lxor, 1) := by decide +kernel
theorem dX0_shutInBy_36 : decode cX0_shutInBy 36 = .ok (.land, 1) := by decide +kernel
theorem dX0_shutInBy_37 : decode cX0_shutInBy 37 = .ok (.lconst 0, 1) := by decide +kernel
theorem dX0_shutInBy_38 : decode cX0_shutInBy 38 = .ok (.lcmp, 1) := by decide +kernel
theorem dX0_shutInBy_39 : decode cX0_shutInBy 39 = .ok (.ifCond .ne 7, 3) := by decide +kernel
theorem dX0_shutInBy_42 : decode cX0_shutInBy 42 = .ok (.iconst 1, 1) := by decide +kernel
theorem dX0_shutInBy_43 : decode cX0_shutInBy 43 = .ok (.goto 4, 3) := by decide +kernel
theorem dX0_shutInBy_46 : decode cX0_shutInBy 46 = .ok (.iconst (-1), 1) := by decide +kernel
theorem dX0_shutInBy_47 : decode cX0_shutInBy 47 = .ok (.ireturn, 1) := by decide +kernel
set_option maxRecDepth 20000 in
theorem ggX0_ownedAfterMarch_X0_landFrom : GoodIn wsX0_ownedAfterMarch wsX0_landFrom := goodIn_r _ [7, 8, 9, 10, 6, 11, 12, 13, 14, 24, 25, 26, 27, 28, 29, 30, 31, 32, 33, 34, 35, 36] (by decide +kernel) (by decide +kernel)
set_option maxRecDepth 20000 in
theorem gX0_ownedAfterMarch_X0_landFrom : GoodIn wsX0_ownedAfterMarch (wsV RX0 97 RX0 yX0_landFrom wsX0_landFrom) := goodIn_app (goodIn_of _ (by decide +kernel)) ggX0_ownedAfterMarch_X0_landFrom
set_option maxRecDepth 20000 in
theorem ggX0_ownedAfterMarch_X0_shutInBy : GoodIn wsX0_ownedAfterMarch wsX0_shutInBy := goodIn_r _ [18, 2, 19, 20, 21, 22, 6, 23, 12, 14, 13, 24, 25, 26, 27, 28, 29, 30, 31, 32, 33, 34, 35, 36] (by decide +kernel) (by decide +kernel)
set_option maxRecDepth 20000 in
theorem gX0_ownedAfterMarch_X0_shutInBy : GoodIn wsX0_ownedAfterMarch (wsV RX0 100 RX0 yX0_shutInBy wsX0_shutInBy) := goodIn_app (goodIn_of _ (by decide +kernel)) ggX0_ownedAfterMarch_X0_shutInBy
theorem dX0_ownedAfterMarch_0 : decode cX0_ownedAfterMarch 0 = .ok (.iload 5, 2) := by decide +kernel
theorem dX0_ownedAfterMarch_2 : decode cX0_ownedAfterMarch 2 = .ok (.istore 6, 2) := by decide +kernel
theorem dX0_ownedAfterMarch_4 : decode cX0_ownedAfterMarch 4 = .ok (.aload_n 0, 1) := by decide +kernel
theorem dX0_ownedAfterMarch_5 : decode cX0_ownedAfterMarch 5 = .ok (.getfield 38, 3) := by decide +kernel
theorem dX0_ownedAfterMarch_8 : decode cX0_ownedAfterMarch 8 = .ok (.aload_n 0, 1) := by decide +kernel
theorem dX0_ownedAfterMarch_9 : decode cX0_ownedAfterMarch 9 = .ok (.aload_n 0, 1) := by decide +kernel
theorem dX0_ownedAfterMarch_10 : decode cX0_ownedAfterMarch 10 = .ok (.getfield 41, 3) := by decide +kernel
theorem dX0_ownedAfterMarch_13 : decode cX0_ownedAfterMarch 13 = .ok (.lload_n 1, 1) := by decide +kernel
theorem dX0_ownedAfterMarch_14 : decode cX0_ownedAfterMarch 14 = .ok (.invokevirtual 97, 3) := by decide +kernel
theorem dX0_ownedAfterMarch_17 : decode cX0_ownedAfterMarch 17 = .ok (.iconst (-1), 1) := by decide +kernel
theorem dX0_ownedAfterMarch_18 : decode cX0_ownedAfterMarch 18 = .ok (.ixor, 1) := by decide +kernel
theorem dX0_ownedAfterMarch_19 : decode cX0_ownedAfterMarch 19 = .ok (.iand, 1) := by decide +kernel
theorem dX0_ownedAfterMarch_20 : decode cX0_ownedAfterMarch 20 = .ok (.istore 7, 2) := by decide +kernel
theorem dX0_ownedAfterMarch_22 : decode cX0_ownedAfterMarch 22 = .ok (.iconst 0, 1) := by decide +kernel
theorem dX0_ownedAfterMarch_23 : decode cX0_ownedAfterMarch 23 = .ok (.istore 8, 2) := by decide +kernel
theorem dX0_ownedAfterMarch_25 : decode cX0_ownedAfterMarch 25 = .ok (.iload 8, 2) := by decide +kernel
theorem dX0_ownedAfterMarch_27 : decode cX0_ownedAfterMarch 27 = .ok (.bipush 25, 2) := by decide +kernel
theorem dX0_ownedAfterMarch_29 : decode cX0_ownedAfterMarch 29 = .ok (.if_icmp .ge 75, 3) := by decide +kernel
theorem dX0_ownedAfterMarch_32 : decode cX0_ownedAfterMarch 32 = .ok (.iload 7, 2) := by decide +kernel
theorem dX0_ownedAfterMarch_34 : decode cX0_ownedAfterMarch 34 = .ok (.ifCond .eq 70, 3) := by decide +kernel
theorem dX0_ownedAfterMarch_37 : decode cX0_ownedAfterMarch 37 = .ok (.aload_n 0, 1) := by decide +kernel
theorem dX0_ownedAfterMarch_38 : decode cX0_ownedAfterMarch 38 = .ok (.iload 7, 2) := by decide +kernel
theorem dX0_ownedAfterMarch_40 : decode cX0_ownedAfterMarch 40 = .ok (.iload 7, 2) := by decide +kernel
theorem dX0_ownedAfterMarch_42 : decode cX0_ownedAfterMarch 42 = .ok (.ineg, 1) := by decide +kernel
theorem dX0_ownedAfterMarch_43 : decode cX0_ownedAfterMarch 43 = .ok (.iand, 1) := by decide +kernel
theorem dX0_ownedAfterMarch_44 : decode cX0_ownedAfterMarch 44 = .ok (.lload_n 1, 1) := by decide +kernel
theorem dX0_ownedAfterMarch_45 : decode cX0_ownedAfterMarch 45 = .ok (.invokevirtual 97, 3) := by decide +kernel
theorem dX0_ownedAfterMarch_48 : decode cX0_ownedAfterMarch 48 = .ok (.istore 9, 2) := by decide +kernel
theorem dX0_ownedAfterMarch_50 : decode cX0_ownedAfterMarch 50 = .ok (.aload_n 0, 1) := by decide +kernel
theorem dX0_ownedAfterMarch_51 : decode cX0_ownedAfterMarch 51 = .ok (.iload 9, 2) := by decide +kernel
theorem dX0_ownedAfterMarch_53 : decode cX0_ownedAfterMarch 53 = .ok (.lload_n 3, 1) := by decide +kernel
theorem dX0_ownedAfterMarch_54 : decode cX0_ownedAfterMarch 54 = .ok (.invokevirtual 100, 3) := by decide +kernel
theorem dX0_ownedAfterMarch_57 : decode cX0_ownedAfterMarch 57 = .ok (.istore 10, 2) := by decide +kernel
theorem dX0_ownedAfterMarch_59 : decode cX0_ownedAfterMarch 59 = .ok (.iload 10, 2) := by decide +kernel
theorem dX0_ownedAfterMarch_61 : decode cX0_ownedAfterMarch 61 = .ok (.iconst 1, 1) := by decide +kernel
theorem dX0_ownedAfterMarch_62 : decode cX0_ownedAfterMarch 62 = .ok (.if_icmp .ne 13, 3) := by decide +kernel
theorem dX0_ownedAfterMarch_65 : decode cX0_ownedAfterMarch 65 = .ok (.iload 6, 2) := by decide +kernel
theorem dX0_ownedAfterMarch_67 : decode cX0_ownedAfterMarch 67 = .ok (.iload 9, 2) := by decide +kernel
theorem dX0_ownedAfterMarch_69 : decode cX0_ownedAfterMarch 69 = .ok (.ior, 1) := by decide +kernel
theorem dX0_ownedAfterMarch_70 : decode cX0_ownedAfterMarch 70 = .ok (.istore 6, 2) := by decide +kernel
theorem dX0_ownedAfterMarch_72 : decode cX0_ownedAfterMarch 72 = .ok (.goto 17, 3) := by decide +kernel
theorem dX0_ownedAfterMarch_75 : decode cX0_ownedAfterMarch 75 = .ok (.iload 10, 2) := by decide +kernel
theorem dX0_ownedAfterMarch_77 : decode cX0_ownedAfterMarch 77 = .ok (.ifCond .ne 12, 3) := by decide +kernel
theorem dX0_ownedAfterMarch_80 : decode cX0_ownedAfterMarch 80 = .ok (.iload 6, 2) := by decide +kernel
theorem dX0_ownedAfterMarch_82 : decode cX0_ownedAfterMarch 82 = .ok (.iload 9, 2) := by decide +kernel
theorem dX0_ownedAfterMarch_84 : decode cX0_ownedAfterMarch 84 = .ok (.iconst (-1), 1) := by decide +kernel
theorem dX0_ownedAfterMarch_85 : decode cX0_ownedAfterMarch 85 = .ok (.ixor, 1) := by decide +kernel
theorem dX0_ownedAfterMarch_86 : decode cX0_ownedAfterMarch 86 = .ok (.iand, 1) := by decide +kernel
theorem dX0_ownedAfterMarch_87 : decode cX0_ownedAfterMarch 87 = .ok (.istore 6, 2) := by decide +kernel
theorem dX0_ownedAfterMarch_89 : decode cX0_ownedAfterMarch 89 = .ok (.iload 7, 2) := by decide +kernel
theorem dX0_ownedAfterMarch_91 : decode cX0_ownedAfterMarch 91 = .ok (.iload 9, 2) := by decide +kernel
theorem dX0_ownedAfterMarch_93 : decode cX0_ownedAfterMarch 93 = .ok (.iconst (-1), 1) := by decide +kernel
theorem dX0_ownedAfterMarch_94 : decode cX0_ownedAfterMarch 94 = .ok (.ixor, 1) := by decide +kernel
theorem dX0_ownedAfterMarch_95 : decode cX0_ownedAfterMarch 95 = .ok (.iand, 1) := by decide +kernel
theorem dX0_ownedAfterMarch_96 : decode cX0_ownedAfterMarch 96 = .ok (.istore 7, 2) := by decide +kernel
theorem dX0_ownedAfterMarch_98 : decode cX0_ownedAfterMarch 98 = .ok (.iinc 8 1, 3) := by decide +kernel
theorem dX0_ownedAfterMarch_101 : decode cX0_ownedAfterMarch 101 = .ok (.goto (-76), 3) := by decide +kernel
theorem dX0_ownedAfterMarch_104 : decode cX0_ownedAfterMarch 104 = .ok (.iload 6, 2) := by decide +kernel
theorem dX0_ownedAfterMarch_106 : decode cX0_ownedAfterMarch 106 = .ok (.ireturn, 1) := by decide +kernel
set_option maxRecDepth 20000 in
theorem ggX1_init_X5_init : GoodIn wsX1_init wsX5_init := goodIn_r _ [9, 10, 2, 3, 11, 12, 13, 14, 15, 16, 17, 18] (by decide +kernel) (by decide +kernel)
set_option maxRecDepth 20000 in
theorem gX1_init_X5_init_n9 : GoodIn wsX1_init (wsX5_init) := ggX1_init_X5_init
theorem dX1_init_0 : decode cX1_init 0 = .ok (.aload_n 0, 1) := by decide +kernel
theorem dX1_init_1 : decode cX1_init 1 = .ok (.invokespecial 1, 3) := by decide +kernel
theorem dX1_init_4 : decode cX1_init 4 = .ok (.aload_n 0, 1) := by decide +kernel
theorem dX1_init_5 : decode cX1_init 5 = .ok (.new 7, 3) := by decide +kernel
theorem dX1_init_8 : decode cX1_init 8 = .ok (.dup, 1) := by decide +kernel
theorem dX1_init_9 : decode cX1_init 9 = .ok (.invokespecial 9, 3) := by decide +kernel
theorem dX1_init_12 : decode cX1_init 12 = .ok (.putfield 10, 3) := by decide +kernel
theorem dX1_init_15 : decode cX1_init 15 = .ok (.return_, 1) := by decide +kernel
theorem dX2_init_0 : decode cX2_init 0 = .ok (.aload_n 0, 1) := by decide +kernel
theorem dX2_init_1 : decode cX2_init 1 = .ok (.invokespecial 3, 3) := by decide +kernel
theorem dX2_init_4 : decode cX2_init 4 = .ok (.aload_n 0, 1) := by decide +kernel
theorem dX2_init_5 : decode cX2_init 5 = .ok (.bipush 6, 2) := by decide +kernel
theorem dX2_init_7 : decode cX2_init 7 = .ok (.newarray .int, 2) := by decide +kernel
theorem dX2_init_9 : decode cX2_init 9 = .ok (.putfield 9, 3) := by decide +kernel
theorem dX2_init_12 : decode cX2_init 12 = .ok (.aload_n 0, 1) := by decide +kernel
theorem dX2_init_13 : decode cX2_init 13 = .ok (.bipush 6, 2) := by decide +kernel
theorem dX2_init_15 : decode cX2_init 15 = .ok (.newarray .int, 2) := by decide +kernel
theorem dX2_init_17 : decode cX2_init 17 = .ok (.putfield 15, 3) := by decide +kernel
theorem dX2_init_20 : decode cX2_init 20 = .ok (.aload_n 0, 1) := by decide +kernel
theorem dX2_init_21 : decode cX2_init 21 = .ok (.bipush 15, 2) := by decide +kernel
theorem dX2_init_23 : decode cX2_init 23 = .ok (.newarray .int, 2) := by decide +kernel
theorem dX2_init_25 : decode cX2_init 25 = .ok (.putfield 18, 3) := by decide +kernel
theorem dX2_init_28 : decode cX2_init 28 = .ok (.aload_n 0, 1) := by decide +kernel
theorem dX2_init_29 : decode cX2_init 29 = .ok (.bipush 15, 2) := by decide +kernel
theorem dX2_init_31 : decode cX2_init 31 = .ok (.newarray .int, 2) := by decide +kernel
theorem dX2_init_33 : decode cX2_init 33 = .ok (.putfield 21, 3) := by decide +kernel
theorem dX2_init_36 : decode cX2_init 36 = .ok (.return_, 1) := by decide +kernel
theorem dX2_forget_0 : decode cX2_forget 0 = .ok (.aload_n 0, 1) := by decide +kernel
theorem dX2_forget_1 : decode cX2_forget 1 = .ok (.iconst 0, 1) := by decide +kernel
theorem dX2_forget_2 : decode cX2_forget 2 = .ok (.putfield 24, 3) := by decide +kernel
theorem dX2_forget_5 : decode cX2_forget 5 = .ok (.aload_n 0, 1) := by decide +kernel
theorem dX2_forget_6 : decode cX2_forget 6 = .ok (.iconst 0, 1) := by decide +kernel
theorem dX2_forget_7 : decode cX2_forget 7 = .ok (.putfield 28, 3) := by decide +kernel
theorem dX2_forget_10 : decode cX2_forget 10 = .ok (.return_, 1) := by decide +kernel
set_option maxRecDepth 20000 in
theorem ggX2_yearsThatFit_X2_fits : GoodIn wsX2_yearsThatFit wsX2_fits := goodIn_r _ [5, 6, 7, 8, 9, 10, 11, 12, 13, 14, 15, 16, 17, 18, 19, 20, 21, 22, 23, 24, 25, 26, 27, 28, 29, 30, 31, 32, 33, 34, 35, 36, 37, 38, 39, 40, 41, 42, 43] (by decide +kernel) (by decide +kernel)
set_option maxRecDepth 20000 in
theorem gX2_yearsThatFit_X2_fits : GoodIn wsX2_yearsThatFit (wsV RX2 31 RX2 yX2_fits wsX2_fits) := goodIn_app (goodIn_of _ (by decide +kernel)) ggX2_yearsThatFit_X2_fits
theorem dX2_yearsThatFit_0 : decode cX2_yearsThatFit 0 = .ok (.iconst 0, 1) := by decide +kernel
theorem dX2_yearsThatFit_1 : decode cX2_yearsThatFit 1 = .ok (.istore_n 2, 1) := by decide +kernel
theorem dX2_yearsThatFit_2 : decode cX2_yearsThatFit 2 = .ok (.iconst 0, 1) := by decide +kernel
theorem dX2_yearsThatFit_3 : decode cX2_yearsThatFit 3 = .ok (.istore_n 3, 1) := by decide +kernel
theorem dX2_yearsThatFit_4 : decode cX2_yearsThatFit 4 = .ok (.iload_n 3, 1) := by decide +kernel
theorem dX2_yearsThatFit_5 : decode cX2_yearsThatFit 5 = .ok (.bipush 20, 2) := by decide +kernel
theorem dX2_yearsThatFit_7 : decode cX2_yearsThatFit 7 = .ok (.if_icmp .gt 24, 3) := by decide +kernel
theorem dX2_yearsThatFit_10 : decode cX2_yearsThatFit 10 = .ok (.aload_n 0, 1) := by decide +kernel
theorem dX2_yearsThatFit_11 : decode cX2_yearsThatFit 11 = .ok (.aload_n 1, 1) := by decide +kernel
theorem dX2_yearsThatFit_12 : decode cX2_yearsThatFit 12 = .ok (.iload_n 3, 1) := by decide +kernel
theorem dX2_yearsThatFit_13 : decode cX2_yearsThatFit 13 = .ok (.invokevirtual 31, 3) := by decide +kernel
theorem dX2_yearsThatFit_16 : decode cX2_yearsThatFit 16 = .ok (.ifCond .eq 9, 3) := by decide +kernel
theorem dX2_yearsThatFit_19 : decode cX2_yearsThatFit 19 = .ok (.iload_n 2, 1) := by decide +kernel
theorem dX2_yearsThatFit_20 : decode cX2_yearsThatFit 20 = .ok (.iconst 1, 1) := by decide +kernel
theorem dX2_yearsThatFit_21 : decode cX2_yearsThatFit 21 = .ok (.iload_n 3, 1) := by decide +kernel
theorem dX2_yearsThatFit_22 : decode cX2_yearsThatFit 22 = .ok (.ishl, 1) := by decide +kernel
theorem dX2_yearsThatFit_23 : decode cX2_yearsThatFit 23 = .ok (.ior, 1) := by decide +kernel
theorem dX2_yearsThatFit_24 : decode cX2_yearsThatFit 24 = .ok (.istore_n 2, 1) := by decide +kernel
theorem dX2_yearsThatFit_25 : decode cX2_yearsThatFit 25 = .ok (.iinc 3 1, 3) := by decide +kernel
theorem dX2_yearsThatFit_28 : decode cX2_yearsThatFit 28 = .ok (.goto (-24), 3) := by decide +kernel
theorem dX2_yearsThatFit_31 : decode cX2_yearsThatFit 31 = .ok (.iload_n 2, 1) := by decide +kernel
theorem dX2_yearsThatFit_32 : decode cX2_yearsThatFit 32 = .ok (.ireturn, 1) := by decide +kernel
set_option maxRecDepth 20000 in
theorem ggX2_fits_X0_heightOn : GoodIn wsX2_fits wsX0_heightOn := goodIn_r _ [8, 9, 10, 11, 12, 13, 14, 15, 7, 16, 17, 18, 19, 26, 27, 28, 29, 30, 31, 32, 33, 34, 35, 36, 37, 38] (by decide +kernel) (by decide +kernel)
set_option maxRecDepth 20000 in
theorem gX2_fits_X0_heightOn : GoodIn wsX2_fits (wsV RX2 35 RX0 yX0_heightOn wsX0_heightOn) := goodIn_app (goodIn_of _ (by decide +kernel)) ggX2_fits_X0_heightOn
theorem dX2_fits_0 : decode cX2_fits 0 = .ok (.iconst 0, 1) := by decide +kernel
theorem dX2_fits_1 : decode cX2_fits 1 = .ok (.istore_n 3, 1) := by decide +kernel
theorem dX2_fits_2 : decode cX2_fits 2 = .ok (.iload_n 3, 1) := by decide +kernel
theorem dX2_fits_3 : decode cX2_fits 3 = .ok (.aload_n 0, 1) := by decide +kernel
theorem dX2_fits_4 : decode cX2_fits 4 = .ok (.getfield 24, 3) := by decide +kernel
theorem dX2_fits_7 : decode cX2_fits 7 = .ok (.if_icmp .ge 31, 3) := by decide +kernel
theorem dX2_fits_10 : decode cX2_fits 10 = .ok (.aload_n 1, 1) := by decide +kernel
theorem dX2_fits_11 : decode cX2_fits 11 = .ok (.aload_n 0, 1) := by decide +kernel
theorem dX2_fits_12 : decode cX2_fits 12 = .ok (.getfield 9, 3) := by decide +kernel
theorem dX2_fits_15 : decode cX2_fits 15 = .ok (.iload_n 3, 1) := by decide +kernel
theorem dX2_fits_16 : decode cX2_fits 16 = .ok (.iaload, 1) := by decide +kernel
theorem dX2_fits_17 : decode cX2_fits 17 = .ok (.iload_n 2, 1) := by decide +kernel
theorem dX2_fits_18 : decode cX2_fits 18 = .ok (.invokevirtual 35, 3) := by decide +kernel
theorem dX2_fits_21 : decode cX2_fits 21 = .ok (.aload_n 0, 1) := by decide +kernel
theorem dX2_fits_22 : decode cX2_fits 22 = .ok (.getfield 15, 3) := by decide +kernel
theorem dX2_fits_25 : decode cX2_fits 25 = .ok (.iload_n 3, 1) := by decide +kernel
theorem dX2_fits_26 : decode cX2_fits 26 = .ok (.iaload, 1) := by decide +kernel
theorem dX2_fits_27 : decode cX2_fits 27 = .ok (.if_icmp .eq 5, 3) := by decide +kernel
theorem dX2_fits_30 : decode cX2_fits 30 = .ok (.iconst 0, 1) := by decide +kernel
theorem dX2_fits_31 : decode cX2_fits 31 = .ok (.ireturn, 1) := by decide +kernel
theorem dX2_fits_32 : decode cX2_fits 32 = .ok (.iinc 3 1, 3) := by decide +kernel
theorem dX2_fits_35 : decode cX2_fits 35 = .ok (.goto (-33), 3) := by decide +kernel
theorem dX2_fits_38 : decode cX2_fits 38 = .ok (.iconst 1, 1) := by decide +kernel
theorem dX2_fits_39 : decode cX2_fits 39 = .ok (.ireturn, 1) := by decide +kernel
set_option maxRecDepth 20000 in
theorem ggX3_init_X5_init : GoodIn wsX3_init wsX5_init := goodIn_r _ [9, 10, 2, 3, 11, 12, 16, 17, 18, 19, 20, 21] (by decide +kernel) (by decide +kernel)
set_option maxRecDepth 20000 in
theorem gX3_init_X5_init_n17 : GoodIn wsX3_init (wsX5_init) := ggX3_init_X5_init
theorem dX3_init_0 : decode cX3_init 0 = .ok (.aload_n 0, 1) := by decide +kernel
theorem dX3_init_1 : decode cX3_init 1 = .ok (.invokespecial 3, 3) := by decide +kernel
theorem dX3_init_4 : decode cX3_init 4 = .ok (.aload_n 0, 1) := by decide +kernel
theorem dX3_init_5 : decode cX3_init 5 = .ok (.bipush 20, 2) := by decide +kernel
theorem dX3_init_7 : decode cX3_init 7 = .ok (.anewarray 9, 3) := by decide +kernel
theorem dX3_init_10 : decode cX3_init 10 = .ok (.putfield 11, 3) := by decide +kernel
theorem dX3_init_13 : decode cX3_init 13 = .ok (.iconst 0, 1) := by decide +kernel
theorem dX3_init_14 : decode cX3_init 14 = .ok (.istore_n 1, 1) := by decide +kernel
theorem dX3_init_15 : decode cX3_init 15 = .ok (.iload_n 1, 1) := by decide +kernel
theorem dX3_init_16 : decode cX3_init 16 = .ok (.bipush 20, 2) := by decide +kernel
theorem dX3_init_18 : decode cX3_init 18 = .ok (.if_icmp .ge 22, 3) := by decide +kernel
theorem dX3_init_21 : decode cX3_init 21 = .ok (.aload_n 0, 1) := by decide +kernel
theorem dX3_init_22 : decode cX3_init 22 = .ok (.getfield 11, 3) := by decide +kernel
theorem dX3_init_25 : decode cX3_init 25 = .ok (.iload_n 1, 1) := by decide +kernel
theorem dX3_init_26 : decode cX3_init 26 = .ok (.new 9, 3) := by decide +kernel
theorem dX3_init_29 : decode cX3_init 29 = .ok (.dup, 1) := by decide +kernel
theorem dX3_init_30 : decode cX3_init 30 = .ok (.invokespecial 17, 3) := by decide +kernel
theorem dX3_init_33 : decode cX3_init 33 = .ok (.aastore, 1) := by decide +kernel
theorem dX3_init_34 : decode cX3_init 34 = .ok (.iinc 1 1, 3) := by decide +kernel
theorem dX3_init_37 : decode cX3_init 37 = .ok (.goto (-22), 3) := by decide +kernel
theorem dX3_init_40 : decode cX3_init 40 = .ok (.return_, 1) := by decide +kernel
theorem dX3_forget_0 : decode cX3_forget 0 = .ok (.aload_n 0, 1) := by decide +kernel
theorem dX3_forget_1 : decode cX3_forget 1 = .ok (.iconst 0, 1) := by decide +kernel
theorem dX3_forget_2 : decode cX3_forget 2 = .ok (.putfield 18, 3) := by decide +kernel
theorem dX3_forget_5 : decode cX3_forget 5 = .ok (.return_, 1) := by decide +kernel
set_option maxRecDepth 20000 in
theorem ggX3_remember_X5_copyFrom : GoodIn wsX3_remember wsX5_copyFrom := goodIn_r _ [12, 13, 14, 15, 16, 17, 18, 19, 20, 21, 22, 26, 27, 28, 29, 30, 31] (by decide +kernel) (by decide +kernel)
set_option maxRecDepth 20000 in
theorem gX3_remember_X5_copyFrom : GoodIn wsX3_remember (wsV RX3 25 RX5 yX5_copyFrom wsX5_copyFrom) := goodIn_app (goodIn_of _ (by decide +kernel)) ggX3_remember_X5_copyFrom
theorem dX3_remember_0 : decode cX3_remember 0 = .ok (.aload_n 0, 1) := by decide +kernel
theorem dX3_remember_1 : decode cX3_remember 1 = .ok (.getfield 11, 3) := by decide +kernel
theorem dX3_remember_4 : decode cX3_remember 4 = .ok (.aload_n 0, 1) := by decide +kernel
theorem dX3_remember_5 : decode cX3_remember 5 = .ok (.getfield 22, 3) := by decide +kernel
theorem dX3_remember_8 : decode cX3_remember 8 = .ok (.aaload, 1) := by decide +kernel
theorem dX3_remember_9 : decode cX3_remember 9 = .ok (.aload_n 1, 1) := by decide +kernel
theorem dX3_remember_10 : decode cX3_remember 10 = .ok (.invokevirtual 25, 3) := by decide +kernel
theorem dX3_remember_13 : decode cX3_remember 13 = .ok (.aload_n 0, 1) := by decide +kernel
theorem dX3_remember_14 : decode cX3_remember 14 = .ok (.aload_n 0, 1) := by decide +kernel
theorem dX3_remember_15 : decode cX3_remember 15 = .ok (.getfield 22, 3) := by decide +kernel
theorem dX3_remember_18 : decode cX3_remember 18 = .ok (.iconst 1, 1) := by decide +kernel
theorem dX3_remember_19 : decode cX3_remember 19 = .ok (.iadd, 1) := by decide +kernel
theorem dX3_remember_20 : decode cX3_remember 20 = .ok (.bipush 20, 2) := by decide +kernel
theorem dX3_remember_22 : decode cX3_remember 22 = .ok (.irem, 1) := by decide +kernel
theorem dX3_remember_23 : decode cX3_remember 23 = .ok (.putfield 22, 3) := by decide +kernel
theorem dX3_remember_26 : decode cX3_remember 26 = .ok (.aload_n 0, 1) := by decide +kernel
theorem dX3_remember_27 : decode cX3_remember 27 = .ok (.bipush 20, 2) := by decide +kernel
theorem dX3_remember_29 : decode cX3_remember 29 = .ok (.aload_n 0, 1) := by decide +kernel
theorem dX3_remember_30 : decode cX3_remember 30 = .ok (.getfield 18, 3) := by decide +kernel
theorem dX3_remember_33 : decode cX3_remember 33 = .ok (.iconst 1, 1) := by decide +kernel
theorem dX3_remember_34 : decode cX3_remember 34 = .ok (.iadd, 1) := by decide +kernel
theorem dX3_remember_35 : decode cX3_remember 35 = .ok (.invokestatic 29, 3) := by decide +kernel
theorem dX3_remember_38 : decode cX3_remember 38 = .ok (.putfield 18, 3) := by decide +kernel
theorem dX3_remember_41 : decode cX3_remember 41 = .ok (.return_, 1) := by decide +kernel
set_option maxRecDepth 20000 in
theorem ggX3_recall_X5_copyFrom : GoodIn wsX3_recall wsX5_copyFrom := goodIn_r _ [8, 9, 10, 11, 12, 13, 14, 15, 16, 17, 18, 22, 23, 24, 25, 26, 27] (by decide +kernel) (by decide +kernel)
set_option maxRecDepth 20000 in
theorem gX3_recall_X5_copyFrom : GoodIn wsX3_recall (wsV RX3 25 RX5 yX5_copyFrom wsX5_copyFrom) := goodIn_app (goodIn_of _ (by decide +kernel)) ggX3_recall_X5_copyFrom
theorem dX3_recall_0 : decode cX3_recall 0 = .ok (.aload_n 0, 1) := by decide +kernel
theorem dX3_recall_1 : decode cX3_recall 1 = .ok (.aload_n 0, 1) := by decide +kernel
theorem dX3_recall_2 : decode cX3_recall 2 = .ok (.getfield 22, 3) := by decide +kernel
theorem dX3_recall_5 : decode cX3_recall 5 = .ok (.bipush 20, 2) := by decide +kernel
theorem dX3_recall_7 : decode cX3_recall 7 = .ok (.iadd, 1) := by decide +kernel
theorem dX3_recall_8 : decode cX3_recall 8 = .ok (.iconst 1, 1) := by decide +kernel
theorem dX3_recall_9 : decode cX3_recall 9 = .ok (.isub, 1) := by decide +kernel
theorem dX3_recall_10 : decode cX3_recall 10 = .ok (.bipush 20, 2) := by decide +kernel
theorem dX3_recall_12 : decode cX3_recall 12 = .ok (.irem, 1) := by decide +kernel
theorem dX3_recall_13 : decode cX3_recall 13 = .ok (.putfield 22, 3) := by decide +kernel
theorem dX3_recall_16 : decode cX3_recall 16 = .ok (.aload_n 0, 1) := by decide +kernel
theorem dX3_recall_17 : decode cX3_recall 17 = .ok (.dup, 1) := by decide +kernel
theorem dX3_recall_18 : decode cX3_recall 18 = .ok (.getfield 18, 3) := by decide +kernel
theorem dX3_recall_21 : decode cX3_recall 21 = .ok (.iconst 1, 1) := by decide +kernel
theorem dX3_recall_22 : decode cX3_recall 22 = .ok (.isub, 1) := by decide +kernel
theorem dX3_recall_23 : decode cX3_recall 23 = .ok (.putfield 18, 3) := by decide +kernel
theorem dX3_recall_26 : decode cX3_recall 26 = .ok (.aload_n 1, 1) := by decide +kernel
theorem dX3_recall_27 : decode cX3_recall 27 = .ok (.aload_n 0, 1) := by decide +kernel
theorem dX3_recall_28 : decode cX3_recall 28 = .ok (.getfield 11, 3) := by decide +kernel
theorem dX3_recall_31 : decode cX3_recall 31 = .ok (.aload_n 0, 1) := by decide +kernel
theorem dX3_recall_32 : decode cX3_recall 32 = .ok (.getfield 22, 3) := by decide +kernel
theorem dX3_recall_35 : decode cX3_recall 35 = .ok (.aaload, 1) := by decide +kernel
theorem dX3_recall_36 : decode cX3_recall 36 = .ok (.invokevirtual 25, 3) := by decide +kernel
theorem dX3_recall_39 : decode cX3_recall 39 = .ok (.return_, 1) := by decide +kernel
set_option maxRecDepth 20000 in
theorem ggX4_init_X0_init : GoodIn wsX4_init wsX0_init := goodIn_r _ [15, 16, 2, 3, 4, 17, 18, 19, 20, 21, 34, 35, 36, 37, 38, 39, 40, 41, 42, 43, 44, 45, 46] (by decide +kernel) (by decide +kernel)
set_option maxRecDepth 20000 in
theorem gX4_init_X0_init_n17 : GoodIn wsX4_init (wsX0_init) := ggX4_init_X0_init
set_option maxRecDepth 20000 in
theorem ggX4_init_X5_init : GoodIn wsX4_init wsX5_init := goodIn_r _ [23, 24, 2, 3, 4, 25, 47, 48, 49, 50, 51, 52] (by decide +kernel) (by decide +kernel)
set_option maxRecDepth 20000 in
theorem gX4_init_X5_init_n24 : GoodIn wsX4_init (wsX5_init) := ggX4_init_X5_init
theorem dX4_init_0 : decode cX4_init 0 = .ok (.aload_n 0, 1) := by decide +kernel
theorem dX4_init_1 : decode cX4_init 1 = .ok (.invokespecial 3, 3) := by decide +kernel
theorem dX4_init_4 : decode cX4_init 4 = .ok (.aload_n 0, 1) := by decide +kernel
theorem dX4_init_5 : decode cX4_init 5 = .ok (.sipush 240, 3) := by decide +kernel
theorem dX4_init_8 : decode cX4_init 8 = .ok (.newarray .int, 2) := by decide +kernel
theorem dX4_init_10 : decode cX4_init 10 = .ok (.putfield 9, 3) := by decide +kernel
theorem dX4_init_13 : decode cX4_init 13 = .ok (.aload_n 0, 1) := by decide +kernel
theorem dX4_init_14 : decode cX4_init 14 = .ok (.new 15, 3) := by decide +kernel
theorem dX4_init_17 : decode cX4_init 17 = .ok (.dup, 1) := by decide +kernel
theorem dX4_init_18 : decode cX4_init 18 = .ok (.invokespecial 17, 3) := by decide +kernel
theorem dX4_init_21 : decode cX4_init 21 = .ok (.putfield 18, 3) := by decide +kernel
theorem dX4_init_24 : decode cX4_init 24 = .ok (.aload_n 0, 1) := by decide +kernel
theorem dX4_init_25 : decode cX4_init 25 = .ok (.new 22, 3) := by decide +kernel
theorem dX4_init_28 : decode cX4_init 28 = .ok (.dup, 1) := by decide +kernel
theorem dX4_init_29 : decode cX4_init 29 = .ok (.invokespecial 24, 3) := by decide +kernel
theorem dX4_init_32 : decode cX4_init 32 = .ok (.putfield 25, 3) := by decide +kernel
theorem dX4_init_35 : decode cX4_init 35 = .ok (.return_, 1) := by decide +kernel
set_option maxRecDepth 20000 in
theorem ggX4_readText_X0_clear : GoodIn wsX4_readText wsX0_clear := goodIn_r _ [11, 12, 13, 14, 15, 16, 17, 18, 19, 20, 127, 128, 129, 130, 131, 132, 133, 134, 135, 136, 137, 138, 139] (by decide +kernel) (by decide +kernel)
set_option maxRecDepth 20000 in
theorem gX4_readText_X0_clear : GoodIn wsX4_readText (wsV RX4 29 RX0 yX0_clear wsX0_clear) := goodIn_app (goodIn_of _ (by decide +kernel)) ggX4_readText_X0_clear
set_option maxRecDepth 20000 in
theorem ggX4_readText_X5_clear : GoodIn wsX4_readText wsX5_clear := goodIn_r _ [25, 26, 27, 28, 29, 30, 140, 141, 142, 143, 144, 145] (by decide +kernel) (by decide +kernel)
set_option maxRecDepth 20000 in
theorem gX4_readText_X5_clear : GoodIn wsX4_readText (wsV RX4 32 RX5 yX5_clear wsX5_clear) := goodIn_app (goodIn_of _ (by decide +kernel)) ggX4_readText_X5_clear
set_option maxRecDepth 20000 in
theorem ggX4_readText_X4_skipBlanks : GoodIn wsX4_readText wsX4_skipBlanks := goodIn_r _ [35, 3, 6, 36, 119, 120, 121, 122, 123, 124, 125, 126] (by decide +kernel) (by decide +kernel)
set_option maxRecDepth 20000 in
theorem gX4_readText_X4_skipBlanks : GoodIn wsX4_readText (wsV RX4 43 RX4 yX4_skipBlanks wsX4_skipBlanks) := goodIn_app (goodIn_of _ (by decide +kernel)) ggX4_readText_X4_skipBlanks
set_option maxRecDepth 20000 in
theorem ggX4_readText_X4_readClause : GoodIn wsX4_readText wsX4_readClause := goodIn_r _ [40, 3, 36, 1, 41, 42, 43, 44, 34, 45, 4, 5, 46, 47, 48, 49, 50, 51, 52, 53, 54, 6, 55, 56, 57, 58, 31, 32, 33, 35, 59, 60, 61, 62, 63, 64, 10, 65, 12, 13, 14, 66, 16, 18, 19, 67, 8, 9, 11, 15, 17, 20, 68, 69, 70, 71, 72, 73, 74, 75, 76, 77, 78, 79, 80, 81, 82, 83, 84, 85, 86, 87, 2, 88, 89, 90, 91, 24, 92, 29, 93, 94, 95, 96, 97, 98, 99, 100, 101, 102, 103, 104, 105, 106, 107, 108, 109, 110, 111, 112, 26, 27, 113, 114, 115, 116, 117, 118, 119, 120, 121, 122, 123, 124, 125, 126, 127, 128, 129, 130, 131, 132, 133, 134, 135, 136, 137, 138, 139, 140, 141, 142, 143, 144, 145] (by decide +kernel) (by decide +kernel)
set_option maxRecDepth 20000 in
theorem gX4_readText_X4_readClause : GoodIn wsX4_readText (wsV RX4 49 RX4 yX4_readClause wsX4_readClause) := goodIn_app (goodIn_of _ (by decide +kernel)) ggX4_readText_X4_readClause
theorem dX4_readText_0 : decode cX4_readText 0 = .ok (.aload_n 0, 1) := by decide +kernel
theorem dX4_readText_1 : decode cX4_readText 1 = .ok (.getfield 18, 3) := by decide +kernel
theorem dX4_readText_4 : decode cX4_readText 4 = .ok (.invokevirtual 29, 3) := by decide +kernel
theorem dX4_readText_7 : decode cX4_readText 7 = .ok (.aload_n 0, 1) := by decide +kernel
theorem dX4_readText_8 : decode cX4_readText 8 = .ok (.getfield 25, 3) := by decide +kernel
theorem dX4_readText_11 : decode cX4_readText 11 = .ok (.invokevirtual 32, 3) := by decide +kernel
theorem dX4_readText_14 : decode cX4_readText 14 = .ok (.aload_n 0, 1) := by decide +kernel
theorem dX4_readText_15 : decode cX4_readText 15 = .ok (.iconst 0, 1) := by decide +kernel
theorem dX4_readText_16 : decode cX4_readText 16 = .ok (.putfield 33, 3) := by decide +kernel
theorem dX4_readText_19 : decode cX4_readText 19 = .ok (.aload_n 0, 1) := by decide +kernel
theorem dX4_readText_20 : decode cX4_readText 20 = .ok (.iconst 0, 1) := by decide +kernel
theorem dX4_readText_21 : decode cX4_readText 21 = .ok (.putfield 37, 3) := by decide +kernel
theorem dX4_readText_24 : decode cX4_readText 24 = .ok (.aload_n 0, 1) := by decide +kernel
theorem dX4_readText_25 : decode cX4_readText 25 = .ok (.iconst (-1), 1) := by decide +kernel
theorem dX4_readText_26 : decode cX4_readText 26 = .ok (.putfield 40, 3) := by decide +kernel
theorem dX4_readText_29 : decode cX4_readText 29 = .ok (.aload_n 0, 1) := by decide +kernel
theorem dX4_readText_30 : decode cX4_readText 30 = .ok (.invokevirtual 43, 3) := by decide +kernel
theorem dX4_readText_33 : decode cX4_readText 33 = .ok (.iconst 0, 1) := by decide +kernel
theorem dX4_readText_34 : decode cX4_readText 34 = .ok (.istore_n 1, 1) := by decide +kernel
theorem dX4_readText_35 : decode cX4_readText 35 = .ok (.iload_n 1, 1) := by decide +kernel
theorem dX4_readText_36 : decode cX4_readText 36 = .ok (.sipush 240, 3) := by decide +kernel
theorem dX4_readText_39 : decode cX4_readText 39 = .ok (.if_icmp .ge 35, 3) := by decide +kernel
theorem dX4_readText_42 : decode cX4_readText 42 = .ok (.aload_n 0, 1) := by decide +kernel
theorem dX4_readText_43 : decode cX4_readText 43 = .ok (.getfield 33, 3) := by decide +kernel
theorem dX4_readText_46 : decode cX4_readText 46 = .ok (.aload_n 0, 1) := by decide +kernel
theorem dX4_readText_47 : decode cX4_readText 47 = .ok (.getfield 46, 3) := by decide +kernel
theorem dX4_readText_50 : decode cX4_readText 50 = .ok (.if_icmp .ge 24, 3) := by decide +kernel
theorem dX4_readText_53 : decode cX4_readText 53 = .ok (.aload_n 0, 1) := by decide +kernel
theorem dX4_readText_54 : decode cX4_readText 54 = .ok (.getfield 37, 3) := by decide +kernel
theorem dX4_readText_57 : decode cX4_readText 57 = .ok (.ifCond .ne 17, 3) := by decide +kernel
theorem dX4_readText_60 : decode cX4_readText 60 = .ok (.aload_n 0, 1) := by decide +kernel
theorem dX4_readText_61 : decode cX4_readText 61 = .ok (.invokevirtual 49, 3) := by decide +kernel
theorem dX4_readText_64 : decode cX4_readText 64 = .ok (.aload_n 0, 1) := by decide +kernel
theorem dX4_readText_65 : decode cX4_readText 65 = .ok (.invokevirtual 43, 3) := by decide +kernel
theorem dX4_readText_68 : decode cX4_readText 68 = .ok (.iinc 1 1, 3) := by decide +kernel
theorem dX4_readText_71 : decode cX4_readText 71 = .ok (.goto (-36), 3) := by decide +kernel
theorem dX4_readText_74 : decode cX4_readText 74 = .ok (.return_, 1) := by decide +kernel
set_option maxRecDepth 20000 in
theorem ggX4_readClause_X4_fail : GoodIn wsX4_readClause wsX4_fail := goodIn_r _ [9, 10, 11, 108, 109, 110, 111, 112, 113, 114, 115] (by decide +kernel) (by decide +kernel)
set_option maxRecDepth 20000 in
theorem gX4_readClause_X4_fail : GoodIn wsX4_readClause (wsV RX4 55 RX4 yX4_fail wsX4_fail) := goodIn_app (goodIn_of _ (by decide +kernel)) ggX4_readClause_X4_fail
set_option maxRecDepth 20000 in
theorem ggX4_readClause_X4_readGround : GoodIn wsX4_readClause wsX4_readGround := goodIn_r _ [15, 3, 4, 10, 5, 6, 7, 8, 9, 11, 16, 17, 18, 19, 1, 20, 21, 2, 22, 23, 24, 25, 26, 27, 28, 29, 30, 31, 32, 33, 34, 35, 36, 37, 38, 39, 40, 41, 42, 43, 44, 45, 46, 47, 48, 49, 50, 51, 52, 53, 54, 55, 56, 57, 58, 59, 60, 61, 62, 108, 109, 110, 111, 112, 113, 114, 115, 116, 117, 118, 119, 120, 121, 122, 123, 124, 125, 126, 127, 128] (by decide +kernel) (by decide +kernel)
set_option maxRecDepth 20000 in
theorem gX4_readClause_X4_readGround : GoodIn wsX4_readClause (wsV RX4 59 RX4 yX4_readGround wsX4_readGround) := goodIn_app (goodIn_of _ (by decide +kernel)) ggX4_readClause_X4_readGround
set_option maxRecDepth 20000 in
theorem ggX4_readClause_X4_readSoil : GoodIn wsX4_readClause wsX4_readSoil := goodIn_r _ [66, 3, 4, 10, 67, 16, 17, 18, 8, 19, 1, 20, 21, 2, 22, 23, 24, 25, 26, 27, 28, 29, 30, 31, 32, 5, 6, 7, 9, 11, 108, 109, 110, 111, 112, 113, 114, 115, 116, 117, 118, 119, 120, 121, 122, 123, 124, 125, 126, 127, 128] (by decide +kernel) (by decide +kernel)
set_option maxRecDepth 20000 in
theorem gX4_readClause_X4_readSoil : GoodIn wsX4_readClause (wsV RX4 63 RX4 yX4_readSoil wsX4_readSoil) := goodIn_app (goodIn_of _ (by decide +kernel)) ggX4_readClause_X4_readSoil
set_option maxRecDepth 20000 in
theorem ggX4_readClause_X4_readOwned : GoodIn wsX4_readClause wsX4_readOwned := goodIn_r _ [71, 3, 4, 10, 72, 20, 73, 16, 17, 18, 8, 19, 1, 21, 2, 22, 23, 24, 25, 26, 27, 28, 29, 30, 31, 32, 5, 6, 7, 9, 11, 74, 75, 76, 77, 78, 79, 108, 109, 110, 111, 112, 113, 114, 115, 116, 117, 118, 119, 120, 121, 122, 123, 124, 125, 126, 127, 128, 129, 130, 131, 132, 133, 134] (by decide +kernel) (by decide +kernel)
set_option maxRecDepth 20000 in
theorem gX4_readClause_X4_readOwned : GoodIn wsX4_readClause (wsV RX4 66 RX4 yX4_readOwned wsX4_readOwned) := goodIn_app (goodIn_of _ (by decide +kernel)) ggX4_readClause_X4_readOwned
set_option maxRecDepth 20000 in
theorem ggX4_readClause_X4_readPath : GoodIn wsX4_readClause wsX4_readPath := goodIn_r _ [83, 10, 3, 84, 85, 86, 87, 88, 8, 89, 90, 72, 91, 20, 16, 17, 18, 19, 1, 21, 2, 22, 23, 24, 25, 26, 27, 28, 29, 30, 31, 32, 5, 6, 7, 9, 11, 108, 109, 110, 111, 112, 113, 114, 115, 116, 117, 118, 119, 120, 121, 122, 123, 124, 125, 126, 127, 128, 129, 130, 131, 132, 133, 134] (by decide +kernel) (by decide +kernel)
set_option maxRecDepth 20000 in
theorem gX4_readClause_X4_readPath : GoodIn wsX4_readClause (wsV RX4 69 RX4 yX4_readPath wsX4_readPath) := goodIn_app (goodIn_of _ (by decide +kernel)) ggX4_readClause_X4_readPath
set_option maxRecDepth 20000 in
theorem ggX4_readClause_X4_readHedge : GoodIn wsX4_readClause wsX4_readHedge := goodIn_r _ [95, 10, 72, 3, 85, 86, 87, 88, 8, 89, 90, 84, 91, 20, 16, 17, 18, 19, 1, 21, 2, 22, 23, 24, 25, 26, 27, 28, 29, 30, 31, 32, 5, 6, 7, 9, 11, 96, 97, 98, 77, 99, 100, 101, 102, 103, 108, 109, 110, 111, 112, 113, 114, 115, 116, 117, 118, 119, 120, 121, 122, 123, 124, 125, 126, 127, 128, 129, 130, 131, 132, 133, 134] (by decide +kernel) (by decide +kernel)
set_option maxRecDepth 20000 in
theorem gX4_readClause_X4_readHedge : GoodIn wsX4_readClause (wsV RX4 72 RX4 yX4_readHedge wsX4_readHedge) := goodIn_app (goodIn_of _ (by decide +kernel)) ggX4_readClause_X4_readHedge
set_option maxRecDepth 20000 in
theorem ggX4_readClause_X4_readEnd : GoodIn wsX4_readClause wsX4_readEnd := goodIn_r _ [107, 1, 21, 2, 26, 27, 28, 8, 29, 5, 6, 7, 9, 10, 11, 108, 109, 110, 111, 112, 113, 114, 115] (by decide +kernel) (by decide +kernel)
set_option maxRecDepth 20000 in
theorem gX4_readClause_X4_readEnd : GoodIn wsX4_readClause (wsV RX4 75 RX4 yX4_readEnd wsX4_readEnd) := goodIn_app (goodIn_of _ (by decide +kernel)) ggX4_readClause_X4_readEnd
theorem dX4_readClause_0 : decode cX4_readClause 0 = .ok (.aload_n 0, 1) := by decide +kernel
theorem dX4_readClause_1 : decode cX4_readClause 1 = .ok (.getfield 33, 3) := by decide +kernel
theorem dX4_readClause_4 : decode cX4_readClause 4 = .ok (.istore_n 1, 1) := by decide +kernel
theorem dX4_readClause_5 : decode cX4_readClause 5 = .ok (.aload_n 0, 1) := by decide +kernel
theorem dX4_readClause_6 : decode cX4_readClause 6 = .ok (.getfield 9, 3) := by decide +kernel
theorem dX4_readClause_9 : decode cX4_readClause 9 = .ok (.aload_n 0, 1) := by decide +kernel
theorem dX4_readClause_10 : decode cX4_readClause 10 = .ok (.getfield 33, 3) := by decide +kernel
theorem dX4_readClause_13 : decode cX4_readClause 13 = .ok (.iaload, 1) := by decide +kernel
theorem dX4_readClause_14 : decode cX4_readClause 14 = .ok (.istore_n 2, 1) := by decide +kernel
theorem dX4_readClause_15 : decode cX4_readClause 15 = .ok (.aload_n 0, 1) := by decide +kernel
theorem dX4_readClause_16 : decode cX4_readClause 16 = .ok (.dup, 1) := by decide +kernel
theorem dX4_readClause_17 : decode cX4_readClause 17 = .ok (.getfield 33, 3) := by decide +kernel
theorem dX4_readClause_20 : decode cX4_readClause 20 = .ok (.iconst 1, 1) := by decide +kernel
theorem dX4_readClause_21 : decode cX4_readClause 21 = .ok (.iadd, 1) := by decide +kernel
theorem dX4_readClause_22 : decode cX4_readClause 22 = .ok (.putfield 33, 3) := by decide +kernel
theorem dX4_readClause_25 : decode cX4_readClause 25 = .ok (.aload_n 0, 1) := by decide +kernel
theorem dX4_readClause_26 : decode cX4_readClause 26 = .ok (.getfield 18, 3) := by decide +kernel
theorem dX4_readClause_29 : decode cX4_readClause 29 = .ok (.getfield 52, 3) := by decide +kernel
theorem dX4_readClause_32 : decode cX4_readClause 32 = .ok (.ifCond .ne 16, 3) := by decide +kernel
theorem dX4_readClause_35 : decode cX4_readClause 35 = .ok (.iload_n 2, 1) := by decide +kernel
theorem dX4_readClause_36 : decode cX4_readClause 36 = .ok (.bipush 103, 2) := by decide +kernel
theorem dX4_readClause_38 : decode cX4_readClause 38 = .ok (.if_icmp .eq 10, 3) := by decide +kernel
theorem dX4_readClause_41 : decode cX4_readClause 41 = .ok (.aload_n 0, 1) := by decide +kernel
theorem dX4_readClause_42 : decode cX4_readClause 42 = .ok (.iconst 1, 1) := by decide +kernel
theorem dX4_readClause_43 : decode cX4_readClause 43 = .ok (.iload_n 1, 1) := by decide +kernel
theorem dX4_readClause_44 : decode cX4_readClause 44 = .ok (.invokevirtual 55, 3) := by decide +kernel
theorem dX4_readClause_47 : decode cX4_readClause 47 = .ok (.return_, 1) := by decide +kernel
theorem dX4_readClause_48 : decode cX4_readClause 48 = .ok (.iload_n 2, 1) := by decide +kernel
theorem dX4_readClause_49 : decode cX4_readClause 49 = .ok (.tableswitch 111 101 115 #[90, 111, 75, 104, 111, 111, 111, 111, 111, 111, 111, 97, 111, 111, 83], 75) := by decide +kernel
theorem dX4_readClause_124 : decode cX4_readClause 124 = .ok (.aload_n 0, 1) := by decide +kernel
theorem dX4_readClause_125 : decode cX4_readClause 125 = .ok (.iload_n 1, 1) := by decide +kernel
theorem dX4_readClause_126 : decode cX4_readClause 126 = .ok (.invokevirtual 59, 3) := by decide +kernel
theorem dX4_readClause_129 : decode cX4_readClause 129 = .ok (.goto 37, 3) := by decide +kernel
theorem dX4_readClause_132 : decode cX4_readClause 132 = .ok (.aload_n 0, 1) := by decide +kernel
theorem dX4_readClause_133 : decode cX4_readClause 133 = .ok (.invokevirtual 63, 3) := by decide +kernel
theorem dX4_readClause_136 : decode cX4_readClause 136 = .ok (.goto 30, 3) := by decide +kernel
theorem dX4_readClause_139 : decode cX4_readClause 139 = .ok (.aload_n 0, 1) := by decide +kernel
theorem dX4_readClause_140 : decode cX4_readClause 140 = .ok (.invokevirtual 66, 3) := by decide +kernel
theorem dX4_readClause_143 : decode cX4_readClause 143 = .ok (.goto 23, 3) := by decide +kernel
theorem dX4_readClause_146 : decode cX4_readClause 146 = .ok (.aload_n 0, 1) := by decide +kernel
theorem dX4_readClause_147 : decode cX4_readClause 147 = .ok (.invokevirtual 69, 3) := by decide +kernel
theorem dX4_readClause_150 : decode cX4_readClause 150 = .ok (.goto 16, 3) := by decide +kernel
theorem dX4_readClause_153 : decode cX4_readClause 153 = .ok (.aload_n 0, 1) := by decide +kernel
theorem dX4_readClause_154 : decode cX4_readClause 154 = .ok (.invokevirtual 72, 3) := by decide +kernel
theorem dX4_readClause_157 : decode cX4_readClause 157 = .ok (.goto 9, 3) := by decide +kernel
theorem dX4_readClause_160 : decode cX4_readClause 160 = .ok (.aload_n 0, 1) := by decide +kernel
theorem dX4_readClause_161 : decode cX4_readClause 161 = .ok (.iconst 1, 1) := by decide +kernel
theorem dX4_readClause_162 : decode cX4_readClause 162 = .ok (.iload_n 1, 1) := by decide +kernel
theorem dX4_readClause_163 : decode cX4_readClause 163 = .ok (.invokevirtual 55, 3) := by decide +kernel
theorem dX4_readClause_166 : decode cX4_readClause 166 = .ok (.aload_n 0, 1) := by decide +kernel
theorem dX4_readClause_167 : decode cX4_readClause 167 = .ok (.invokevirtual 75, 3) := by decide +kernel
theorem dX4_readClause_170 : decode cX4_readClause 170 = .ok (.return_, 1) := by decide +kernel
set_option maxRecDepth 20000 in
theorem ggX4_readGround_X4_fail : GoodIn wsX4_readGround wsX4_fail := goodIn_r _ [8, 3, 9, 59, 60, 61, 62, 63, 64, 65, 66] (by decide +kernel) (by decide +kernel)
set_option maxRecDepth 20000 in
theorem gX4_readGround_X4_fail : GoodIn wsX4_readGround (wsV RX4 55 RX4 yX4_fail wsX4_fail) := goodIn_app (goodIn_of _ (by decide +kernel)) ggX4_readGround_X4_fail
set_option maxRecDepth 20000 in
theorem ggX4_readGround_X4_readNumber : GoodIn wsX4_readGround wsX4_readNumber := goodIn_r _ [13, 3, 14, 15, 16, 17, 18, 19, 20, 21, 22, 23, 24, 7, 25, 26, 27, 28, 4, 5, 6, 8, 9, 59, 60, 61, 62, 63, 64, 65, 66] (by decide +kernel) (by decide +kernel)
set_option maxRecDepth 20000 in
theorem gX4_readGround_X4_readNumber : GoodIn wsX4_readGround (wsV RX4 78 RX4 yX4_readNumber wsX4_readNumber) := goodIn_app (goodIn_of _ (by decide +kernel)) ggX4_readGround_X4_readNumber
set_option maxRecDepth 20000 in
theorem ggX4_readGround_X0_layOut : GoodIn wsX4_readGround wsX0_layOut := goodIn_r _ [33, 34, 35, 36, 37, 38, 39, 40, 41, 42, 43, 32, 44, 45, 46, 47, 48, 49, 50, 51, 52, 53, 54, 55, 56, 57, 58, 67, 68, 69, 70, 71, 72, 73, 74, 75, 76, 77, 78, 79] (by decide +kernel) (by decide +kernel)
set_option maxRecDepth 20000 in
theorem gX4_readGround_X0_layOut : GoodIn wsX4_readGround (wsV RX4 82 RX0 yX0_layOut wsX0_layOut) := goodIn_app (goodIn_of _ (by decide +kernel)) ggX4_readGround_X0_layOut
theorem dX4_readGround_0 : decode cX4_readGround 0 = .ok (.aload_n 0, 1) := by decide +kernel
theorem dX4_readGround_1 : decode cX4_readGround 1 = .ok (.getfield 18, 3) := by decide +kernel
theorem dX4_readGround_4 : decode cX4_readGround 4 = .ok (.getfield 52, 3) := by decide +kernel
theorem dX4_readGround_7 : decode cX4_readGround 7 = .ok (.ifCond .eq 9, 3) := by decide +kernel
theorem dX4_readGround_10 : decode cX4_readGround 10 = .ok (.aload_n 0, 1) := by decide +kernel
theorem dX4_readGround_11 : decode cX4_readGround 11 = .ok (.iconst 3, 1) := by decide +kernel
theorem dX4_readGround_12 : decode cX4_readGround 12 = .ok (.iload_n 1, 1) := by decide +kernel
theorem dX4_readGround_13 : decode cX4_readGround 13 = .ok (.invokevirtual 55, 3) := by decide +kernel
theorem dX4_readGround_16 : decode cX4_readGround 16 = .ok (.aload_n 0, 1) := by decide +kernel
theorem dX4_readGround_17 : decode cX4_readGround 17 = .ok (.iconst 2, 1) := by decide +kernel
theorem dX4_readGround_18 : decode cX4_readGround 18 = .ok (.iconst 5, 1) := by decide +kernel
