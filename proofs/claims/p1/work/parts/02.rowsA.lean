set_option maxRecDepth 20000 in
theorem ggX0_init_X0_fit : GoodIn wsX0_init wsX0_fit := goodIn_r _ [17] (by decide +kernel) (by decide +kernel)
set_option maxRecDepth 20000 in
theorem gX0_init_X0_fit : GoodIn wsX0_init (va_wsS RX0 9 yX0_fit wsX0_fit) := goodIn_app (goodIn_of _ (by decide +kernel)) ggX0_init_X0_fit
set_option maxRecDepth 20000 in
theorem ggX0_init_X0_bit : GoodIn wsX0_init wsX0_bit := goodIn_r _ [20] (by decide +kernel) (by decide +kernel)
set_option maxRecDepth 20000 in
theorem gX0_init_X0_bit : GoodIn wsX0_init (va_wsS RX0 32 yX0_bit wsX0_bit) := goodIn_app (goodIn_of _ (by decide +kernel)) ggX0_init_X0_bit
set_option maxRecDepth 20000 in
theorem ggX0_init_X0_layCell : GoodIn wsX0_init wsX0_layCell := goodIn_r _ [24, 6, 8, 9, 25, 26, 27, 28, 29, 16, 30, 4, 5, 31, 32, 33, 34, 35, 36, 37, 38] (by decide +kernel) (by decide +kernel)
set_option maxRecDepth 20000 in
theorem gX0_init_X0_layCell : GoodIn wsX0_init (wsV RX0 36 RX0 yX0_layCell wsX0_layCell) := goodIn_app (goodIn_of _ (by decide +kernel)) ggX0_init_X0_layCell
theorem dX0_init_0 : decode cX0_init 0 = .ok (.aload_n 0, 1) := by decide +kernel
theorem dX0_init_1 : decode cX0_init 1 = .ok (.invokespecial 3, 3) := by decide +kernel
theorem dX0_init_4 : decode cX0_init 4 = .ok (.aload_n 0, 1) := by decide +kernel
theorem dX0_init_5 : decode cX0_init 5 = .ok (.iload_n 1, 1) := by decide +kernel
theorem dX0_init_6 : decode cX0_init 6 = .ok (.invokestatic 9, 3) := by decide +kernel
theorem dX0_init_9 : decode cX0_init 9 = .ok (.putfield 15, 3) := by decide +kernel
theorem dX0_init_12 : decode cX0_init 12 = .ok (.aload_n 0, 1) := by decide +kernel
theorem dX0_init_13 : decode cX0_init 13 = .ok (.iload_n 2, 1) := by decide +kernel
theorem dX0_init_14 : decode cX0_init 14 = .ok (.invokestatic 9, 3) := by decide +kernel
theorem dX0_init_17 : decode cX0_init 17 = .ok (.putfield 19, 3) := by decide +kernel
theorem dX0_init_20 : decode cX0_init 20 = .ok (.aload_n 0, 1) := by decide +kernel
theorem dX0_init_21 : decode cX0_init 21 = .ok (.aload_n 0, 1) := by decide +kernel
theorem dX0_init_22 : decode cX0_init 22 = .ok (.getfield 15, 3) := by decide +kernel
theorem dX0_init_25 : decode cX0_init 25 = .ok (.aload_n 0, 1) := by decide +kernel
theorem dX0_init_26 : decode cX0_init 26 = .ok (.getfield 19, 3) := by decide +kernel
theorem dX0_init_29 : decode cX0_init 29 = .ok (.imul, 1) := by decide +kernel
theorem dX0_init_30 : decode cX0_init 30 = .ok (.putfield 22, 3) := by decide +kernel
theorem dX0_init_33 : decode cX0_init 33 = .ok (.aload_n 0, 1) := by decide +kernel
theorem dX0_init_34 : decode cX0_init 34 = .ok (.aload_n 0, 1) := by decide +kernel
theorem dX0_init_35 : decode cX0_init 35 = .ok (.getfield 22, 3) := by decide +kernel
theorem dX0_init_38 : decode cX0_init 38 = .ok (.newarray .int, 2) := by decide +kernel
theorem dX0_init_40 : decode cX0_init 40 = .ok (.putfield 25, 3) := by decide +kernel
theorem dX0_init_43 : decode cX0_init 43 = .ok (.aload_n 0, 1) := by decide +kernel
theorem dX0_init_44 : decode cX0_init 44 = .ok (.bipush 16, 2) := by decide +kernel
theorem dX0_init_46 : decode cX0_init 46 = .ok (.aload_n 0, 1) := by decide +kernel
theorem dX0_init_47 : decode cX0_init 47 = .ok (.getfield 22, 3) := by decide +kernel
theorem dX0_init_50 : decode cX0_init 50 = .ok (.imul, 1) := by decide +kernel
theorem dX0_init_51 : decode cX0_init 51 = .ok (.newarray .int, 2) := by decide +kernel
theorem dX0_init_53 : decode cX0_init 53 = .ok (.putfield 29, 3) := by decide +kernel
theorem dX0_init_56 : decode cX0_init 56 = .ok (.lconst 0, 1) := by decide +kernel
theorem dX0_init_57 : decode cX0_init 57 = .ok (.lstore_n 3, 1) := by decide +kernel
theorem dX0_init_58 : decode cX0_init 58 = .ok (.iconst 0, 1) := by decide +kernel
theorem dX0_init_59 : decode cX0_init 59 = .ok (.istore 5, 2) := by decide +kernel
theorem dX0_init_61 : decode cX0_init 61 = .ok (.iload 5, 2) := by decide +kernel
theorem dX0_init_63 : decode cX0_init 63 = .ok (.aload_n 0, 1) := by decide +kernel
theorem dX0_init_64 : decode cX0_init 64 = .ok (.getfield 19, 3) := by decide +kernel
theorem dX0_init_67 : decode cX0_init 67 = .ok (.if_icmp .ge 48, 3) := by decide +kernel
theorem dX0_init_70 : decode cX0_init 70 = .ok (.lload_n 3, 1) := by decide +kernel
theorem dX0_init_71 : decode cX0_init 71 = .ok (.aload_n 0, 1) := by decide +kernel
theorem dX0_init_72 : decode cX0_init 72 = .ok (.getfield 15, 3) := by decide +kernel
theorem dX0_init_75 : decode cX0_init 75 = .ok (.iload 5, 2) := by decide +kernel
theorem dX0_init_77 : decode cX0_init 77 = .ok (.imul, 1) := by decide +kernel
theorem dX0_init_78 : decode cX0_init 78 = .ok (.invokestatic 32, 3) := by decide +kernel
theorem dX0_init_81 : decode cX0_init 81 = .ok (.lor, 1) := by decide +kernel
theorem dX0_init_82 : decode cX0_init 82 = .ok (.lstore_n 3, 1) := by decide +kernel
theorem dX0_init_83 : decode cX0_init 83 = .ok (.iconst 0, 1) := by decide +kernel
theorem dX0_init_84 : decode cX0_init 84 = .ok (.istore 6, 2) := by decide +kernel
theorem dX0_init_86 : decode cX0_init 86 = .ok (.iload 6, 2) := by decide +kernel
theorem dX0_init_88 : decode cX0_init 88 = .ok (.aload_n 0, 1) := by decide +kernel
theorem dX0_init_89 : decode cX0_init 89 = .ok (.getfield 15, 3) := by decide +kernel
theorem dX0_init_92 : decode cX0_init 92 = .ok (.if_icmp .ge 17, 3) := by decide +kernel
theorem dX0_init_95 : decode cX0_init 95 = .ok (.aload_n 0, 1) := by decide +kernel
theorem dX0_init_96 : decode cX0_init 96 = .ok (.iload 6, 2) := by decide +kernel
theorem dX0_init_98 : decode cX0_init 98 = .ok (.iload 5, 2) := by decide +kernel
theorem dX0_init_100 : decode cX0_init 100 = .ok (.invokevirtual 36, 3) := by decide +kernel
theorem dX0_init_103 : decode cX0_init 103 = .ok (.iinc 6 1, 3) := by decide +kernel
theorem dX0_init_106 : decode cX0_init 106 = .ok (.goto (-20), 3) := by decide +kernel
theorem dX0_init_109 : decode cX0_init 109 = .ok (.iinc 5 1, 3) := by decide +kernel
theorem dX0_init_112 : decode cX0_init 112 = .ok (.goto (-51), 3) := by decide +kernel
theorem dX0_init_115 : decode cX0_init 115 = .ok (.aload_n 0, 1) := by decide +kernel
theorem dX0_init_116 : decode cX0_init 116 = .ok (.ldc2_w 40, 3) := by decide +kernel
theorem dX0_init_119 : decode cX0_init 119 = .ok (.bipush 64, 2) := by decide +kernel
theorem dX0_init_121 : decode cX0_init 121 = .ok (.aload_n 0, 1) := by decide +kernel
theorem dX0_init_122 : decode cX0_init 122 = .ok (.getfield 22, 3) := by decide +kernel
theorem dX0_init_125 : decode cX0_init 125 = .ok (.isub, 1) := by decide +kernel
theorem dX0_init_126 : decode cX0_init 126 = .ok (.lushr, 1) := by decide +kernel
theorem dX0_init_127 : decode cX0_init 127 = .ok (.putfield 42, 3) := by decide +kernel
theorem dX0_init_130 : decode cX0_init 130 = .ok (.aload_n 0, 1) := by decide +kernel
theorem dX0_init_131 : decode cX0_init 131 = .ok (.lload_n 3, 1) := by decide +kernel
theorem dX0_init_132 : decode cX0_init 132 = .ok (.putfield 46, 3) := by decide +kernel
theorem dX0_init_135 : decode cX0_init 135 = .ok (.aload_n 0, 1) := by decide +kernel
theorem dX0_init_136 : decode cX0_init 136 = .ok (.lload_n 3, 1) := by decide +kernel
theorem dX0_init_137 : decode cX0_init 137 = .ok (.aload_n 0, 1) := by decide +kernel
theorem dX0_init_138 : decode cX0_init 138 = .ok (.getfield 15, 3) := by decide +kernel
theorem dX0_init_141 : decode cX0_init 141 = .ok (.iconst 1, 1) := by decide +kernel
theorem dX0_init_142 : decode cX0_init 142 = .ok (.isub, 1) := by decide +kernel
theorem dX0_init_143 : decode cX0_init 143 = .ok (.lshl, 1) := by decide +kernel
theorem dX0_init_144 : decode cX0_init 144 = .ok (.putfield 49, 3) := by decide +kernel
theorem dX0_init_147 : decode cX0_init 147 = .ok (.return_, 1) := by decide +kernel
theorem dX0_fit_0 : decode cX0_fit 0 = .ok (.iload_n 0, 1) := by decide +kernel
theorem dX0_fit_1 : decode cX0_fit 1 = .ok (.iconst 3, 1) := by decide +kernel
theorem dX0_fit_2 : decode cX0_fit 2 = .ok (.if_icmp .lt 9, 3) := by decide +kernel
theorem dX0_fit_5 : decode cX0_fit 5 = .ok (.iload_n 0, 1) := by decide +kernel
theorem dX0_fit_6 : decode cX0_fit 6 = .ok (.bipush 8, 2) := by decide +kernel
theorem dX0_fit_8 : decode cX0_fit 8 = .ok (.if_icmp .le 8, 3) := by decide +kernel
theorem dX0_fit_11 : decode cX0_fit 11 = .ok (.bipush 8, 2) := by decide +kernel
theorem dX0_fit_13 : decode cX0_fit 13 = .ok (.goto 4, 3) := by decide +kernel
theorem dX0_fit_16 : decode cX0_fit 16 = .ok (.iload_n 0, 1) := by decide +kernel
theorem dX0_fit_17 : decode cX0_fit 17 = .ok (.ireturn, 1) := by decide +kernel
set_option maxRecDepth 20000 in
theorem ggX0_layCell_X0_cellAt : GoodIn wsX0_layCell wsX0_cellAt := goodIn_r _ [10, 11, 12, 13, 14, 15, 16, 17, 18, 19, 20] (by decide +kernel) (by decide +kernel)
set_option maxRecDepth 20000 in
theorem gX0_layCell_X0_cellAt : GoodIn wsX0_layCell (wsV RX0 52 RX0 yX0_cellAt wsX0_cellAt) := goodIn_app (goodIn_of _ (by decide +kernel)) ggX0_layCell_X0_cellAt
theorem dX0_layCell_0 : decode cX0_layCell 0 = .ok (.aload_n 0, 1) := by decide +kernel
theorem dX0_layCell_1 : decode cX0_layCell 1 = .ok (.iload_n 1, 1) := by decide +kernel
theorem dX0_layCell_2 : decode cX0_layCell 2 = .ok (.iload_n 2, 1) := by decide +kernel
theorem dX0_layCell_3 : decode cX0_layCell 3 = .ok (.invokevirtual 52, 3) := by decide +kernel
theorem dX0_layCell_6 : decode cX0_layCell 6 = .ok (.istore_n 3, 1) := by decide +kernel
theorem dX0_layCell_7 : decode cX0_layCell 7 = .ok (.iload_n 3, 1) := by decide +kernel
theorem dX0_layCell_8 : decode cX0_layCell 8 = .ok (.ifCond .lt 11, 3) := by decide +kernel
theorem dX0_layCell_11 : decode cX0_layCell 11 = .ok (.iload_n 3, 1) := by decide +kernel
theorem dX0_layCell_12 : decode cX0_layCell 12 = .ok (.aload_n 0, 1) := by decide +kernel
theorem dX0_layCell_13 : decode cX0_layCell 13 = .ok (.getfield 22, 3) := by decide +kernel
theorem dX0_layCell_16 : decode cX0_layCell 16 = .ok (.if_icmp .lt 4, 3) := by decide +kernel
theorem dX0_layCell_19 : decode cX0_layCell 19 = .ok (.return_, 1) := by decide +kernel
theorem dX0_layCell_20 : decode cX0_layCell 20 = .ok (.aload_n 0, 1) := by decide +kernel
theorem dX0_layCell_21 : decode cX0_layCell 21 = .ok (.getfield 25, 3) := by decide +kernel
theorem dX0_layCell_24 : decode cX0_layCell 24 = .ok (.iload_n 3, 1) := by decide +kernel
theorem dX0_layCell_25 : decode cX0_layCell 25 = .ok (.iload_n 1, 1) := by decide +kernel
theorem dX0_layCell_26 : decode cX0_layCell 26 = .ok (.bipush 8, 2) := by decide +kernel
theorem dX0_layCell_28 : decode cX0_layCell 28 = .ok (.iload_n 2, 1) := by decide +kernel
theorem dX0_layCell_29 : decode cX0_layCell 29 = .ok (.imul, 1) := by decide +kernel
theorem dX0_layCell_30 : decode cX0_layCell 30 = .ok (.iadd, 1) := by decide +kernel
theorem dX0_layCell_31 : decode cX0_layCell 31 = .ok (.iastore, 1) := by decide +kernel
theorem dX0_layCell_32 : decode cX0_layCell 32 = .ok (.iconst 0, 1) := by decide +kernel
theorem dX0_layCell_33 : decode cX0_layCell 33 = .ok (.istore 4, 2) := by decide +kernel
theorem dX0_layCell_35 : decode cX0_layCell 35 = .ok (.iload 4, 2) := by decide +kernel
theorem dX0_layCell_37 : decode cX0_layCell 37 = .ok (.bipush 16, 2) := by decide +kernel
theorem dX0_layCell_39 : decode cX0_layCell 39 = .ok (.if_icmp .ge 43, 3) := by decide +kernel
theorem dX0_layCell_42 : decode cX0_layCell 42 = .ok (.aload_n 0, 1) := by decide +kernel
theorem dX0_layCell_43 : decode cX0_layCell 43 = .ok (.getfield 29, 3) := by decide +kernel
theorem dX0_layCell_46 : decode cX0_layCell 46 = .ok (.iload 4, 2) := by decide +kernel
theorem dX0_layCell_48 : decode cX0_layCell 48 = .ok (.aload_n 0, 1) := by decide +kernel
theorem dX0_layCell_49 : decode cX0_layCell 49 = .ok (.getfield 22, 3) := by decide +kernel
theorem dX0_layCell_52 : decode cX0_layCell 52 = .ok (.imul, 1) := by decide +kernel
theorem dX0_layCell_53 : decode cX0_layCell 53 = .ok (.iload_n 3, 1) := by decide +kernel
theorem dX0_layCell_54 : decode cX0_layCell 54 = .ok (.iadd, 1) := by decide +kernel
theorem dX0_layCell_55 : decode cX0_layCell 55 = .ok (.aload_n 0, 1) := by decide +kernel
theorem dX0_layCell_56 : decode cX0_layCell 56 = .ok (.iload_n 1, 1) := by decide +kernel
theorem dX0_layCell_57 : decode cX0_layCell 57 = .ok (.getstatic 56, 3) := by decide +kernel
theorem dX0_layCell_60 : decode cX0_layCell 60 = .ok (.iload 4, 2) := by decide +kernel
theorem dX0_layCell_62 : decode cX0_layCell 62 = .ok (.iaload, 1) := by decide +kernel
theorem dX0_layCell_63 : decode cX0_layCell 63 = .ok (.iadd, 1) := by decide +kernel
theorem dX0_layCell_64 : decode cX0_layCell 64 = .ok (.iload_n 2, 1) := by decide +kernel
theorem dX0_layCell_65 : decode cX0_layCell 65 = .ok (.getstatic 59, 3) := by decide +kernel
theorem dX0_layCell_68 : decode cX0_layCell 68 = .ok (.iload 4, 2) := by decide +kernel
theorem dX0_layCell_70 : decode cX0_layCell 70 = .ok (.iaload, 1) := by decide +kernel
theorem dX0_layCell_71 : decode cX0_layCell 71 = .ok (.iadd, 1) := by decide +kernel
theorem dX0_layCell_72 : decode cX0_layCell 72 = .ok (.invokevirtual 52, 3) := by decide +kernel
theorem dX0_layCell_75 : decode cX0_layCell 75 = .ok (.iastore, 1) := by decide +kernel
theorem dX0_layCell_76 : decode cX0_layCell 76 = .ok (.iinc 4 1, 3) := by decide +kernel
theorem dX0_layCell_79 : decode cX0_layCell 79 = .ok (.goto (-44), 3) := by decide +kernel
theorem dX0_layCell_82 : decode cX0_layCell 82 = .ok (.return_, 1) := by decide +kernel
theorem dX0_cellAt_0 : decode cX0_cellAt 0 = .ok (.iload_n 1, 1) := by decide +kernel
theorem dX0_cellAt_1 : decode cX0_cellAt 1 = .ok (.ifCond .lt 27, 3) := by decide +kernel
theorem dX0_cellAt_4 : decode cX0_cellAt 4 = .ok (.iload_n 1, 1) := by decide +kernel
theorem dX0_cellAt_5 : decode cX0_cellAt 5 = .ok (.aload_n 0, 1) := by decide +kernel
theorem dX0_cellAt_6 : decode cX0_cellAt 6 = .ok (.getfield 15, 3) := by decide +kernel
theorem dX0_cellAt_9 : decode cX0_cellAt 9 = .ok (.if_icmp .ge 19, 3) := by decide +kernel
theorem dX0_cellAt_12 : decode cX0_cellAt 12 = .ok (.iload_n 2, 1) := by decide +kernel
theorem dX0_cellAt_13 : decode cX0_cellAt 13 = .ok (.ifCond .lt 15, 3) := by decide +kernel
theorem dX0_cellAt_16 : decode cX0_cellAt 16 = .ok (.iload_n 2, 1) := by decide +kernel
theorem dX0_cellAt_17 : decode cX0_cellAt 17 = .ok (.aload_n 0, 1) := by decide +kernel
theorem dX0_cellAt_18 : decode cX0_cellAt 18 = .ok (.getfield 19, 3) := by decide +kernel
theorem dX0_cellAt_21 : decode cX0_cellAt 21 = .ok (.if_icmp .ge 7, 3) := by decide +kernel
theorem dX0_cellAt_24 : decode cX0_cellAt 24 = .ok (.iconst 1, 1) := by decide +kernel
theorem dX0_cellAt_25 : decode cX0_cellAt 25 = .ok (.goto 4, 3) := by decide +kernel
theorem dX0_cellAt_28 : decode cX0_cellAt 28 = .ok (.iconst 0, 1) := by decide +kernel
theorem dX0_cellAt_29 : decode cX0_cellAt 29 = .ok (.istore_n 3, 1) := by decide +kernel
theorem dX0_cellAt_30 : decode cX0_cellAt 30 = .ok (.iload_n 3, 1) := by decide +kernel
theorem dX0_cellAt_31 : decode cX0_cellAt 31 = .ok (.ifCond .eq 14, 3) := by decide +kernel
theorem dX0_cellAt_34 : decode cX0_cellAt 34 = .ok (.iload_n 1, 1) := by decide +kernel
theorem dX0_cellAt_35 : decode cX0_cellAt 35 = .ok (.aload_n 0, 1) := by decide +kernel
theorem dX0_cellAt_36 : decode cX0_cellAt 36 = .ok (.getfield 15, 3) := by decide +kernel
theorem dX0_cellAt_39 : decode cX0_cellAt 39 = .ok (.iload_n 2, 1) := by decide +kernel
theorem dX0_cellAt_40 : decode cX0_cellAt 40 = .ok (.imul, 1) := by decide +kernel
theorem dX0_cellAt_41 : decode cX0_cellAt 41 = .ok (.iadd, 1) := by decide +kernel
theorem dX0_cellAt_42 : decode cX0_cellAt 42 = .ok (.goto 4, 3) := by decide +kernel
theorem dX0_cellAt_45 : decode cX0_cellAt 45 = .ok (.iconst (-1), 1) := by decide +kernel
theorem dX0_cellAt_46 : decode cX0_cellAt 46 = .ok (.ireturn, 1) := by decide +kernel
set_option maxRecDepth 20000 in
theorem ggX0_cellOf_X0_cellAt : GoodIn wsX0_cellOf wsX0_cellAt := goodIn_r _ [5, 6, 7, 8, 9, 10, 11, 12, 13, 14, 15] (by decide +kernel) (by decide +kernel)
set_option maxRecDepth 20000 in
theorem gX0_cellOf_X0_cellAt : GoodIn wsX0_cellOf (wsV RX0 52 RX0 yX0_cellAt wsX0_cellAt) := goodIn_app (goodIn_of _ (by decide +kernel)) ggX0_cellOf_X0_cellAt
theorem dX0_cellOf_0 : decode cX0_cellOf 0 = .ok (.iload_n 1, 1) := by decide +kernel
theorem dX0_cellOf_1 : decode cX0_cellOf 1 = .ok (.ifCond .lt 9, 3) := by decide +kernel
theorem dX0_cellOf_4 : decode cX0_cellOf 4 = .ok (.iload_n 1, 1) := by decide +kernel
theorem dX0_cellOf_5 : decode cX0_cellOf 5 = .ok (.bipush 63, 2) := by decide +kernel
theorem dX0_cellOf_7 : decode cX0_cellOf 7 = .ok (.if_icmp .le 7, 3) := by decide +kernel
theorem dX0_cellOf_10 : decode cX0_cellOf 10 = .ok (.iconst (-1), 1) := by decide +kernel
theorem dX0_cellOf_11 : decode cX0_cellOf 11 = .ok (.goto 14, 3) := by decide +kernel
theorem dX0_cellOf_14 : decode cX0_cellOf 14 = .ok (.aload_n 0, 1) := by decide +kernel
theorem dX0_cellOf_15 : decode cX0_cellOf 15 = .ok (.iload_n 1, 1) := by decide +kernel
theorem dX0_cellOf_16 : decode cX0_cellOf 16 = .ok (.bipush 7, 2) := by decide +kernel
theorem dX0_cellOf_18 : decode cX0_cellOf 18 = .ok (.iand, 1) := by decide +kernel
theorem dX0_cellOf_19 : decode cX0_cellOf 19 = .ok (.iload_n 1, 1) := by decide +kernel
theorem dX0_cellOf_20 : decode cX0_cellOf 20 = .ok (.iconst 3, 1) := by decide +kernel
theorem dX0_cellOf_21 : decode cX0_cellOf 21 = .ok (.ishr, 1) := by decide +kernel
theorem dX0_cellOf_22 : decode cX0_cellOf 22 = .ok (.invokevirtual 52, 3) := by decide +kernel
theorem dX0_cellOf_25 : decode cX0_cellOf 25 = .ok (.ireturn, 1) := by decide +kernel
theorem dX0_squareOf_0 : decode cX0_squareOf 0 = .ok (.iload_n 1, 1) := by decide +kernel
theorem dX0_squareOf_1 : decode cX0_squareOf 1 = .ok (.ifCond .lt 11, 3) := by decide +kernel
theorem dX0_squareOf_4 : decode cX0_squareOf 4 = .ok (.iload_n 1, 1) := by decide +kernel
theorem dX0_squareOf_5 : decode cX0_squareOf 5 = .ok (.aload_n 0, 1) := by decide +kernel
theorem dX0_squareOf_6 : decode cX0_squareOf 6 = .ok (.getfield 22, 3) := by decide +kernel
theorem dX0_squareOf_9 : decode cX0_squareOf 9 = .ok (.if_icmp .lt 7, 3) := by decide +kernel
theorem dX0_squareOf_12 : decode cX0_squareOf 12 = .ok (.iconst 0, 1) := by decide +kernel
theorem dX0_squareOf_13 : decode cX0_squareOf 13 = .ok (.goto 9, 3) := by decide +kernel
theorem dX0_squareOf_16 : decode cX0_squareOf 16 = .ok (.aload_n 0, 1) := by decide +kernel
theorem dX0_squareOf_17 : decode cX0_squareOf 17 = .ok (.getfield 25, 3) := by decide +kernel
theorem dX0_squareOf_20 : decode cX0_squareOf 20 = .ok (.iload_n 1, 1) := by decide +kernel
theorem dX0_squareOf_21 : decode cX0_squareOf 21 = .ok (.iaload, 1) := by decide +kernel
theorem dX0_squareOf_22 : decode cX0_squareOf 22 = .ok (.ireturn, 1) := by decide +kernel
set_option maxRecDepth 20000 in
theorem ggX0_rankOf_X0_squareOf : GoodIn wsX0_rankOf wsX0_squareOf := goodIn_r _ [5, 6, 7, 8, 9, 10, 11, 12, 13, 14, 15] (by decide +kernel) (by decide +kernel)
set_option maxRecDepth 20000 in
theorem gX0_rankOf_X0_squareOf : GoodIn wsX0_rankOf (wsV RX0 62 RX0 yX0_squareOf wsX0_squareOf) := goodIn_app (goodIn_of _ (by decide +kernel)) ggX0_rankOf_X0_squareOf
theorem dX0_rankOf_0 : decode cX0_rankOf 0 = .ok (.aload_n 0, 1) := by decide +kernel
theorem dX0_rankOf_1 : decode cX0_rankOf 1 = .ok (.iload_n 1, 1) := by decide +kernel
theorem dX0_rankOf_2 : decode cX0_rankOf 2 = .ok (.invokevirtual 62, 3) := by decide +kernel
theorem dX0_rankOf_5 : decode cX0_rankOf 5 = .ok (.iconst 3, 1) := by decide +kernel
theorem dX0_rankOf_6 : decode cX0_rankOf 6 = .ok (.ishr, 1) := by decide +kernel
theorem dX0_rankOf_7 : decode cX0_rankOf 7 = .ok (.ireturn, 1) := by decide +kernel
theorem dX0_bit_0 : decode cX0_bit 0 = .ok (.iload_n 0, 1) := by decide +kernel
theorem dX0_bit_1 : decode cX0_bit 1 = .ok (.ifCond .lt 9, 3) := by decide +kernel
theorem dX0_bit_4 : decode cX0_bit 4 = .ok (.iload_n 0, 1) := by decide +kernel
theorem dX0_bit_5 : decode cX0_bit 5 = .ok (.bipush 63, 2) := by decide +kernel
theorem dX0_bit_7 : decode cX0_bit 7 = .ok (.if_icmp .le 7, 3) := by decide +kernel
theorem dX0_bit_10 : decode cX0_bit 10 = .ok (.lconst 0, 1) := by decide +kernel
theorem dX0_bit_11 : decode cX0_bit 11 = .ok (.goto 6, 3) := by decide +kernel
theorem dX0_bit_14 : decode cX0_bit 14 = .ok (.lconst 1, 1) := by decide +kernel
theorem dX0_bit_15 : decode cX0_bit 15 = .ok (.iload_n 0, 1) := by decide +kernel
theorem dX0_bit_16 : decode cX0_bit 16 = .ok (.lshl, 1) := by decide +kernel
theorem dX0_bit_17 : decode cX0_bit 17 = .ok (.lreturn, 1) := by decide +kernel
theorem dX0_step_0 : decode cX0_step 0 = .ok (.iload_n 1, 1) := by decide +kernel
theorem dX0_step_1 : decode cX0_step 1 = .ok (.ifCond .lt 21, 3) := by decide +kernel
theorem dX0_step_4 : decode cX0_step 4 = .ok (.iload_n 1, 1) := by decide +kernel
theorem dX0_step_5 : decode cX0_step 5 = .ok (.aload_n 0, 1) := by decide +kernel
theorem dX0_step_6 : decode cX0_step 6 = .ok (.getfield 22, 3) := by decide +kernel
theorem dX0_step_9 : decode cX0_step 9 = .ok (.if_icmp .ge 13, 3) := by decide +kernel
theorem dX0_step_12 : decode cX0_step 12 = .ok (.iload_n 2, 1) := by decide +kernel
theorem dX0_step_13 : decode cX0_step 13 = .ok (.ifCond .lt 9, 3) := by decide +kernel
theorem dX0_step_16 : decode cX0_step 16 = .ok (.iload_n 2, 1) := by decide +kernel
theorem dX0_step_17 : decode cX0_step 17 = .ok (.bipush 16, 2) := by decide +kernel
theorem dX0_step_19 : decode cX0_step 19 = .ok (.if_icmp .lt 5, 3) := by decide +kernel
theorem dX0_step_22 : decode cX0_step 22 = .ok (.iconst (-1), 1) := by decide +kernel
theorem dX0_step_23 : decode cX0_step 23 = .ok (.ireturn, 1) := by decide +kernel
theorem dX0_step_24 : decode cX0_step 24 = .ok (.aload_n 0, 1) := by decide +kernel
theorem dX0_step_25 : decode cX0_step 25 = .ok (.getfield 29, 3) := by decide +kernel
theorem dX0_step_28 : decode cX0_step 28 = .ok (.iload_n 2, 1) := by decide +kernel
theorem dX0_step_29 : decode cX0_step 29 = .ok (.aload_n 0, 1) := by decide +kernel
theorem dX0_step_30 : decode cX0_step 30 = .ok (.getfield 22, 3) := by decide +kernel
theorem dX0_step_33 : decode cX0_step 33 = .ok (.imul, 1) := by decide +kernel
theorem dX0_step_34 : decode cX0_step 34 = .ok (.iload_n 1, 1) := by decide +kernel
theorem dX0_step_35 : decode cX0_step 35 = .ok (.iadd, 1) := by decide +kernel
theorem dX0_step_36 : decode cX0_step 36 = .ok (.iaload, 1) := by decide +kernel
theorem dX0_step_37 : decode cX0_step 37 = .ok (.ireturn, 1) := by decide +kernel
theorem dX0_nextTo_0 : decode cX0_nextTo 0 = .ok (.lload_n 1, 1) := by decide +kernel
theorem dX0_nextTo_1 : decode cX0_nextTo 1 = .ok (.aload_n 0, 1) := by decide +kernel
theorem dX0_nextTo_2 : decode cX0_nextTo 2 = .ok (.getfield 46, 3) := by decide +kernel
theorem dX0_nextTo_5 : decode cX0_nextTo 5 = .ok (.ldc2_w 40, 3) := by decide +kernel
theorem dX0_nextTo_8 : decode cX0_nextTo 8 = .ok (.lxor, 1) := by decide +kernel
theorem dX0_nextTo_9 : decode cX0_nextTo 9 = .ok (.land, 1) := by decide +kernel
theorem dX0_nextTo_10 : decode cX0_nextTo 10 = .ok (.iconst 1, 1) := by decide +kernel
theorem dX0_nextTo_11 : decode cX0_nextTo 11 = .ok (.lushr, 1) := by decide +kernel
theorem dX0_nextTo_12 : decode cX0_nextTo 12 = .ok (.lstore_n 3, 1) := by decide +kernel
theorem dX0_nextTo_13 : decode cX0_nextTo 13 = .ok (.lload_n 1, 1) := by decide +kernel
theorem dX0_nextTo_14 : decode cX0_nextTo 14 = .ok (.aload_n 0, 1) := by decide +kernel
theorem dX0_nextTo_15 : decode cX0_nextTo 15 = .ok (.getfield 49, 3) := by decide +kernel
theorem dX0_nextTo_18 : decode cX0_nextTo 18 = .ok (.ldc2_w 40, 3) := by decide +kernel
theorem dX0_nextTo_21 : decode cX0_nextTo 21 = .ok (.lxor, 1) := by decide +kernel
theorem dX0_nextTo_22 : decode cX0_nextTo 22 = .ok (.land, 1) := by decide +kernel
theorem dX0_nextTo_23 : decode cX0_nextTo 23 = .ok (.iconst 1, 1) := by decide +kernel
theorem dX0_nextTo_24 : decode cX0_nextTo 24 = .ok (.lshl, 1) := by decide +kernel
theorem dX0_nextTo_25 : decode cX0_nextTo 25 = .ok (.lstore 5, 2) := by decide +kernel
theorem dX0_nextTo_27 : decode cX0_nextTo 27 = .ok (.lload_n 1, 1) := by decide +kernel
theorem dX0_nextTo_28 : decode cX0_nextTo 28 = .ok (.lload_n 3, 1) := by decide +kernel
theorem dX0_nextTo_29 : decode cX0_nextTo 29 = .ok (.lor, 1) := by decide +kernel
theorem dX0_nextTo_30 : decode cX0_nextTo 30 = .ok (.lload 5, 2) := by decide +kernel
theorem dX0_nextTo_32 : decode cX0_nextTo 32 = .ok (.lor, 1) := by decide +kernel
theorem dX0_nextTo_33 : decode cX0_nextTo 33 = .ok (.lstore 7, 2) := by decide +kernel
theorem dX0_nextTo_35 : decode cX0_nextTo 35 = .ok (.lload_n 3, 1) := by decide +kernel
theorem dX0_nextTo_36 : decode cX0_nextTo 36 = .ok (.lload 5, 2) := by decide +kernel
theorem dX0_nextTo_38 : decode cX0_nextTo 38 = .ok (.lor, 1) := by decide +kernel
theorem dX0_nextTo_39 : decode cX0_nextTo 39 = .ok (.lload 7, 2) := by decide +kernel
theorem dX0_nextTo_41 : decode cX0_nextTo 41 = .ok (.aload_n 0, 1) := by decide +kernel
theorem dX0_nextTo_42 : decode cX0_nextTo 42 = .ok (.getfield 15, 3) := by decide +kernel
theorem dX0_nextTo_45 : decode cX0_nextTo 45 = .ok (.lshl, 1) := by decide +kernel
theorem dX0_nextTo_46 : decode cX0_nextTo 46 = .ok (.lor, 1) := by decide +kernel
theorem dX0_nextTo_47 : decode cX0_nextTo 47 = .ok (.lload 7, 2) := by decide +kernel
theorem dX0_nextTo_49 : decode cX0_nextTo 49 = .ok (.aload_n 0, 1) := by decide +kernel
theorem dX0_nextTo_50 : decode cX0_nextTo 50 = .ok (.getfield 15, 3) := by decide +kernel
theorem dX0_nextTo_53 : decode cX0_nextTo 53 = .ok (.lushr, 1) := by decide +kernel
theorem dX0_nextTo_54 : decode cX0_nextTo 54 = .ok (.lor, 1) := by decide +kernel
theorem dX0_nextTo_55 : decode cX0_nextTo 55 = .ok (.aload_n 0, 1) := by decide +kernel
theorem dX0_nextTo_56 : decode cX0_nextTo 56 = .ok (.getfield 42, 3) := by decide +kernel
theorem dX0_nextTo_59 : decode cX0_nextTo 59 = .ok (.land, 1) := by decide +kernel
theorem dX0_nextTo_60 : decode cX0_nextTo 60 = .ok (.lreturn, 1) := by decide +kernel
set_option maxRecDepth 20000 in
theorem ggX0_around_X0_bit : GoodIn wsX0_around wsX0_bit := goodIn_r _ [4] (by decide +kernel) (by decide +kernel)
set_option maxRecDepth 20000 in
theorem gX0_around_X0_bit : GoodIn wsX0_around (va_wsS RX0 32 yX0_bit wsX0_bit) := goodIn_app (goodIn_of _ (by decide +kernel)) ggX0_around_X0_bit
set_option maxRecDepth 20000 in
theorem ggX0_around_X0_nextTo : GoodIn wsX0_around wsX0_nextTo := goodIn_r _ [8, 9, 10, 11, 12, 13, 14, 15, 16, 17, 18, 19, 20, 21] (by decide +kernel) (by decide +kernel)
set_option maxRecDepth 20000 in
theorem gX0_around_X0_nextTo : GoodIn wsX0_around (wsV RX0 65 RX0 yX0_nextTo wsX0_nextTo) := goodIn_app (goodIn_of _ (by decide +kernel)) ggX0_around_X0_nextTo
theorem dX0_around_0 : decode cX0_around 0 = .ok (.aload_n 0, 1) := by decide +kernel
theorem dX0_around_1 : decode cX0_around 1 = .ok (.iload_n 1, 1) := by decide +kernel
theorem dX0_around_2 : decode cX0_around 2 = .ok (.invokestatic 32, 3) := by decide +kernel
theorem dX0_around_5 : decode cX0_around 5 = .ok (.invokevirtual 65, 3) := by decide +kernel
theorem dX0_around_8 : decode cX0_around 8 = .ok (.lreturn, 1) := by decide +kernel
theorem dX0_firstWay_0 : decode cX0_firstWay 0 = .ok (.iload_n 0, 1) := by decide +kernel
theorem dX0_firstWay_1 : decode cX0_firstWay 1 = .ok (.iconst 2, 1) := by decide +kernel
theorem dX0_firstWay_2 : decode cX0_firstWay 2 = .ok (.if_icmp .ne 8, 3) := by decide +kernel
theorem dX0_firstWay_5 : decode cX0_firstWay 5 = .ok (.bipush 8, 2) := by decide +kernel
theorem dX0_firstWay_7 : decode cX0_firstWay 7 = .ok (.goto 13, 3) := by decide +kernel
theorem dX0_firstWay_10 : decode cX0_firstWay 10 = .ok (.iload_n 0, 1) := by decide +kernel
theorem dX0_firstWay_11 : decode cX0_firstWay 11 = .ok (.iconst 3, 1) := by decide +kernel
theorem dX0_firstWay_12 : decode cX0_firstWay 12 = .ok (.if_icmp .ne 7, 3) := by decide +kernel
theorem dX0_firstWay_15 : decode cX0_firstWay 15 = .ok (.iconst 4, 1) := by decide +kernel
theorem dX0_firstWay_16 : decode cX0_firstWay 16 = .ok (.goto 4, 3) := by decide +kernel
theorem dX0_firstWay_19 : decode cX0_firstWay 19 = .ok (.iconst 0, 1) := by decide +kernel
theorem dX0_firstWay_20 : decode cX0_firstWay 20 = .ok (.ireturn, 1) := by decide +kernel
theorem dX0_endOfWays_0 : decode cX0_endOfWays 0 = .ok (.iload_n 0, 1) := by decide +kernel
theorem dX0_endOfWays_1 : decode cX0_endOfWays 1 = .ok (.tableswitch 39 2 5 #[31, 34, 37, 34], 31) := by decide +kernel
theorem dX0_endOfWays_32 : decode cX0_endOfWays 32 = .ok (.bipush 16, 2) := by decide +kernel
theorem dX0_endOfWays_34 : decode cX0_endOfWays 34 = .ok (.ireturn, 1) := by decide +kernel
theorem dX0_endOfWays_35 : decode cX0_endOfWays 35 = .ok (.bipush 8, 2) := by decide +kernel
theorem dX0_endOfWays_37 : decode cX0_endOfWays 37 = .ok (.ireturn, 1) := by decide +kernel
theorem dX0_endOfWays_38 : decode cX0_endOfWays 38 = .ok (.iconst 4, 1) := by decide +kernel
theorem dX0_endOfWays_39 : decode cX0_endOfWays 39 = .ok (.ireturn, 1) := by decide +kernel
theorem dX0_endOfWays_40 : decode cX0_endOfWays 40 = .ok (.iconst 0, 1) := by decide +kernel
theorem dX0_endOfWays_41 : decode cX0_endOfWays 41 = .ok (.ireturn, 1) := by decide +kernel
theorem dX0_reach_0 : decode cX0_reach 0 = .ok (.iload_n 0, 1) := by decide +kernel
theorem dX0_reach_1 : decode cX0_reach 1 = .ok (.iconst 2, 1) := by decide +kernel
theorem dX0_reach_2 : decode cX0_reach 2 = .ok (.if_icmp .ne 7, 3) := by decide +kernel
theorem dX0_reach_5 : decode cX0_reach 5 = .ok (.iconst 1, 1) := by decide +kernel
theorem dX0_reach_6 : decode cX0_reach 6 = .ok (.goto 5, 3) := by decide +kernel
theorem dX0_reach_9 : decode cX0_reach 9 = .ok (.bipush 7, 2) := by decide +kernel
theorem dX0_reach_11 : decode cX0_reach 11 = .ok (.ireturn, 1) := by decide +kernel
set_option maxRecDepth 20000 in
theorem ggX0_attacked_X0_step : GoodIn wsX0_attacked wsX0_step := goodIn_r _ [5, 6, 7, 20, 21, 22, 23, 24, 25, 26, 27] (by decide +kernel) (by decide +kernel)
set_option maxRecDepth 20000 in
theorem gX0_attacked_X0_step : GoodIn wsX0_attacked (wsV RX0 69 RX0 yX0_step wsX0_step) := goodIn_app (goodIn_of _ (by decide +kernel)) ggX0_attacked_X0_step
set_option maxRecDepth 20000 in
theorem ggX0_attacked_X0_bit : GoodIn wsX0_attacked wsX0_bit := goodIn_r _ [10] (by decide +kernel) (by decide +kernel)
set_option maxRecDepth 20000 in
theorem gX0_attacked_X0_bit : GoodIn wsX0_attacked (va_wsS RX0 32 yX0_bit wsX0_bit) := goodIn_app (goodIn_of _ (by decide +kernel)) ggX0_attacked_X0_bit
set_option maxRecDepth 20000 in
theorem ggX0_attacked_X0_reach : GoodIn wsX0_attacked wsX0_reach := goodIn_r _ [13] (by decide +kernel) (by decide +kernel)
set_option maxRecDepth 20000 in
theorem gX0_attacked_X0_reach : GoodIn wsX0_attacked (va_wsS RX0 72 yX0_reach wsX0_reach) := goodIn_app (goodIn_of _ (by decide +kernel)) ggX0_attacked_X0_reach
set_option maxRecDepth 20000 in
theorem ggX0_attacked_X0_firstWay : GoodIn wsX0_attacked wsX0_firstWay := goodIn_r _ [16] (by decide +kernel) (by decide +kernel)
set_option maxRecDepth 20000 in
theorem gX0_attacked_X0_firstWay : GoodIn wsX0_attacked (va_wsS RX0 75 yX0_firstWay wsX0_firstWay) := goodIn_app (goodIn_of _ (by decide +kernel)) ggX0_attacked_X0_firstWay
set_option maxRecDepth 20000 in
theorem ggX0_attacked_X0_endOfWays : GoodIn wsX0_attacked wsX0_endOfWays := goodIn_r _ [19] (by decide +kernel) (by decide +kernel)
set_option maxRecDepth 20000 in
theorem gX0_attacked_X0_endOfWays : GoodIn wsX0_attacked (va_wsS RX0 78 yX0_endOfWays wsX0_endOfWays) := goodIn_app (goodIn_of _ (by decide +kernel)) ggX0_attacked_X0_endOfWays
theorem dX0_attacked_0 : decode cX0_attacked 0 = .ok (.iload_n 1, 1) := by decide +kernel
theorem dX0_attacked_1 : decode cX0_attacked 1 = .ok (.iconst 1, 1) := by decide +kernel
theorem dX0_attacked_2 : decode cX0_attacked 2 = .ok (.if_icmp .ne 25, 3) := by decide +kernel
theorem dX0_attacked_5 : decode cX0_attacked 5 = .ok (.aload_n 0, 1) := by decide +kernel
theorem dX0_attacked_6 : decode cX0_attacked 6 = .ok (.iload_n 2, 1) := by decide +kernel
theorem dX0_attacked_7 : decode cX0_attacked 7 = .ok (.bipush 6, 2) := by decide +kernel
theorem dX0_attacked_9 : decode cX0_attacked 9 = .ok (.invokevirtual 69, 3) := by decide +kernel
theorem dX0_attacked_12 : decode cX0_attacked 12 = .ok (.invokestatic 32, 3) := by decide +kernel
theorem dX0_attacked_15 : decode cX0_attacked 15 = .ok (.aload_n 0, 1) := by decide +kernel
theorem dX0_attacked_16 : decode cX0_attacked 16 = .ok (.iload_n 2, 1) := by decide +kernel
theorem dX0_attacked_17 : decode cX0_attacked 17 = .ok (.bipush 7, 2) := by decide +kernel
theorem dX0_attacked_19 : decode cX0_attacked 19 = .ok (.invokevirtual 69, 3) := by decide +kernel
theorem dX0_attacked_22 : decode cX0_attacked 22 = .ok (.invokestatic 32, 3) := by decide +kernel
theorem dX0_attacked_25 : decode cX0_attacked 25 = .ok (.lor, 1) := by decide +kernel
theorem dX0_attacked_26 : decode cX0_attacked 26 = .ok (.lreturn, 1) := by decide +kernel
theorem dX0_attacked_27 : decode cX0_attacked 27 = .ok (.lconst 0, 1) := by decide +kernel
theorem dX0_attacked_28 : decode cX0_attacked 28 = .ok (.lstore 5, 2) := by decide +kernel
theorem dX0_attacked_30 : decode cX0_attacked 30 = .ok (.iload_n 1, 1) := by decide +kernel
theorem dX0_attacked_31 : decode cX0_attacked 31 = .ok (.invokestatic 72, 3) := by decide +kernel
theorem dX0_attacked_34 : decode cX0_attacked 34 = .ok (.istore 7, 2) := by decide +kernel
theorem dX0_attacked_36 : decode cX0_attacked 36 = .ok (.iload_n 1, 1) := by decide +kernel
theorem dX0_attacked_37 : decode cX0_attacked 37 = .ok (.invokestatic 75, 3) := by decide +kernel
theorem dX0_attacked_40 : decode cX0_attacked 40 = .ok (.istore 8, 2) := by decide +kernel
theorem dX0_attacked_42 : decode cX0_attacked 42 = .ok (.iload 8, 2) := by decide +kernel
theorem dX0_attacked_44 : decode cX0_attacked 44 = .ok (.iload_n 1, 1) := by decide +kernel
theorem dX0_attacked_45 : decode cX0_attacked 45 = .ok (.invokestatic 78, 3) := by decide +kernel
theorem dX0_attacked_48 : decode cX0_attacked 48 = .ok (.if_icmp .ge 69, 3) := by decide +kernel
theorem dX0_attacked_51 : decode cX0_attacked 51 = .ok (.iload_n 2, 1) := by decide +kernel
theorem dX0_attacked_52 : decode cX0_attacked 52 = .ok (.istore 9, 2) := by decide +kernel
theorem dX0_attacked_54 : decode cX0_attacked 54 = .ok (.iconst 0, 1) := by decide +kernel
theorem dX0_attacked_55 : decode cX0_attacked 55 = .ok (.istore 10, 2) := by decide +kernel
theorem dX0_attacked_57 : decode cX0_attacked 57 = .ok (.iload 10, 2) := by decide +kernel
theorem dX0_attacked_59 : decode cX0_attacked 59 = .ok (.iload 7, 2) := by decide +kernel
theorem dX0_attacked_61 : decode cX0_attacked 61 = .ok (.if_icmp .ge 50, 3) := by decide +kernel
theorem dX0_attacked_64 : decode cX0_attacked 64 = .ok (.aload_n 0, 1) := by decide +kernel
theorem dX0_attacked_65 : decode cX0_attacked 65 = .ok (.iload 9, 2) := by decide +kernel
theorem dX0_attacked_67 : decode cX0_attacked 67 = .ok (.iload 8, 2) := by decide +kernel
theorem dX0_attacked_69 : decode cX0_attacked 69 = .ok (.invokevirtual 69, 3) := by decide +kernel
theorem dX0_attacked_72 : decode cX0_attacked 72 = .ok (.istore 9, 2) := by decide +kernel
theorem dX0_attacked_74 : decode cX0_attacked 74 = .ok (.lload 5, 2) := by decide +kernel
theorem dX0_attacked_76 : decode cX0_attacked 76 = .ok (.iload 9, 2) := by decide +kernel
theorem dX0_attacked_78 : decode cX0_attacked 78 = .ok (.invokestatic 32, 3) := by decide +kernel
theorem dX0_attacked_81 : decode cX0_attacked 81 = .ok (.lor, 1) := by decide +kernel
theorem dX0_attacked_82 : decode cX0_attacked 82 = .ok (.lstore 5, 2) := by decide +kernel
theorem dX0_attacked_84 : decode cX0_attacked 84 = .ok (.iload 9, 2) := by decide +kernel
theorem dX0_attacked_86 : decode cX0_attacked 86 = .ok (.iconst (-1), 1) := by decide +kernel
theorem dX0_attacked_87 : decode cX0_attacked 87 = .ok (.if_icmp .eq 24, 3) := by decide +kernel
theorem dX0_attacked_90 : decode cX0_attacked 90 = .ok (.lload_n 3, 1) := by decide +kernel
theorem dX0_attacked_91 : decode cX0_attacked 91 = .ok (.iload 9, 2) := by decide +kernel
theorem dX0_attacked_93 : decode cX0_attacked 93 = .ok (.invokestatic 32, 3) := by decide +kernel
theorem dX0_attacked_96 : decode cX0_attacked 96 = .ok (.land, 1) := by decide +kernel
theorem dX0_attacked_97 : decode cX0_attacked 97 = .ok (.lconst 0, 1) := by decide +kernel
theorem dX0_attacked_98 : decode cX0_attacked 98 = .ok (.lcmp, 1) := by decide +kernel
theorem dX0_attacked_99 : decode cX0_attacked 99 = .ok (.ifCond .eq 6, 3) := by decide +kernel
theorem dX0_attacked_102 : decode cX0_attacked 102 = .ok (.goto 9, 3) := by decide +kernel
theorem dX0_attacked_105 : decode cX0_attacked 105 = .ok (.iinc 10 1, 3) := by decide +kernel
theorem dX0_attacked_108 : decode cX0_attacked 108 = .ok (.goto (-51), 3) := by decide +kernel
theorem dX0_attacked_111 : decode cX0_attacked 111 = .ok (.iinc 8 1, 3) := by decide +kernel
theorem dX0_attacked_114 : decode cX0_attacked 114 = .ok (.goto (-72), 3) := by decide +kernel
theorem dX0_attacked_117 : decode cX0_attacked 117 = .ok (.lload 5, 2) := by decide +kernel
theorem dX0_attacked_119 : decode cX0_attacked 119 = .ok (.lreturn, 1) := by decide +kernel
set_option maxRecDepth 20000 in
theorem ggX0_roomForBlack_X0_mayStand : GoodIn wsX0_roomForBlack wsX0_mayStand := goodIn_r _ [7, 8, 9, 10, 11, 12, 6, 13, 14, 15, 16, 17, 18, 33, 34, 35, 36, 37, 38, 39, 40] (by decide +kernel) (by decide +kernel)
set_option maxRecDepth 20000 in
theorem gX0_roomForBlack_X0_mayStand : GoodIn wsX0_roomForBlack (wsV RX0 81 RX0 yX0_mayStand wsX0_mayStand) := goodIn_app (goodIn_of _ (by decide +kernel)) ggX0_roomForBlack_X0_mayStand
set_option maxRecDepth 20000 in
theorem ggX0_roomForBlack_X0_around : GoodIn wsX0_roomForBlack wsX0_around := goodIn_r _ [22, 23, 24, 6, 25, 26, 27, 28, 29, 30, 2, 31, 32, 1, 33, 34, 35, 36, 37, 38, 39, 40] (by decide +kernel) (by decide +kernel)
set_option maxRecDepth 20000 in
theorem gX0_roomForBlack_X0_around : GoodIn wsX0_roomForBlack (wsV RX0 85 RX0 yX0_around wsX0_around) := goodIn_app (goodIn_of _ (by decide +kernel)) ggX0_roomForBlack_X0_around
set_option maxRecDepth 20000 in
theorem ggX0_roomForBlack_X0_bit : GoodIn wsX0_roomForBlack wsX0_bit := goodIn_r _ [25] (by decide +kernel) (by decide +kernel)
set_option maxRecDepth 20000 in
theorem gX0_roomForBlack_X0_bit : GoodIn wsX0_roomForBlack (va_wsS RX0 32 yX0_bit wsX0_bit) := goodIn_app (goodIn_of _ (by decide +kernel)) ggX0_roomForBlack_X0_bit
theorem dX0_roomForBlack_0 : decode cX0_roomForBlack 0 = .ok (.iload_n 2, 1) := by decide +kernel
theorem dX0_roomForBlack_1 : decode cX0_roomForBlack 1 = .ok (.iload_n 3, 1) := by decide +kernel
theorem dX0_roomForBlack_2 : decode cX0_roomForBlack 2 = .ok (.if_icmp .eq 12, 3) := by decide +kernel
theorem dX0_roomForBlack_5 : decode cX0_roomForBlack 5 = .ok (.aload_n 0, 1) := by decide +kernel
theorem dX0_roomForBlack_6 : decode cX0_roomForBlack 6 = .ok (.iload_n 1, 1) := by decide +kernel
theorem dX0_roomForBlack_7 : decode cX0_roomForBlack 7 = .ok (.iload_n 3, 1) := by decide +kernel
theorem dX0_roomForBlack_8 : decode cX0_roomForBlack 8 = .ok (.invokevirtual 81, 3) := by decide +kernel
theorem dX0_roomForBlack_11 : decode cX0_roomForBlack 11 = .ok (.ifCond .ne 5, 3) := by decide +kernel
theorem dX0_roomForBlack_14 : decode cX0_roomForBlack 14 = .ok (.lconst 0, 1) := by decide +kernel
theorem dX0_roomForBlack_15 : decode cX0_roomForBlack 15 = .ok (.lreturn, 1) := by decide +kernel
theorem dX0_roomForBlack_16 : decode cX0_roomForBlack 16 = .ok (.aload_n 0, 1) := by decide +kernel
theorem dX0_roomForBlack_17 : decode cX0_roomForBlack 17 = .ok (.getfield 42, 3) := by decide +kernel
theorem dX0_roomForBlack_20 : decode cX0_roomForBlack 20 = .ok (.aload_n 0, 1) := by decide +kernel
theorem dX0_roomForBlack_21 : decode cX0_roomForBlack 21 = .ok (.iload_n 2, 1) := by decide +kernel
theorem dX0_roomForBlack_22 : decode cX0_roomForBlack 22 = .ok (.invokevirtual 85, 3) := by decide +kernel
theorem dX0_roomForBlack_25 : decode cX0_roomForBlack 25 = .ok (.ldc2_w 40, 3) := by decide +kernel
theorem dX0_roomForBlack_28 : decode cX0_roomForBlack 28 = .ok (.lxor, 1) := by decide +kernel
theorem dX0_roomForBlack_29 : decode cX0_roomForBlack 29 = .ok (.land, 1) := by decide +kernel
theorem dX0_roomForBlack_30 : decode cX0_roomForBlack 30 = .ok (.iload_n 2, 1) := by decide +kernel
theorem dX0_roomForBlack_31 : decode cX0_roomForBlack 31 = .ok (.invokestatic 32, 3) := by decide +kernel
theorem dX0_roomForBlack_34 : decode cX0_roomForBlack 34 = .ok (.ldc2_w 40, 3) := by decide +kernel
theorem dX0_roomForBlack_37 : decode cX0_roomForBlack 37 = .ok (.lxor, 1) := by decide +kernel
theorem dX0_roomForBlack_38 : decode cX0_roomForBlack 38 = .ok (.land, 1) := by decide +kernel
theorem dX0_roomForBlack_39 : decode cX0_roomForBlack 39 = .ok (.iload_n 3, 1) := by decide +kernel
theorem dX0_roomForBlack_40 : decode cX0_roomForBlack 40 = .ok (.invokestatic 32, 3) := by decide +kernel
theorem dX0_roomForBlack_43 : decode cX0_roomForBlack 43 = .ok (.ldc2_w 40, 3) := by decide +kernel
theorem dX0_roomForBlack_46 : decode cX0_roomForBlack 46 = .ok (.lxor, 1) := by decide +kernel
theorem dX0_roomForBlack_47 : decode cX0_roomForBlack 47 = .ok (.land, 1) := by decide +kernel
theorem dX0_roomForBlack_48 : decode cX0_roomForBlack 48 = .ok (.lreturn, 1) := by decide +kernel
set_option maxRecDepth 20000 in
theorem ggX0_mayStand_X0_rankOf : GoodIn wsX0_mayStand wsX0_rankOf := goodIn_r _ [7, 8, 9, 10, 6, 11, 1, 12, 13, 14, 15, 16, 17, 18, 19, 20] (by decide +kernel) (by decide +kernel)
set_option maxRecDepth 20000 in
theorem gX0_mayStand_X0_rankOf : GoodIn wsX0_mayStand (wsV RX0 88 RX0 yX0_rankOf wsX0_rankOf) := goodIn_app (goodIn_of _ (by decide +kernel)) ggX0_mayStand_X0_rankOf
theorem dX0_mayStand_0 : decode cX0_mayStand 0 = .ok (.iload_n 1, 1) := by decide +kernel
theorem dX0_mayStand_1 : decode cX0_mayStand 1 = .ok (.ifCond .ne 5, 3) := by decide +kernel
theorem dX0_mayStand_4 : decode cX0_mayStand 4 = .ok (.iconst 1, 1) := by decide +kernel
theorem dX0_mayStand_5 : decode cX0_mayStand 5 = .ok (.ireturn, 1) := by decide +kernel
theorem dX0_mayStand_6 : decode cX0_mayStand 6 = .ok (.aload_n 0, 1) := by decide +kernel
theorem dX0_mayStand_7 : decode cX0_mayStand 7 = .ok (.iload_n 2, 1) := by decide +kernel
theorem dX0_mayStand_8 : decode cX0_mayStand 8 = .ok (.invokevirtual 88, 3) := by decide +kernel
theorem dX0_mayStand_11 : decode cX0_mayStand 11 = .ok (.istore_n 3, 1) := by decide +kernel
theorem dX0_mayStand_12 : decode cX0_mayStand 12 = .ok (.iload_n 2, 1) := by decide +kernel
theorem dX0_mayStand_13 : decode cX0_mayStand 13 = .ok (.ifCond .lt 34, 3) := by decide +kernel
theorem dX0_mayStand_16 : decode cX0_mayStand 16 = .ok (.iload_n 2, 1) := by decide +kernel
theorem dX0_mayStand_17 : decode cX0_mayStand 17 = .ok (.aload_n 0, 1) := by decide +kernel
theorem dX0_mayStand_18 : decode cX0_mayStand 18 = .ok (.getfield 22, 3) := by decide +kernel
theorem dX0_mayStand_21 : decode cX0_mayStand 21 = .ok (.if_icmp .ge 26, 3) := by decide +kernel
theorem dX0_mayStand_24 : decode cX0_mayStand 24 = .ok (.iload_n 1, 1) := by decide +kernel
theorem dX0_mayStand_25 : decode cX0_mayStand 25 = .ok (.iconst 1, 1) := by decide +kernel
theorem dX0_mayStand_26 : decode cX0_mayStand 26 = .ok (.if_icmp .ne 17, 3) := by decide +kernel
theorem dX0_mayStand_29 : decode cX0_mayStand 29 = .ok (.iload_n 3, 1) := by decide +kernel
theorem dX0_mayStand_30 : decode cX0_mayStand 30 = .ok (.ifCond .le 17, 3) := by decide +kernel
theorem dX0_mayStand_33 : decode cX0_mayStand 33 = .ok (.iload_n 3, 1) := by decide +kernel
theorem dX0_mayStand_34 : decode cX0_mayStand 34 = .ok (.aload_n 0, 1) := by decide +kernel
theorem dX0_mayStand_35 : decode cX0_mayStand 35 = .ok (.getfield 19, 3) := by decide +kernel
theorem dX0_mayStand_38 : decode cX0_mayStand 38 = .ok (.iconst 1, 1) := by decide +kernel
theorem dX0_mayStand_39 : decode cX0_mayStand 39 = .ok (.isub, 1) := by decide +kernel
theorem dX0_mayStand_40 : decode cX0_mayStand 40 = .ok (.if_icmp .ge 7, 3) := by decide +kernel
theorem dX0_mayStand_43 : decode cX0_mayStand 43 = .ok (.iconst 1, 1) := by decide +kernel
theorem dX0_mayStand_44 : decode cX0_mayStand 44 = .ok (.goto 4, 3) := by decide +kernel
theorem dX0_mayStand_47 : decode cX0_mayStand 47 = .ok (.iconst 0, 1) := by decide +kernel
theorem dX0_mayStand_48 : decode cX0_mayStand 48 = .ok (.ireturn, 1) := by decide +kernel
set_option maxRecDepth 20000 in
theorem ggX0_inCheck_X0_bit : GoodIn wsX0_inCheck wsX0_bit := goodIn_r _ [4] (by decide +kernel) (by decide +kernel)
set_option maxRecDepth 20000 in
theorem gX0_inCheck_X0_bit : GoodIn wsX0_inCheck (va_wsS RX0 32 yX0_bit wsX0_bit) := goodIn_app (goodIn_of _ (by decide +kernel)) ggX0_inCheck_X0_bit
set_option maxRecDepth 20000 in
theorem ggX0_inCheck_X0_attacked : GoodIn wsX0_inCheck wsX0_attacked := goodIn_r _ [8, 9, 10, 11, 3, 12, 13, 14, 1, 2, 4, 15, 16, 17, 18, 19, 20, 21, 22, 23, 29, 30, 31, 32, 33, 34, 35, 36] (by decide +kernel) (by decide +kernel)
set_option maxRecDepth 20000 in
theorem gX0_inCheck_X0_attacked : GoodIn wsX0_inCheck (wsV RX0 102 RX0 yX0_attacked wsX0_attacked) := goodIn_app (goodIn_of _ (by decide +kernel)) ggX0_inCheck_X0_attacked
theorem dX0_inCheck_0 : decode cX0_inCheck 0 = .ok (.aload_n 0, 1) := by decide +kernel
theorem dX0_inCheck_1 : decode cX0_inCheck 1 = .ok (.aload_n 1, 1) := by decide +kernel
theorem dX0_inCheck_2 : decode cX0_inCheck 2 = .ok (.getfield 91, 3) := by decide +kernel
theorem dX0_inCheck_5 : decode cX0_inCheck 5 = .ok (.aload_n 1, 1) := by decide +kernel
theorem dX0_inCheck_6 : decode cX0_inCheck 6 = .ok (.getfield 96, 3) := by decide +kernel
theorem dX0_inCheck_9 : decode cX0_inCheck 9 = .ok (.aload_n 1, 1) := by decide +kernel
theorem dX0_inCheck_10 : decode cX0_inCheck 10 = .ok (.getfield 99, 3) := by decide +kernel
theorem dX0_inCheck_13 : decode cX0_inCheck 13 = .ok (.invokestatic 32, 3) := by decide +kernel
theorem dX0_inCheck_16 : decode cX0_inCheck 16 = .ok (.invokevirtual 102, 3) := by decide +kernel
theorem dX0_inCheck_19 : decode cX0_inCheck 19 = .ok (.aload_n 1, 1) := by decide +kernel
theorem dX0_inCheck_20 : decode cX0_inCheck 20 = .ok (.getfield 106, 3) := by decide +kernel
theorem dX0_inCheck_23 : decode cX0_inCheck 23 = .ok (.invokestatic 32, 3) := by decide +kernel
theorem dX0_inCheck_26 : decode cX0_inCheck 26 = .ok (.land, 1) := by decide +kernel
theorem dX0_inCheck_27 : decode cX0_inCheck 27 = .ok (.lconst 0, 1) := by decide +kernel
theorem dX0_inCheck_28 : decode cX0_inCheck 28 = .ok (.lcmp, 1) := by decide +kernel
theorem dX0_inCheck_29 : decode cX0_inCheck 29 = .ok (.ifCond .eq 7, 3) := by decide +kernel
theorem dX0_inCheck_32 : decode cX0_inCheck 32 = .ok (.iconst 1, 1) := by decide +kernel
theorem dX0_inCheck_33 : decode cX0_inCheck 33 = .ok (.goto 4, 3) := by decide +kernel
theorem dX0_inCheck_36 : decode cX0_inCheck 36 = .ok (.iconst 0, 1) := by decide +kernel
theorem dX0_inCheck_37 : decode cX0_inCheck 37 = .ok (.ireturn, 1) := by decide +kernel
set_option maxRecDepth 20000 in
theorem ggX0_isPosition_X4_isMan : GoodIn wsX0_isPosition wsX4_isMan := goodIn_r _ [3] (by decide +kernel) (by decide +kernel)
set_option maxRecDepth 20000 in
theorem gX0_isPosition_X4_isMan_n109 : GoodIn wsX0_isPosition (wsX4_isMan) := ggX0_isPosition_X4_isMan
set_option maxRecDepth 20000 in
theorem ggX0_isPosition_X4_isSide : GoodIn wsX0_isPosition wsX4_isSide := goodIn_r _ [5] (by decide +kernel) (by decide +kernel)
set_option maxRecDepth 20000 in
theorem gX0_isPosition_X4_isSide_n116 : GoodIn wsX0_isPosition (wsX4_isSide) := ggX0_isPosition_X4_isSide
set_option maxRecDepth 20000 in
theorem ggX0_isPosition_X0_roomForBlack : GoodIn wsX0_isPosition wsX0_roomForBlack := goodIn_r _ [10, 11, 12, 13, 14, 15, 9, 16, 17, 18, 19, 20, 21, 22, 23, 24, 25, 26, 27, 28, 29, 30, 31, 32, 33, 34, 35, 36, 37, 38, 39, 40, 41, 69, 70, 71, 72, 73, 74, 75, 76] (by decide +kernel) (by decide +kernel)
set_option maxRecDepth 20000 in
theorem gX0_isPosition_X0_roomForBlack : GoodIn wsX0_isPosition (wsV RX0 119 RX0 yX0_roomForBlack wsX0_roomForBlack) := goodIn_app (goodIn_of _ (by decide +kernel)) ggX0_isPosition_X0_roomForBlack
set_option maxRecDepth 20000 in
theorem ggX0_isPosition_X0_bit : GoodIn wsX0_isPosition wsX0_bit := goodIn_r _ [34] (by decide +kernel) (by decide +kernel)
set_option maxRecDepth 20000 in
theorem gX0_isPosition_X0_bit : GoodIn wsX0_isPosition (va_wsS RX0 32 yX0_bit wsX0_bit) := goodIn_app (goodIn_of _ (by decide +kernel)) ggX0_isPosition_X0_bit
set_option maxRecDepth 20000 in
theorem ggX0_isPosition_X0_inCheck : GoodIn wsX0_isPosition wsX0_inCheck := goodIn_r _ [45, 32, 33, 9, 34, 46, 47, 48, 49, 50, 51, 52, 53, 17, 54, 55, 56, 57, 58, 59, 60, 61, 62, 63, 64, 65, 66, 67, 68, 69, 70, 71, 72, 73, 74, 75, 76] (by decide +kernel) (by decide +kernel)
set_option maxRecDepth 20000 in
theorem gX0_isPosition_X0_inCheck : GoodIn wsX0_isPosition (wsV RX0 123 RX0 yX0_inCheck wsX0_inCheck) := goodIn_app (goodIn_of _ (by decide +kernel)) ggX0_isPosition_X0_inCheck
theorem dX0_isPosition_0 : decode cX0_isPosition 0 = .ok (.aload_n 1, 1) := by decide +kernel
theorem dX0_isPosition_1 : decode cX0_isPosition 1 = .ok (.getfield 91, 3) := by decide +kernel
theorem dX0_isPosition_4 : decode cX0_isPosition 4 = .ok (.ifCond .eq 13, 3) := by decide +kernel
theorem dX0_isPosition_7 : decode cX0_isPosition 7 = .ok (.aload_n 1, 1) := by decide +kernel
theorem dX0_isPosition_8 : decode cX0_isPosition 8 = .ok (.getfield 91, 3) := by decide +kernel
theorem dX0_isPosition_11 : decode cX0_isPosition 11 = .ok (.invokestatic 109, 3) := by decide +kernel
theorem dX0_isPosition_14 : decode cX0_isPosition 14 = .ok (.ifCond .eq 13, 3) := by decide +kernel
theorem dX0_isPosition_17 : decode cX0_isPosition 17 = .ok (.aload_n 1, 1) := by decide +kernel
theorem dX0_isPosition_18 : decode cX0_isPosition 18 = .ok (.getfield 113, 3) := by decide +kernel
theorem dX0_isPosition_21 : decode cX0_isPosition 21 = .ok (.invokestatic 116, 3) := by decide +kernel
theorem dX0_isPosition_24 : decode cX0_isPosition 24 = .ok (.ifCond .ne 5, 3) := by decide +kernel
theorem dX0_isPosition_27 : decode cX0_isPosition 27 = .ok (.iconst 0, 1) := by decide +kernel
theorem dX0_isPosition_28 : decode cX0_isPosition 28 = .ok (.ireturn, 1) := by decide +kernel
theorem dX0_isPosition_29 : decode cX0_isPosition 29 = .ok (.aload_n 1, 1) := by decide +kernel
theorem dX0_isPosition_30 : decode cX0_isPosition 30 = .ok (.getfield 99, 3) := by decide +kernel
theorem dX0_isPosition_33 : decode cX0_isPosition 33 = .ok (.ifCond .lt 32, 3) := by decide +kernel
theorem dX0_isPosition_36 : decode cX0_isPosition 36 = .ok (.aload_n 0, 1) := by decide +kernel
theorem dX0_isPosition_37 : decode cX0_isPosition 37 = .ok (.aload_n 1, 1) := by decide +kernel
theorem dX0_isPosition_38 : decode cX0_isPosition 38 = .ok (.getfield 91, 3) := by decide +kernel
theorem dX0_isPosition_41 : decode cX0_isPosition 41 = .ok (.aload_n 1, 1) := by decide +kernel
theorem dX0_isPosition_42 : decode cX0_isPosition 42 = .ok (.getfield 99, 3) := by decide +kernel
theorem dX0_isPosition_45 : decode cX0_isPosition 45 = .ok (.aload_n 1, 1) := by decide +kernel
theorem dX0_isPosition_46 : decode cX0_isPosition 46 = .ok (.getfield 96, 3) := by decide +kernel
theorem dX0_isPosition_49 : decode cX0_isPosition 49 = .ok (.invokevirtual 119, 3) := by decide +kernel
theorem dX0_isPosition_52 : decode cX0_isPosition 52 = .ok (.aload_n 1, 1) := by decide +kernel
theorem dX0_isPosition_53 : decode cX0_isPosition 53 = .ok (.getfield 106, 3) := by decide +kernel
theorem dX0_isPosition_56 : decode cX0_isPosition 56 = .ok (.invokestatic 32, 3) := by decide +kernel
theorem dX0_isPosition_59 : decode cX0_isPosition 59 = .ok (.land, 1) := by decide +kernel
theorem dX0_isPosition_60 : decode cX0_isPosition 60 = .ok (.lconst 0, 1) := by decide +kernel
theorem dX0_isPosition_61 : decode cX0_isPosition 61 = .ok (.lcmp, 1) := by decide +kernel
theorem dX0_isPosition_62 : decode cX0_isPosition 62 = .ok (.ifCond .ne 5, 3) := by decide +kernel
theorem dX0_isPosition_65 : decode cX0_isPosition 65 = .ok (.iconst 0, 1) := by decide +kernel
theorem dX0_isPosition_66 : decode cX0_isPosition 66 = .ok (.ireturn, 1) := by decide +kernel
theorem dX0_isPosition_67 : decode cX0_isPosition 67 = .ok (.aload_n 1, 1) := by decide +kernel
theorem dX0_isPosition_68 : decode cX0_isPosition 68 = .ok (.getfield 113, 3) := by decide +kernel
theorem dX0_isPosition_71 : decode cX0_isPosition 71 = .ok (.iconst 1, 1) := by decide +kernel
theorem dX0_isPosition_72 : decode cX0_isPosition 72 = .ok (.if_icmp .eq 11, 3) := by decide +kernel
theorem dX0_isPosition_75 : decode cX0_isPosition 75 = .ok (.aload_n 0, 1) := by decide +kernel
theorem dX0_isPosition_76 : decode cX0_isPosition 76 = .ok (.aload_n 1, 1) := by decide +kernel
theorem dX0_isPosition_77 : decode cX0_isPosition 77 = .ok (.invokevirtual 123, 3) := by decide +kernel
theorem dX0_isPosition_80 : decode cX0_isPosition 80 = .ok (.ifCond .ne 7, 3) := by decide +kernel
theorem dX0_isPosition_83 : decode cX0_isPosition 83 = .ok (.iconst 1, 1) := by decide +kernel
theorem dX0_isPosition_84 : decode cX0_isPosition 84 = .ok (.goto 4, 3) := by decide +kernel
theorem dX0_isPosition_87 : decode cX0_isPosition 87 = .ok (.iconst 0, 1) := by decide +kernel
theorem dX0_isPosition_88 : decode cX0_isPosition 88 = .ok (.ireturn, 1) := by decide +kernel
theorem dX1_init_0 : decode cX1_init 0 = .ok (.aload_n 0, 1) := by decide +kernel
theorem dX1_init_1 : decode cX1_init 1 = .ok (.invokespecial 3, 3) := by decide +kernel
theorem dX1_init_4 : decode cX1_init 4 = .ok (.aload_n 0, 1) := by decide +kernel
theorem dX1_init_5 : decode cX1_init 5 = .ok (.bipush 64, 2) := by decide +kernel
theorem dX1_init_7 : decode cX1_init 7 = .ok (.newarray .int, 2) := by decide +kernel
theorem dX1_init_9 : decode cX1_init 9 = .ok (.putfield 11, 3) := by decide +kernel
theorem dX1_init_12 : decode cX1_init 12 = .ok (.aload_n 0, 1) := by decide +kernel
theorem dX1_init_13 : decode cX1_init 13 = .ok (.iconst 0, 1) := by decide +kernel
theorem dX1_init_14 : decode cX1_init 14 = .ok (.putfield 15, 3) := by decide +kernel
theorem dX1_init_17 : decode cX1_init 17 = .ok (.return_, 1) := by decide +kernel
theorem dX1_toldAt_0 : decode cX1_toldAt 0 = .ok (.iload_n 1, 1) := by decide +kernel
theorem dX1_toldAt_1 : decode cX1_toldAt 1 = .ok (.ifCond .lt 12, 3) := by decide +kernel
theorem dX1_toldAt_4 : decode cX1_toldAt 4 = .ok (.iload_n 1, 1) := by decide +kernel
theorem dX1_toldAt_5 : decode cX1_toldAt 5 = .ok (.aload_n 0, 1) := by decide +kernel
theorem dX1_toldAt_6 : decode cX1_toldAt 6 = .ok (.getfield 11, 3) := by decide +kernel
theorem dX1_toldAt_9 : decode cX1_toldAt 9 = .ok (.arraylength, 1) := by decide +kernel
theorem dX1_toldAt_10 : decode cX1_toldAt 10 = .ok (.if_icmp .lt 7, 3) := by decide +kernel
theorem dX1_toldAt_13 : decode cX1_toldAt 13 = .ok (.iconst 0, 1) := by decide +kernel
theorem dX1_toldAt_14 : decode cX1_toldAt 14 = .ok (.goto 9, 3) := by decide +kernel
theorem dX1_toldAt_17 : decode cX1_toldAt 17 = .ok (.aload_n 0, 1) := by decide +kernel
theorem dX1_toldAt_18 : decode cX1_toldAt 18 = .ok (.getfield 11, 3) := by decide +kernel
theorem dX1_toldAt_21 : decode cX1_toldAt 21 = .ok (.iload_n 1, 1) := by decide +kernel
theorem dX1_toldAt_22 : decode cX1_toldAt 22 = .ok (.iaload, 1) := by decide +kernel
theorem dX1_toldAt_23 : decode cX1_toldAt 23 = .ok (.ireturn, 1) := by decide +kernel
set_option maxRecDepth 20000 in
theorem ggX1_holds_X1_toldAt : GoodIn wsX1_holds wsX1_toldAt := goodIn_r _ [6, 7, 8, 9] (by decide +kernel) (by decide +kernel)
set_option maxRecDepth 20000 in
theorem gX1_holds_X1_toldAt : GoodIn wsX1_holds (wsV RX1 19 RX1 yX1_toldAt wsX1_toldAt) := goodIn_app (goodIn_of _ (by decide +kernel)) ggX1_holds_X1_toldAt
theorem dX1_holds_0 : decode cX1_holds 0 = .ok (.iconst 0, 1) := by decide +kernel
theorem dX1_holds_1 : decode cX1_holds 1 = .ok (.istore_n 2, 1) := by decide +kernel
theorem dX1_holds_2 : decode cX1_holds 2 = .ok (.iload_n 2, 1) := by decide +kernel
theorem dX1_holds_3 : decode cX1_holds 3 = .ok (.aload_n 0, 1) := by decide +kernel
theorem dX1_holds_4 : decode cX1_holds 4 = .ok (.getfield 15, 3) := by decide +kernel
theorem dX1_holds_7 : decode cX1_holds 7 = .ok (.if_icmp .ge 20, 3) := by decide +kernel
theorem dX1_holds_10 : decode cX1_holds 10 = .ok (.aload_n 0, 1) := by decide +kernel
theorem dX1_holds_11 : decode cX1_holds 11 = .ok (.iload_n 2, 1) := by decide +kernel
theorem dX1_holds_12 : decode cX1_holds 12 = .ok (.invokevirtual 19, 3) := by decide +kernel
theorem dX1_holds_15 : decode cX1_holds 15 = .ok (.iload_n 1, 1) := by decide +kernel
theorem dX1_holds_16 : decode cX1_holds 16 = .ok (.if_icmp .ne 5, 3) := by decide +kernel
theorem dX1_holds_19 : decode cX1_holds 19 = .ok (.iconst 1, 1) := by decide +kernel
theorem dX1_holds_20 : decode cX1_holds 20 = .ok (.ireturn, 1) := by decide +kernel
theorem dX1_holds_21 : decode cX1_holds 21 = .ok (.iinc 2 1, 3) := by decide +kernel
theorem dX1_holds_24 : decode cX1_holds 24 = .ok (.goto (-22), 3) := by decide +kernel
theorem dX1_holds_27 : decode cX1_holds 27 = .ok (.iconst 0, 1) := by decide +kernel
theorem dX1_holds_28 : decode cX1_holds 28 = .ok (.ireturn, 1) := by decide +kernel
set_option maxRecDepth 20000 in
theorem ggX1_fill_X0_around : GoodIn wsX1_fill wsX0_around := goodIn_r _ [6, 7, 8, 4, 9, 10, 11, 12, 13, 14, 15, 16, 17, 18, 70, 71, 72, 73, 74, 75, 76, 77] (by decide +kernel) (by decide +kernel)
set_option maxRecDepth 20000 in
theorem gX1_fill_X0_around_n31 : GoodIn wsX1_fill (wsX0_around) := ggX1_fill_X0_around
set_option maxRecDepth 20000 in
theorem ggX1_fill_X0_bit : GoodIn wsX1_fill wsX0_bit := goodIn_r _ [9] (by decide +kernel) (by decide +kernel)
set_option maxRecDepth 20000 in
theorem gX1_fill_X0_bit_n43 : GoodIn wsX1_fill (wsX0_bit) := ggX1_fill_X0_bit
set_option maxRecDepth 20000 in
theorem ggX1_fill_X0_attacked : GoodIn wsX1_fill wsX0_attacked := goodIn_r _ [21, 22, 23, 24, 4, 25, 26, 27, 7, 8, 9, 28, 29, 30, 31, 32, 33, 34, 35, 36, 70, 71, 72, 73, 74, 75, 76, 77] (by decide +kernel) (by decide +kernel)
set_option maxRecDepth 20000 in
theorem gX1_fill_X0_attacked_n46 : GoodIn wsX1_fill (wsX0_attacked) := ggX1_fill_X0_attacked
set_option maxRecDepth 20000 in
theorem ggX1_fill_X1_addAll : GoodIn wsX1_fill wsX1_addAll := goodIn_r _ [41, 8, 4, 9, 42, 43, 44, 40, 45, 1, 46, 47, 48, 49, 26, 50, 70, 71, 72, 73, 74, 75, 76, 77, 63, 64] (by decide +kernel) (by decide +kernel)
set_option maxRecDepth 20000 in
theorem gX1_fill_X1_addAll : GoodIn wsX1_fill (wsV RX1 55 RX1 yX1_addAll wsX1_addAll) := goodIn_app (goodIn_of _ (by decide +kernel)) ggX1_fill_X1_addAll
set_option maxRecDepth 20000 in
theorem ggX1_fill_X1_fillMan : GoodIn wsX1_fill wsX1_fillMan := goodIn_r _ [54, 2, 8, 4, 9, 55, 56, 57, 40, 58, 23, 24, 25, 26, 27, 59, 60, 61, 62, 47, 48, 49, 50, 42, 43, 44, 45, 1, 46, 19, 20, 21, 22, 7, 28, 29, 30, 31, 32, 33, 34, 35, 36, 37, 38, 39, 41, 65, 66, 67, 68, 69, 70, 71, 72, 73, 74, 75, 76, 77, 63, 64] (by decide +kernel) (by decide +kernel)
set_option maxRecDepth 20000 in
theorem gX1_fill_X1_fillMan : GoodIn wsX1_fill (wsV RX1 59 RX1 yX1_fillMan wsX1_fillMan) := goodIn_app (goodIn_of _ (by decide +kernel)) ggX1_fill_X1_fillMan
theorem dX1_fill_0 : decode cX1_fill 0 = .ok (.aload_n 0, 1) := by decide +kernel
theorem dX1_fill_1 : decode cX1_fill 1 = .ok (.iconst 0, 1) := by decide +kernel
theorem dX1_fill_2 : decode cX1_fill 2 = .ok (.putfield 15, 3) := by decide +kernel
theorem dX1_fill_5 : decode cX1_fill 5 = .ok (.aload_n 2, 1) := by decide +kernel
theorem dX1_fill_6 : decode cX1_fill 6 = .ok (.getfield 23, 3) := by decide +kernel
theorem dX1_fill_9 : decode cX1_fill 9 = .ok (.iconst 1, 1) := by decide +kernel
theorem dX1_fill_10 : decode cX1_fill 10 = .ok (.if_icmp .ne 56, 3) := by decide +kernel
theorem dX1_fill_13 : decode cX1_fill 13 = .ok (.aload_n 1, 1) := by decide +kernel
theorem dX1_fill_14 : decode cX1_fill 14 = .ok (.aload_n 2, 1) := by decide +kernel
theorem dX1_fill_15 : decode cX1_fill 15 = .ok (.getfield 28, 3) := by decide +kernel
theorem dX1_fill_18 : decode cX1_fill 18 = .ok (.invokevirtual 31, 3) := by decide +kernel
theorem dX1_fill_21 : decode cX1_fill 21 = .ok (.aload_n 1, 1) := by decide +kernel
theorem dX1_fill_22 : decode cX1_fill 22 = .ok (.aload_n 2, 1) := by decide +kernel
theorem dX1_fill_23 : decode cX1_fill 23 = .ok (.getfield 37, 3) := by decide +kernel
theorem dX1_fill_26 : decode cX1_fill 26 = .ok (.aload_n 2, 1) := by decide +kernel
theorem dX1_fill_27 : decode cX1_fill 27 = .ok (.getfield 40, 3) := by decide +kernel
theorem dX1_fill_30 : decode cX1_fill 30 = .ok (.aload_n 2, 1) := by decide +kernel
theorem dX1_fill_31 : decode cX1_fill 31 = .ok (.getfield 28, 3) := by decide +kernel
theorem dX1_fill_34 : decode cX1_fill 34 = .ok (.invokestatic 43, 3) := by decide +kernel
theorem dX1_fill_37 : decode cX1_fill 37 = .ok (.invokevirtual 46, 3) := by decide +kernel
theorem dX1_fill_40 : decode cX1_fill 40 = .ok (.lor, 1) := by decide +kernel
theorem dX1_fill_41 : decode cX1_fill 41 = .ok (.lstore_n 3, 1) := by decide +kernel
theorem dX1_fill_42 : decode cX1_fill 42 = .ok (.aload_n 0, 1) := by decide +kernel
theorem dX1_fill_43 : decode cX1_fill 43 = .ok (.aload_n 1, 1) := by decide +kernel
theorem dX1_fill_44 : decode cX1_fill 44 = .ok (.aload_n 2, 1) := by decide +kernel
theorem dX1_fill_45 : decode cX1_fill 45 = .ok (.getfield 50, 3) := by decide +kernel
theorem dX1_fill_48 : decode cX1_fill 48 = .ok (.aload_n 1, 1) := by decide +kernel
theorem dX1_fill_49 : decode cX1_fill 49 = .ok (.aload_n 2, 1) := by decide +kernel
theorem dX1_fill_50 : decode cX1_fill 50 = .ok (.getfield 50, 3) := by decide +kernel
theorem dX1_fill_53 : decode cX1_fill 53 = .ok (.invokevirtual 31, 3) := by decide +kernel
theorem dX1_fill_56 : decode cX1_fill 56 = .ok (.lload_n 3, 1) := by decide +kernel
theorem dX1_fill_57 : decode cX1_fill 57 = .ok (.ldc2_w 53, 3) := by decide +kernel
theorem dX1_fill_60 : decode cX1_fill 60 = .ok (.lxor, 1) := by decide +kernel
theorem dX1_fill_61 : decode cX1_fill 61 = .ok (.land, 1) := by decide +kernel
theorem dX1_fill_62 : decode cX1_fill 62 = .ok (.invokevirtual 55, 3) := by decide +kernel
theorem dX1_fill_65 : decode cX1_fill 65 = .ok (.return_, 1) := by decide +kernel
theorem dX1_fill_66 : decode cX1_fill 66 = .ok (.aload_n 2, 1) := by decide +kernel
theorem dX1_fill_67 : decode cX1_fill 67 = .ok (.getfield 37, 3) := by decide +kernel
theorem dX1_fill_70 : decode cX1_fill 70 = .ok (.ifCond .eq 18, 3) := by decide +kernel
theorem dX1_fill_73 : decode cX1_fill 73 = .ok (.aload_n 2, 1) := by decide +kernel
theorem dX1_fill_74 : decode cX1_fill 74 = .ok (.getfield 40, 3) := by decide +kernel
theorem dX1_fill_77 : decode cX1_fill 77 = .ok (.aload_n 2, 1) := by decide +kernel
theorem dX1_fill_78 : decode cX1_fill 78 = .ok (.getfield 28, 3) := by decide +kernel
theorem dX1_fill_81 : decode cX1_fill 81 = .ok (.if_icmp .ge 7, 3) := by decide +kernel
theorem dX1_fill_84 : decode cX1_fill 84 = .ok (.iconst 1, 1) := by decide +kernel
theorem dX1_fill_85 : decode cX1_fill 85 = .ok (.goto 4, 3) := by decide +kernel
theorem dX1_fill_88 : decode cX1_fill 88 = .ok (.iconst 0, 1) := by decide +kernel
theorem dX1_fill_89 : decode cX1_fill 89 = .ok (.istore_n 3, 1) := by decide +kernel
theorem dX1_fill_90 : decode cX1_fill 90 = .ok (.iload_n 3, 1) := by decide +kernel
theorem dX1_fill_91 : decode cX1_fill 91 = .ok (.ifCond .eq 9, 3) := by decide +kernel
theorem dX1_fill_94 : decode cX1_fill 94 = .ok (.aload_n 0, 1) := by decide +kernel
theorem dX1_fill_95 : decode cX1_fill 95 = .ok (.aload_n 1, 1) := by decide +kernel
theorem dX1_fill_96 : decode cX1_fill 96 = .ok (.aload_n 2, 1) := by decide +kernel
theorem dX1_fill_97 : decode cX1_fill 97 = .ok (.invokevirtual 59, 3) := by decide +kernel
theorem dX1_fill_100 : decode cX1_fill 100 = .ok (.aload_n 0, 1) := by decide +kernel
theorem dX1_fill_101 : decode cX1_fill 101 = .ok (.aload_n 1, 1) := by decide +kernel
theorem dX1_fill_102 : decode cX1_fill 102 = .ok (.aload_n 2, 1) := by decide +kernel
theorem dX1_fill_103 : decode cX1_fill 103 = .ok (.getfield 28, 3) := by decide +kernel
theorem dX1_fill_106 : decode cX1_fill 106 = .ok (.aload_n 1, 1) := by decide +kernel
theorem dX1_fill_107 : decode cX1_fill 107 = .ok (.aload_n 2, 1) := by decide +kernel
theorem dX1_fill_108 : decode cX1_fill 108 = .ok (.getfield 28, 3) := by decide +kernel
theorem dX1_fill_111 : decode cX1_fill 111 = .ok (.invokevirtual 31, 3) := by decide +kernel
theorem dX1_fill_114 : decode cX1_fill 114 = .ok (.aload_n 1, 1) := by decide +kernel
theorem dX1_fill_115 : decode cX1_fill 115 = .ok (.aload_n 2, 1) := by decide +kernel
theorem dX1_fill_116 : decode cX1_fill 116 = .ok (.getfield 50, 3) := by decide +kernel
theorem dX1_fill_119 : decode cX1_fill 119 = .ok (.invokevirtual 31, 3) := by decide +kernel
theorem dX1_fill_122 : decode cX1_fill 122 = .ok (.ldc2_w 53, 3) := by decide +kernel
theorem dX1_fill_125 : decode cX1_fill 125 = .ok (.lxor, 1) := by decide +kernel
theorem dX1_fill_126 : decode cX1_fill 126 = .ok (.land, 1) := by decide +kernel
theorem dX1_fill_127 : decode cX1_fill 127 = .ok (.aload_n 2, 1) := by decide +kernel
theorem dX1_fill_128 : decode cX1_fill 128 = .ok (.getfield 40, 3) := by decide +kernel
theorem dX1_fill_131 : decode cX1_fill 131 = .ok (.invokestatic 43, 3) := by decide +kernel
theorem dX1_fill_134 : decode cX1_fill 134 = .ok (.ldc2_w 53, 3) := by decide +kernel
theorem dX1_fill_137 : decode cX1_fill 137 = .ok (.lxor, 1) := by decide +kernel
theorem dX1_fill_138 : decode cX1_fill 138 = .ok (.land, 1) := by decide +kernel
theorem dX1_fill_139 : decode cX1_fill 139 = .ok (.invokevirtual 55, 3) := by decide +kernel
theorem dX1_fill_142 : decode cX1_fill 142 = .ok (.iload_n 3, 1) := by decide +kernel
theorem dX1_fill_143 : decode cX1_fill 143 = .ok (.ifCond .ne 9, 3) := by decide +kernel
theorem dX1_fill_146 : decode cX1_fill 146 = .ok (.aload_n 0, 1) := by decide +kernel
theorem dX1_fill_147 : decode cX1_fill 147 = .ok (.aload_n 1, 1) := by decide +kernel
theorem dX1_fill_148 : decode cX1_fill 148 = .ok (.aload_n 2, 1) := by decide +kernel
theorem dX1_fill_149 : decode cX1_fill 149 = .ok (.invokevirtual 59, 3) := by decide +kernel
theorem dX1_fill_152 : decode cX1_fill 152 = .ok (.return_, 1) := by decide +kernel
set_option maxRecDepth 20000 in
theorem ggX1_fillMan_X0_bit : GoodIn wsX1_fillMan wsX0_bit := goodIn_r _ [4] (by decide +kernel) (by decide +kernel)
set_option maxRecDepth 20000 in
theorem gX1_fillMan_X0_bit_n43 : GoodIn wsX1_fillMan (wsX0_bit) := ggX1_fillMan_X0_bit
set_option maxRecDepth 20000 in
theorem ggX1_fillMan_X1_fillPawn : GoodIn wsX1_fillMan wsX1_fillPawn := goodIn_r _ [9, 10, 3, 11, 12, 13, 14, 2, 4, 15, 16, 17, 18, 19, 20, 21, 22, 23, 24, 25, 8, 26, 27, 28, 52, 53, 54, 55, 56, 57, 58, 59, 60, 61] (by decide +kernel) (by decide +kernel)
set_option maxRecDepth 20000 in
theorem gX1_fillMan_X1_fillPawn : GoodIn wsX1_fillMan (wsV RX1 63 RX1 yX1_fillPawn wsX1_fillPawn) := goodIn_app (goodIn_of _ (by decide +kernel)) ggX1_fillMan_X1_fillPawn
set_option maxRecDepth 20000 in
theorem ggX1_fillMan_X0_attacked : GoodIn wsX1_fillMan wsX0_attacked := goodIn_r _ [31, 32, 10, 11, 3, 12, 13, 14, 33, 2, 4, 34, 35, 36, 37, 38, 39, 40, 41, 42, 52, 53, 54, 55, 56, 57, 58, 59] (by decide +kernel) (by decide +kernel)
set_option maxRecDepth 20000 in
theorem gX1_fillMan_X0_attacked_n46 : GoodIn wsX1_fillMan (wsX0_attacked) := ggX1_fillMan_X0_attacked
set_option maxRecDepth 20000 in
theorem ggX1_fillMan_X1_addAll : GoodIn wsX1_fillMan wsX1_addAll := goodIn_r _ [46, 2, 3, 4, 23, 24, 25, 8, 26, 27, 28, 19, 20, 21, 13, 22, 52, 53, 54, 55, 56, 57, 58, 59, 60, 61] (by decide +kernel) (by decide +kernel)
set_option maxRecDepth 20000 in
theorem gX1_fillMan_X1_addAll : GoodIn wsX1_fillMan (wsV RX1 55 RX1 yX1_addAll wsX1_addAll) := goodIn_app (goodIn_of _ (by decide +kernel)) ggX1_fillMan_X1_addAll
theorem dX1_fillMan_0 : decode cX1_fillMan 0 = .ok (.aload_n 2, 1) := by decide +kernel
theorem dX1_fillMan_1 : decode cX1_fillMan 1 = .ok (.getfield 28, 3) := by decide +kernel
theorem dX1_fillMan_4 : decode cX1_fillMan 4 = .ok (.invokestatic 43, 3) := by decide +kernel
theorem dX1_fillMan_7 : decode cX1_fillMan 7 = .ok (.aload_n 2, 1) := by decide +kernel
theorem dX1_fillMan_8 : decode cX1_fillMan 8 = .ok (.getfield 50, 3) := by decide +kernel
theorem dX1_fillMan_11 : decode cX1_fillMan 11 = .ok (.invokestatic 43, 3) := by decide +kernel
theorem dX1_fillMan_14 : decode cX1_fillMan 14 = .ok (.lor, 1) := by decide +kernel
theorem dX1_fillMan_15 : decode cX1_fillMan 15 = .ok (.lstore_n 3, 1) := by decide +kernel
theorem dX1_fillMan_16 : decode cX1_fillMan 16 = .ok (.aload_n 2, 1) := by decide +kernel
theorem dX1_fillMan_17 : decode cX1_fillMan 17 = .ok (.getfield 37, 3) := by decide +kernel
theorem dX1_fillMan_20 : decode cX1_fillMan 20 = .ok (.iconst 1, 1) := by decide +kernel
theorem dX1_fillMan_21 : decode cX1_fillMan 21 = .ok (.if_icmp .ne 16, 3) := by decide +kernel
theorem dX1_fillMan_24 : decode cX1_fillMan 24 = .ok (.aload_n 0, 1) := by decide +kernel
theorem dX1_fillMan_25 : decode cX1_fillMan 25 = .ok (.aload_n 1, 1) := by decide +kernel
theorem dX1_fillMan_26 : decode cX1_fillMan 26 = .ok (.aload_n 2, 1) := by decide +kernel
theorem dX1_fillMan_27 : decode cX1_fillMan 27 = .ok (.getfield 40, 3) := by decide +kernel
theorem dX1_fillMan_30 : decode cX1_fillMan 30 = .ok (.lload_n 3, 1) := by decide +kernel
theorem dX1_fillMan_31 : decode cX1_fillMan 31 = .ok (.invokevirtual 63, 3) := by decide +kernel
theorem dX1_fillMan_34 : decode cX1_fillMan 34 = .ok (.goto 31, 3) := by decide +kernel
theorem dX1_fillMan_37 : decode cX1_fillMan 37 = .ok (.aload_n 0, 1) := by decide +kernel
theorem dX1_fillMan_38 : decode cX1_fillMan 38 = .ok (.aload_n 1, 1) := by decide +kernel
theorem dX1_fillMan_39 : decode cX1_fillMan 39 = .ok (.aload_n 2, 1) := by decide +kernel
theorem dX1_fillMan_40 : decode cX1_fillMan 40 = .ok (.getfield 40, 3) := by decide +kernel
theorem dX1_fillMan_43 : decode cX1_fillMan 43 = .ok (.aload_n 1, 1) := by decide +kernel
theorem dX1_fillMan_44 : decode cX1_fillMan 44 = .ok (.aload_n 2, 1) := by decide +kernel
theorem dX1_fillMan_45 : decode cX1_fillMan 45 = .ok (.getfield 37, 3) := by decide +kernel
theorem dX1_fillMan_48 : decode cX1_fillMan 48 = .ok (.aload_n 2, 1) := by decide +kernel
theorem dX1_fillMan_49 : decode cX1_fillMan 49 = .ok (.getfield 40, 3) := by decide +kernel
theorem dX1_fillMan_52 : decode cX1_fillMan 52 = .ok (.lload_n 3, 1) := by decide +kernel
theorem dX1_fillMan_53 : decode cX1_fillMan 53 = .ok (.invokevirtual 46, 3) := by decide +kernel
theorem dX1_fillMan_56 : decode cX1_fillMan 56 = .ok (.lload_n 3, 1) := by decide +kernel
theorem dX1_fillMan_57 : decode cX1_fillMan 57 = .ok (.ldc2_w 53, 3) := by decide +kernel
theorem dX1_fillMan_60 : decode cX1_fillMan 60 = .ok (.lxor, 1) := by decide +kernel
theorem dX1_fillMan_61 : decode cX1_fillMan 61 = .ok (.land, 1) := by decide +kernel
theorem dX1_fillMan_62 : decode cX1_fillMan 62 = .ok (.invokevirtual 55, 3) := by decide +kernel
theorem dX1_fillMan_65 : decode cX1_fillMan 65 = .ok (.return_, 1) := by decide +kernel
set_option maxRecDepth 20000 in
theorem ggX1_fillPawn_X0_step : GoodIn wsX1_fillPawn wsX0_step := goodIn_r _ [4, 5, 6, 24, 25, 26, 27, 28, 29, 30, 31] (by decide +kernel) (by decide +kernel)
set_option maxRecDepth 20000 in
theorem gX1_fillPawn_X0_step_n66 : GoodIn wsX1_fillPawn (wsX0_step) := ggX1_fillPawn_X0_step
set_option maxRecDepth 20000 in
theorem ggX1_fillPawn_X0_bit : GoodIn wsX1_fillPawn wsX0_bit := goodIn_r _ [8] (by decide +kernel) (by decide +kernel)
set_option maxRecDepth 20000 in
theorem gX1_fillPawn_X0_bit_n43 : GoodIn wsX1_fillPawn (wsX0_bit) := ggX1_fillPawn_X0_bit
set_option maxRecDepth 20000 in
theorem ggX1_fillPawn_X0_rankOf : GoodIn wsX1_fillPawn wsX0_rankOf := goodIn_r _ [11, 12, 13, 14, 2, 15, 5, 16, 24, 25, 26, 27, 28, 29, 30, 31] (by decide +kernel) (by decide +kernel)
set_option maxRecDepth 20000 in
theorem gX1_fillPawn_X0_rankOf_n70 : GoodIn wsX1_fillPawn (wsX0_rankOf) := ggX1_fillPawn_X0_rankOf
set_option maxRecDepth 20000 in
theorem ggX1_fillPawn_X1_add : GoodIn wsX1_fillPawn wsX1_add := goodIn_r _ [21, 22, 23, 13, 2, 14, 15, 5, 16, 32, 33, 24, 25, 26, 27, 28, 29, 30, 31] (by decide +kernel) (by decide +kernel)
set_option maxRecDepth 20000 in
theorem gX1_fillPawn_X1_add : GoodIn wsX1_fillPawn (wsV RX1 76 RX1 yX1_add wsX1_add) := goodIn_app (goodIn_of _ (by decide +kernel)) ggX1_fillPawn_X1_add
theorem dX1_fillPawn_0 : decode cX1_fillPawn 0 = .ok (.aload_n 1, 1) := by decide +kernel
theorem dX1_fillPawn_1 : decode cX1_fillPawn 1 = .ok (.iload_n 2, 1) := by decide +kernel
theorem dX1_fillPawn_2 : decode cX1_fillPawn 2 = .ok (.iconst 3, 1) := by decide +kernel
theorem dX1_fillPawn_3 : decode cX1_fillPawn 3 = .ok (.invokevirtual 66, 3) := by decide +kernel
theorem dX1_fillPawn_6 : decode cX1_fillPawn 6 = .ok (.istore 5, 2) := by decide +kernel
theorem dX1_fillPawn_8 : decode cX1_fillPawn 8 = .ok (.iload 5, 2) := by decide +kernel
theorem dX1_fillPawn_10 : decode cX1_fillPawn 10 = .ok (.iconst (-1), 1) := by decide +kernel
theorem dX1_fillPawn_11 : decode cX1_fillPawn 11 = .ok (.if_icmp .eq 15, 3) := by decide +kernel
theorem dX1_fillPawn_14 : decode cX1_fillPawn 14 = .ok (.lload_n 3, 1) := by decide +kernel
theorem dX1_fillPawn_15 : decode cX1_fillPawn 15 = .ok (.iload 5, 2) := by decide +kernel
theorem dX1_fillPawn_17 : decode cX1_fillPawn 17 = .ok (.invokestatic 43, 3) := by decide +kernel
theorem dX1_fillPawn_20 : decode cX1_fillPawn 20 = .ok (.land, 1) := by decide +kernel
theorem dX1_fillPawn_21 : decode cX1_fillPawn 21 = .ok (.lconst 0, 1) := by decide +kernel
theorem dX1_fillPawn_22 : decode cX1_fillPawn 22 = .ok (.lcmp, 1) := by decide +kernel
theorem dX1_fillPawn_23 : decode cX1_fillPawn 23 = .ok (.ifCond .eq 4, 3) := by decide +kernel
theorem dX1_fillPawn_26 : decode cX1_fillPawn 26 = .ok (.return_, 1) := by decide +kernel
theorem dX1_fillPawn_27 : decode cX1_fillPawn 27 = .ok (.aload_n 1, 1) := by decide +kernel
theorem dX1_fillPawn_28 : decode cX1_fillPawn 28 = .ok (.iload 5, 2) := by decide +kernel
theorem dX1_fillPawn_30 : decode cX1_fillPawn 30 = .ok (.invokevirtual 70, 3) := by decide +kernel
theorem dX1_fillPawn_33 : decode cX1_fillPawn 33 = .ok (.aload_n 1, 1) := by decide +kernel
theorem dX1_fillPawn_34 : decode cX1_fillPawn 34 = .ok (.getfield 73, 3) := by decide +kernel
theorem dX1_fillPawn_37 : decode cX1_fillPawn 37 = .ok (.iconst 1, 1) := by decide +kernel
theorem dX1_fillPawn_38 : decode cX1_fillPawn 38 = .ok (.isub, 1) := by decide +kernel
theorem dX1_fillPawn_39 : decode cX1_fillPawn 39 = .ok (.if_icmp .ne 29, 3) := by decide +kernel
theorem dX1_fillPawn_42 : decode cX1_fillPawn 42 = .ok (.iconst 2, 1) := by decide +kernel
theorem dX1_fillPawn_43 : decode cX1_fillPawn 43 = .ok (.istore 6, 2) := by decide +kernel
theorem dX1_fillPawn_45 : decode cX1_fillPawn 45 = .ok (.iload 6, 2) := by decide +kernel
theorem dX1_fillPawn_47 : decode cX1_fillPawn 47 = .ok (.iconst 5, 1) := by decide +kernel
theorem dX1_fillPawn_48 : decode cX1_fillPawn 48 = .ok (.if_icmp .gt 19, 3) := by decide +kernel
theorem dX1_fillPawn_51 : decode cX1_fillPawn 51 = .ok (.aload_n 0, 1) := by decide +kernel
theorem dX1_fillPawn_52 : decode cX1_fillPawn 52 = .ok (.aload_n 1, 1) := by decide +kernel
theorem dX1_fillPawn_53 : decode cX1_fillPawn 53 = .ok (.iload_n 2, 1) := by decide +kernel
theorem dX1_fillPawn_54 : decode cX1_fillPawn 54 = .ok (.iload 5, 2) := by decide +kernel
theorem dX1_fillPawn_56 : decode cX1_fillPawn 56 = .ok (.iload 6, 2) := by decide +kernel
theorem dX1_fillPawn_58 : decode cX1_fillPawn 58 = .ok (.invokevirtual 76, 3) := by decide +kernel
theorem dX1_fillPawn_61 : decode cX1_fillPawn 61 = .ok (.iinc 6 1, 3) := by decide +kernel
theorem dX1_fillPawn_64 : decode cX1_fillPawn 64 = .ok (.goto (-19), 3) := by decide +kernel
theorem dX1_fillPawn_67 : decode cX1_fillPawn 67 = .ok (.return_, 1) := by decide +kernel
theorem dX1_fillPawn_68 : decode cX1_fillPawn 68 = .ok (.aload_n 0, 1) := by decide +kernel
theorem dX1_fillPawn_69 : decode cX1_fillPawn 69 = .ok (.aload_n 1, 1) := by decide +kernel
theorem dX1_fillPawn_70 : decode cX1_fillPawn 70 = .ok (.iload_n 2, 1) := by decide +kernel
theorem dX1_fillPawn_71 : decode cX1_fillPawn 71 = .ok (.iload 5, 2) := by decide +kernel
theorem dX1_fillPawn_73 : decode cX1_fillPawn 73 = .ok (.iconst 0, 1) := by decide +kernel
theorem dX1_fillPawn_74 : decode cX1_fillPawn 74 = .ok (.invokevirtual 76, 3) := by decide +kernel
theorem dX1_fillPawn_77 : decode cX1_fillPawn 77 = .ok (.aload_n 1, 1) := by decide +kernel
theorem dX1_fillPawn_78 : decode cX1_fillPawn 78 = .ok (.iload 5, 2) := by decide +kernel
theorem dX1_fillPawn_80 : decode cX1_fillPawn 80 = .ok (.iconst 3, 1) := by decide +kernel
theorem dX1_fillPawn_81 : decode cX1_fillPawn 81 = .ok (.invokevirtual 66, 3) := by decide +kernel
theorem dX1_fillPawn_84 : decode cX1_fillPawn 84 = .ok (.istore 6, 2) := by decide +kernel
theorem dX1_fillPawn_86 : decode cX1_fillPawn 86 = .ok (.iload 6, 2) := by decide +kernel
theorem dX1_fillPawn_88 : decode cX1_fillPawn 88 = .ok (.iconst (-1), 1) := by decide +kernel
theorem dX1_fillPawn_89 : decode cX1_fillPawn 89 = .ok (.if_icmp .eq 19, 3) := by decide +kernel
theorem dX1_fillPawn_92 : decode cX1_fillPawn 92 = .ok (.lload_n 3, 1) := by decide +kernel
theorem dX1_fillPawn_93 : decode cX1_fillPawn 93 = .ok (.iload 6, 2) := by decide +kernel
theorem dX1_fillPawn_95 : decode cX1_fillPawn 95 = .ok (.invokestatic 43, 3) := by decide +kernel
theorem dX1_fillPawn_98 : decode cX1_fillPawn 98 = .ok (.land, 1) := by decide +kernel
theorem dX1_fillPawn_99 : decode cX1_fillPawn 99 = .ok (.lconst 0, 1) := by decide +kernel
theorem dX1_fillPawn_100 : decode cX1_fillPawn 100 = .ok (.lcmp, 1) := by decide +kernel
theorem dX1_fillPawn_101 : decode cX1_fillPawn 101 = .ok (.ifCond .ne 7, 3) := by decide +kernel
theorem dX1_fillPawn_104 : decode cX1_fillPawn 104 = .ok (.iconst 1, 1) := by decide +kernel
theorem dX1_fillPawn_105 : decode cX1_fillPawn 105 = .ok (.goto 4, 3) := by decide +kernel
theorem dX1_fillPawn_108 : decode cX1_fillPawn 108 = .ok (.iconst 0, 1) := by decide +kernel
theorem dX1_fillPawn_109 : decode cX1_fillPawn 109 = .ok (.istore 7, 2) := by decide +kernel
theorem dX1_fillPawn_111 : decode cX1_fillPawn 111 = .ok (.aload_n 1, 1) := by decide +kernel
theorem dX1_fillPawn_112 : decode cX1_fillPawn 112 = .ok (.iload_n 2, 1) := by decide +kernel
theorem dX1_fillPawn_113 : decode cX1_fillPawn 113 = .ok (.invokevirtual 70, 3) := by decide +kernel
theorem dX1_fillPawn_116 : decode cX1_fillPawn 116 = .ok (.iconst 1, 1) := by decide +kernel
theorem dX1_fillPawn_117 : decode cX1_fillPawn 117 = .ok (.if_icmp .ne 32, 3) := by decide +kernel
theorem dX1_fillPawn_120 : decode cX1_fillPawn 120 = .ok (.iload 7, 2) := by decide +kernel
theorem dX1_fillPawn_122 : decode cX1_fillPawn 122 = .ok (.ifCond .eq 27, 3) := by decide +kernel
theorem dX1_fillPawn_125 : decode cX1_fillPawn 125 = .ok (.aload_n 1, 1) := by decide +kernel
theorem dX1_fillPawn_126 : decode cX1_fillPawn 126 = .ok (.iload 6, 2) := by decide +kernel
theorem dX1_fillPawn_128 : decode cX1_fillPawn 128 = .ok (.invokevirtual 70, 3) := by decide +kernel
theorem dX1_fillPawn_131 : decode cX1_fillPawn 131 = .ok (.aload_n 1, 1) := by decide +kernel
theorem dX1_fillPawn_132 : decode cX1_fillPawn 132 = .ok (.getfield 73, 3) := by decide +kernel
theorem dX1_fillPawn_135 : decode cX1_fillPawn 135 = .ok (.iconst 1, 1) := by decide +kernel
theorem dX1_fillPawn_136 : decode cX1_fillPawn 136 = .ok (.isub, 1) := by decide +kernel
theorem dX1_fillPawn_137 : decode cX1_fillPawn 137 = .ok (.if_icmp .eq 12, 3) := by decide +kernel
theorem dX1_fillPawn_140 : decode cX1_fillPawn 140 = .ok (.aload_n 0, 1) := by decide +kernel
theorem dX1_fillPawn_141 : decode cX1_fillPawn 141 = .ok (.aload_n 1, 1) := by decide +kernel
theorem dX1_fillPawn_142 : decode cX1_fillPawn 142 = .ok (.iload_n 2, 1) := by decide +kernel
theorem dX1_fillPawn_143 : decode cX1_fillPawn 143 = .ok (.iload 6, 2) := by decide +kernel
theorem dX1_fillPawn_145 : decode cX1_fillPawn 145 = .ok (.iconst 0, 1) := by decide +kernel
theorem dX1_fillPawn_146 : decode cX1_fillPawn 146 = .ok (.invokevirtual 76, 3) := by decide +kernel
theorem dX1_fillPawn_149 : decode cX1_fillPawn 149 = .ok (.return_, 1) := by decide +kernel
set_option maxRecDepth 20000 in
theorem ggX1_addAll_X0_bit : GoodIn wsX1_addAll wsX0_bit := goodIn_r _ [3] (by decide +kernel) (by decide +kernel)
set_option maxRecDepth 20000 in
theorem gX1_addAll_X0_bit_n43 : GoodIn wsX1_addAll (wsX0_bit) := ggX1_addAll_X0_bit
set_option maxRecDepth 20000 in
theorem ggX1_addAll_X1_add : GoodIn wsX1_addAll wsX1_add := goodIn_r _ [8, 9, 10, 11, 2, 12, 13, 14, 15, 24, 25, 16, 17, 18, 19, 20, 21, 22, 23] (by decide +kernel) (by decide +kernel)
set_option maxRecDepth 20000 in
theorem gX1_addAll_X1_add : GoodIn wsX1_addAll (wsV RX1 76 RX1 yX1_add wsX1_add) := goodIn_app (goodIn_of _ (by decide +kernel)) ggX1_addAll_X1_add
theorem dX1_addAll_0 : decode cX1_addAll 0 = .ok (.iconst 0, 1) := by decide +kernel
theorem dX1_addAll_1 : decode cX1_addAll 1 = .ok (.istore 5, 2) := by decide +kernel
theorem dX1_addAll_3 : decode cX1_addAll 3 = .ok (.iload 5, 2) := by decide +kernel
theorem dX1_addAll_5 : decode cX1_addAll 5 = .ok (.aload_n 1, 1) := by decide +kernel
theorem dX1_addAll_6 : decode cX1_addAll 6 = .ok (.getfield 80, 3) := by decide +kernel
theorem dX1_addAll_9 : decode cX1_addAll 9 = .ok (.if_icmp .ge 30, 3) := by decide +kernel
theorem dX1_addAll_12 : decode cX1_addAll 12 = .ok (.lload_n 3, 1) := by decide +kernel
theorem dX1_addAll_13 : decode cX1_addAll 13 = .ok (.iload 5, 2) := by decide +kernel
theorem dX1_addAll_15 : decode cX1_addAll 15 = .ok (.invokestatic 43, 3) := by decide +kernel
theorem dX1_addAll_18 : decode cX1_addAll 18 = .ok (.land, 1) := by decide +kernel
theorem dX1_addAll_19 : decode cX1_addAll 19 = .ok (.lconst 0, 1) := by decide +kernel
theorem dX1_addAll_20 : decode cX1_addAll 20 = .ok (.lcmp, 1) := by decide +kernel
theorem dX1_addAll_21 : decode cX1_addAll 21 = .ok (.ifCond .eq 12, 3) := by decide +kernel
theorem dX1_addAll_24 : decode cX1_addAll 24 = .ok (.aload_n 0, 1) := by decide +kernel
theorem dX1_addAll_25 : decode cX1_addAll 25 = .ok (.aload_n 1, 1) := by decide +kernel
theorem dX1_addAll_26 : decode cX1_addAll 26 = .ok (.iload_n 2, 1) := by decide +kernel
theorem dX1_addAll_27 : decode cX1_addAll 27 = .ok (.iload 5, 2) := by decide +kernel
theorem dX1_addAll_29 : decode cX1_addAll 29 = .ok (.iconst 0, 1) := by decide +kernel
theorem dX1_addAll_30 : decode cX1_addAll 30 = .ok (.invokevirtual 76, 3) := by decide +kernel
theorem dX1_addAll_33 : decode cX1_addAll 33 = .ok (.iinc 5 1, 3) := by decide +kernel
theorem dX1_addAll_36 : decode cX1_addAll 36 = .ok (.goto (-33), 3) := by decide +kernel
theorem dX1_addAll_39 : decode cX1_addAll 39 = .ok (.return_, 1) := by decide +kernel
set_option maxRecDepth 20000 in
theorem ggX1_add_X0_squareOf : GoodIn wsX1_add wsX0_squareOf := goodIn_r _ [6, 7, 8, 11, 12, 13, 14, 15, 16, 17, 18] (by decide +kernel) (by decide +kernel)
set_option maxRecDepth 20000 in
theorem gX1_add_X0_squareOf_n83 : GoodIn wsX1_add (wsX0_squareOf) := ggX1_add_X0_squareOf
theorem dX1_add_0 : decode cX1_add 0 = .ok (.aload_n 0, 1) := by decide +kernel
theorem dX1_add_1 : decode cX1_add 1 = .ok (.getfield 15, 3) := by decide +kernel
theorem dX1_add_4 : decode cX1_add 4 = .ok (.ifCond .lt 55, 3) := by decide +kernel
theorem dX1_add_7 : decode cX1_add 7 = .ok (.aload_n 0, 1) := by decide +kernel
theorem dX1_add_8 : decode cX1_add 8 = .ok (.getfield 15, 3) := by decide +kernel
theorem dX1_add_11 : decode cX1_add 11 = .ok (.aload_n 0, 1) := by decide +kernel
theorem dX1_add_12 : decode cX1_add 12 = .ok (.getfield 11, 3) := by decide +kernel
theorem dX1_add_15 : decode cX1_add 15 = .ok (.arraylength, 1) := by decide +kernel
theorem dX1_add_16 : decode cX1_add 16 = .ok (.if_icmp .ge 43, 3) := by decide +kernel
theorem dX1_add_19 : decode cX1_add 19 = .ok (.aload_n 0, 1) := by decide +kernel
theorem dX1_add_20 : decode cX1_add 20 = .ok (.getfield 11, 3) := by decide +kernel
theorem dX1_add_23 : decode cX1_add 23 = .ok (.aload_n 0, 1) := by decide +kernel
theorem dX1_add_24 : decode cX1_add 24 = .ok (.getfield 15, 3) := by decide +kernel
theorem dX1_add_27 : decode cX1_add 27 = .ok (.aload_n 1, 1) := by decide +kernel
theorem dX1_add_28 : decode cX1_add 28 = .ok (.iload_n 2, 1) := by decide +kernel
theorem dX1_add_29 : decode cX1_add 29 = .ok (.invokevirtual 83, 3) := by decide +kernel
theorem dX1_add_32 : decode cX1_add 32 = .ok (.bipush 64, 2) := by decide +kernel
theorem dX1_add_34 : decode cX1_add 34 = .ok (.aload_n 1, 1) := by decide +kernel
theorem dX1_add_35 : decode cX1_add 35 = .ok (.iload_n 3, 1) := by decide +kernel
theorem dX1_add_36 : decode cX1_add 36 = .ok (.invokevirtual 83, 3) := by decide +kernel
theorem dX1_add_39 : decode cX1_add 39 = .ok (.imul, 1) := by decide +kernel
theorem dX1_add_40 : decode cX1_add 40 = .ok (.iadd, 1) := by decide +kernel
theorem dX1_add_41 : decode cX1_add 41 = .ok (.sipush 4096, 3) := by decide +kernel
theorem dX1_add_44 : decode cX1_add 44 = .ok (.iload 4, 2) := by decide +kernel
theorem dX1_add_46 : decode cX1_add 46 = .ok (.imul, 1) := by decide +kernel
theorem dX1_add_47 : decode cX1_add 47 = .ok (.iadd, 1) := by decide +kernel
theorem dX1_add_48 : decode cX1_add 48 = .ok (.iastore, 1) := by decide +kernel
theorem dX1_add_49 : decode cX1_add 49 = .ok (.aload_n 0, 1) := by decide +kernel
theorem dX1_add_50 : decode cX1_add 50 = .ok (.dup, 1) := by decide +kernel
theorem dX1_add_51 : decode cX1_add 51 = .ok (.getfield 15, 3) := by decide +kernel
theorem dX1_add_54 : decode cX1_add 54 = .ok (.iconst 1, 1) := by decide +kernel
theorem dX1_add_55 : decode cX1_add 55 = .ok (.iadd, 1) := by decide +kernel
theorem dX1_add_56 : decode cX1_add 56 = .ok (.putfield 15, 3) := by decide +kernel
theorem dX1_add_59 : decode cX1_add 59 = .ok (.return_, 1) := by decide +kernel
theorem dX2_init_0 : decode cX2_init 0 = .ok (.aload_n 0, 1) := by decide +kernel
theorem dX2_init_1 : decode cX2_init 1 = .ok (.invokespecial 3, 3) := by decide +kernel
theorem dX2_init_4 : decode cX2_init 4 = .ok (.return_, 1) := by decide +kernel
theorem dX2_copy_0 : decode cX2_copy 0 = .ok (.aload_n 0, 1) := by decide +kernel
theorem dX2_copy_1 : decode cX2_copy 1 = .ok (.aload_n 1, 1) := by decide +kernel
theorem dX2_copy_2 : decode cX2_copy 2 = .ok (.getfield 9, 3) := by decide +kernel
theorem dX2_copy_5 : decode cX2_copy 5 = .ok (.putfield 9, 3) := by decide +kernel
theorem dX2_copy_8 : decode cX2_copy 8 = .ok (.aload_n 0, 1) := by decide +kernel
theorem dX2_copy_9 : decode cX2_copy 9 = .ok (.aload_n 1, 1) := by decide +kernel
theorem dX2_copy_10 : decode cX2_copy 10 = .ok (.getfield 15, 3) := by decide +kernel
theorem dX2_copy_13 : decode cX2_copy 13 = .ok (.putfield 15, 3) := by decide +kernel
theorem dX2_copy_16 : decode cX2_copy 16 = .ok (.aload_n 0, 1) := by decide +kernel
theorem dX2_copy_17 : decode cX2_copy 17 = .ok (.aload_n 1, 1) := by decide +kernel
theorem dX2_copy_18 : decode cX2_copy 18 = .ok (.getfield 18, 3) := by decide +kernel
theorem dX2_copy_21 : decode cX2_copy 21 = .ok (.putfield 18, 3) := by decide +kernel
theorem dX2_copy_24 : decode cX2_copy 24 = .ok (.aload_n 0, 1) := by decide +kernel
theorem dX2_copy_25 : decode cX2_copy 25 = .ok (.aload_n 1, 1) := by decide +kernel
theorem dX2_copy_26 : decode cX2_copy 26 = .ok (.getfield 21, 3) := by decide +kernel
theorem dX2_copy_29 : decode cX2_copy 29 = .ok (.putfield 21, 3) := by decide +kernel
theorem dX2_copy_32 : decode cX2_copy 32 = .ok (.aload_n 0, 1) := by decide +kernel
theorem dX2_copy_33 : decode cX2_copy 33 = .ok (.aload_n 1, 1) := by decide +kernel
theorem dX2_copy_34 : decode cX2_copy 34 = .ok (.getfield 24, 3) := by decide +kernel
theorem dX2_copy_37 : decode cX2_copy 37 = .ok (.putfield 24, 3) := by decide +kernel
theorem dX2_copy_40 : decode cX2_copy 40 = .ok (.return_, 1) := by decide +kernel
set_option maxRecDepth 20000 in
theorem ggX2_go_X0_cellOf : GoodIn wsX2_go wsX0_cellOf := goodIn_r _ [8, 9, 10, 11, 6, 12, 13, 14, 26, 27, 28, 29, 30, 31, 32, 33] (by decide +kernel) (by decide +kernel)
set_option maxRecDepth 20000 in
theorem gX2_go_X0_cellOf_n27 : GoodIn wsX2_go (wsX0_cellOf) := ggX2_go_X0_cellOf
set_option maxRecDepth 20000 in
theorem ggX2_go_X2_goBlack : GoodIn wsX2_go wsX2_goBlack := goodIn_r _ [19, 20, 4, 3, 21, 22, 23, 24, 25] (by decide +kernel) (by decide +kernel)
set_option maxRecDepth 20000 in
theorem gX2_go_X2_goBlack : GoodIn wsX2_go (wsV RX2 33 RX2 yX2_goBlack wsX2_goBlack) := goodIn_app (goodIn_of _ (by decide +kernel)) ggX2_go_X2_goBlack
theorem dX2_go_0 : decode cX2_go 0 = .ok (.aload_n 1, 1) := by decide +kernel
theorem dX2_go_1 : decode cX2_go 1 = .ok (.iload_n 2, 1) := by decide +kernel
theorem dX2_go_2 : decode cX2_go 2 = .ok (.bipush 63, 2) := by decide +kernel
theorem dX2_go_4 : decode cX2_go 4 = .ok (.iand, 1) := by decide +kernel
theorem dX2_go_5 : decode cX2_go 5 = .ok (.invokevirtual 27, 3) := by decide +kernel
theorem dX2_go_8 : decode cX2_go 8 = .ok (.istore_n 3, 1) := by decide +kernel
theorem dX2_go_9 : decode cX2_go 9 = .ok (.aload_n 1, 1) := by decide +kernel
theorem dX2_go_10 : decode cX2_go 10 = .ok (.iload_n 2, 1) := by decide +kernel
theorem dX2_go_11 : decode cX2_go 11 = .ok (.bipush 6, 2) := by decide +kernel
theorem dX2_go_13 : decode cX2_go 13 = .ok (.ishr, 1) := by decide +kernel
theorem dX2_go_14 : decode cX2_go 14 = .ok (.bipush 63, 2) := by decide +kernel
theorem dX2_go_16 : decode cX2_go 16 = .ok (.iand, 1) := by decide +kernel
theorem dX2_go_17 : decode cX2_go 17 = .ok (.invokevirtual 27, 3) := by decide +kernel
theorem dX2_go_20 : decode cX2_go 20 = .ok (.istore 4, 2) := by decide +kernel
theorem dX2_go_22 : decode cX2_go 22 = .ok (.iload_n 2, 1) := by decide +kernel
theorem dX2_go_23 : decode cX2_go 23 = .ok (.bipush 12, 2) := by decide +kernel
theorem dX2_go_25 : decode cX2_go 25 = .ok (.ishr, 1) := by decide +kernel
theorem dX2_go_26 : decode cX2_go 26 = .ok (.istore 5, 2) := by decide +kernel
theorem dX2_go_28 : decode cX2_go 28 = .ok (.aload_n 0, 1) := by decide +kernel
theorem dX2_go_29 : decode cX2_go 29 = .ok (.getfield 24, 3) := by decide +kernel
theorem dX2_go_32 : decode cX2_go 32 = .ok (.iconst 1, 1) := by decide +kernel
theorem dX2_go_33 : decode cX2_go 33 = .ok (.if_icmp .ne 12, 3) := by decide +kernel
theorem dX2_go_36 : decode cX2_go 36 = .ok (.aload_n 0, 1) := by decide +kernel
theorem dX2_go_37 : decode cX2_go 37 = .ok (.iload 4, 2) := by decide +kernel
theorem dX2_go_39 : decode cX2_go 39 = .ok (.invokevirtual 33, 3) := by decide +kernel
theorem dX2_go_42 : decode cX2_go 42 = .ok (.goto 44, 3) := by decide +kernel
theorem dX2_go_45 : decode cX2_go 45 = .ok (.iload_n 3, 1) := by decide +kernel
theorem dX2_go_46 : decode cX2_go 46 = .ok (.aload_n 0, 1) := by decide +kernel
theorem dX2_go_47 : decode cX2_go 47 = .ok (.getfield 15, 3) := by decide +kernel
theorem dX2_go_50 : decode cX2_go 50 = .ok (.if_icmp .ne 12, 3) := by decide +kernel
theorem dX2_go_53 : decode cX2_go 53 = .ok (.aload_n 0, 1) := by decide +kernel
theorem dX2_go_54 : decode cX2_go 54 = .ok (.iload 4, 2) := by decide +kernel
theorem dX2_go_56 : decode cX2_go 56 = .ok (.putfield 15, 3) := by decide +kernel
theorem dX2_go_59 : decode cX2_go 59 = .ok (.goto 27, 3) := by decide +kernel
theorem dX2_go_62 : decode cX2_go 62 = .ok (.aload_n 0, 1) := by decide +kernel
theorem dX2_go_63 : decode cX2_go 63 = .ok (.iload 4, 2) := by decide +kernel
theorem dX2_go_65 : decode cX2_go 65 = .ok (.putfield 18, 3) := by decide +kernel
theorem dX2_go_68 : decode cX2_go 68 = .ok (.aload_n 0, 1) := by decide +kernel
theorem dX2_go_69 : decode cX2_go 69 = .ok (.iload 5, 2) := by decide +kernel
theorem dX2_go_71 : decode cX2_go 71 = .ok (.ifCond .ne 10, 3) := by decide +kernel
theorem dX2_go_74 : decode cX2_go 74 = .ok (.aload_n 0, 1) := by decide +kernel
theorem dX2_go_75 : decode cX2_go 75 = .ok (.getfield 9, 3) := by decide +kernel
theorem dX2_go_78 : decode cX2_go 78 = .ok (.goto 5, 3) := by decide +kernel
theorem dX2_go_81 : decode cX2_go 81 = .ok (.iload 5, 2) := by decide +kernel
theorem dX2_go_83 : decode cX2_go 83 = .ok (.putfield 9, 3) := by decide +kernel
theorem dX2_go_86 : decode cX2_go 86 = .ok (.aload_n 0, 1) := by decide +kernel
theorem dX2_go_87 : decode cX2_go 87 = .ok (.aload_n 0, 1) := by decide +kernel
theorem dX2_go_88 : decode cX2_go 88 = .ok (.getfield 24, 3) := by decide +kernel
theorem dX2_go_91 : decode cX2_go 91 = .ok (.ifCond .ne 7, 3) := by decide +kernel
theorem dX2_go_94 : decode cX2_go 94 = .ok (.iconst 1, 1) := by decide +kernel
theorem dX2_go_95 : decode cX2_go 95 = .ok (.goto 4, 3) := by decide +kernel
theorem dX2_go_98 : decode cX2_go 98 = .ok (.iconst 0, 1) := by decide +kernel
theorem dX2_go_99 : decode cX2_go 99 = .ok (.putfield 24, 3) := by decide +kernel
theorem dX2_go_102 : decode cX2_go 102 = .ok (.return_, 1) := by decide +kernel
theorem dX2_goBlack_0 : decode cX2_goBlack 0 = .ok (.aload_n 0, 1) := by decide +kernel
theorem dX2_goBlack_1 : decode cX2_goBlack 1 = .ok (.iload_n 1, 1) := by decide +kernel
theorem dX2_goBlack_2 : decode cX2_goBlack 2 = .ok (.putfield 21, 3) := by decide +kernel
theorem dX2_goBlack_5 : decode cX2_goBlack 5 = .ok (.aload_n 0, 1) := by decide +kernel
theorem dX2_goBlack_6 : decode cX2_goBlack 6 = .ok (.getfield 9, 3) := by decide +kernel
theorem dX2_goBlack_9 : decode cX2_goBlack 9 = .ok (.ifCond .eq 21, 3) := by decide +kernel
theorem dX2_goBlack_12 : decode cX2_goBlack 12 = .ok (.iload_n 1, 1) := by decide +kernel
theorem dX2_goBlack_13 : decode cX2_goBlack 13 = .ok (.aload_n 0, 1) := by decide +kernel
theorem dX2_goBlack_14 : decode cX2_goBlack 14 = .ok (.getfield 18, 3) := by decide +kernel
theorem dX2_goBlack_17 : decode cX2_goBlack 17 = .ok (.if_icmp .ne 13, 3) := by decide +kernel
theorem dX2_goBlack_20 : decode cX2_goBlack 20 = .ok (.aload_n 0, 1) := by decide +kernel
theorem dX2_goBlack_21 : decode cX2_goBlack 21 = .ok (.iconst 0, 1) := by decide +kernel
theorem dX2_goBlack_22 : decode cX2_goBlack 22 = .ok (.putfield 9, 3) := by decide +kernel
theorem dX2_goBlack_25 : decode cX2_goBlack 25 = .ok (.aload_n 0, 1) := by decide +kernel
theorem dX2_goBlack_26 : decode cX2_goBlack 26 = .ok (.iconst (-1), 1) := by decide +kernel
theorem dX2_goBlack_27 : decode cX2_goBlack 27 = .ok (.putfield 18, 3) := by decide +kernel
theorem dX2_goBlack_30 : decode cX2_goBlack 30 = .ok (.return_, 1) := by decide +kernel
theorem dJ13_bitCount_95d88_0 : decode cJ13_bitCount_95d88 0 = .ok (.lload_n 0, 1) := by decide +kernel
theorem dJ13_bitCount_95d88_1 : decode cJ13_bitCount_95d88 1 = .ok (.lload_n 0, 1) := by decide +kernel
theorem dJ13_bitCount_95d88_2 : decode cJ13_bitCount_95d88 2 = .ok (.iconst 1, 1) := by decide +kernel
theorem dJ13_bitCount_95d88_3 : decode cJ13_bitCount_95d88 3 = .ok (.lushr, 1) := by decide +kernel
theorem dJ13_bitCount_95d88_4 : decode cJ13_bitCount_95d88 4 = .ok (.ldc2_w 314, 3) := by decide +kernel
theorem dJ13_bitCount_95d88_7 : decode cJ13_bitCount_95d88 7 = .ok (.land, 1) := by decide +kernel
theorem dJ13_bitCount_95d88_8 : decode cJ13_bitCount_95d88 8 = .ok (.lsub, 1) := by decide +kernel
theorem dJ13_bitCount_95d88_9 : decode cJ13_bitCount_95d88 9 = .ok (.lstore_n 0, 1) := by decide +kernel
theorem dJ13_bitCount_95d88_10 : decode cJ13_bitCount_95d88 10 = .ok (.lload_n 0, 1) := by decide +kernel
theorem dJ13_bitCount_95d88_11 : decode cJ13_bitCount_95d88 11 = .ok (.ldc2_w 316, 3) := by decide +kernel
theorem dJ13_bitCount_95d88_14 : decode cJ13_bitCount_95d88 14 = .ok (.land, 1) := by decide +kernel
theorem dJ13_bitCount_95d88_15 : decode cJ13_bitCount_95d88 15 = .ok (.lload_n 0, 1) := by decide +kernel
theorem dJ13_bitCount_95d88_16 : decode cJ13_bitCount_95d88 16 = .ok (.iconst 2, 1) := by decide +kernel
theorem dJ13_bitCount_95d88_17 : decode cJ13_bitCount_95d88 17 = .ok (.lushr, 1) := by decide +kernel
theorem dJ13_bitCount_95d88_18 : decode cJ13_bitCount_95d88 18 = .ok (.ldc2_w 316, 3) := by decide +kernel
theorem dJ13_bitCount_95d88_21 : decode cJ13_bitCount_95d88 21 = .ok (.land, 1) := by decide +kernel
theorem dJ13_bitCount_95d88_22 : decode cJ13_bitCount_95d88 22 = .ok (.ladd, 1) := by decide +kernel
theorem dJ13_bitCount_95d88_23 : decode cJ13_bitCount_95d88 23 = .ok (.lstore_n 0, 1) := by decide +kernel
theorem dJ13_bitCount_95d88_24 : decode cJ13_bitCount_95d88 24 = .ok (.lload_n 0, 1) := by decide +kernel
theorem dJ13_bitCount_95d88_25 : decode cJ13_bitCount_95d88 25 = .ok (.lload_n 0, 1) := by decide +kernel
theorem dJ13_bitCount_95d88_26 : decode cJ13_bitCount_95d88 26 = .ok (.iconst 4, 1) := by decide +kernel
theorem dJ13_bitCount_95d88_27 : decode cJ13_bitCount_95d88 27 = .ok (.lushr, 1) := by decide +kernel
theorem dJ13_bitCount_95d88_28 : decode cJ13_bitCount_95d88 28 = .ok (.ladd, 1) := by decide +kernel
theorem dJ13_bitCount_95d88_29 : decode cJ13_bitCount_95d88 29 = .ok (.ldc2_w 318, 3) := by decide +kernel
theorem dJ13_bitCount_95d88_32 : decode cJ13_bitCount_95d88 32 = .ok (.land, 1) := by decide +kernel
theorem dJ13_bitCount_95d88_33 : decode cJ13_bitCount_95d88 33 = .ok (.lstore_n 0, 1) := by decide +kernel
theorem dJ13_bitCount_95d88_34 : decode cJ13_bitCount_95d88 34 = .ok (.lload_n 0, 1) := by decide +kernel
theorem dJ13_bitCount_95d88_35 : decode cJ13_bitCount_95d88 35 = .ok (.lload_n 0, 1) := by decide +kernel
theorem dJ13_bitCount_95d88_36 : decode cJ13_bitCount_95d88 36 = .ok (.bipush 8, 2) := by decide +kernel
theorem dJ13_bitCount_95d88_38 : decode cJ13_bitCount_95d88 38 = .ok (.lushr, 1) := by decide +kernel
theorem dJ13_bitCount_95d88_39 : decode cJ13_bitCount_95d88 39 = .ok (.ladd, 1) := by decide +kernel
theorem dJ13_bitCount_95d88_40 : decode cJ13_bitCount_95d88 40 = .ok (.lstore_n 0, 1) := by decide +kernel
theorem dJ13_bitCount_95d88_41 : decode cJ13_bitCount_95d88 41 = .ok (.lload_n 0, 1) := by decide +kernel
theorem dJ13_bitCount_95d88_42 : decode cJ13_bitCount_95d88 42 = .ok (.lload_n 0, 1) := by decide +kernel
theorem dJ13_bitCount_95d88_43 : decode cJ13_bitCount_95d88 43 = .ok (.bipush 16, 2) := by decide +kernel
theorem dJ13_bitCount_95d88_45 : decode cJ13_bitCount_95d88 45 = .ok (.lushr, 1) := by decide +kernel
theorem dJ13_bitCount_95d88_46 : decode cJ13_bitCount_95d88 46 = .ok (.ladd, 1) := by decide +kernel
theorem dJ13_bitCount_95d88_47 : decode cJ13_bitCount_95d88 47 = .ok (.lstore_n 0, 1) := by decide +kernel
theorem dJ13_bitCount_95d88_48 : decode cJ13_bitCount_95d88 48 = .ok (.lload_n 0, 1) := by decide +kernel
theorem dJ13_bitCount_95d88_49 : decode cJ13_bitCount_95d88 49 = .ok (.lload_n 0, 1) := by decide +kernel
theorem dJ13_bitCount_95d88_50 : decode cJ13_bitCount_95d88 50 = .ok (.bipush 32, 2) := by decide +kernel
theorem dJ13_bitCount_95d88_52 : decode cJ13_bitCount_95d88 52 = .ok (.lushr, 1) := by decide +kernel
theorem dJ13_bitCount_95d88_53 : decode cJ13_bitCount_95d88 53 = .ok (.ladd, 1) := by decide +kernel
theorem dJ13_bitCount_95d88_54 : decode cJ13_bitCount_95d88 54 = .ok (.lstore_n 0, 1) := by decide +kernel
theorem dJ13_bitCount_95d88_55 : decode cJ13_bitCount_95d88 55 = .ok (.lload_n 0, 1) := by decide +kernel
theorem dJ13_bitCount_95d88_56 : decode cJ13_bitCount_95d88 56 = .ok (.l2i, 1) := by decide +kernel
theorem dJ13_bitCount_95d88_57 : decode cJ13_bitCount_95d88 57 = .ok (.bipush 127, 2) := by decide +kernel
theorem dJ13_bitCount_95d88_59 : decode cJ13_bitCount_95d88 59 = .ok (.iand, 1) := by decide +kernel
theorem dJ13_bitCount_95d88_60 : decode cJ13_bitCount_95d88 60 = .ok (.ireturn, 1) := by decide +kernel
theorem dJ9_max_7cf53_0 : decode cJ9_max_7cf53 0 = .ok (.iload_n 0, 1) := by decide +kernel
theorem dJ9_max_7cf53_1 : decode cJ9_max_7cf53 1 = .ok (.iload_n 1, 1) := by decide +kernel
theorem dJ9_max_7cf53_2 : decode cJ9_max_7cf53 2 = .ok (.if_icmp .lt 7, 3) := by decide +kernel
theorem dJ9_max_7cf53_5 : decode cJ9_max_7cf53 5 = .ok (.iload_n 0, 1) := by decide +kernel
theorem dJ9_max_7cf53_6 : decode cJ9_max_7cf53 6 = .ok (.goto 4, 3) := by decide +kernel
theorem dJ9_max_7cf53_9 : decode cJ9_max_7cf53 9 = .ok (.iload_n 1, 1) := by decide +kernel
theorem dJ9_max_7cf53_10 : decode cJ9_max_7cf53 10 = .ok (.ireturn, 1) := by decide +kernel
theorem dJ9_min_7cf53_0 : decode cJ9_min_7cf53 0 = .ok (.iload_n 0, 1) := by decide +kernel
theorem dJ9_min_7cf53_1 : decode cJ9_min_7cf53 1 = .ok (.iload_n 1, 1) := by decide +kernel
theorem dJ9_min_7cf53_2 : decode cJ9_min_7cf53 2 = .ok (.if_icmp .gt 7, 3) := by decide +kernel
theorem dJ9_min_7cf53_5 : decode cJ9_min_7cf53 5 = .ok (.iload_n 0, 1) := by decide +kernel
theorem dJ9_min_7cf53_6 : decode cJ9_min_7cf53 6 = .ok (.goto 4, 3) := by decide +kernel
theorem dJ9_min_7cf53_9 : decode cJ9_min_7cf53 9 = .ok (.iload_n 1, 1) := by decide +kernel
theorem dJ9_min_7cf53_10 : decode cJ9_min_7cf53 10 = .ok (.ireturn, 1) := by decide +kernel
