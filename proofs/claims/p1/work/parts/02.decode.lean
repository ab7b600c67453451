theorem dX0_init_0 : decode cX0_init 0 = .ok (.aload_n 0, 1) := by decide +kernel
theorem dX0_init_1 : decode cX0_init 1 = .ok (.invokespecial 3, 3) := by decide +kernel
theorem dX0_init_4 : decode cX0_init 4 = .ok (.aload_n 0, 1) := by decide +kernel
theorem dX0_init_5 : decode cX0_init 5 = .ok (.iload_n 1, 1) := by decide +kernel
theorem dX0_init_6 : decode cX0_init 6 = .ok (.invokestatic 9, 3) := by decide +kernel
theorem dX0_init_9 : decode cX0_init 9 = .ok (.putfield 15, 3) := by decide +kernel
theorem dX0_init_12 : decode cX0_init 12 = .ok (.aload_n 0, 1) := by decide +kernel
theorem dX0_init_13 : decode cX0_init 13 = .ok (.iload_n 2, 1) := by decide +kernel
theorem dX0_init_14 : decode cX0_init 14 = .ok (.invokestatic 9, 3) := by decide +kernel
theorem dX0_init_17 : decode cX0_init 17 = .ok (.putfield 19, 3) := by decide +kernel
theorem dX0_init_20 : decode cX0_init 20 = .ok (.aload_n 0, 1) := by decide +kernel
theorem dX0_init_21 : decode cX0_init 21 = .ok (.aload_n 0, 1) := by decide +kernel
theorem dX0_init_22 : decode cX0_init 22 = .ok (.getfield 15, 3) := by decide +kernel
theorem dX0_init_25 : decode cX0_init 25 = .ok (.aload_n 0, 1) := by decide +kernel
theorem dX0_init_26 : decode cX0_init 26 = .ok (.getfield 19, 3) := by decide +kernel
theorem dX0_init_29 : decode cX0_init 29 = .ok (.imul, 1) := by decide +kernel
theorem dX0_init_30 : decode cX0_init 30 = .ok (.putfield 22, 3) := by decide +kernel
theorem dX0_init_33 : decode cX0_init 33 = .ok (.aload_n 0, 1) := by decide +kernel
theorem dX0_init_34 : decode cX0_init 34 = .ok (.aload_n 0, 1) := by decide +kernel
theorem dX0_init_35 : decode cX0_init 35 = .ok (.getfield 22, 3) := by decide +kernel
theorem dX0_init_38 : decode cX0_init 38 = .ok (.newarray .int, 2) := by decide +kernel
theorem dX0_init_40 : decode cX0_init 40 = .ok (.putfield 25, 3) := by decide +kernel
theorem dX0_init_43 : decode cX0_init 43 = .ok (.aload_n 0, 1) := by decide +kernel
theorem dX0_init_44 : decode cX0_init 44 = .ok (.bipush 16, 2) := by decide +kernel
theorem dX0_init_46 : decode cX0_init 46 = .ok (.aload_n 0, 1) := by decide +kernel
theorem dX0_init_47 : decode cX0_init 47 = .ok (.getfield 22, 3) := by decide +kernel
theorem dX0_init_50 : decode cX0_init 50 = .ok (.imul, 1) := by decide +kernel
theorem dX0_init_51 : decode cX0_init 51 = .ok (.newarray .int, 2) := by decide +kernel
theorem dX0_init_53 : decode cX0_init 53 = .ok (.putfield 29, 3) := by decide +kernel
theorem dX0_init_56 : decode cX0_init 56 = .ok (.lconst 0, 1) := by decide +kernel
theorem dX0_init_57 : decode cX0_init 57 = .ok (.lstore_n 3, 1) := by decide +kernel
theorem dX0_init_58 : decode cX0_init 58 = .ok (.iconst 0, 1) := by decide +kernel
theorem dX0_init_59 : decode cX0_init 59 = .ok (.istore 5, 2) := by decide +kernel
theorem dX0_init_61 : decode cX0_init 61 = .ok (.iload 5, 2) := by decide +kernel
theorem dX0_init_63 : decode cX0_init 63 = .ok (.aload_n 0, 1) := by decide +kernel
theorem dX0_init_64 : decode cX0_init 64 = .ok (.getfield 19, 3) := by decide +kernel
theorem dX0_init_67 : decode cX0_init 67 = .ok (.if_icmp .ge 48, 3) := by decide +kernel
theorem dX0_init_70 : decode cX0_init 70 = .ok (.lload_n 3, 1) := by decide +kernel
theorem dX0_init_71 : decode cX0_init 71 = .ok (.aload_n 0, 1) := by decide +kernel
theorem dX0_init_72 : decode cX0_init 72 = .ok (.getfield 15, 3) := by decide +kernel
theorem dX0_init_75 : decode cX0_init 75 = .ok (.iload 5, 2) := by decide +kernel
theorem dX0_init_77 : decode cX0_init 77 = .ok (.imul, 1) := by decide +kernel
theorem dX0_init_78 : decode cX0_init 78 = .ok (.invokestatic 32, 3) := by decide +kernel
theorem dX0_init_81 : decode cX0_init 81 = .ok (.lor, 1) := by decide +kernel
theorem dX0_init_82 : decode cX0_init 82 = .ok (.lstore_n 3, 1) := by decide +kernel
theorem dX0_init_83 : decode cX0_init 83 = .ok (.iconst 0, 1) := by decide +kernel
theorem dX0_init_84 : decode cX0_init 84 = .ok (.istore 6, 2) := by decide +kernel
theorem dX0_init_86 : decode cX0_init 86 = .ok (.iload 6, 2) := by decide +kernel
theorem dX0_init_88 : decode cX0_init 88 = .ok (.aload_n 0, 1) := by decide +kernel
theorem dX0_init_89 : decode cX0_init 89 = .ok (.getfield 15, 3) := by decide +kernel
theorem dX0_init_92 : decode cX0_init 92 = .ok (.if_icmp .ge 17, 3) := by decide +kernel
theorem dX0_init_95 : decode cX0_init 95 = .ok (.aload_n 0, 1) := by decide +kernel
theorem dX0_init_96 : decode cX0_init 96 = .ok (.iload 6, 2) := by decide +kernel
theorem dX0_init_98 : decode cX0_init 98 = .ok (.iload 5, 2) := by decide +kernel
theorem dX0_init_100 : decode cX0_init 100 = .ok (.invokevirtual 36, 3) := by decide +kernel
theorem dX0_init_103 : decode cX0_init 103 = .ok (.iinc 6 1, 3) := by decide +kernel
theorem dX0_init_106 : decode cX0_init 106 = .ok (.goto (-20), 3) := by decide +kernel
theorem dX0_init_109 : decode cX0_init 109 = .ok (.iinc 5 1, 3) := by decide +kernel
theorem dX0_init_112 : decode cX0_init 112 = .ok (.goto (-51), 3) := by decide +kernel
theorem dX0_init_115 : decode cX0_init 115 = .ok (.aload_n 0, 1) := by decide +kernel
theorem dX0_init_116 : decode cX0_init 116 = .ok (.ldc2_w 40, 3) := by decide +kernel
theorem dX0_init_119 : decode cX0_init 119 = .ok (.bipush 64, 2) := by decide +kernel
theorem dX0_init_121 : decode cX0_init 121 = .ok (.aload_n 0, 1) := by decide +kernel
theorem dX0_init_122 : decode cX0_init 122 = .ok (.getfield 22, 3) := by decide +kernel
theorem dX0_init_125 : decode cX0_init 125 = .ok (.isub, 1) := by decide +kernel
theorem dX0_init_126 : decode cX0_init 126 = .ok (.lushr, 1) := by decide +kernel
theorem dX0_init_127 : decode cX0_init 127 = .ok (.putfield 42, 3) := by decide +kernel
theorem dX0_init_130 : decode cX0_init 130 = .ok (.aload_n 0, 1) := by decide +kernel
theorem dX0_init_131 : decode cX0_init 131 = .ok (.lload_n 3, 1) := by decide +kernel
theorem dX0_init_132 : decode cX0_init 132 = .ok (.putfield 46, 3) := by decide +kernel
theorem dX0_init_135 : decode cX0_init 135 = .ok (.aload_n 0, 1) := by decide +kernel
theorem dX0_init_136 : decode cX0_init 136 = .ok (.lload_n 3, 1) := by decide +kernel
theorem dX0_init_137 : decode cX0_init 137 = .ok (.aload_n 0, 1) := by decide +kernel
theorem dX0_init_138 : decode cX0_init 138 = .ok (.getfield 15, 3) := by decide +kernel
theorem dX0_init_141 : decode cX0_init 141 = .ok (.iconst 1, 1) := by decide +kernel
theorem dX0_init_142 : decode cX0_init 142 = .ok (.isub, 1) := by decide +kernel
theorem dX0_init_143 : decode cX0_init 143 = .ok (.lshl, 1) := by decide +kernel
theorem dX0_init_144 : decode cX0_init 144 = .ok (.putfield 49, 3) := by decide +kernel
theorem dX0_init_147 : decode cX0_init 147 = .ok (.return_, 1) := by decide +kernel
theorem dX0_fit_0 : decode cX0_fit 0 = .ok (.iload_n 0, 1) := by decide +kernel
theorem dX0_fit_1 : decode cX0_fit 1 = .ok (.iconst 3, 1) := by decide +kernel
theorem dX0_fit_2 : decode cX0_fit 2 = .ok (.if_icmp .lt 9, 3) := by decide +kernel
theorem dX0_fit_5 : decode cX0_fit 5 = .ok (.iload_n 0, 1) := by decide +kernel
theorem dX0_fit_6 : decode cX0_fit 6 = .ok (.bipush 8, 2) := by decide +kernel
theorem dX0_fit_8 : decode cX0_fit 8 = .ok (.if_icmp .le 8, 3) := by decide +kernel
theorem dX0_fit_11 : decode cX0_fit 11 = .ok (.bipush 8, 2) := by decide +kernel
theorem dX0_fit_13 : decode cX0_fit 13 = .ok (.goto 4, 3) := by decide +kernel
theorem dX0_fit_16 : decode cX0_fit 16 = .ok (.iload_n 0, 1) := by decide +kernel
theorem dX0_fit_17 : decode cX0_fit 17 = .ok (.ireturn, 1) := by decide +kernel
theorem dX0_layCell_0 : decode cX0_layCell 0 = .ok (.aload_n 0, 1) := by decide +kernel
theorem dX0_layCell_1 : decode cX0_layCell 1 = .ok (.iload_n 1, 1) := by decide +kernel
theorem dX0_layCell_2 : decode cX0_layCell 2 = .ok (.iload_n 2, 1) := by decide +kernel
theorem dX0_layCell_3 : decode cX0_layCell 3 = .ok (.invokevirtual 52, 3) := by decide +kernel
theorem dX0_layCell_6 : decode cX0_layCell 6 = .ok (.istore_n 3, 1) := by decide +kernel
theorem dX0_layCell_7 : decode cX0_layCell 7 = .ok (.iload_n 3, 1) := by decide +kernel
theorem dX0_layCell_8 : decode cX0_layCell 8 = .ok (.ifCond .lt 11, 3) := by decide +kernel
theorem dX0_layCell_11 : decode cX0_layCell 11 = .ok (.iload_n 3, 1) := by decide +kernel
theorem dX0_layCell_12 : decode cX0_layCell 12 = .ok (.aload_n 0, 1) := by decide +kernel
theorem dX0_layCell_13 : decode cX0_layCell 13 = .ok (.getfield 22, 3) := by decide +kernel
theorem dX0_layCell_16 : decode cX0_layCell 16 = .ok (.if_icmp .lt 4, 3) := by decide +kernel
theorem dX0_layCell_19 : decode cX0_layCell 19 = .ok (.return_, 1) := by decide +kernel
theorem dX0_layCell_20 : decode cX0_layCell 20 = .ok (.aload_n 0, 1) := by decide +kernel
theorem dX0_layCell_21 : decode cX0_layCell 21 = .ok (.getfield 25, 3) := by decide +kernel
theorem dX0_layCell_24 : decode cX0_layCell 24 = .ok (.iload_n 3, 1) := by decide +kernel
theorem dX0_layCell_25 : decode cX0_layCell 25 = .ok (.iload_n 1, 1) := by decide +kernel
theorem dX0_layCell_26 : decode cX0_layCell 26 = .ok (.bipush 8, 2) := by decide +kernel
theorem dX0_layCell_28 : decode cX0_layCell 28 = .ok (.iload_n 2, 1) := by decide +kernel
theorem dX0_layCell_29 : decode cX0_layCell 29 = .ok (.imul, 1) := by decide +kernel
theorem dX0_layCell_30 : decode cX0_layCell 30 = .ok (.iadd, 1) := by decide +kernel
theorem dX0_layCell_31 : decode cX0_layCell 31 = .ok (.iastore, 1) := by decide +kernel
theorem dX0_layCell_32 : decode cX0_layCell 32 = .ok (.iconst 0, 1) := by decide +kernel
theorem dX0_layCell_33 : decode cX0_layCell 33 = .ok (.istore 4, 2) := by decide +kernel
theorem dX0_layCell_35 : decode cX0_layCell 35 = .ok (.iload 4, 2) := by decide +kernel
theorem dX0_layCell_37 : decode cX0_layCell 37 = .ok (.bipush 16, 2) := by decide +kernel
theorem dX0_layCell_39 : decode cX0_layCell 39 = .ok (.if_icmp .ge 43, 3) := by decide +kernel
theorem dX0_layCell_42 : decode cX0_layCell 42 = .ok (.aload_n 0, 1) := by decide +kernel
theorem dX0_layCell_43 : decode cX0_layCell 43 = .ok (.getfield 29, 3) := by decide +kernel
theorem dX0_layCell_46 : decode cX0_layCell 46 = .ok (.iload 4, 2) := by decide +kernel
theorem dX0_layCell_48 : decode cX0_layCell 48 = .ok (.aload_n 0, 1) := by decide +kernel
theorem dX0_layCell_49 : decode cX0_layCell 49 = .ok (.getfield 22, 3) := by decide +kernel
theorem dX0_layCell_52 : decode cX0_layCell 52 = .ok (.imul, 1) := by decide +kernel
theorem dX0_layCell_53 : decode cX0_layCell 53 = .ok (.iload_n 3, 1) := by decide +kernel
theorem dX0_layCell_54 : decode cX0_layCell 54 = .ok (.iadd, 1) := by decide +kernel
theorem dX0_layCell_55 : decode cX0_layCell 55 = .ok (.aload_n 0, 1) := by decide +kernel
theorem dX0_layCell_56 : decode cX0_layCell 56 = .ok (.iload_n 1, 1) := by decide +kernel
theorem dX0_layCell_57 : decode cX0_layCell 57 = .ok (.getstatic 56, 3) := by decide +kernel
theorem dX0_layCell_60 : decode cX0_layCell 60 = .ok (.iload 4, 2) := by decide +kernel
theorem dX0_layCell_62 : decode cX0_layCell 62 = .ok (.iaload, 1) := by decide +kernel
theorem dX0_layCell_63 : decode cX0_layCell 63 = .ok (.iadd, 1) := by decide +kernel
theorem dX0_layCell_64 : decode cX0_layCell 64 = .ok (.iload_n 2, 1) := by decide +kernel
theorem dX0_layCell_65 : decode cX0_layCell 65 = .ok (.getstatic 59, 3) := by decide +kernel
theorem dX0_layCell_68 : decode cX0_layCell 68 = .ok (.iload 4, 2) := by decide +kernel
theorem dX0_layCell_70 : decode cX0_layCell 70 = .ok (.iaload, 1) := by decide +kernel
theorem dX0_layCell_71 : decode cX0_layCell 71 = .ok (.iadd, 1) := by decide +kernel
theorem dX0_layCell_72 : decode cX0_layCell 72 = .ok (.invokevirtual 52, 3) := by decide +kernel
theorem dX0_layCell_75 : decode cX0_layCell 75 = .ok (.iastore, 1) := by decide +kernel
theorem dX0_layCell_76 : decode cX0_layCell 76 = .ok (.iinc 4 1, 3) := by decide +kernel
theorem dX0_layCell_79 : decode cX0_layCell 79 = .ok (.goto (-44), 3) := by decide +kernel
theorem dX0_layCell_82 : decode cX0_layCell 82 = .ok (.return_, 1) := by decide +kernel
theorem dX0_cellAt_0 : decode cX0_cellAt 0 = .ok (.iload_n 1, 1) := by decide +kernel
theorem dX0_cellAt_1 : decode cX0_cellAt 1 = .ok (.ifCond .lt 27, 3) := by decide +kernel
theorem dX0_cellAt_4 : decode cX0_cellAt 4 = .ok (.iload_n 1, 1) := by decide +kernel
theorem dX0_cellAt_5 : decode cX0_cellAt 5 = .ok (.aload_n 0, 1) := by decide +kernel
theorem dX0_cellAt_6 : decode cX0_cellAt 6 = .ok (.getfield 15, 3) := by decide +kernel
theorem dX0_cellAt_9 : decode cX0_cellAt 9 = .ok (.if_icmp .ge 19, 3) := by decide +kernel
theorem dX0_cellAt_12 : decode cX0_cellAt 12 = .ok (.iload_n 2, 1) := by decide +kernel
theorem dX0_cellAt_13 : decode cX0_cellAt 13 = .ok (.ifCond .lt 15, 3) := by decide +kernel
theorem dX0_cellAt_16 : decode cX0_cellAt 16 = .ok (.iload_n 2, 1) := by decide +kernel
theorem dX0_cellAt_17 : decode cX0_cellAt 17 = .ok (.aload_n 0, 1) := by decide +kernel
theorem dX0_cellAt_18 : decode cX0_cellAt 18 = .ok (.getfield 19, 3) := by decide +kernel
theorem dX0_cellAt_21 : decode cX0_cellAt 21 = .ok (.if_icmp .ge 7, 3) := by decide +kernel
theorem dX0_cellAt_24 : decode cX0_cellAt 24 = .ok (.iconst 1, 1) := by decide +kernel
theorem dX0_cellAt_25 : decode cX0_cellAt 25 = .ok (.goto 4, 3) := by decide +kernel
theorem dX0_cellAt_28 : decode cX0_cellAt 28 = .ok (.iconst 0, 1) := by decide +kernel
theorem dX0_cellAt_29 : decode cX0_cellAt 29 = .ok (.istore_n 3, 1) := by decide +kernel
theorem dX0_cellAt_30 : decode cX0_cellAt 30 = .ok (.iload_n 3, 1) := by decide +kernel
theorem dX0_cellAt_31 : decode cX0_cellAt 31 = .ok (.ifCond .eq 14, 3) := by decide +kernel
theorem dX0_cellAt_34 : decode cX0_cellAt 34 = .ok (.iload_n 1, 1) := by decide +kernel
theorem dX0_cellAt_35 : decode cX0_cellAt 35 = .ok (.aload_n 0, 1) := by decide +kernel
theorem dX0_cellAt_36 : decode cX0_cellAt 36 = .ok (.getfield 15, 3) := by decide +kernel
theorem dX0_cellAt_39 : decode cX0_cellAt 39 = .ok (.iload_n 2, 1) := by decide +kernel
theorem dX0_cellAt_40 : decode cX0_cellAt 40 = .ok (.imul, 1) := by decide +kernel
theorem dX0_cellAt_41 : decode cX0_cellAt 41 = .ok (.iadd, 1) := by decide +kernel
theorem dX0_cellAt_42 : decode cX0_cellAt 42 = .ok (.goto 4, 3) := by decide +kernel
theorem dX0_cellAt_45 : decode cX0_cellAt 45 = .ok (.iconst (-1), 1) := by decide +kernel
theorem dX0_cellAt_46 : decode cX0_cellAt 46 = .ok (.ireturn, 1) := by decide +kernel
theorem dX0_cellOf_0 : decode cX0_cellOf 0 = .ok (.iload_n 1, 1) := by decide +kernel
theorem dX0_cellOf_1 : decode cX0_cellOf 1 = .ok (.ifCond .lt 9, 3) := by decide +kernel
theorem dX0_cellOf_4 : decode cX0_cellOf 4 = .ok (.iload_n 1, 1) := by decide +kernel
theorem dX0_cellOf_5 : decode cX0_cellOf 5 = .ok (.bipush 63, 2) := by decide +kernel
theorem dX0_cellOf_7 : decode cX0_cellOf 7 = .ok (.if_icmp .le 7, 3) := by decide +kernel
theorem dX0_cellOf_10 : decode cX0_cellOf 10 = .ok (.iconst (-1), 1) := by decide +kernel
theorem dX0_cellOf_11 : decode cX0_cellOf 11 = .ok (.goto 14, 3) := by decide +kernel
theorem dX0_cellOf_14 : decode cX0_cellOf 14 = .ok (.aload_n 0, 1) := by decide +kernel
theorem dX0_cellOf_15 : decode cX0_cellOf 15 = .ok (.iload_n 1, 1) := by decide +kernel
theorem dX0_cellOf_16 : decode cX0_cellOf 16 = .ok (.bipush 7, 2) := by decide +kernel
theorem dX0_cellOf_18 : decode cX0_cellOf 18 = .ok (.iand, 1) := by decide +kernel
theorem dX0_cellOf_19 : decode cX0_cellOf 19 = .ok (.iload_n 1, 1) := by decide +kernel
theorem dX0_cellOf_20 : decode cX0_cellOf 20 = .ok (.iconst 3, 1) := by decide +kernel
theorem dX0_cellOf_21 : decode cX0_cellOf 21 = .ok (.ishr, 1) := by decide +kernel
theorem dX0_cellOf_22 : decode cX0_cellOf 22 = .ok (.invokevirtual 52, 3) := by decide +kernel
theorem dX0_cellOf_25 : decode cX0_cellOf 25 = .ok (.ireturn, 1) := by decide +kernel
theorem dX0_squareOf_0 : decode cX0_squareOf 0 = .ok (.iload_n 1, 1) := by decide +kernel
theorem dX0_squareOf_1 : decode cX0_squareOf 1 = .ok (.ifCond .lt 11, 3) := by decide +kernel
theorem dX0_squareOf_4 : decode cX0_squareOf 4 = .ok (.iload_n 1, 1) := by decide +kernel
theorem dX0_squareOf_5 : decode cX0_squareOf 5 = .ok (.aload_n 0, 1) := by decide +kernel
theorem dX0_squareOf_6 : decode cX0_squareOf 6 = .ok (.getfield 22, 3) := by decide +kernel
theorem dX0_squareOf_9 : decode cX0_squareOf 9 = .ok (.if_icmp .lt 7, 3) := by decide +kernel
theorem dX0_squareOf_12 : decode cX0_squareOf 12 = .ok (.iconst 0, 1) := by decide +kernel
theorem dX0_squareOf_13 : decode cX0_squareOf 13 = .ok (.goto 9, 3) := by decide +kernel
theorem dX0_squareOf_16 : decode cX0_squareOf 16 = .ok (.aload_n 0, 1) := by decide +kernel
theorem dX0_squareOf_17 : decode cX0_squareOf 17 = .ok (.getfield 25, 3) := by decide +kernel
theorem dX0_squareOf_20 : decode cX0_squareOf 20 = .ok (.iload_n 1, 1) := by decide +kernel
theorem dX0_squareOf_21 : decode cX0_squareOf 21 = .ok (.iaload, 1) := by decide +kernel
theorem dX0_squareOf_22 : decode cX0_squareOf 22 = .ok (.ireturn, 1) := by decide +kernel
theorem dX0_rankOf_0 : decode cX0_rankOf 0 = .ok (.aload_n 0, 1) := by decide +kernel
theorem dX0_rankOf_1 : decode cX0_rankOf 1 = .ok (.iload_n 1, 1) := by decide +kernel
theorem dX0_rankOf_2 : decode cX0_rankOf 2 = .ok (.invokevirtual 62, 3) := by decide +kernel
theorem dX0_rankOf_5 : decode cX0_rankOf 5 = .ok (.iconst 3, 1) := by decide +kernel
theorem dX0_rankOf_6 : decode cX0_rankOf 6 = .ok (.ishr, 1) := by decide +kernel
theorem dX0_rankOf_7 : decode cX0_rankOf 7 = .ok (.ireturn, 1) := by decide +kernel
theorem dX0_bit_0 : decode cX0_bit 0 = .ok (.iload_n 0, 1) := by decide +kernel
theorem dX0_bit_1 : decode cX0_bit 1 = .ok (.ifCond .lt 9, 3) := by decide +kernel
theorem dX0_bit_4 : decode cX0_bit 4 = .ok (.iload_n 0, 1) := by decide +kernel
theorem dX0_bit_5 : decode cX0_bit 5 = .ok (.bipush 63, 2) := by decide +kernel
theorem dX0_bit_7 : decode cX0_bit 7 = .ok (.if_icmp .le 7, 3) := by decide +kernel
theorem dX0_bit_10 : decode cX0_bit 10 = .ok (.lconst 0, 1) := by decide +kernel
theorem dX0_bit_11 : decode cX0_bit 11 = .ok (.goto 6, 3) := by decide +kernel
theorem dX0_bit_14 : decode cX0_bit 14 = .ok (.lconst 1, 1) := by decide +kernel
theorem dX0_bit_15 : decode cX0_bit 15 = .ok (.iload_n 0, 1) := by decide +kernel
theorem dX0_bit_16 : decode cX0_bit 16 = .ok (.lshl, 1) := by decide +kernel
theorem dX0_bit_17 : decode cX0_bit 17 = .ok (.lreturn, 1) := by decide +kernel
theorem dX0_step_0 : decode cX0_step 0 = .ok (.iload_n 1, 1) := by decide +kernel
theorem dX0_step_1 : decode cX0_step 1 = .ok (.ifCond .lt 21, 3) := by decide +kernel
theorem dX0_step_4 : decode cX0_step 4 = .ok (.iload_n 1, 1) := by decide +kernel
theorem dX0_step_5 : decode cX0_step 5 = .ok (.aload_n 0, 1) := by decide +kernel
theorem dX0_step_6 : decode cX0_step 6 = .ok (.getfield 22, 3) := by decide +kernel
theorem dX0_step_9 : decode cX0_step 9 = .ok (.if_icmp .ge 13, 3) := by decide +kernel
theorem dX0_step_12 : decode cX0_step 12 = .ok (.iload_n 2, 1) := by decide +kernel
theorem dX0_step_13 : decode cX0_step 13 = .ok (.ifCond .lt 9, 3) := by decide +kernel
theorem dX0_step_16 : decode cX0_step 16 = .ok (.iload_n 2, 1) := by decide +kernel
theorem dX0_step_17 : decode cX0_step 17 = .ok (.bipush 16, 2) := by decide +kernel
theorem dX0_step_19 : decode cX0_step 19 = .ok (.if_icmp .lt 5, 3) := by decide +kernel
theorem dX0_step_22 : decode cX0_step 22 = .ok (.iconst (-1), 1) := by decide +kernel
theorem dX0_step_23 : decode cX0_step 23 = .ok (.ireturn, 1) := by decide +kernel
theorem dX0_step_24 : decode cX0_step 24 = .ok (.aload_n 0, 1) := by decide +kernel
theorem dX0_step_25 : decode cX0_step 25 = .ok (.getfield 29, 3) := by decide +kernel
theorem dX0_step_28 : decode cX0_step 28 = .ok (.iload_n 2, 1) := by decide +kernel
theorem dX0_step_29 : decode cX0_step 29 = .ok (.aload_n 0, 1) := by decide +kernel
theorem dX0_step_30 : decode cX0_step 30 = .ok (.getfield 22, 3) := by decide +kernel
theorem dX0_step_33 : decode cX0_step 33 = .ok (.imul, 1) := by decide +kernel
theorem dX0_step_34 : decode cX0_step 34 = .ok (.iload_n 1, 1) := by decide +kernel
theorem dX0_step_35 : decode cX0_step 35 = .ok (.iadd, 1) := by decide +kernel
theorem dX0_step_36 : decode cX0_step 36 = .ok (.iaload, 1) := by decide +kernel
theorem dX0_step_37 : decode cX0_step 37 = .ok (.ireturn, 1) := by decide +kernel
theorem dX0_nextTo_0 : decode cX0_nextTo 0 = .ok (.lload_n 1, 1) := by decide +kernel
theorem dX0_nextTo_1 : decode cX0_nextTo 1 = .ok (.aload_n 0, 1) := by decide +kernel
theorem dX0_nextTo_2 : decode cX0_nextTo 2 = .ok (.getfield 46, 3) := by decide +kernel
theorem dX0_nextTo_5 : decode cX0_nextTo 5 = .ok (.ldc2_w 40, 3) := by decide +kernel
theorem dX0_nextTo_8 : decode cX0_nextTo 8 = .ok (.lxor, 1) := by decide +kernel
theorem dX0_nextTo_9 : decode cX0_nextTo 9 = .ok (.land, 1) := by decide +kernel
theorem dX0_nextTo_10 : decode cX0_nextTo 10 = .ok (.iconst 1, 1) := by decide +kernel
theorem dX0_nextTo_11 : decode cX0_nextTo 11 = .ok (.lushr, 1) := by decide +kernel
theorem dX0_nextTo_12 : decode cX0_nextTo 12 = .ok (.lstore_n 3, 1) := by decide +kernel
theorem dX0_nextTo_13 : decode cX0_nextTo 13 = .ok (.lload_n 1, 1) := by decide +kernel
theorem dX0_nextTo_14 : decode cX0_nextTo 14 = .ok (.aload_n 0, 1) := by decide +kernel
theorem dX0_nextTo_15 : decode cX0_nextTo 15 = .ok (.getfield 49, 3) := by decide +kernel
theorem dX0_nextTo_18 : decode cX0_nextTo 18 = .ok (.ldc2_w 40, 3) := by decide +kernel
theorem dX0_nextTo_21 : decode cX0_nextTo 21 = .ok (.lxor, 1) := by decide +kernel
theorem dX0_nextTo_22 : decode cX0_nextTo 22 = .ok (.land, 1) := by decide +kernel
theorem dX0_nextTo_23 : decode cX0_nextTo 23 = .ok (.iconst 1, 1) := by decide +kernel
theorem dX0_nextTo_24 : decode cX0_nextTo 24 = .ok (.lshl, 1) := by decide +kernel
theorem dX0_nextTo_25 : decode cX0_nextTo 25 = .ok (.lstore 5, 2) := by decide +kernel
theorem dX0_nextTo_27 : decode cX0_nextTo 27 = .ok (.lload_n 1, 1) := by decide +kernel
theorem dX0_nextTo_28 : decode cX0_nextTo 28 = .ok (.lload_n 3, 1) := by decide +kernel
theorem dX0_nextTo_29 : decode cX0_nextTo 29 = .ok (.lor, 1) := by decide +kernel
theorem dX0_nextTo_30 : decode cX0_nextTo 30 = .ok (.lload 5, 2) := by decide +kernel
theorem dX0_nextTo_32 : decode cX0_nextTo 32 = .ok (.lor, 1) := by decide +kernel
theorem dX0_nextTo_33 : decode cX0_nextTo 33 = .ok (.lstore 7, 2) := by decide +kernel
theorem dX0_nextTo_35 : decode cX0_nextTo 35 = .ok (.lload_n 3, 1) := by decide +kernel
theorem dX0_nextTo_36 : decode cX0_nextTo 36 = .ok (.lload 5, 2) := by decide +kernel
theorem dX0_nextTo_38 : decode cX0_nextTo 38 = .ok (.lor, 1) := by decide +kernel
theorem dX0_nextTo_39 : decode cX0_nextTo 39 = .ok (.lload 7, 2) := by decide +kernel
theorem dX0_nextTo_41 : decode cX0_nextTo 41 = .ok (.aload_n 0, 1) := by decide +kernel
theorem dX0_nextTo_42 : decode cX0_nextTo 42 = .ok (.getfield 15, 3) := by decide +kernel
theorem dX0_nextTo_45 : decode cX0_nextTo 45 = .ok (.lshl, 1) := by decide +kernel
theorem dX0_nextTo_46 : decode cX0_nextTo 46 = .ok (.lor, 1) := by decide +kernel
theorem dX0_nextTo_47 : decode cX0_nextTo 47 = .ok (.lload 7, 2) := by decide +kernel
theorem dX0_nextTo_49 : decode cX0_nextTo 49 = .ok (.aload_n 0, 1) := by decide +kernel
theorem dX0_nextTo_50 : decode cX0_nextTo 50 = .ok (.getfield 15, 3) := by decide +kernel
theorem dX0_nextTo_53 : decode cX0_nextTo 53 = .ok (.lushr, 1) := by decide +kernel
theorem dX0_nextTo_54 : decode cX0_nextTo 54 = .ok (.lor, 1) := by decide +kernel
theorem dX0_nextTo_55 : decode cX0_nextTo 55 = .ok (.aload_n 0, 1) := by decide +kernel
theorem dX0_nextTo_56 : decode cX0_nextTo 56 = .ok (.getfield 42, 3) := by decide +kernel
theorem dX0_nextTo_59 : decode cX0_nextTo 59 = .ok (.land, 1) := by decide +kernel
theorem dX0_nextTo_60 : decode cX0_nextTo 60 = .ok (.lreturn, 1) := by decide +kernel
theorem dX0_around_0 : decode cX0_around 0 = .ok (.aload_n 0, 1) := by decide +kernel
theorem dX0_around_1 : decode cX0_around 1 = .ok (.iload_n 1, 1) := by decide +kernel
theorem dX0_around_2 : decode cX0_around 2 = .ok (.invokestatic 32, 3) := by decide +kernel
theorem dX0_around_5 : decode cX0_around 5 = .ok (.invokevirtual 65, 3) := by decide +kernel
theorem dX0_around_8 : decode cX0_around 8 = .ok (.lreturn, 1) := by decide +kernel
theorem dX0_firstWay_0 : decode cX0_firstWay 0 = .ok (.iload_n 0, 1) := by decide +kernel
theorem dX0_firstWay_1 : decode cX0_firstWay 1 = .ok (.iconst 2, 1) := by decide +kernel
theorem dX0_firstWay_2 : decode cX0_firstWay 2 = .ok (.if_icmp .ne 8, 3) := by decide +kernel
theorem dX0_firstWay_5 : decode cX0_firstWay 5 = .ok (.bipush 8, 2) := by decide +kernel
theorem dX0_firstWay_7 : decode cX0_firstWay 7 = .ok (.goto 13, 3) := by decide +kernel
theorem dX0_firstWay_10 : decode cX0_firstWay 10 = .ok (.iload_n 0, 1) := by decide +kernel
theorem dX0_firstWay_11 : decode cX0_firstWay 11 = .ok (.iconst 3, 1) := by decide +kernel
theorem dX0_firstWay_12 : decode cX0_firstWay 12 = .ok (.if_icmp .ne 7, 3) := by decide +kernel
theorem dX0_firstWay_15 : decode cX0_firstWay 15 = .ok (.iconst 4, 1) := by decide +kernel
theorem dX0_firstWay_16 : decode cX0_firstWay 16 = .ok (.goto 4, 3) := by decide +kernel
theorem dX0_firstWay_19 : decode cX0_firstWay 19 = .ok (.iconst 0, 1) := by decide +kernel
theorem dX0_firstWay_20 : decode cX0_firstWay 20 = .ok (.ireturn, 1) := by decide +kernel
theorem dX0_endOfWays_0 : decode cX0_endOfWays 0 = .ok (.iload_n 0, 1) := by decide +kernel
theorem dX0_endOfWays_1 : decode cX0_endOfWays 1 = .ok (.tableswitch 39 2 5 #[31, 34, 37, 34], 31) := by decide +kernel
theorem dX0_endOfWays_32 : decode cX0_endOfWays 32 = .ok (.bipush 16, 2) := by decide +kernel
theorem dX0_endOfWays_34 : decode cX0_endOfWays 34 = .ok (.ireturn, 1) := by decide +kernel
theorem dX0_endOfWays_35 : decode cX0_endOfWays 35 = .ok (.bipush 8, 2) := by decide +kernel
theorem dX0_endOfWays_37 : decode cX0_endOfWays 37 = .ok (.ireturn, 1) := by decide +kernel
theorem dX0_endOfWays_38 : decode cX0_endOfWays 38 = .ok (.iconst 4, 1) := by decide +kernel
theorem dX0_endOfWays_39 : decode cX0_endOfWays 39 = .ok (.ireturn, 1) := by decide +kernel
theorem dX0_endOfWays_40 : decode cX0_endOfWays 40 = .ok (.iconst 0, 1) := by decide +kernel
theorem dX0_endOfWays_41 : decode cX0_endOfWays 41 = .ok (.ireturn, 1) := by decide +kernel
theorem dX0_reach_0 : decode cX0_reach 0 = .ok (.iload_n 0, 1) := by decide +kernel
theorem dX0_reach_1 : decode cX0_reach 1 = .ok (.iconst 2, 1) := by decide +kernel
theorem dX0_reach_2 : decode cX0_reach 2 = .ok (.if_icmp .ne 7, 3) := by decide +kernel
theorem dX0_reach_5 : decode cX0_reach 5 = .ok (.iconst 1, 1) := by decide +kernel
theorem dX0_reach_6 : decode cX0_reach 6 = .ok (.goto 5, 3) := by decide +kernel
theorem dX0_reach_9 : decode cX0_reach 9 = .ok (.bipush 7, 2) := by decide +kernel
theorem dX0_reach_11 : decode cX0_reach 11 = .ok (.ireturn, 1) := by decide +kernel
theorem dX0_attacked_0 : decode cX0_attacked 0 = .ok (.iload_n 1, 1) := by decide +kernel
theorem dX0_attacked_1 : decode cX0_attacked 1 = .ok (.iconst 1, 1) := by decide +kernel
theorem dX0_attacked_2 : decode cX0_attacked 2 = .ok (.if_icmp .ne 25, 3) := by decide +kernel
theorem dX0_attacked_5 : decode cX0_attacked 5 = .ok (.aload_n 0, 1) := by decide +kernel
theorem dX0_attacked_6 : decode cX0_attacked 6 = .ok (.iload_n 2, 1) := by decide +kernel
theorem dX0_attacked_7 : decode cX0_attacked 7 = .ok (.bipush 6, 2) := by decide +kernel
theorem dX0_attacked_9 : decode cX0_attacked 9 = .ok (.invokevirtual 69, 3) := by decide +kernel
theorem dX0_attacked_12 : decode cX0_attacked 12 = .ok (.invokestatic 32, 3) := by decide +kernel
theorem dX0_attacked_15 : decode cX0_attacked 15 = .ok (.aload_n 0, 1) := by decide +kernel
theorem dX0_attacked_16 : decode cX0_attacked 16 = .ok (.iload_n 2, 1) := by decide +kernel
theorem dX0_attacked_17 : decode cX0_attacked 17 = .ok (.bipush 7, 2) := by decide +kernel
theorem dX0_attacked_19 : decode cX0_attacked 19 = .ok (.invokevirtual 69, 3) := by decide +kernel
theorem dX0_attacked_22 : decode cX0_attacked 22 = .ok (.invokestatic 32, 3) := by decide +kernel
theorem dX0_attacked_25 : decode cX0_attacked 25 = .ok (.lor, 1) := by decide +kernel
theorem dX0_attacked_26 : decode cX0_attacked 26 = .ok (.lreturn, 1) := by decide +kernel
theorem dX0_attacked_27 : decode cX0_attacked 27 = .ok (.lconst 0, 1) := by decide +kernel
theorem dX0_attacked_28 : decode cX0_attacked 28 = .ok (.lstore 5, 2) := by decide +kernel
theorem dX0_attacked_30 : decode cX0_attacked 30 = .ok (.iload_n 1, 1) := by decide +kernel
theorem dX0_attacked_31 : decode cX0_attacked 31 = .ok (.invokestatic 72, 3) := by decide +kernel
theorem dX0_attacked_34 : decode cX0_attacked 34 = .ok (.istore 7, 2) := by decide +kernel
theorem dX0_attacked_36 : decode cX0_attacked 36 = .ok (.iload_n 1, 1) := by decide +kernel
theorem dX0_attacked_37 : decode cX0_attacked 37 = .ok (.invokestatic 75, 3) := by decide +kernel
theorem dX0_attacked_40 : decode cX0_attacked 40 = .ok (.istore 8, 2) := by decide +kernel
theorem dX0_attacked_42 : decode cX0_attacked 42 = .ok (.iload 8, 2) := by decide +kernel
theorem dX0_attacked_44 : decode cX0_attacked 44 = .ok (.iload_n 1, 1) := by decide +kernel
theorem dX0_attacked_45 : decode cX0_attacked 45 = .ok (.invokestatic 78, 3) := by decide +kernel
theorem dX0_attacked_48 : decode cX0_attacked 48 = .ok (.if_icmp .ge 69, 3) := by decide +kernel
theorem dX0_attacked_51 : decode cX0_attacked 51 = .ok (.iload_n 2, 1) := by decide +kernel
theorem dX0_attacked_52 : decode cX0_attacked 52 = .ok (.istore 9, 2) := by decide +kernel
theorem dX0_attacked_54 : decode cX0_attacked 54 = .ok (.iconst 0, 1) := by decide +kernel
theorem dX0_attacked_55 : decode cX0_attacked 55 = .ok (.istore 10, 2) := by decide +kernel
theorem dX0_attacked_57 : decode cX0_attacked 57 = .ok (.iload 10, 2) := by decide +kernel
theorem dX0_attacked_59 : decode cX0_attacked 59 = .ok (.iload 7, 2) := by decide +kernel
theorem dX0_attacked_61 : decode cX0_attacked 61 = .ok (.if_icmp .ge 50, 3) := by decide +kernel
theorem dX0_attacked_64 : decode cX0_attacked 64 = .ok (.aload_n 0, 1) := by decide +kernel
theorem dX0_attacked_65 : decode cX0_attacked 65 = .ok (.iload 9, 2) := by decide +kernel
theorem dX0_attacked_67 : decode cX0_attacked 67 = .ok (.iload 8, 2) := by decide +kernel
theorem dX0_attacked_69 : decode cX0_attacked 69 = .ok (.invokevirtual 69, 3) := by decide +kernel
theorem dX0_attacked_72 : decode cX0_attacked 72 = .ok (.istore 9, 2) := by decide +kernel
theorem dX0_attacked_74 : decode cX0_attacked 74 = .ok (.lload 5, 2) := by decide +kernel
theorem dX0_attacked_76 : decode cX0_attacked 76 = .ok (.iload 9, 2) := by decide +kernel
theorem dX0_attacked_78 : decode cX0_attacked 78 = .ok (.invokestatic 32, 3) := by decide +kernel
theorem dX0_attacked_81 : decode cX0_attacked 81 = .ok (.lor, 1) := by decide +kernel
theorem dX0_attacked_82 : decode cX0_attacked 82 = .ok (.lstore 5, 2) := by decide +kernel
theorem dX0_attacked_84 : decode cX0_attacked 84 = .ok (.iload 9, 2) := by decide +kernel
theorem dX0_attacked_86 : decode cX0_attacked 86 = .ok (.iconst (-1), 1) := by decide +kernel
theorem dX0_attacked_87 : decode cX0_attacked 87 = .ok (.if_icmp .eq 24, 3) := by decide +kernel
theorem dX0_attacked_90 : decode cX0_attacked 90 = .ok (.lload_n 3, 1) := by decide +kernel
theorem dX0_attacked_91 : decode cX0_attacked 91 = .ok (.iload 9, 2) := by decide +kernel
theorem dX0_attacked_93 : decode cX0_attacked 93 = .ok (.invokestatic 32, 3) := by decide +kernel
theorem dX0_attacked_96 : decode cX0_attacked 96 = .ok (.land, 1) := by decide +kernel
theorem dX0_attacked_97 : decode cX0_attacked 97 = .ok (.lconst 0, 1) := by decide +kernel
theorem dX0_attacked_98 : decode cX0_attacked 98 = .ok (.lcmp, 1) := by decide +kernel
theorem dX0_attacked_99 : decode cX0_attacked 99 = .ok (.ifCond .eq 6, 3) := by decide +kernel
theorem dX0_attacked_102 : decode cX0_attacked 102 = .ok (.goto 9, 3) := by decide +kernel
theorem dX0_attacked_105 : decode cX0_attacked 105 = .ok (.iinc 10 1, 3) := by decide +kernel
theorem dX0_attacked_108 : decode cX0_attacked 108 = .ok (.goto (-51), 3) := by decide +kernel
theorem dX0_attacked_111 : decode cX0_attacked 111 = .ok (.iinc 8 1, 3) := by decide +kernel
theorem dX0_attacked_114 : decode cX0_attacked 114 = .ok (.goto (-72), 3) := by decide +kernel
theorem dX0_attacked_117 : decode cX0_attacked 117 = .ok (.lload 5, 2) := by decide +kernel
theorem dX0_attacked_119 : decode cX0_attacked 119 = .ok (.lreturn, 1) := by decide +kernel
theorem dX0_roomForBlack_0 : decode cX0_roomForBlack 0 = .ok (.iload_n 2, 1) := by decide +kernel
theorem dX0_roomForBlack_1 : decode cX0_roomForBlack 1 = .ok (.iload_n 3, 1) := by decide +kernel
theorem dX0_roomForBlack_2 : decode cX0_roomForBlack 2 = .ok (.if_icmp .eq 12, 3) := by decide +kernel
theorem dX0_roomForBlack_5 : decode cX0_roomForBlack 5 = .ok (.aload_n 0, 1) := by decide +kernel
theorem dX0_roomForBlack_6 : decode cX0_roomForBlack 6 = .ok (.iload_n 1, 1) := by decide +kernel
theorem dX0_roomForBlack_7 : decode cX0_roomForBlack 7 = .ok (.iload_n 3, 1) := by decide +kernel
theorem dX0_roomForBlack_8 : decode cX0_roomForBlack 8 = .ok (.invokevirtual 81, 3) := by decide +kernel
theorem dX0_roomForBlack_11 : decode cX0_roomForBlack 11 = .ok (.ifCond .ne 5, 3) := by decide +kernel
theorem dX0_roomForBlack_14 : decode cX0_roomForBlack 14 = .ok (.lconst 0, 1) := by decide +kernel
theorem dX0_roomForBlack_15 : decode cX0_roomForBlack 15 = .ok (.lreturn, 1) := by decide +kernel
theorem dX0_roomForBlack_16 : decode cX0_roomForBlack 16 = .ok (.aload_n 0, 1) := by decide +kernel
theorem dX0_roomForBlack_17 : decode cX0_roomForBlack 17 = .ok (.getfield 42, 3) := by decide +kernel
theorem dX0_roomForBlack_20 : decode cX0_roomForBlack 20 = .ok (.aload_n 0, 1) := by decide +kernel
theorem dX0_roomForBlack_21 : decode cX0_roomForBlack 21 = .ok (.iload_n 2, 1) := by decide +kernel
theorem dX0_roomForBlack_22 : decode cX0_roomForBlack 22 = .ok (.invokevirtual 85, 3) := by decide +kernel
theorem dX0_roomForBlack_25 : decode cX0_roomForBlack 25 = .ok (.ldc2_w 40, 3) := by decide +kernel
theorem dX0_roomForBlack_28 : decode cX0_roomForBlack 28 = .ok (.lxor, 1) := by decide +kernel
theorem dX0_roomForBlack_29 : decode cX0_roomForBlack 29 = .ok (.land, 1) := by decide +kernel
theorem dX0_roomForBlack_30 : decode cX0_roomForBlack 30 = .ok (.iload_n 2, 1) := by decide +kernel
theorem dX0_roomForBlack_31 : decode cX0_roomForBlack 31 = .ok (.invokestatic 32, 3) := by decide +kernel
theorem dX0_roomForBlack_34 : decode cX0_roomForBlack 34 = .ok (.ldc2_w 40, 3) := by decide +kernel
theorem dX0_roomForBlack_37 : decode cX0_roomForBlack 37 = .ok (.lxor, 1) := by decide +kernel
theorem dX0_roomForBlack_38 : decode cX0_roomForBlack 38 = .ok (.land, 1) := by decide +kernel
theorem dX0_roomForBlack_39 : decode cX0_roomForBlack 39 = .ok (.iload_n 3, 1) := by decide +kernel
theorem dX0_roomForBlack_40 : decode cX0_roomForBlack 40 = .ok (.invokestatic 32, 3) := by decide +kernel
theorem dX0_roomForBlack_43 : decode cX0_roomForBlack 43 = .ok (.ldc2_w 40, 3) := by decide +kernel
theorem dX0_roomForBlack_46 : decode cX0_roomForBlack 46 = .ok (.lxor, 1) := by decide +kernel
theorem dX0_roomForBlack_47 : decode cX0_roomForBlack 47 = .ok (.land, 1) := by decide +kernel
theorem dX0_roomForBlack_48 : decode cX0_roomForBlack 48 = .ok (.lreturn, 1) := by decide +kernel
theorem dX0_mayStand_0 : decode cX0_mayStand 0 = .ok (.iload_n 1, 1) := by decide +kernel
theorem dX0_mayStand_1 : decode cX0_mayStand 1 = .ok (.ifCond .ne 5, 3) := by decide +kernel
theorem dX0_mayStand_4 : decode cX0_mayStand 4 = .ok (.iconst 1, 1) := by decide +kernel
theorem dX0_mayStand_5 : decode cX0_mayStand 5 = .ok (.ireturn, 1) := by decide +kernel
theorem dX0_mayStand_6 : decode cX0_mayStand 6 = .ok (.aload_n 0, 1) := by decide +kernel
theorem dX0_mayStand_7 : decode cX0_mayStand 7 = .ok (.iload_n 2, 1) := by decide +kernel
theorem dX0_mayStand_8 : decode cX0_mayStand 8 = .ok (.invokevirtual 88, 3) := by decide +kernel
theorem dX0_mayStand_11 : decode cX0_mayStand 11 = .ok (.istore_n 3, 1) := by decide +kernel
theorem dX0_mayStand_12 : decode cX0_mayStand 12 = .ok (.iload_n 2, 1) := by decide +kernel
theorem dX0_mayStand_13 : decode cX0_mayStand 13 = .ok (.ifCond .lt 34, 3) := by decide +kernel
theorem dX0_mayStand_16 : decode cX0_mayStand 16 = .ok (.iload_n 2, 1) := by decide +kernel
theorem dX0_mayStand_17 : decode cX0_mayStand 17 = .ok (.aload_n 0, 1) := by decide +kernel
theorem dX0_mayStand_18 : decode cX0_mayStand 18 = .ok (.getfield 22, 3) := by decide +kernel
theorem dX0_mayStand_21 : decode cX0_mayStand 21 = .ok (.if_icmp .ge 26, 3) := by decide +kernel
theorem dX0_mayStand_24 : decode cX0_mayStand 24 = .ok (.iload_n 1, 1) := by decide +kernel
theorem dX0_mayStand_25 : decode cX0_mayStand 25 = .ok (.iconst 1, 1) := by decide +kernel
theorem dX0_mayStand_26 : decode cX0_mayStand 26 = .ok (.if_icmp .ne 17, 3) := by decide +kernel
theorem dX0_mayStand_29 : decode cX0_mayStand 29 = .ok (.iload_n 3, 1) := by decide +kernel
theorem dX0_mayStand_30 : decode cX0_mayStand 30 = .ok (.ifCond .le 17, 3) := by decide +kernel
theorem dX0_mayStand_33 : decode cX0_mayStand 33 = .ok (.iload_n 3, 1) := by decide +kernel
theorem dX0_mayStand_34 : decode cX0_mayStand 34 = .ok (.aload_n 0, 1) := by decide +kernel
theorem dX0_mayStand_35 : decode cX0_mayStand 35 = .ok (.getfield 19, 3) := by decide +kernel
theorem dX0_mayStand_38 : decode cX0_mayStand 38 = .ok (.iconst 1, 1) := by decide +kernel
theorem dX0_mayStand_39 : decode cX0_mayStand 39 = .ok (.isub, 1) := by decide +kernel
theorem dX0_mayStand_40 : decode cX0_mayStand 40 = .ok (.if_icmp .ge 7, 3) := by decide +kernel
theorem dX0_mayStand_43 : decode cX0_mayStand 43 = .ok (.iconst 1, 1) := by decide +kernel
theorem dX0_mayStand_44 : decode cX0_mayStand 44 = .ok (.goto 4, 3) := by decide +kernel
theorem dX0_mayStand_47 : decode cX0_mayStand 47 = .ok (.iconst 0, 1) := by decide +kernel
theorem dX0_mayStand_48 : decode cX0_mayStand 48 = .ok (.ireturn, 1) := by decide +kernel
theorem dX0_inCheck_0 : decode cX0_inCheck 0 = .ok (.aload_n 0, 1) := by decide +kernel
theorem dX0_inCheck_1 : decode cX0_inCheck 1 = .ok (.aload_n 1, 1) := by decide +kernel
theorem dX0_inCheck_2 : decode cX0_inCheck 2 = .ok (.getfield 91, 3) := by decide +kernel
theorem dX0_inCheck_5 : decode cX0_inCheck 5 = .ok (.aload_n 1, 1) := by decide +kernel
theorem dX0_inCheck_6 : decode cX0_inCheck 6 = .ok (.getfield 96, 3) := by decide +kernel
theorem dX0_inCheck_9 : decode cX0_inCheck 9 = .ok (.aload_n 1, 1) := by decide +kernel
theorem dX0_inCheck_10 : decode cX0_inCheck 10 = .ok (.getfield 99, 3) := by decide +kernel
theorem dX0_inCheck_13 : decode cX0_inCheck 13 = .ok (.invokestatic 32, 3) := by decide +kernel
theorem dX0_inCheck_16 : decode cX0_inCheck 16 = .ok (.invokevirtual 102, 3) := by decide +kernel
theorem dX0_inCheck_19 : decode cX0_inCheck 19 = .ok (.aload_n 1, 1) := by decide +kernel
theorem dX0_inCheck_20 : decode cX0_inCheck 20 = .ok (.getfield 106, 3) := by decide +kernel
theorem dX0_inCheck_23 : decode cX0_inCheck 23 = .ok (.invokestatic 32, 3) := by decide +kernel
theorem dX0_inCheck_26 : decode cX0_inCheck 26 = .ok (.land, 1) := by decide +kernel
theorem dX0_inCheck_27 : decode cX0_inCheck 27 = .ok (.lconst 0, 1) := by decide +kernel
theorem dX0_inCheck_28 : decode cX0_inCheck 28 = .ok (.lcmp, 1) := by decide +kernel
theorem dX0_inCheck_29 : decode cX0_inCheck 29 = .ok (.ifCond .eq 7, 3) := by decide +kernel
theorem dX0_inCheck_32 : decode cX0_inCheck 32 = .ok (.iconst 1, 1) := by decide +kernel
theorem dX0_inCheck_33 : decode cX0_inCheck 33 = .ok (.goto 4, 3) := by decide +kernel
theorem dX0_inCheck_36 : decode cX0_inCheck 36 = .ok (.iconst 0, 1) := by decide +kernel
theorem dX0_inCheck_37 : decode cX0_inCheck 37 = .ok (.ireturn, 1) := by decide +kernel
theorem dX0_isPosition_0 : decode cX0_isPosition 0 = .ok (.aload_n 1, 1) := by decide +kernel
theorem dX0_isPosition_1 : decode cX0_isPosition 1 = .ok (.getfield 91, 3) := by decide +kernel
theorem dX0_isPosition_4 : decode cX0_isPosition 4 = .ok (.ifCond .eq 13, 3) := by decide +kernel
theorem dX0_isPosition_7 : decode cX0_isPosition 7 = .ok (.aload_n 1, 1) := by decide +kernel
theorem dX0_isPosition_8 : decode cX0_isPosition 8 = .ok (.getfield 91, 3) := by decide +kernel
theorem dX0_isPosition_11 : decode cX0_isPosition 11 = .ok (.invokestatic 109, 3) := by decide +kernel
theorem dX0_isPosition_14 : decode cX0_isPosition 14 = .ok (.ifCond .eq 13, 3) := by decide +kernel
theorem dX0_isPosition_17 : decode cX0_isPosition 17 = .ok (.aload_n 1, 1) := by decide +kernel
theorem dX0_isPosition_18 : decode cX0_isPosition 18 = .ok (.getfield 113, 3) := by decide +kernel
theorem dX0_isPosition_21 : decode cX0_isPosition 21 = .ok (.invokestatic 116, 3) := by decide +kernel
theorem dX0_isPosition_24 : decode cX0_isPosition 24 = .ok (.ifCond .ne 5, 3) := by decide +kernel
theorem dX0_isPosition_27 : decode cX0_isPosition 27 = .ok (.iconst 0, 1) := by decide +kernel
theorem dX0_isPosition_28 : decode cX0_isPosition 28 = .ok (.ireturn, 1) := by decide +kernel
theorem dX0_isPosition_29 : decode cX0_isPosition 29 = .ok (.aload_n 1, 1) := by decide +kernel
theorem dX0_isPosition_30 : decode cX0_isPosition 30 = .ok (.getfield 99, 3) := by decide +kernel
theorem dX0_isPosition_33 : decode cX0_isPosition 33 = .ok (.ifCond .lt 32, 3) := by decide +kernel
theorem dX0_isPosition_36 : decode cX0_isPosition 36 = .ok (.aload_n 0, 1) := by decide +kernel
theorem dX0_isPosition_37 : decode cX0_isPosition 37 = .ok (.aload_n 1, 1) := by decide +kernel
theorem dX0_isPosition_38 : decode cX0_isPosition 38 = .ok (.getfield 91, 3) := by decide +kernel
theorem dX0_isPosition_41 : decode cX0_isPosition 41 = .ok (.aload_n 1, 1) := by decide +kernel
theorem dX0_isPosition_42 : decode cX0_isPosition 42 = .ok (.getfield 99, 3) := by decide +kernel
theorem dX0_isPosition_45 : decode cX0_isPosition 45 = .ok (.aload_n 1, 1) := by decide +kernel
theorem dX0_isPosition_46 : decode cX0_isPosition 46 = .ok (.getfield 96, 3) := by decide +kernel
theorem dX0_isPosition_49 : decode cX0_isPosition 49 = .ok (.invokevirtual 119, 3) := by decide +kernel
theorem dX0_isPosition_52 : decode cX0_isPosition 52 = .ok (.aload_n 1, 1) := by decide +kernel
theorem dX0_isPosition_53 : decode cX0_isPosition 53 = .ok (.getfield 106, 3) := by decide +kernel
theorem dX0_isPosition_56 : decode cX0_isPosition 56 = .ok (.invokestatic 32, 3) := by decide +kernel
theorem dX0_isPosition_59 : decode cX0_isPosition 59 = .ok (.land, 1) := by decide +kernel
theorem dX0_isPosition_60 : decode cX0_isPosition 60 = .ok (.lconst 0, 1) := by decide +kernel
theorem dX0_isPosition_61 : decode cX0_isPosition 61 = .ok (.lcmp, 1) := by decide +kernel
theorem dX0_isPosition_62 : decode cX0_isPosition 62 = .ok (.ifCond .ne 5, 3) := by decide +kernel
theorem dX0_isPosition_65 : decode cX0_isPosition 65 = .ok (.iconst 0, 1) := by decide +kernel
theorem dX0_isPosition_66 : decode cX0_isPosition 66 = .ok (.ireturn, 1) := by decide +kernel
theorem dX0_isPosition_67 : decode cX0_isPosition 67 = .ok (.aload_n 1, 1) := by decide +kernel
theorem dX0_isPosition_68 : decode cX0_isPosition 68 = .ok (.getfield 113, 3) := by decide +kernel
theorem dX0_isPosition_71 : decode cX0_isPosition 71 = .ok (.iconst 1, 1) := by decide +kernel
theorem dX0_isPosition_72 : decode cX0_isPosition 72 = .ok (.if_icmp .eq 11, 3) := by decide +kernel
theorem dX0_isPosition_75 : decode cX0_isPosition 75 = .ok (.aload_n 0, 1) := by decide +kernel
theorem dX0_isPosition_76 : decode cX0_isPosition 76 = .ok (.aload_n 1, 1) := by decide +kernel
theorem dX0_isPosition_77 : decode cX0_isPosition 77 = .ok (.invokevirtual 123, 3) := by decide +kernel
theorem dX0_isPosition_80 : decode cX0_isPosition 80 = .ok (.ifCond .ne 7, 3) := by decide +kernel
theorem dX0_isPosition_83 : decode cX0_isPosition 83 = .ok (.iconst 1, 1) := by decide +kernel
theorem dX0_isPosition_84 : decode cX0_isPosition 84 = .ok (.goto 4, 3) := by decide +kernel
theorem dX0_isPosition_87 : decode cX0_isPosition 87 = .ok (.iconst 0, 1) := by decide +kernel
theorem dX0_isPosition_88 : decode cX0_isPosition 88 = .ok (.ireturn, 1) := by decide +kernel
theorem dX1_init_0 : decode cX1_init 0 = .ok (.aload_n 0, 1) := by decide +kernel
theorem dX1_init_1 : decode cX1_init 1 = .ok (.invokespecial 3, 3) := by decide +kernel
theorem dX1_init_4 : decode cX1_init 4 = .ok (.aload_n 0, 1) := by decide +kernel
theorem dX1_init_5 : decode cX1_init 5 = .ok (.bipush 64, 2) := by decide +kernel
theorem dX1_init_7 : decode cX1_init 7 = .ok (.newarray .int, 2) := by decide +kernel
theorem dX1_init_9 : decode cX1_init 9 = .ok (.putfield 11, 3) := by decide +kernel
theorem dX1_init_12 : decode cX1_init 12 = .ok (.aload_n 0, 1) := by decide +kernel
theorem dX1_init_13 : decode cX1_init 13 = .ok (.iconst 0, 1) := by decide +kernel
theorem dX1_init_14 : decode cX1_init 14 = .ok (.putfield 15, 3) := by decide +kernel
theorem dX1_init_17 : decode cX1_init 17 = .ok (.return_, 1) := by decide +kernel
theorem dX1_toldAt_0 : decode cX1_toldAt 0 = .ok (.iload_n 1, 1) := by decide +kernel
theorem dX1_toldAt_1 : decode cX1_toldAt 1 = .ok (.ifCond .lt 12, 3) := by decide +kernel
theorem dX1_toldAt_4 : decode cX1_toldAt 4 = .ok (.iload_n 1, 1) := by decide +kernel
theorem dX1_toldAt_5 : decode cX1_toldAt 5 = .ok (.aload_n 0, 1) := by decide +kernel
theorem dX1_toldAt_6 : decode cX1_toldAt 6 = .ok (.getfield 11, 3) := by decide +kernel
theorem dX1_toldAt_9 : decode cX1_toldAt 9 = .ok (.arraylength, 1) := by decide +kernel
theorem dX1_toldAt_10 : decode cX1_toldAt 10 = .ok (.if_icmp .lt 7, 3) := by decide +kernel
theorem dX1_toldAt_13 : decode cX1_toldAt 13 = .ok (.iconst 0, 1) := by decide +kernel
theorem dX1_toldAt_14 : decode cX1_toldAt 14 = .ok (.goto 9, 3) := by decide +kernel
theorem dX1_toldAt_17 : decode cX1_toldAt 17 = .ok (.aload_n 0, 1) := by decide +kernel
theorem dX1_toldAt_18 : decode cX1_toldAt 18 = .ok (.getfield 11, 3) := by decide +kernel
theorem dX1_toldAt_21 : decode cX1_toldAt 21 = .ok (.iload_n 1, 1) := by decide +kernel
theorem dX1_toldAt_22 : decode cX1_toldAt 22 = .ok (.iaload, 1) := by decide +kernel
theorem dX1_toldAt_23 : decode cX1_toldAt 23 = .ok (.ireturn, 1) := by decide +kernel
theorem dX1_holds_0 : decode cX1_holds 0 = .ok (.iconst 0, 1) := by decide +kernel
theorem dX1_holds_1 : decode cX1_holds 1 = .ok (.istore_n 2, 1) := by decide +kernel
theorem dX1_holds_2 : decode cX1_holds 2 = .ok (.iload_n 2, 1) := by decide +kernel
theorem dX1_holds_3 : decode cX1_holds 3 = .ok (.aload_n 0, 1) := by decide +kernel
theorem dX1_holds_4 : decode cX1_holds 4 = .ok (.getfield 15, 3) := by decide +kernel
theorem dX1_holds_7 : decode cX1_holds 7 = .ok (.if_icmp .ge 20, 3) := by decide +kernel
theorem dX1_holds_10 : decode cX1_holds 10 = .ok (.aload_n 0, 1) := by decide +kernel
theorem dX1_holds_11 : decode cX1_holds 11 = .ok (.iload_n 2, 1) := by decide +kernel
theorem dX1_holds_12 : decode cX1_holds 12 = .ok (.invokevirtual 19, 3) := by decide +kernel
theorem dX1_holds_15 : decode cX1_holds 15 = .ok (.iload_n 1, 1) := by decide +kernel
theorem dX1_holds_16 : decode cX1_holds 16 = .ok (.if_icmp .ne 5, 3) := by decide +kernel
theorem dX1_holds_19 : decode cX1_holds 19 = .ok (.iconst 1, 1) := by decide +kernel
theorem dX1_holds_20 : decode cX1_holds 20 = .ok (.ireturn, 1) := by decide +kernel
theorem dX1_holds_21 : decode cX1_holds 21 = .ok (.iinc 2 1, 3) := by decide +kernel
theorem dX1_holds_24 : decode cX1_holds 24 = .ok (.goto (-22), 3) := by decide +kernel
theorem dX1_holds_27 : decode cX1_holds 27 = .ok (.iconst 0, 1) := by decide +kernel
theorem dX1_holds_28 : decode cX1_holds 28 = .ok (.ireturn, 1) := by decide +kernel
theorem dX1_fill_0 : decode cX1_fill 0 = .ok (.aload_n 0, 1) := by decide +kernel
theorem dX1_fill_1 : decode cX1_fill 1 = .ok (.iconst 0, 1) := by decide +kernel
theorem dX1_fill_2 : decode cX1_fill 2 = .ok (.putfield 15, 3) := by decide +kernel
theorem dX1_fill_5 : decode cX1_fill 5 = .ok (.aload_n 2, 1) := by decide +kernel
theorem dX1_fill_6 : decode cX1_fill 6 = .ok (.getfield 23, 3) := by decide +kernel
theorem dX1_fill_9 : decode cX1_fill 9 = .ok (.iconst 1, 1) := by decide +kernel
theorem dX1_fill_10 : decode cX1_fill 10 = .ok (.if_icmp .ne 56, 3) := by decide +kernel
theorem dX1_fill_13 : decode cX1_fill 13 = .ok (.aload_n 1, 1) := by decide +kernel
theorem dX1_fill_14 : decode cX1_fill 14 = .ok (.aload_n 2, 1) := by decide +kernel
theorem dX1_fill_15 : decode cX1_fill 15 = .ok (.getfield 28, 3) := by decide +kernel
theorem dX1_fill_18 : decode cX1_fill 18 = .ok (.invokevirtual 31, 3) := by decide +kernel
theorem dX1_fill_21 : decode cX1_fill 21 = .ok (.aload_n 1, 1) := by decide +kernel
theorem dX1_fill_22 : decode cX1_fill 22 = .ok (.aload_n 2, 1) := by decide +kernel
theorem dX1_fill_23 : decode cX1_fill 23 = .ok (.getfield 37, 3) := by decide +kernel
theorem dX1_fill_26 : decode cX1_fill 26 = .ok (.aload_n 2, 1) := by decide +kernel
theorem dX1_fill_27 : decode cX1_fill 27 = .ok (.getfield 40, 3) := by decide +kernel
theorem dX1_fill_30 : decode cX1_fill 30 = .ok (.aload_n 2, 1) := by decide +kernel
theorem dX1_fill_31 : decode cX1_fill 31 = .ok (.getfield 28, 3) := by decide +kernel
theorem dX1_fill_34 : decode cX1_fill 34 = .ok (.invokestatic 43, 3) := by decide +kernel
theorem dX1_fill_37 : decode cX1_fill 37 = .ok (.invokevirtual 46, 3) := by decide +kernel
theorem dX1_fill_40 : decode cX1_fill 40 = .ok (.lor, 1) := by decide +kernel
theorem dX1_fill_41 : decode cX1_fill 41 = .ok (.lstore_n 3, 1) := by decide +kernel
theorem dX1_fill_42 : decode cX1_fill 42 = .ok (.aload_n 0, 1) := by decide +kernel
theorem dX1_fill_43 : decode cX1_fill 43 = .ok (.aload_n 1, 1) := by decide +kernel
theorem dX1_fill_44 : decode cX1_fill 44 = .ok (.aload_n 2, 1) := by decide +kernel
theorem dX1_fill_45 : decode cX1_fill 45 = .ok (.getfield 50, 3) := by decide +kernel
theorem dX1_fill_48 : decode cX1_fill 48 = .ok (.aload_n 1, 1) := by decide +kernel
theorem dX1_fill_49 : decode cX1_fill 49 = .ok (.aload_n 2, 1) := by decide +kernel
theorem dX1_fill_50 : decode cX1_fill 50 = .ok (.getfield 50, 3) := by decide +kernel
theorem dX1_fill_53 : decode cX1_fill 53 = .ok (.invokevirtual 31, 3) := by decide +kernel
theorem dX1_fill_56 : decode cX1_fill 56 = .ok (.lload_n 3, 1) := by decide +kernel
theorem dX1_fill_57 : decode cX1_fill 57 = .ok (.ldc2_w 53, 3) := by decide +kernel
theorem dX1_fill_60 : decode cX1_fill 60 = .ok (.lxor, 1) := by decide +kernel
theorem dX1_fill_61 : decode cX1_fill 61 = .ok (.land, 1) := by decide +kernel
theorem dX1_fill_62 : decode cX1_fill 62 = .ok (.invokevirtual 55, 3) := by decide +kernel
theorem dX1_fill_65 : decode cX1_fill 65 = .ok (.return_, 1) := by decide +kernel
theorem dX1_fill_66 : decode cX1_fill 66 = .ok (.aload_n 2, 1) := by decide +kernel
theorem dX1_fill_67 : decode cX1_fill 67 = .ok (.getfield 37, 3) := by decide +kernel
theorem dX1_fill_70 : decode cX1_fill 70 = .ok (.ifCond .eq 18, 3) := by decide +kernel
theorem dX1_fill_73 : decode cX1_fill 73 = .ok (.aload_n 2, 1) := by decide +kernel
theorem dX1_fill_74 : decode cX1_fill 74 = .ok (.getfield 40, 3) := by decide +kernel
theorem dX1_fill_77 : decode cX1_fill 77 = .ok (.aload_n 2, 1) := by decide +kernel
theorem dX1_fill_78 : decode cX1_fill 78 = .ok (.getfield 28, 3) := by decide +kernel
theorem dX1_fill_81 : decode cX1_fill 81 = .ok (.if_icmp .ge 7, 3) := by decide +kernel
theorem dX1_fill_84 : decode cX1_fill 84 = .ok (.iconst 1, 1) := by decide +kernel
theorem dX1_fill_85 : decode cX1_fill 85 = .ok (.goto 4, 3) := by decide +kernel
theorem dX1_fill_88 : decode cX1_fill 88 = .ok (.iconst 0, 1) := by decide +kernel
theorem dX1_fill_89 : decode cX1_fill 89 = .ok (.istore_n 3, 1) := by decide +kernel
theorem dX1_fill_90 : decode cX1_fill 90 = .ok (.iload_n 3, 1) := by decide +kernel
theorem dX1_fill_91 : decode cX1_fill 91 = .ok (.ifCond .eq 9, 3) := by decide +kernel
theorem dX1_fill_94 : decode cX1_fill 94 = .ok (.aload_n 0, 1) := by decide +kernel
theorem dX1_fill_95 : decode cX1_fill 95 = .ok (.aload_n 1, 1) := by decide +kernel
theorem dX1_fill_96 : decode cX1_fill 96 = .ok (.aload_n 2, 1) := by decide +kernel
theorem dX1_fill_97 : decode cX1_fill 97 = .ok (.invokevirtual 59, 3) := by decide +kernel
theorem dX1_fill_100 : decode cX1_fill 100 = .ok (.aload_n 0, 1) := by decide +kernel
theorem dX1_fill_101 : decode cX1_fill 101 = .ok (.aload_n 1, 1) := by decide +kernel
theorem dX1_fill_102 : decode cX1_fill 102 = .ok (.aload_n 2, 1) := by decide +kernel
theorem dX1_fill_103 : decode cX1_fill 103 = .ok (.getfield 28, 3) := by decide +kernel
theorem dX1_fill_106 : decode cX1_fill 106 = .ok (.aload_n 1, 1) := by decide +kernel
theorem dX1_fill_107 : decode cX1_fill 107 = .ok (.aload_n 2, 1) := by decide +kernel
theorem dX1_fill_108 : decode cX1_fill 108 = .ok (.getfield 28, 3) := by decide +kernel
theorem dX1_fill_111 : decode cX1_fill 111 = .ok (.invokevirtual 31, 3) := by decide +kernel
theorem dX1_fill_114 : decode cX1_fill 114 = .ok (.aload_n 1, 1) := by decide +kernel
theorem dX1_fill_115 : decode cX1_fill 115 = .ok (.aload_n 2, 1) := by decide +kernel
theorem dX1_fill_116 : decode cX1_fill 116 = .ok (.getfield 50, 3) := by decide +kernel
theorem dX1_fill_119 : decode cX1_fill 119 = .ok (.invokevirtual 31, 3) := by decide +kernel
theorem dX1_fill_122 : decode cX1_fill 122 = .ok (.ldc2_w 53, 3) := by decide +kernel
theorem dX1_fill_125 : decode cX1_fill 125 = .ok (.lxor, 1) := by decide +kernel
theorem dX1_fill_126 : decode cX1_fill 126 = .ok (.land, 1) := by decide +kernel
theorem dX1_fill_127 : decode cX1_fill 127 = .ok (.aload_n 2, 1) := by decide +kernel
theorem dX1_fill_128 : decode cX1_fill 128 = .ok (.getfield 40, 3) := by decide +kernel
theorem dX1_fill_131 : decode cX1_fill 131 = .ok (.invokestatic 43, 3) := by decide +kernel
theorem dX1_fill_134 : decode cX1_fill 134 = .ok (.ldc2_w 53, 3) := by decide +kernel
theorem dX1_fill_137 : decode cX1_fill 137 = .ok (.lxor, 1) := by decide +kernel
theorem dX1_fill_138 : decode cX1_fill 138 = .ok (.land, 1) := by decide +kernel
theorem dX1_fill_139 : decode cX1_fill 139 = .ok (.invokevirtual 55, 3) := by decide +kernel
theorem dX1_fill_142 : decode cX1_fill 142 = .ok (.iload_n 3, 1) := by decide +kernel
theorem dX1_fill_143 : decode cX1_fill 143 = .ok (.ifCond .ne 9, 3) := by decide +kernel
theorem dX1_fill_146 : decode cX1_fill 146 = .ok (.aload_n 0, 1) := by decide +kernel
theorem dX1_fill_147 : decode cX1_fill 147 = .ok (.aload_n 1, 1) := by decide +kernel
theorem dX1_fill_148 : decode cX1_fill 148 = .ok (.aload_n 2, 1) := by decide +kernel
theorem dX1_fill_149 : decode cX1_fill 149 = .ok (.invokevirtual 59, 3) := by decide +kernel
theorem dX1_fill_152 : decode cX1_fill 152 = .ok (.return_, 1) := by decide +kernel
theorem dX1_fillMan_0 : decode cX1_fillMan 0 = .ok (.aload_n 2, 1) := by decide +kernel
theorem dX1_fillMan_1 : decode cX1_fillMan 1 = .ok (.getfield 28, 3) := by decide +kernel
theorem dX1_fillMan_4 : decode cX1_fillMan 4 = .ok (.invokestatic 43, 3) := by decide +kernel
theorem dX1_fillMan_7 : decode cX1_fillMan 7 = .ok (.aload_n 2, 1) := by decide +kernel
theorem dX1_fillMan_8 : decode cX1_fillMan 8 = .ok (.getfield 50, 3) := by decide +kernel
theorem dX1_fillMan_11 : decode cX1_fillMan 11 = .ok (.invokestatic 43, 3) := by decide +kernel
theorem dX1_fillMan_14 : decode cX1_fillMan 14 = .ok (.lor, 1) := by decide +kernel
theorem dX1_fillMan_15 : decode cX1_fillMan 15 = .ok (.lstore_n 3, 1) := by decide +kernel
theorem dX1_fillMan_16 : decode cX1_fillMan 16 = .ok (.aload_n 2, 1) := by decide +kernel
theorem dX1_fillMan_17 : decode cX1_fillMan 17 = .ok (.getfield 37, 3) := by decide +kernel
theorem dX1_fillMan_20 : decode cX1_fillMan 20 = .ok (.iconst 1, 1) := by decide +kernel
theorem dX1_fillMan_21 : decode cX1_fillMan 21 = .ok (.if_icmp .ne 16, 3) := by decide +kernel
theorem dX1_fillMan_24 : decode cX1_fillMan 24 = .ok (.aload_n 0, 1) := by decide +kernel
theorem dX1_fillMan_25 : decode cX1_fillMan 25 = .ok (.aload_n 1, 1) := by decide +kernel
theorem dX1_fillMan_26 : decode cX1_fillMan 26 = .ok (.aload_n 2, 1) := by decide +kernel
theorem dX1_fillMan_27 : decode cX1_fillMan 27 = .ok (.getfield 40, 3) := by decide +kernel
theorem dX1_fillMan_30 : decode cX1_fillMan 30 = .ok (.lload_n 3, 1) := by decide +kernel
theorem dX1_fillMan_31 : decode cX1_fillMan 31 = .ok (.invokevirtual 63, 3) := by decide +kernel
theorem dX1_fillMan_34 : decode cX1_fillMan 34 = .ok (.goto 31, 3) := by decide +kernel
theorem dX1_fillMan_37 : decode cX1_fillMan 37 = .ok (.aload_n 0, 1) := by decide +kernel
theorem dX1_fillMan_38 : decode cX1_fillMan 38 = .ok (.aload_n 1, 1) := by decide +kernel
theorem dX1_fillMan_39 : decode cX1_fillMan 39 = .ok (.aload_n 2, 1) := by decide +kernel
theorem dX1_fillMan_40 : decode cX1_fillMan 40 = .ok (.getfield 40, 3) := by decide +kernel
theorem dX1_fillMan_43 : decode cX1_fillMan 43 = .ok (.aload_n 1, 1) := by decide +kernel
theorem dX1_fillMan_44 : decode cX1_fillMan 44 = .ok (.aload_n 2, 1) := by decide +kernel
theorem dX1_fillMan_45 : decode cX1_fillMan 45 = .ok (.getfield 37, 3) := by decide +kernel
theorem dX1_fillMan_48 : decode cX1_fillMan 48 = .ok (.aload_n 2, 1) := by decide +kernel
theorem dX1_fillMan_49 : decode cX1_fillMan 49 = .ok (.getfield 40, 3) := by decide +kernel
theorem dX1_fillMan_52 : decode cX1_fillMan 52 = .ok (.lload_n 3, 1) := by decide +kernel
theorem dX1_fillMan_53 : decode cX1_fillMan 53 = .ok (.invokevirtual 46, 3) := by decide +kernel
theorem dX1_fillMan_56 : decode cX1_fillMan 56 = .ok (.lload_n 3, 1) := by decide +kernel
theorem dX1_fillMan_57 : decode cX1_fillMan 57 = .ok (.ldc2_w 53, 3) := by decide +kernel
theorem dX1_fillMan_60 : decode cX1_fillMan 60 = .ok (.lxor, 1) := by decide +kernel
theorem dX1_fillMan_61 : decode cX1_fillMan 61 = .ok (.land, 1) := by decide +kernel
theorem dX1_fillMan_62 : decode cX1_fillMan 62 = .ok (.invokevirtual 55, 3) := by decide +kernel
theorem dX1_fillMan_65 : decode cX1_fillMan 65 = .ok (.return_, 1) := by decide +kernel
theorem dX1_fillPawn_0 : decode cX1_fillPawn 0 = .ok (.aload_n 1, 1) := by decide +kernel
theorem dX1_fillPawn_1 : decode cX1_fillPawn 1 = .ok (.iload_n 2, 1) := by decide +kernel
theorem dX1_fillPawn_2 : decode cX1_fillPawn 2 = .ok (.iconst 3, 1) := by decide +kernel
theorem dX1_fillPawn_3 : decode cX1_fillPawn 3 = .ok (.invokevirtual 66, 3) := by decide +kernel
theorem dX1_fillPawn_6 : decode cX1_fillPawn 6 = .ok (.istore 5, 2) := by decide +kernel
theorem dX1_fillPawn_8 : decode cX1_fillPawn 8 = .ok (.iload 5, 2) := by decide +kernel
theorem dX1_fillPawn_10 : decode cX1_fillPawn 10 = .ok (.iconst (-1), 1) := by decide +kernel
theorem dX1_fillPawn_11 : decode cX1_fillPawn 11 = .ok (.if_icmp .eq 15, 3) := by decide +kernel
theorem dX1_fillPawn_14 : decode cX1_fillPawn 14 = .ok (.lload_n 3, 1) := by decide +kernel
theorem dX1_fillPawn_15 : decode cX1_fillPawn 15 = .ok (.iload 5, 2) := by decide +kernel
theorem dX1_fillPawn_17 : decode cX1_fillPawn 17 = .ok (.invokestatic 43, 3) := by decide +kernel
theorem dX1_fillPawn_20 : decode cX1_fillPawn 20 = .ok (.land, 1) := by decide +kernel
theorem dX1_fillPawn_21 : decode cX1_fillPawn 21 = .ok (.lconst 0, 1) := by decide +kernel
theorem dX1_fillPawn_22 : decode cX1_fillPawn 22 = .ok (.lcmp, 1) := by decide +kernel
theorem dX1_fillPawn_23 : decode cX1_fillPawn 23 = .ok (.ifCond .eq 4, 3) := by decide +kernel
theorem dX1_fillPawn_26 : decode cX1_fillPawn 26 = .ok (.return_, 1) := by decide +kernel
theorem dX1_fillPawn_27 : decode cX1_fillPawn 27 = .ok (.aload_n 1, 1) := by decide +kernel
theorem dX1_fillPawn_28 : decode cX1_fillPawn 28 = .ok (.iload 5, 2) := by decide +kernel
theorem dX1_fillPawn_30 : decode cX1_fillPawn 30 = .ok (.invokevirtual 70, 3) := by decide +kernel
theorem dX1_fillPawn_33 : decode cX1_fillPawn 33 = .ok (.aload_n 1, 1) := by decide +kernel
theorem dX1_fillPawn_34 : decode cX1_fillPawn 34 = .ok (.getfield 73, 3) := by decide +kernel
theorem dX1_fillPawn_37 : decode cX1_fillPawn 37 = .ok (.iconst 1, 1) := by decide +kernel
theorem dX1_fillPawn_38 : decode cX1_fillPawn 38 = .ok (.isub, 1) := by decide +kernel
theorem dX1_fillPawn_39 : decode cX1_fillPawn 39 = .ok (.if_icmp .ne 29, 3) := by decide +kernel
theorem dX1_fillPawn_42 : decode cX1_fillPawn 42 = .ok (.iconst 2, 1) := by decide +kernel
theorem dX1_fillPawn_43 : decode cX1_fillPawn 43 = .ok (.istore 6, 2) := by decide +kernel
theorem dX1_fillPawn_45 : decode cX1_fillPawn 45 = .ok (.iload 6, 2) := by decide +kernel
theorem dX1_fillPawn_47 : decode cX1_fillPawn 47 = .ok (.iconst 5, 1) := by decide +kernel
theorem dX1_fillPawn_48 : decode cX1_fillPawn 48 = .ok (.if_icmp .gt 19, 3) := by decide +kernel
theorem dX1_fillPawn_51 : decode cX1_fillPawn 51 = .ok (.aload_n 0, 1) := by decide +kernel
theorem dX1_fillPawn_52 : decode cX1_fillPawn 52 = .ok (.aload_n 1, 1) := by decide +kernel
theorem dX1_fillPawn_53 : decode cX1_fillPawn 53 = .ok (.iload_n 2, 1) := by decide +kernel
theorem dX1_fillPawn_54 : decode cX1_fillPawn 54 = .ok (.iload 5, 2) := by decide +kernel
theorem dX1_fillPawn_56 : decode cX1_fillPawn 56 = .ok (.iload 6, 2) := by decide +kernel
theorem dX1_fillPawn_58 : decode cX1_fillPawn 58 = .ok (.invokevirtual 76, 3) := by decide +kernel
theorem dX1_fillPawn_61 : decode cX1_fillPawn 61 = .ok (.iinc 6 1, 3) := by decide +kernel
theorem dX1_fillPawn_64 : decode cX1_fillPawn 64 = .ok (.goto (-19), 3) := by decide +kernel
theorem dX1_fillPawn_67 : decode cX1_fillPawn 67 = .ok (.return_, 1) := by decide +kernel
theorem dX1_fillPawn_68 : decode cX1_fillPawn 68 = .ok (.aload_n 0, 1) := by decide +kernel
theorem dX1_fillPawn_69 : decode cX1_fillPawn 69 = .ok (.aload_n 1, 1) := by decide +kernel
theorem dX1_fillPawn_70 : decode cX1_fillPawn 70 = .ok (.iload_n 2, 1) := by decide +kernel
theorem dX1_fillPawn_71 : decode cX1_fillPawn 71 = .ok (.iload 5, 2) := by decide +kernel
theorem dX1_fillPawn_73 : decode cX1_fillPawn 73 = .ok (.iconst 0, 1) := by decide +kernel
theorem dX1_fillPawn_74 : decode cX1_fillPawn 74 = .ok (.invokevirtual 76, 3) := by decide +kernel
theorem dX1_fillPawn_77 : decode cX1_fillPawn 77 = .ok (.aload_n 1, 1) := by decide +kernel
theorem dX1_fillPawn_78 : decode cX1_fillPawn 78 = .ok (.iload 5, 2) := by decide +kernel
theorem dX1_fillPawn_80 : decode cX1_fillPawn 80 = .ok (.iconst 3, 1) := by decide +kernel
theorem dX1_fillPawn_81 : decode cX1_fillPawn 81 = .ok (.invokevirtual 66, 3) := by decide +kernel
theorem dX1_fillPawn_84 : decode cX1_fillPawn 84 = .ok (.istore 6, 2) := by decide +kernel
theorem dX1_fillPawn_86 : decode cX1_fillPawn 86 = .ok (.iload 6, 2) := by decide +kernel
theorem dX1_fillPawn_88 : decode cX1_fillPawn 88 = .ok (.iconst (-1), 1) := by decide +kernel
theorem dX1_fillPawn_89 : decode cX1_fillPawn 89 = .ok (.if_icmp .eq 19, 3) := by decide +kernel
theorem dX1_fillPawn_92 : decode cX1_fillPawn 92 = .ok (.lload_n 3, 1) := by decide +kernel
theorem dX1_fillPawn_93 : decode cX1_fillPawn 93 = .ok (.iload 6, 2) := by decide +kernel
theorem dX1_fillPawn_95 : decode cX1_fillPawn 95 = .ok (.invokestatic 43, 3) := by decide +kernel
theorem dX1_fillPawn_98 : decode cX1_fillPawn 98 = .ok (.land, 1) := by decide +kernel
theorem dX1_fillPawn_99 : decode cX1_fillPawn 99 = .ok (.lconst 0, 1) := by decide +kernel
theorem dX1_fillPawn_100 : decode cX1_fillPawn 100 = .ok (.lcmp, 1) := by decide +kernel
theorem dX1_fillPawn_101 : decode cX1_fillPawn 101 = .ok (.ifCond .ne 7, 3) := by decide +kernel
theorem dX1_fillPawn_104 : decode cX1_fillPawn 104 = .ok (.iconst 1, 1) := by decide +kernel
theorem dX1_fillPawn_105 : decode cX1_fillPawn 105 = .ok (.goto 4, 3) := by decide +kernel
theorem dX1_fillPawn_108 : decode cX1_fillPawn 108 = .ok (.iconst 0, 1) := by decide +kernel
theorem dX1_fillPawn_109 : decode cX1_fillPawn 109 = .ok (.istore 7, 2) := by decide +kernel
theorem dX1_fillPawn_111 : decode cX1_fillPawn 111 = .ok (.aload_n 1, 1) := by decide +kernel
theorem dX1_fillPawn_112 : decode cX1_fillPawn 112 = .ok (.iload_n 2, 1) := by decide +kernel
theorem dX1_fillPawn_113 : decode cX1_fillPawn 113 = .ok (.invokevirtual 70, 3) := by decide +kernel
theorem dX1_fillPawn_116 : decode cX1_fillPawn 116 = .ok (.iconst 1, 1) := by decide +kernel
theorem dX1_fillPawn_117 : decode cX1_fillPawn 117 = .ok (.if_icmp .ne 32, 3) := by decide +kernel
theorem dX1_fillPawn_120 : decode cX1_fillPawn 120 = .ok (.iload 7, 2) := by decide +kernel
theorem dX1_fillPawn_122 : decode cX1_fillPawn 122 = .ok (.ifCond .eq 27, 3) := by decide +kernel
theorem dX1_fillPawn_125 : decode cX1_fillPawn 125 = .ok (.aload_n 1, 1) := by decide +kernel
theorem dX1_fillPawn_126 : decode cX1_fillPawn 126 = .ok (.iload 6, 2) := by decide +kernel
theorem dX1_fillPawn_128 : decode cX1_fillPawn 128 = .ok (.invokevirtual 70, 3) := by decide +kernel
theorem dX1_fillPawn_131 : decode cX1_fillPawn 131 = .ok (.aload_n 1, 1) := by decide +kernel
theorem dX1_fillPawn_132 : decode cX1_fillPawn 132 = .ok (.getfield 73, 3) := by decide +kernel
theorem dX1_fillPawn_135 : decode cX1_fillPawn 135 = .ok (.iconst 1, 1) := by decide +kernel
theorem dX1_fillPawn_136 : decode cX1_fillPawn 136 = .ok (.isub, 1) := by decide +kernel
theorem dX1_fillPawn_137 : decode cX1_fillPawn 137 = .ok (.if_icmp .eq 12, 3) := by decide +kernel
theorem dX1_fillPawn_140 : decode cX1_fillPawn 140 = .ok (.aload_n 0, 1) := by decide +kernel
theorem dX1_fillPawn_141 : decode cX1_fillPawn 141 = .ok (.aload_n 1, 1) := by decide +kernel
theorem dX1_fillPawn_142 : decode cX1_fillPawn 142 = .ok (.iload_n 2, 1) := by decide +kernel
theorem dX1_fillPawn_143 : decode cX1_fillPawn 143 = .ok (.iload 6, 2) := by decide +kernel
theorem dX1_fillPawn_145 : decode cX1_fillPawn 145 = .ok (.iconst 0, 1) := by decide +kernel
theorem dX1_fillPawn_146 : decode cX1_fillPawn 146 = .ok (.invokevirtual 76, 3) := by decide +kernel
theorem dX1_fillPawn_149 : decode cX1_fillPawn 149 = .ok (.return_, 1) := by decide +kernel
theorem dX1_addAll_0 : decode cX1_addAll 0 = .ok (.iconst 0, 1) := by decide +kernel
theorem dX1_addAll_1 : decode cX1_addAll 1 = .ok (.istore 5, 2) := by decide +kernel
theorem dX1_addAll_3 : decode cX1_addAll 3 = .ok (.iload 5, 2) := by decide +kernel
theorem dX1_addAll_5 : decode cX1_addAll 5 = .ok (.aload_n 1, 1) := by decide +kernel
theorem dX1_addAll_6 : decode cX1_addAll 6 = .ok (.getfield 80, 3) := by decide +kernel
theorem dX1_addAll_9 : decode cX1_addAll 9 = .ok (.if_icmp .ge 30, 3) := by decide +kernel
theorem dX1_addAll_12 : decode cX1_addAll 12 = .ok (.lload_n 3, 1) := by decide +kernel
theorem dX1_addAll_13 : decode cX1_addAll 13 = .ok (.iload 5, 2) := by decide +kernel
theorem dX1_addAll_15 : decode cX1_addAll 15 = .ok (.invokestatic 43, 3) := by decide +kernel
theorem dX1_addAll_18 : decode cX1_addAll 18 = .ok (.land, 1) := by decide +kernel
theorem dX1_addAll_19 : decode cX1_addAll 19 = .ok (.lconst 0, 1) := by decide +kernel
theorem dX1_addAll_20 : decode cX1_addAll 20 = .ok (.lcmp, 1) := by decide +kernel
theorem dX1_addAll_21 : decode cX1_addAll 21 = .ok (.ifCond .eq 12, 3) := by decide +kernel
theorem dX1_addAll_24 : decode cX1_addAll 24 = .ok (.aload_n 0, 1) := by decide +kernel
theorem dX1_addAll_25 : decode cX1_addAll 25 = .ok (.aload_n 1, 1) := by decide +kernel
theorem dX1_addAll_26 : decode cX1_addAll 26 = .ok (.iload_n 2, 1) := by decide +kernel
theorem dX1_addAll_27 : decode cX1_addAll 27 = .ok (.iload 5, 2) := by decide +kernel
theorem dX1_addAll_29 : decode cX1_addAll 29 = .ok (.iconst 0, 1) := by decide +kernel
theorem dX1_addAll_30 : decode cX1_addAll 30 = .ok (.invokevirtual 76, 3) := by decide +kernel
theorem dX1_addAll_33 : decode cX1_addAll 33 = .ok (.iinc 5 1, 3) := by decide +kernel
theorem dX1_addAll_36 : decode cX1_addAll 36 = .ok (.goto (-33), 3) := by decide +kernel
theorem dX1_addAll_39 : decode cX1_addAll 39 = .ok (.return_, 1) := by decide +kernel
theorem dX1_add_0 : decode cX1_add 0 = .ok (.aload_n 0, 1) := by decide +kernel
theorem dX1_add_1 : decode cX1_add 1 = .ok (.getfield 15, 3) := by decide +kernel
theorem dX1_add_4 : decode cX1_add 4 = .ok (.ifCond .lt 55, 3) := by decide +kernel
theorem dX1_add_7 : decode cX1_add 7 = .ok (.aload_n 0, 1) := by decide +kernel
theorem dX1_add_8 : decode cX1_add 8 = .ok (.getfield 15, 3) := by decide +kernel
theorem dX1_add_11 : decode cX1_add 11 = .ok (.aload_n 0, 1) := by decide +kernel
theorem dX1_add_12 : decode cX1_add 12 = .ok (.getfield 11, 3) := by decide +kernel
theorem dX1_add_15 : decode cX1_add 15 = .ok (.arraylength, 1) := by decide +kernel
theorem dX1_add_16 : decode cX1_add 16 = .ok (.if_icmp .ge 43, 3) := by decide +kernel
theorem dX1_add_19 : decode cX1_add 19 = .ok (.aload_n 0, 1) := by decide +kernel
theorem dX1_add_20 : decode cX1_add 20 = .ok (.getfield 11, 3) := by decide +kernel
theorem dX1_add_23 : decode cX1_add 23 = .ok (.aload_n 0, 1) := by decide +kernel
theorem dX1_add_24 : decode cX1_add 24 = .ok (.getfield 15, 3) := by decide +kernel
theorem dX1_add_27 : decode cX1_add 27 = .ok (.aload_n 1, 1) := by decide +kernel
theorem dX1_add_28 : decode cX1_add 28 = .ok (.iload_n 2, 1) := by decide +kernel
theorem dX1_add_29 : decode cX1_add 29 = .ok (.invokevirtual 83, 3) := by decide +kernel
theorem dX1_add_32 : decode cX1_add 32 = .ok (.bipush 64, 2) := by decide +kernel
theorem dX1_add_34 : decode cX1_add 34 = .ok (.aload_n 1, 1) := by decide +kernel
theorem dX1_add_35 : decode cX1_add 35 = .ok (.iload_n 3, 1) := by decide +kernel
theorem dX1_add_36 : decode cX1_add 36 = .ok (.invokevirtual 83, 3) := by decide +kernel
theorem dX1_add_39 : decode cX1_add 39 = .ok (.imul, 1) := by decide +kernel
theorem dX1_add_40 : decode cX1_add 40 = .ok (.iadd, 1) := by decide +kernel
theorem dX1_add_41 : decode cX1_add 41 = .ok (.sipush 4096, 3) := by decide +kernel
theorem dX1_add_44 : decode cX1_add 44 = .ok (.iload 4, 2) := by decide +kernel
theorem dX1_add_46 : decode cX1_add 46 = .ok (.imul, 1) := by decide +kernel
theorem dX1_add_47 : decode cX1_add 47 = .ok (.iadd, 1) := by decide +kernel
theorem dX1_add_48 : decode cX1_add 48 = .ok (.iastore, 1) := by decide +kernel
theorem dX1_add_49 : decode cX1_add 49 = .ok (.aload_n 0, 1) := by decide +kernel
theorem dX1_add_50 : decode cX1_add 50 = .ok (.dup, 1) := by decide +kernel
theorem dX1_add_51 : decode cX1_add 51 = .ok (.getfield 15, 3) := by decide +kernel
theorem dX1_add_54 : decode cX1_add 54 = .ok (.iconst 1, 1) := by decide +kernel
theorem dX1_add_55 : decode cX1_add 55 = .ok (.iadd, 1) := by decide +kernel
theorem dX1_add_56 : decode cX1_add 56 = .ok (.putfield 15, 3) := by decide +kernel
theorem dX1_add_59 : decode cX1_add 59 = .ok (.return_, 1) := by decide +kernel
theorem dX2_init_0 : decode cX2_init 0 = .ok (.aload_n 0, 1) := by decide +kernel
theorem dX2_init_1 : decode cX2_init 1 = .ok (.invokespecial 3, 3) := by decide +kernel
theorem dX2_init_4 : decode cX2_init 4 = .ok (.return_, 1) := by decide +kernel
theorem dX2_copy_0 : decode cX2_copy 0 = .ok (.aload_n 0, 1) := by decide +kernel
theorem dX2_copy_1 : decode cX2_copy 1 = .ok (.aload_n 1, 1) := by decide +kernel
theorem dX2_copy_2 : decode cX2_copy 2 = .ok (.getfield 9, 3) := by decide +kernel
theorem dX2_copy_5 : decode cX2_copy 5 = .ok (.putfield 9, 3) := by decide +kernel
theorem dX2_copy_8 : decode cX2_copy 8 = .ok (.aload_n 0, 1) := by decide +kernel
theorem dX2_copy_9 : decode cX2_copy 9 = .ok (.aload_n 1, 1) := by decide +kernel
theorem dX2_copy_10 : decode cX2_copy 10 = .ok (.getfield 15, 3) := by decide +kernel
theorem dX2_copy_13 : decode cX2_copy 13 = .ok (.putfield 15, 3) := by decide +kernel
theorem dX2_copy_16 : decode cX2_copy 16 = .ok (.aload_n 0, 1) := by decide +kernel
theorem dX2_copy_17 : decode cX2_copy 17 = .ok (.aload_n 1, 1) := by decide +kernel
theorem dX2_copy_18 : decode cX2_copy 18 = .ok (.getfield 18, 3) := by decide +kernel
theorem dX2_copy_21 : decode cX2_copy 21 = .ok (.putfield 18, 3) := by decide +kernel
theorem dX2_copy_24 : decode cX2_copy 24 = .ok (.aload_n 0, 1) := by decide +kernel
theorem dX2_copy_25 : decode cX2_copy 25 = .ok (.aload_n 1, 1) := by decide +kernel
theorem dX2_copy_26 : decode cX2_copy 26 = .ok (.getfield 21, 3) := by decide +kernel
theorem dX2_copy_29 : decode cX2_copy 29 = .ok (.putfield 21, 3) := by decide +kernel
theorem dX2_copy_32 : decode cX2_copy 32 = .ok (.aload_n 0, 1) := by decide +kernel
theorem dX2_copy_33 : decode cX2_copy 33 = .ok (.aload_n 1, 1) := by decide +kernel
theorem dX2_copy_34 : decode cX2_copy 34 = .ok (.getfield 24, 3) := by decide +kernel
theorem dX2_copy_37 : decode cX2_copy 37 = .ok (.putfield 24, 3) := by decide +kernel
theorem dX2_copy_40 : decode cX2_copy 40 = .ok (.return_, 1) := by decide +kernel
theorem dX2_go_0 : decode cX2_go 0 = .ok (.aload_n 1, 1) := by decide +kernel
theorem dX2_go_1 : decode cX2_go 1 = .ok (.iload_n 2, 1) := by decide +kernel
theorem dX2_go_2 : decode cX2_go 2 = .ok (.bipush 63, 2) := by decide +kernel
theorem dX2_go_4 : decode cX2_go 4 = .ok (.iand, 1) := by decide +kernel
theorem dX2_go_5 : decode cX2_go 5 = .ok (.invokevirtual 27, 3) := by decide +kernel
theorem dX2_go_8 : decode cX2_go 8 = .ok (.istore_n 3, 1) := by decide +kernel
theorem dX2_go_9 : decode cX2_go 9 = .ok (.aload_n 1, 1) := by decide +kernel
theorem dX2_go_10 : decode cX2_go 10 = .ok (.iload_n 2, 1) := by decide +kernel
theorem dX2_go_11 : decode cX2_go 11 = .ok (.bipush 6, 2) := by decide +kernel
theorem dX2_go_13 : decode cX2_go 13 = .ok (.ishr, 1) := by decide +kernel
theorem dX2_go_14 : decode cX2_go 14 = .ok (.bipush 63, 2) := by decide +kernel
theorem dX2_go_16 : decode cX2_go 16 = .ok (.iand, 1) := by decide +kernel
theorem dX2_go_17 : decode cX2_go 17 = .ok (.invokevirtual 27, 3) := by decide +kernel
theorem dX2_go_20 : decode cX2_go 20 = .ok (.istore 4, 2) := by decide +kernel
theorem dX2_go_22 : decode cX2_go 22 = .ok (.iload_n 2, 1) := by decide +kernel
theorem dX2_go_23 : decode cX2_go 23 = .ok (.bipush 12, 2) := by decide +kernel
theorem dX2_go_25 : decode cX2_go 25 = .ok (.ishr, 1) := by decide +kernel
theorem dX2_go_26 : decode cX2_go 26 = .ok (.istore 5, 2) := by decide +kernel
theorem dX2_go_28 : decode cX2_go 28 = .ok (.aload_n 0, 1) := by decide +kernel
theorem dX2_go_29 : decode cX2_go 29 = .ok (.getfield 24, 3) := by decide +kernel
theorem dX2_go_32 : decode cX2_go 32 = .ok (.iconst 1, 1) := by decide +kernel
theorem dX2_go_33 : decode cX2_go 33 = .ok (.if_icmp .ne 12, 3) := by decide +kernel
theorem dX2_go_36 : decode cX2_go 36 = .ok (.aload_n 0, 1) := by decide +kernel
theorem dX2_go_37 : decode cX2_go 37 = .ok (.iload 4, 2) := by decide +kernel
theorem dX2_go_39 : decode cX2_go 39 = .ok (.invokevirtual 33, 3) := by decide +kernel
theorem dX2_go_42 : decode cX2_go 42 = .ok (.goto 44, 3) := by decide +kernel
theorem dX2_go_45 : decode cX2_go 45 = .ok (.iload_n 3, 1) := by decide +kernel
theorem dX2_go_46 : decode cX2_go 46 = .ok (.aload_n 0, 1) := by decide +kernel
theorem dX2_go_47 : decode cX2_go 47 = .ok (.getfield 15, 3) := by decide +kernel
theorem dX2_go_50 : decode cX2_go 50 = .ok (.if_icmp .ne 12, 3) := by decide +kernel
theorem dX2_go_53 : decode cX2_go 53 = .ok (.aload_n 0, 1) := by decide +kernel
theorem dX2_go_54 : decode cX2_go 54 = .ok (.iload 4, 2) := by decide +kernel
theorem dX2_go_56 : decode cX2_go 56 = .ok (.putfield 15, 3) := by decide +kernel
theorem dX2_go_59 : decode cX2_go 59 = .ok (.goto 27, 3) := by decide +kernel
theorem dX2_go_62 : decode cX2_go 62 = .ok (.aload_n 0, 1) := by decide +kernel
theorem dX2_go_63 : decode cX2_go 63 = .ok (.iload 4, 2) := by decide +kernel
theorem dX2_go_65 : decode cX2_go 65 = .ok (.putfield 18, 3) := by decide +kernel
theorem dX2_go_68 : decode cX2_go 68 = .ok (.aload_n 0, 1) := by decide +kernel
theorem dX2_go_69 : decode cX2_go 69 = .ok (.iload 5, 2) := by decide +kernel
theorem dX2_go_71 : decode cX2_go 71 = .ok (.ifCond .ne 10, 3) := by decide +kernel
theorem dX2_go_74 : decode cX2_go 74 = .ok (.aload_n 0, 1) := by decide +kernel
theorem dX2_go_75 : decode cX2_go 75 = .ok (.getfield 9, 3) := by decide +kernel
theorem dX2_go_78 : decode cX2_go 78 = .ok (.goto 5, 3) := by decide +kernel
theorem dX2_go_81 : decode cX2_go 81 = .ok (.iload 5, 2) := by decide +kernel
theorem dX2_go_83 : decode cX2_go 83 = .ok (.putfield 9, 3) := by decide +kernel
theorem dX2_go_86 : decode cX2_go 86 = .ok (.aload_n 0, 1) := by decide +kernel
theorem dX2_go_87 : decode cX2_go 87 = .ok (.aload_n 0, 1) := by decide +kernel
theorem dX2_go_88 : decode cX2_go 88 = .ok (.getfield 24, 3) := by decide +kernel
theorem dX2_go_91 : decode cX2_go 91 = .ok (.ifCond .ne 7, 3) := by decide +kernel
theorem dX2_go_94 : decode cX2_go 94 = .ok (.iconst 1, 1) := by decide +kernel
theorem dX2_go_95 : decode cX2_go 95 = .ok (.goto 4, 3) := by decide +kernel
theorem dX2_go_98 : decode cX2_go 98 = .ok (.iconst 0, 1) := by decide +kernel
theorem dX2_go_99 : decode cX2_go 99 = .ok (.putfield 24, 3) := by decide +kernel
theorem dX2_go_102 : decode cX2_go 102 = .ok (.return_, 1) := by decide +kernel
theorem dX2_goBlack_0 : decode cX2_goBlack 0 = .ok (.aload_n 0, 1) := by decide +kernel
theorem dX2_goBlack_1 : decode cX2_goBlack 1 = .ok (.iload_n 1, 1) := by decide +kernel
theorem dX2_goBlack_2 : decode cX2_goBlack 2 = .ok (.putfield 21, 3) := by decide +kernel
theorem dX2_goBlack_5 : decode cX2_goBlack 5 = .ok (.aload_n 0, 1) := by decide +kernel
theorem dX2_goBlack_6 : decode cX2_goBlack 6 = .ok (.getfield 9, 3) := by decide +kernel
theorem dX2_goBlack_9 : decode cX2_goBlack 9 = .ok (.ifCond .eq 21, 3) := by decide +kernel
theorem dX2_goBlack_12 : decode cX2_goBlack 12 = .ok (.iload_n 1, 1) := by decide +kernel
theorem dX2_goBlack_13 : decode cX2_goBlack 13 = .ok (.aload_n 0, 1) := by decide +kernel
theorem dX2_goBlack_14 : decode cX2_goBlack 14 = .ok (.getfield 18, 3) := by decide +kernel
theorem dX2_goBlack_17 : decode cX2_goBlack 17 = .ok (.if_icmp .ne 13, 3) := by decide +kernel
theorem dX2_goBlack_20 : decode cX2_goBlack 20 = .ok (.aload_n 0, 1) := by decide +kernel
theorem dX2_goBlack_21 : decode cX2_goBlack 21 = .ok (.iconst 0, 1) := by decide +kernel
theorem dX2_goBlack_22 : decode cX2_goBlack 22 = .ok (.putfield 9, 3) := by decide +kernel
theorem dX2_goBlack_25 : decode cX2_goBlack 25 = .ok (.aload_n 0, 1) := by decide +kernel
theorem dX2_goBlack_26 : decode cX2_goBlack 26 = .ok (.iconst (-1), 1) := by decide +kernel
theorem dX2_goBlack_27 : decode cX2_goBlack 27 = .ok (.putfield 18, 3) := by decide +kernel
theorem dX2_goBlack_30 : decode cX2_goBlack 30 = .ok (.return_, 1) := by decide +kernel
theorem dX3_init_0 : decode cX3_init 0 = .ok (.aload_n 0, 1) := by decide +kernel
theorem dX3_init_1 : decode cX3_init 1 = .ok (.invokespecial 3, 3) := by decide +kernel
theorem dX3_init_4 : decode cX3_init 4 = .ok (.aload_n 0, 1) := by decide +kernel
theorem dX3_init_5 : decode cX3_init 5 = .ok (.aload_n 1, 1) := by decide +kernel
theorem dX3_init_6 : decode cX3_init 6 = .ok (.putfield 9, 3) := by decide +kernel
theorem dX3_init_9 : decode cX3_init 9 = .ok (.aload_n 0, 1) := by decide +kernel
theorem dX3_init_10 : decode cX3_init 10 = .ok (.iload_n 2, 1) := by decide +kernel
theorem dX3_init_11 : decode cX3_init 11 = .ok (.putfield 15, 3) := by decide +kernel
theorem dX3_init_14 : decode cX3_init 14 = .ok (.iconst 0, 1) := by decide +kernel
theorem dX3_init_15 : decode cX3_init 15 = .ok (.aload_n 1, 1) := by decide +kernel
theorem dX3_init_16 : decode cX3_init 16 = .ok (.getfield 19, 3) := by decide +kernel
theorem dX3_init_19 : decode cX3_init 19 = .ok (.bipush 64, 2) := by decide +kernel
theorem dX3_init_21 : decode cX3_init 21 = .ok (.invokestatic 24, 3) := by decide +kernel
theorem dX3_init_24 : decode cX3_init 24 = .ok (.invokestatic 30, 3) := by decide +kernel
theorem dX3_init_27 : decode cX3_init 27 = .ok (.istore_n 3, 1) := by decide +kernel
theorem dX3_init_28 : decode cX3_init 28 = .ok (.aload_n 0, 1) := by decide +kernel
theorem dX3_init_29 : decode cX3_init 29 = .ok (.iload_n 3, 1) := by decide +kernel
theorem dX3_init_30 : decode cX3_init 30 = .ok (.iload_n 3, 1) := by decide +kernel
theorem dX3_init_31 : decode cX3_init 31 = .ok (.imul, 1) := by decide +kernel
theorem dX3_init_32 : decode cX3_init 32 = .ok (.putfield 33, 3) := by decide +kernel
theorem dX3_init_35 : decode cX3_init 35 = .ok (.aload_n 0, 1) := by decide +kernel
theorem dX3_init_36 : decode cX3_init 36 = .ok (.iconst 2, 1) := by decide +kernel
theorem dX3_init_37 : decode cX3_init 37 = .ok (.aload_n 0, 1) := by decide +kernel
theorem dX3_init_38 : decode cX3_init 38 = .ok (.getfield 33, 3) := by decide +kernel
theorem dX3_init_41 : decode cX3_init 41 = .ok (.imul, 1) := by decide +kernel
theorem dX3_init_42 : decode cX3_init 42 = .ok (.newarray .long, 2) := by decide +kernel
theorem dX3_init_44 : decode cX3_init 44 = .ok (.putfield 36, 3) := by decide +kernel
theorem dX3_init_47 : decode cX3_init 47 = .ok (.aload_n 0, 1) := by decide +kernel
theorem dX3_init_48 : decode cX3_init 48 = .ok (.iconst 2, 1) := by decide +kernel
theorem dX3_init_49 : decode cX3_init 49 = .ok (.aload_n 0, 1) := by decide +kernel
theorem dX3_init_50 : decode cX3_init 50 = .ok (.getfield 33, 3) := by decide +kernel
theorem dX3_init_53 : decode cX3_init 53 = .ok (.imul, 1) := by decide +kernel
theorem dX3_init_54 : decode cX3_init 54 = .ok (.newarray .long, 2) := by decide +kernel
theorem dX3_init_56 : decode cX3_init 56 = .ok (.putfield 40, 3) := by decide +kernel
theorem dX3_init_59 : decode cX3_init 59 = .ok (.aload_n 0, 1) := by decide +kernel
theorem dX3_init_60 : decode cX3_init 60 = .ok (.iconst 2, 1) := by decide +kernel
theorem dX3_init_61 : decode cX3_init 61 = .ok (.aload_n 0, 1) := by decide +kernel
theorem dX3_init_62 : decode cX3_init 62 = .ok (.getfield 33, 3) := by decide +kernel
theorem dX3_init_65 : decode cX3_init 65 = .ok (.imul, 1) := by decide +kernel
theorem dX3_init_66 : decode cX3_init 66 = .ok (.newarray .long, 2) := by decide +kernel
theorem dX3_init_68 : decode cX3_init 68 = .ok (.putfield 43, 3) := by decide +kernel
theorem dX3_init_71 : decode cX3_init 71 = .ok (.aload_n 0, 1) := by decide +kernel
theorem dX3_init_72 : decode cX3_init 72 = .ok (.iconst 2, 1) := by decide +kernel
theorem dX3_init_73 : decode cX3_init 73 = .ok (.aload_n 0, 1) := by decide +kernel
theorem dX3_init_74 : decode cX3_init 74 = .ok (.getfield 33, 3) := by decide +kernel
theorem dX3_init_77 : decode cX3_init 77 = .ok (.imul, 1) := by decide +kernel
theorem dX3_init_78 : decode cX3_init 78 = .ok (.iconst 5, 1) := by decide +kernel
theorem dX3_init_79 : decode cX3_init 79 = .ok (.imul, 1) := by decide +kernel
theorem dX3_init_80 : decode cX3_init 80 = .ok (.newarray .long, 2) := by decide +kernel
theorem dX3_init_82 : decode cX3_init 82 = .ok (.putfield 46, 3) := by decide +kernel
theorem dX3_init_85 : decode cX3_init 85 = .ok (.aload_n 0, 1) := by decide +kernel
theorem dX3_init_86 : decode cX3_init 86 = .ok (.iconst (-1), 1) := by decide +kernel
theorem dX3_init_87 : decode cX3_init 87 = .ok (.putfield 49, 3) := by decide +kernel
theorem dX3_init_90 : decode cX3_init 90 = .ok (.aload_n 0, 1) := by decide +kernel
theorem dX3_init_91 : decode cX3_init 91 = .ok (.iconst 0, 1) := by decide +kernel
theorem dX3_init_92 : decode cX3_init 92 = .ok (.putfield 52, 3) := by decide +kernel
theorem dX3_init_95 : decode cX3_init 95 = .ok (.return_, 1) := by decide +kernel
theorem dX3_rowOf_0 : decode cX3_rowOf 0 = .ok (.iload_n 1, 1) := by decide +kernel
theorem dX3_rowOf_1 : decode cX3_rowOf 1 = .ok (.aload_n 0, 1) := by decide +kernel
theorem dX3_rowOf_2 : decode cX3_rowOf 2 = .ok (.getfield 33, 3) := by decide +kernel
theorem dX3_rowOf_5 : decode cX3_rowOf 5 = .ok (.imul, 1) := by decide +kernel
theorem dX3_rowOf_6 : decode cX3_rowOf 6 = .ok (.iload_n 2, 1) := by decide +kernel
theorem dX3_rowOf_7 : decode cX3_rowOf 7 = .ok (.aload_n 0, 1) := by decide +kernel
theorem dX3_rowOf_8 : decode cX3_rowOf 8 = .ok (.getfield 9, 3) := by decide +kernel
theorem dX3_rowOf_11 : decode cX3_rowOf 11 = .ok (.getfield 19, 3) := by decide +kernel
theorem dX3_rowOf_14 : decode cX3_rowOf 14 = .ok (.imul, 1) := by decide +kernel
theorem dX3_rowOf_15 : decode cX3_rowOf 15 = .ok (.iadd, 1) := by decide +kernel
theorem dX3_rowOf_16 : decode cX3_rowOf 16 = .ok (.iload_n 3, 1) := by decide +kernel
theorem dX3_rowOf_17 : decode cX3_rowOf 17 = .ok (.iadd, 1) := by decide +kernel
theorem dX3_rowOf_18 : decode cX3_rowOf 18 = .ok (.ireturn, 1) := by decide +kernel
theorem dX3_at_0 : decode cX3_at 0 = .ok (.iload_n 1, 1) := by decide +kernel
theorem dX3_at_1 : decode cX3_at 1 = .ok (.ifCond .lt 9, 3) := by decide +kernel
theorem dX3_at_4 : decode cX3_at 4 = .ok (.iload_n 1, 1) := by decide +kernel
theorem dX3_at_5 : decode cX3_at 5 = .ok (.aload_n 0, 1) := by decide +kernel
theorem dX3_at_6 : decode cX3_at 6 = .ok (.arraylength, 1) := by decide +kernel
theorem dX3_at_7 : decode cX3_at 7 = .ok (.if_icmp .lt 7, 3) := by decide +kernel
theorem dX3_at_10 : decode cX3_at 10 = .ok (.lconst 0, 1) := by decide +kernel
theorem dX3_at_11 : decode cX3_at 11 = .ok (.goto 6, 3) := by decide +kernel
theorem dX3_at_14 : decode cX3_at 14 = .ok (.aload_n 0, 1) := by decide +kernel
theorem dX3_at_15 : decode cX3_at 15 = .ok (.iload_n 1, 1) := by decide +kernel
theorem dX3_at_16 : decode cX3_at 16 = .ok (.laload, 1) := by decide +kernel
theorem dX3_at_17 : decode cX3_at 17 = .ok (.lreturn, 1) := by decide +kernel
theorem dX3_put_0 : decode cX3_put 0 = .ok (.iload_n 1, 1) := by decide +kernel
theorem dX3_put_1 : decode cX3_put 1 = .ok (.ifCond .lt 13, 3) := by decide +kernel
theorem dX3_put_4 : decode cX3_put 4 = .ok (.iload_n 1, 1) := by decide +kernel
theorem dX3_put_5 : decode cX3_put 5 = .ok (.aload_n 0, 1) := by decide +kernel
theorem dX3_put_6 : decode cX3_put 6 = .ok (.arraylength, 1) := by decide +kernel
theorem dX3_put_7 : decode cX3_put 7 = .ok (.if_icmp .ge 7, 3) := by decide +kernel
theorem dX3_put_10 : decode cX3_put 10 = .ok (.aload_n 0, 1) := by decide +kernel
theorem dX3_put_11 : decode cX3_put 11 = .ok (.iload_n 1, 1) := by decide +kernel
theorem dX3_put_12 : decode cX3_put 12 = .ok (.lload_n 2, 1) := by decide +kernel
theorem dX3_put_13 : decode cX3_put 13 = .ok (.lastore, 1) := by decide +kernel
theorem dX3_put_14 : decode cX3_put 14 = .ok (.return_, 1) := by decide +kernel
theorem dX3_add_0 : decode cX3_add 0 = .ok (.iload_n 1, 1) := by decide +kernel
theorem dX3_add_1 : decode cX3_add 1 = .ok (.ifCond .lt 16, 3) := by decide +kernel
theorem dX3_add_4 : decode cX3_add 4 = .ok (.iload_n 1, 1) := by decide +kernel
theorem dX3_add_5 : decode cX3_add 5 = .ok (.aload_n 0, 1) := by decide +kernel
theorem dX3_add_6 : decode cX3_add 6 = .ok (.arraylength, 1) := by decide +kernel
theorem dX3_add_7 : decode cX3_add 7 = .ok (.if_icmp .ge 10, 3) := by decide +kernel
theorem dX3_add_10 : decode cX3_add 10 = .ok (.aload_n 0, 1) := by decide +kernel
theorem dX3_add_11 : decode cX3_add 11 = .ok (.iload_n 1, 1) := by decide +kernel
theorem dX3_add_12 : decode cX3_add 12 = .ok (.dup2, 1) := by decide +kernel
theorem dX3_add_13 : decode cX3_add 13 = .ok (.laload, 1) := by decide +kernel
theorem dX3_add_14 : decode cX3_add 14 = .ok (.lload_n 2, 1) := by decide +kernel
theorem dX3_add_15 : decode cX3_add 15 = .ok (.lor, 1) := by decide +kernel
theorem dX3_add_16 : decode cX3_add 16 = .ok (.lastore, 1) := by decide +kernel
theorem dX3_add_17 : decode cX3_add 17 = .ok (.return_, 1) := by decide +kernel
theorem dX3_plies_0 : decode cX3_plies 0 = .ok (.aload_n 0, 1) := by decide +kernel
theorem dX3_plies_1 : decode cX3_plies 1 = .ok (.iload_n 1, 1) := by decide +kernel
theorem dX3_plies_2 : decode cX3_plies 2 = .ok (.iload_n 2, 1) := by decide +kernel
theorem dX3_plies_3 : decode cX3_plies 3 = .ok (.iload_n 3, 1) := by decide +kernel
theorem dX3_plies_4 : decode cX3_plies 4 = .ok (.invokevirtual 56, 3) := by decide +kernel
theorem dX3_plies_7 : decode cX3_plies 7 = .ok (.istore 5, 2) := by decide +kernel
theorem dX3_plies_9 : decode cX3_plies 9 = .ok (.aload_n 0, 1) := by decide +kernel
theorem dX3_plies_10 : decode cX3_plies 10 = .ok (.getfield 40, 3) := by decide +kernel
theorem dX3_plies_13 : decode cX3_plies 13 = .ok (.iload 5, 2) := by decide +kernel
theorem dX3_plies_15 : decode cX3_plies 15 = .ok (.invokestatic 60, 3) := by decide +kernel
theorem dX3_plies_18 : decode cX3_plies 18 = .ok (.iload 4, 2) := by decide +kernel
theorem dX3_plies_20 : decode cX3_plies 20 = .ok (.invokestatic 64, 3) := by decide +kernel
theorem dX3_plies_23 : decode cX3_plies 23 = .ok (.land, 1) := by decide +kernel
theorem dX3_plies_24 : decode cX3_plies 24 = .ok (.lconst 0, 1) := by decide +kernel
theorem dX3_plies_25 : decode cX3_plies 25 = .ok (.lcmp, 1) := by decide +kernel
theorem dX3_plies_26 : decode cX3_plies 26 = .ok (.ifCond .ne 5, 3) := by decide +kernel
theorem dX3_plies_29 : decode cX3_plies 29 = .ok (.iconst (-1), 1) := by decide +kernel
theorem dX3_plies_30 : decode cX3_plies 30 = .ok (.ireturn, 1) := by decide +kernel
theorem dX3_plies_31 : decode cX3_plies 31 = .ok (.iconst 0, 1) := by decide +kernel
theorem dX3_plies_32 : decode cX3_plies 32 = .ok (.istore 6, 2) := by decide +kernel
theorem dX3_plies_34 : decode cX3_plies 34 = .ok (.iconst 0, 1) := by decide +kernel
theorem dX3_plies_35 : decode cX3_plies 35 = .ok (.istore 7, 2) := by decide +kernel
theorem dX3_plies_37 : decode cX3_plies 37 = .ok (.iload 7, 2) := by decide +kernel
theorem dX3_plies_39 : decode cX3_plies 39 = .ok (.iconst 5, 1) := by decide +kernel
theorem dX3_plies_40 : decode cX3_plies 40 = .ok (.if_icmp .ge 48, 3) := by decide +kernel
theorem dX3_plies_43 : decode cX3_plies 43 = .ok (.aload_n 0, 1) := by decide +kernel
theorem dX3_plies_44 : decode cX3_plies 44 = .ok (.getfield 46, 3) := by decide +kernel
theorem dX3_plies_47 : decode cX3_plies 47 = .ok (.iload 7, 2) := by decide +kernel
theorem dX3_plies_49 : decode cX3_plies 49 = .ok (.iconst 2, 1) := by decide +kernel
theorem dX3_plies_50 : decode cX3_plies 50 = .ok (.imul, 1) := by decide +kernel
theorem dX3_plies_51 : decode cX3_plies 51 = .ok (.aload_n 0, 1) := by decide +kernel
theorem dX3_plies_52 : decode cX3_plies 52 = .ok (.getfield 33, 3) := by decide +kernel
theorem dX3_plies_55 : decode cX3_plies 55 = .ok (.imul, 1) := by decide +kernel
theorem dX3_plies_56 : decode cX3_plies 56 = .ok (.iload 5, 2) := by decide +kernel
theorem dX3_plies_58 : decode cX3_plies 58 = .ok (.iadd, 1) := by decide +kernel
theorem dX3_plies_59 : decode cX3_plies 59 = .ok (.invokestatic 60, 3) := by decide +kernel
theorem dX3_plies_62 : decode cX3_plies 62 = .ok (.iload 4, 2) := by decide +kernel
theorem dX3_plies_64 : decode cX3_plies 64 = .ok (.invokestatic 64, 3) := by decide +kernel
theorem dX3_plies_67 : decode cX3_plies 67 = .ok (.land, 1) := by decide +kernel
theorem dX3_plies_68 : decode cX3_plies 68 = .ok (.lconst 0, 1) := by decide +kernel
theorem dX3_plies_69 : decode cX3_plies 69 = .ok (.lcmp, 1) := by decide +kernel
theorem dX3_plies_70 : decode cX3_plies 70 = .ok (.ifCond .eq 12, 3) := by decide +kernel
theorem dX3_plies_73 : decode cX3_plies 73 = .ok (.iload 6, 2) := by decide +kernel
theorem dX3_plies_75 : decode cX3_plies 75 = .ok (.iconst 1, 1) := by decide +kernel
theorem dX3_plies_76 : decode cX3_plies 76 = .ok (.iload 7, 2) := by decide +kernel
theorem dX3_plies_78 : decode cX3_plies 78 = .ok (.ishl, 1) := by decide +kernel
theorem dX3_plies_79 : decode cX3_plies 79 = .ok (.ior, 1) := by decide +kernel
theorem dX3_plies_80 : decode cX3_plies 80 = .ok (.istore 6, 2) := by decide +kernel
theorem dX3_plies_82 : decode cX3_plies 82 = .ok (.iinc 7 1, 3) := by decide +kernel
theorem dX3_plies_85 : decode cX3_plies 85 = .ok (.goto (-48), 3) := by decide +kernel
theorem dX3_plies_88 : decode cX3_plies 88 = .ok (.iload_n 1, 1) := by decide +kernel
theorem dX3_plies_89 : decode cX3_plies 89 = .ok (.iload 6, 2) := by decide +kernel
theorem dX3_plies_91 : decode cX3_plies 91 = .ok (.invokestatic 68, 3) := by decide +kernel
theorem dX3_plies_94 : decode cX3_plies 94 = .ok (.ireturn, 1) := by decide +kernel
theorem dX3_pliesFor_0 : decode cX3_pliesFor 0 = .ok (.iload_n 0, 1) := by decide +kernel
theorem dX3_pliesFor_1 : decode cX3_pliesFor 1 = .ok (.ifCond .ne 11, 3) := by decide +kernel
theorem dX3_pliesFor_4 : decode cX3_pliesFor 4 = .ok (.iconst 2, 1) := by decide +kernel
theorem dX3_pliesFor_5 : decode cX3_pliesFor 5 = .ok (.iload_n 1, 1) := by decide +kernel
theorem dX3_pliesFor_6 : decode cX3_pliesFor 6 = .ok (.imul, 1) := by decide +kernel
theorem dX3_pliesFor_7 : decode cX3_pliesFor 7 = .ok (.iconst 1, 1) := by decide +kernel
theorem dX3_pliesFor_8 : decode cX3_pliesFor 8 = .ok (.iadd, 1) := by decide +kernel
theorem dX3_pliesFor_9 : decode cX3_pliesFor 9 = .ok (.goto 6, 3) := by decide +kernel
theorem dX3_pliesFor_12 : decode cX3_pliesFor 12 = .ok (.iconst 2, 1) := by decide +kernel
theorem dX3_pliesFor_13 : decode cX3_pliesFor 13 = .ok (.iload_n 1, 1) := by decide +kernel
theorem dX3_pliesFor_14 : decode cX3_pliesFor 14 = .ok (.imul, 1) := by decide +kernel
theorem dX3_pliesFor_15 : decode cX3_pliesFor 15 = .ok (.ireturn, 1) := by decide +kernel
theorem dX3_having_0 : decode cX3_having 0 = .ok (.iload_n 3, 1) := by decide +kernel
theorem dX3_having_1 : decode cX3_having 1 = .ok (.iconst (-1), 1) := by decide +kernel
theorem dX3_having_2 : decode cX3_having 2 = .ok (.if_icmp .ne 25, 3) := by decide +kernel
theorem dX3_having_5 : decode cX3_having 5 = .ok (.aload_n 0, 1) := by decide +kernel
theorem dX3_having_6 : decode cX3_having 6 = .ok (.getfield 36, 3) := by decide +kernel
theorem dX3_having_9 : decode cX3_having 9 = .ok (.iload_n 2, 1) := by decide +kernel
theorem dX3_having_10 : decode cX3_having 10 = .ok (.invokestatic 60, 3) := by decide +kernel
theorem dX3_having_13 : decode cX3_having 13 = .ok (.aload_n 0, 1) := by decide +kernel
theorem dX3_having_14 : decode cX3_having 14 = .ok (.getfield 40, 3) := by decide +kernel
theorem dX3_having_17 : decode cX3_having 17 = .ok (.iload_n 2, 1) := by decide +kernel
theorem dX3_having_18 : decode cX3_having 18 = .ok (.invokestatic 60, 3) := by decide +kernel
theorem dX3_having_21 : decode cX3_having 21 = .ok (.ldc2_w 71, 3) := by decide +kernel
theorem dX3_having_24 : decode cX3_having 24 = .ok (.lxor, 1) := by decide +kernel
theorem dX3_having_25 : decode cX3_having 25 = .ok (.land, 1) := by decide +kernel
theorem dX3_having_26 : decode cX3_having 26 = .ok (.lreturn, 1) := by decide +kernel
theorem dX3_having_27 : decode cX3_having 27 = .ok (.iload_n 3, 1) := by decide +kernel
theorem dX3_having_28 : decode cX3_having 28 = .ok (.iconst 1, 1) := by decide +kernel
theorem dX3_having_29 : decode cX3_having 29 = .ok (.ishr, 1) := by decide +kernel
theorem dX3_having_30 : decode cX3_having 30 = .ok (.istore 4, 2) := by decide +kernel
theorem dX3_having_32 : decode cX3_having 32 = .ok (.iload_n 3, 1) := by decide +kernel
theorem dX3_having_33 : decode cX3_having 33 = .ok (.ifCond .lt 20, 3) := by decide +kernel
theorem dX3_having_36 : decode cX3_having 36 = .ok (.iload 4, 2) := by decide +kernel
theorem dX3_having_38 : decode cX3_having 38 = .ok (.bipush 32, 2) := by decide +kernel
theorem dX3_having_40 : decode cX3_having 40 = .ok (.if_icmp .ge 13, 3) := by decide +kernel
theorem dX3_having_43 : decode cX3_having 43 = .ok (.iload_n 1, 1) := by decide +kernel
theorem dX3_having_44 : decode cX3_having 44 = .ok (.iload 4, 2) := by decide +kernel
theorem dX3_having_46 : decode cX3_having 46 = .ok (.invokestatic 68, 3) := by decide +kernel
theorem dX3_having_49 : decode cX3_having 49 = .ok (.iload_n 3, 1) := by decide +kernel
theorem dX3_having_50 : decode cX3_having 50 = .ok (.if_icmp .eq 5, 3) := by decide +kernel
theorem dX3_having_53 : decode cX3_having 53 = .ok (.lconst 0, 1) := by decide +kernel
theorem dX3_having_54 : decode cX3_having 54 = .ok (.lreturn, 1) := by decide +kernel
theorem dX3_having_55 : decode cX3_having 55 = .ok (.aload_n 0, 1) := by decide +kernel
theorem dX3_having_56 : decode cX3_having 56 = .ok (.getfield 40, 3) := by decide +kernel
theorem dX3_having_59 : decode cX3_having 59 = .ok (.iload_n 2, 1) := by decide +kernel
theorem dX3_having_60 : decode cX3_having 60 = .ok (.invokestatic 60, 3) := by decide +kernel
theorem dX3_having_63 : decode cX3_having 63 = .ok (.lstore 5, 2) := by decide +kernel
theorem dX3_having_65 : decode cX3_having 65 = .ok (.iconst 0, 1) := by decide +kernel
theorem dX3_having_66 : decode cX3_having 66 = .ok (.istore 7, 2) := by decide +kernel
theorem dX3_having_68 : decode cX3_having 68 = .ok (.iload 7, 2) := by decide +kernel
theorem dX3_having_70 : decode cX3_having 70 = .ok (.iconst 5, 1) := by decide +kernel
theorem dX3_having_71 : decode cX3_having 71 = .ok (.if_icmp .ge 56, 3) := by decide +kernel
theorem dX3_having_74 : decode cX3_having 74 = .ok (.aload_n 0, 1) := by decide +kernel
theorem dX3_having_75 : decode cX3_having 75 = .ok (.getfield 46, 3) := by decide +kernel
theorem dX3_having_78 : decode cX3_having 78 = .ok (.iload 7, 2) := by decide +kernel
theorem dX3_having_80 : decode cX3_having 80 = .ok (.iconst 2, 1) := by decide +kernel
theorem dX3_having_81 : decode cX3_having 81 = .ok (.imul, 1) := by decide +kernel
theorem dX3_having_82 : decode cX3_having 82 = .ok (.aload_n 0, 1) := by decide +kernel
theorem dX3_having_83 : decode cX3_having 83 = .ok (.getfield 33, 3) := by decide +kernel
theorem dX3_having_86 : decode cX3_having 86 = .ok (.imul, 1) := by decide +kernel
theorem dX3_having_87 : decode cX3_having 87 = .ok (.iload_n 2, 1) := by decide +kernel
theorem dX3_having_88 : decode cX3_having 88 = .ok (.iadd, 1) := by decide +kernel
theorem dX3_having_89 : decode cX3_having 89 = .ok (.invokestatic 60, 3) := by decide +kernel
theorem dX3_having_92 : decode cX3_having 92 = .ok (.lstore 8, 2) := by decide +kernel
theorem dX3_having_94 : decode cX3_having 94 = .ok (.lload 5, 2) := by decide +kernel
theorem dX3_having_96 : decode cX3_having 96 = .ok (.iload 4, 2) := by decide +kernel
theorem dX3_having_98 : decode cX3_having 98 = .ok (.iload 7, 2) := by decide +kernel
theorem dX3_having_100 : decode cX3_having 100 = .ok (.ishr, 1) := by decide +kernel
theorem dX3_having_101 : decode cX3_having 101 = .ok (.iconst 1, 1) := by decide +kernel
theorem dX3_having_102 : decode cX3_having 102 = .ok (.iand, 1) := by decide +kernel
theorem dX3_having_103 : decode cX3_having 103 = .ok (.iconst 1, 1) := by decide +kernel
theorem dX3_having_104 : decode cX3_having 104 = .ok (.if_icmp .ne 8, 3) := by decide +kernel
theorem dX3_having_107 : decode cX3_having 107 = .ok (.lload 8, 2) := by decide +kernel
theorem dX3_having_109 : decode cX3_having 109 = .ok (.goto 9, 3) := by decide +kernel
theorem dX3_having_112 : decode cX3_having 112 = .ok (.lload 8, 2) := by decide +kernel
theorem dX3_having_114 : decode cX3_having 114 = .ok (.ldc2_w 71, 3) := by decide +kernel
theorem dX3_having_117 : decode cX3_having 117 = .ok (.lxor, 1) := by decide +kernel
theorem dX3_having_118 : decode cX3_having 118 = .ok (.land, 1) := by decide +kernel
theorem dX3_having_119 : decode cX3_having 119 = .ok (.lstore 5, 2) := by decide +kernel
theorem dX3_having_121 : decode cX3_having 121 = .ok (.iinc 7 1, 3) := by decide +kernel
theorem dX3_having_124 : decode cX3_having 124 = .ok (.goto (-56), 3) := by decide +kernel
theorem dX3_having_127 : decode cX3_having 127 = .ok (.lload 5, 2) := by decide +kernel
theorem dX3_having_129 : decode cX3_having 129 = .ok (.lreturn, 1) := by decide +kernel
theorem dX3_amount_0 : decode cX3_amount 0 = .ok (.iconst 0, 1) := by decide +kernel
theorem dX3_amount_1 : decode cX3_amount 1 = .ok (.istore_n 3, 1) := by decide +kernel
theorem dX3_amount_2 : decode cX3_amount 2 = .ok (.iconst 0, 1) := by decide +kernel
theorem dX3_amount_3 : decode cX3_amount 3 = .ok (.istore 4, 2) := by decide +kernel
theorem dX3_amount_5 : decode cX3_amount 5 = .ok (.iload 4, 2) := by decide +kernel
theorem dX3_amount_7 : decode cX3_amount 7 = .ok (.aload_n 0, 1) := by decide +kernel
theorem dX3_amount_8 : decode cX3_amount 8 = .ok (.getfield 33, 3) := by decide +kernel
theorem dX3_amount_11 : decode cX3_amount 11 = .ok (.if_icmp .ge 30, 3) := by decide +kernel
theorem dX3_amount_14 : decode cX3_amount 14 = .ok (.iload_n 3, 1) := by decide +kernel
theorem dX3_amount_15 : decode cX3_amount 15 = .ok (.aload_n 0, 1) := by decide +kernel
theorem dX3_amount_16 : decode cX3_amount 16 = .ok (.iload_n 1, 1) := by decide +kernel
theorem dX3_amount_17 : decode cX3_amount 17 = .ok (.iload_n 1, 1) := by decide +kernel
theorem dX3_amount_18 : decode cX3_amount 18 = .ok (.aload_n 0, 1) := by decide +kernel
theorem dX3_amount_19 : decode cX3_amount 19 = .ok (.getfield 33, 3) := by decide +kernel
theorem dX3_amount_22 : decode cX3_amount 22 = .ok (.imul, 1) := by decide +kernel
theorem dX3_amount_23 : decode cX3_amount 23 = .ok (.iload 4, 2) := by decide +kernel
theorem dX3_amount_25 : decode cX3_amount 25 = .ok (.iadd, 1) := by decide +kernel
theorem dX3_amount_26 : decode cX3_amount 26 = .ok (.iload_n 2, 1) := by decide +kernel
theorem dX3_amount_27 : decode cX3_amount 27 = .ok (.invokevirtual 73, 3) := by decide +kernel
theorem dX3_amount_30 : decode cX3_amount 30 = .ok (.invokestatic 77, 3) := by decide +kernel
theorem dX3_amount_33 : decode cX3_amount 33 = .ok (.iadd, 1) := by decide +kernel
theorem dX3_amount_34 : decode cX3_amount 34 = .ok (.istore_n 3, 1) := by decide +kernel
theorem dX3_amount_35 : decode cX3_amount 35 = .ok (.iinc 4 1, 3) := by decide +kernel
theorem dX3_amount_38 : decode cX3_amount 38 = .ok (.goto (-33), 3) := by decide +kernel
theorem dX3_amount_41 : decode cX3_amount 41 = .ok (.iload_n 3, 1) := by decide +kernel
theorem dX3_amount_42 : decode cX3_amount 42 = .ok (.ireturn, 1) := by decide +kernel
theorem dX3_pick_0 : decode cX3_pick 0 = .ok (.iload_n 3, 1) := by decide +kernel
theorem dX3_pick_1 : decode cX3_pick 1 = .ok (.istore 4, 2) := by decide +kernel
theorem dX3_pick_3 : decode cX3_pick 3 = .ok (.iconst 0, 1) := by decide +kernel
theorem dX3_pick_4 : decode cX3_pick 4 = .ok (.istore 5, 2) := by decide +kernel
theorem dX3_pick_6 : decode cX3_pick 6 = .ok (.iload 5, 2) := by decide +kernel
theorem dX3_pick_8 : decode cX3_pick 8 = .ok (.aload_n 0, 1) := by decide +kernel
theorem dX3_pick_9 : decode cX3_pick 9 = .ok (.getfield 9, 3) := by decide +kernel
theorem dX3_pick_12 : decode cX3_pick 12 = .ok (.getfield 19, 3) := by decide +kernel
theorem dX3_pick_15 : decode cX3_pick 15 = .ok (.if_icmp .ge 122, 3) := by decide +kernel
theorem dX3_pick_18 : decode cX3_pick 18 = .ok (.iload 4, 2) := by decide +kernel
theorem dX3_pick_20 : decode cX3_pick 20 = .ok (.ifCond .lt 117, 3) := by decide +kernel
theorem dX3_pick_23 : decode cX3_pick 23 = .ok (.iconst 0, 1) := by decide +kernel
theorem dX3_pick_24 : decode cX3_pick 24 = .ok (.istore 6, 2) := by decide +kernel
theorem dX3_pick_26 : decode cX3_pick 26 = .ok (.iload 6, 2) := by decide +kernel
theorem dX3_pick_28 : decode cX3_pick 28 = .ok (.aload_n 0, 1) := by decide +kernel
theorem dX3_pick_29 : decode cX3_pick 29 = .ok (.getfield 9, 3) := by decide +kernel
theorem dX3_pick_32 : decode cX3_pick 32 = .ok (.getfield 19, 3) := by decide +kernel
theorem dX3_pick_35 : decode cX3_pick 35 = .ok (.if_icmp .ge 96, 3) := by decide +kernel
theorem dX3_pick_38 : decode cX3_pick 38 = .ok (.aload_n 0, 1) := by decide +kernel
theorem dX3_pick_39 : decode cX3_pick 39 = .ok (.iload_n 1, 1) := by decide +kernel
theorem dX3_pick_40 : decode cX3_pick 40 = .ok (.aload_n 0, 1) := by decide +kernel
theorem dX3_pick_41 : decode cX3_pick 41 = .ok (.iload_n 1, 1) := by decide +kernel
theorem dX3_pick_42 : decode cX3_pick 42 = .ok (.iload 5, 2) := by decide +kernel
theorem dX3_pick_44 : decode cX3_pick 44 = .ok (.iload 6, 2) := by decide +kernel
theorem dX3_pick_46 : decode cX3_pick 46 = .ok (.invokevirtual 56, 3) := by decide +kernel
theorem dX3_pick_49 : decode cX3_pick 49 = .ok (.iload_n 2, 1) := by decide +kernel
theorem dX3_pick_50 : decode cX3_pick 50 = .ok (.invokevirtual 73, 3) := by decide +kernel
theorem dX3_pick_53 : decode cX3_pick 53 = .ok (.lstore 7, 2) := by decide +kernel
theorem dX3_pick_55 : decode cX3_pick 55 = .ok (.lload 7, 2) := by decide +kernel
theorem dX3_pick_57 : decode cX3_pick 57 = .ok (.invokestatic 77, 3) := by decide +kernel
theorem dX3_pick_60 : decode cX3_pick 60 = .ok (.istore 9, 2) := by decide +kernel
theorem dX3_pick_62 : decode cX3_pick 62 = .ok (.iload 4, 2) := by decide +kernel
theorem dX3_pick_64 : decode cX3_pick 64 = .ok (.iload 9, 2) := by decide +kernel
theorem dX3_pick_66 : decode cX3_pick 66 = .ok (.if_icmp .ge 52, 3) := by decide +kernel
theorem dX3_pick_69 : decode cX3_pick 69 = .ok (.lload 7, 2) := by decide +kernel
theorem dX3_pick_71 : decode cX3_pick 71 = .ok (.iload 4, 2) := by decide +kernel
theorem dX3_pick_73 : decode cX3_pick 73 = .ok (.invokestatic 83, 3) := by decide +kernel
theorem dX3_pick_76 : decode cX3_pick 76 = .ok (.invokestatic 87, 3) := by decide +kernel
theorem dX3_pick_79 : decode cX3_pick 79 = .ok (.istore 10, 2) := by decide +kernel
theorem dX3_pick_81 : decode cX3_pick 81 = .ok (.aload_n 0, 1) := by decide +kernel
theorem dX3_pick_82 : decode cX3_pick 82 = .ok (.getfield 9, 3) := by decide +kernel
theorem dX3_pick_85 : decode cX3_pick 85 = .ok (.iload 5, 2) := by decide +kernel
theorem dX3_pick_87 : decode cX3_pick 87 = .ok (.invokevirtual 90, 3) := by decide +kernel
theorem dX3_pick_90 : decode cX3_pick 90 = .ok (.bipush 64, 2) := by decide +kernel
theorem dX3_pick_92 : decode cX3_pick 92 = .ok (.aload_n 0, 1) := by decide +kernel
theorem dX3_pick_93 : decode cX3_pick 93 = .ok (.getfield 9, 3) := by decide +kernel
theorem dX3_pick_96 : decode cX3_pick 96 = .ok (.iload 6, 2) := by decide +kernel
theorem dX3_pick_98 : decode cX3_pick 98 = .ok (.invokevirtual 90, 3) := by decide +kernel
theorem dX3_pick_101 : decode cX3_pick 101 = .ok (.imul, 1) := by decide +kernel
theorem dX3_pick_102 : decode cX3_pick 102 = .ok (.iadd, 1) := by decide +kernel
theorem dX3_pick_103 : decode cX3_pick 103 = .ok (.sipush 4096, 3) := by decide +kernel
theorem dX3_pick_106 : decode cX3_pick 106 = .ok (.aload_n 0, 1) := by decide +kernel
theorem dX3_pick_107 : decode cX3_pick 107 = .ok (.getfield 9, 3) := by decide +kernel
theorem dX3_pick_110 : decode cX3_pick 110 = .ok (.iload 10, 2) := by decide +kernel
theorem dX3_pick_112 : decode cX3_pick 112 = .ok (.invokevirtual 90, 3) := by decide +kernel
theorem dX3_pick_115 : decode cX3_pick 115 = .ok (.imul, 1) := by decide +kernel
theorem dX3_pick_116 : decode cX3_pick 116 = .ok (.iadd, 1) := by decide +kernel
theorem dX3_pick_117 : decode cX3_pick 117 = .ok (.ireturn, 1) := by decide +kernel
theorem dX3_pick_118 : decode cX3_pick 118 = .ok (.iload 4, 2) := by decide +kernel
theorem dX3_pick_120 : decode cX3_pick 120 = .ok (.iload 9, 2) := by decide +kernel
theorem dX3_pick_122 : decode cX3_pick 122 = .ok (.isub, 1) := by decide +kernel
theorem dX3_pick_123 : decode cX3_pick 123 = .ok (.istore 4, 2) := by decide +kernel
theorem dX3_pick_125 : decode cX3_pick 125 = .ok (.iinc 6 1, 3) := by decide +kernel
theorem dX3_pick_128 : decode cX3_pick 128 = .ok (.goto (-102), 3) := by decide +kernel
theorem dX3_pick_131 : decode cX3_pick 131 = .ok (.iinc 5 1, 3) := by decide +kernel
theorem dX3_pick_134 : decode cX3_pick 134 = .ok (.goto (-128), 3) := by decide +kernel
theorem dX3_pick_137 : decode cX3_pick 137 = .ok (.iconst (-1), 1) := by decide +kernel
theorem dX3_pick_138 : decode cX3_pick 138 = .ok (.ireturn, 1) := by decide +kernel
theorem dX3_lowest_0 : decode cX3_lowest 0 = .ok (.lload_n 0, 1) := by decide +kernel
theorem dX3_lowest_1 : decode cX3_lowest 1 = .ok (.lload_n 0, 1) := by decide +kernel
theorem dX3_lowest_2 : decode cX3_lowest 2 = .ok (.lneg, 1) := by decide +kernel
theorem dX3_lowest_3 : decode cX3_lowest 3 = .ok (.land, 1) := by decide +kernel
theorem dX3_lowest_4 : decode cX3_lowest 4 = .ok (.lconst 1, 1) := by decide +kernel
theorem dX3_lowest_5 : decode cX3_lowest 5 = .ok (.lsub, 1) := by decide +kernel
theorem dX3_lowest_6 : decode cX3_lowest 6 = .ok (.invokestatic 77, 3) := by decide +kernel
theorem dX3_lowest_9 : decode cX3_lowest 9 = .ok (.ireturn, 1) := by decide +kernel
theorem dX3_withoutLowest_0 : decode cX3_withoutLowest 0 = .ok (.lload_n 0, 1) := by decide +kernel
theorem dX3_withoutLowest_1 : decode cX3_withoutLowest 1 = .ok (.lstore_n 3, 1) := by decide +kernel
theorem dX3_withoutLowest_2 : decode cX3_withoutLowest 2 = .ok (.iconst 0, 1) := by decide +kernel
theorem dX3_withoutLowest_3 : decode cX3_withoutLowest 3 = .ok (.istore 5, 2) := by decide +kernel
theorem dX3_withoutLowest_5 : decode cX3_withoutLowest 5 = .ok (.iload 5, 2) := by decide +kernel
theorem dX3_withoutLowest_7 : decode cX3_withoutLowest 7 = .ok (.iload_n 2, 1) := by decide +kernel
theorem dX3_withoutLowest_8 : decode cX3_withoutLowest 8 = .ok (.if_icmp .ge 15, 3) := by decide +kernel
theorem dX3_withoutLowest_11 : decode cX3_withoutLowest 11 = .ok (.lload_n 3, 1) := by decide +kernel
theorem dX3_withoutLowest_12 : decode cX3_withoutLowest 12 = .ok (.lload_n 3, 1) := by decide +kernel
theorem dX3_withoutLowest_13 : decode cX3_withoutLowest 13 = .ok (.lconst 1, 1) := by decide +kernel
theorem dX3_withoutLowest_14 : decode cX3_withoutLowest 14 = .ok (.lsub, 1) := by decide +kernel
theorem dX3_withoutLowest_15 : decode cX3_withoutLowest 15 = .ok (.land, 1) := by decide +kernel
theorem dX3_withoutLowest_16 : decode cX3_withoutLowest 16 = .ok (.lstore_n 3, 1) := by decide +kernel
theorem dX3_withoutLowest_17 : decode cX3_withoutLowest 17 = .ok (.iinc 5 1, 3) := by decide +kernel
theorem dX3_withoutLowest_20 : decode cX3_withoutLowest 20 = .ok (.goto (-15), 3) := by decide +kernel
theorem dX3_withoutLowest_23 : decode cX3_withoutLowest 23 = .ok (.lload_n 3, 1) := by decide +kernel
theorem dX3_withoutLowest_24 : decode cX3_withoutLowest 24 = .ok (.lreturn, 1) := by decide +kernel
theorem dX3_solve_0 : decode cX3_solve 0 = .ok (.aload_n 0, 1) := by decide +kernel
theorem dX3_solve_1 : decode cX3_solve 1 = .ok (.invokevirtual 94, 3) := by decide +kernel
theorem dX3_solve_4 : decode cX3_solve 4 = .ok (.iconst 0, 1) := by decide +kernel
theorem dX3_solve_5 : decode cX3_solve 5 = .ok (.istore_n 2, 1) := by decide +kernel
theorem dX3_solve_6 : decode cX3_solve 6 = .ok (.iload_n 2, 1) := by decide +kernel
theorem dX3_solve_7 : decode cX3_solve 7 = .ok (.bipush 32, 2) := by decide +kernel
theorem dX3_solve_9 : decode cX3_solve 9 = .ok (.if_icmp .ge 20, 3) := by decide +kernel
theorem dX3_solve_12 : decode cX3_solve 12 = .ok (.aload_n 0, 1) := by decide +kernel
theorem dX3_solve_13 : decode cX3_solve 13 = .ok (.iload_n 2, 1) := by decide +kernel
theorem dX3_solve_14 : decode cX3_solve 14 = .ok (.invokevirtual 97, 3) := by decide +kernel
theorem dX3_solve_17 : decode cX3_solve 17 = .ok (.aload_n 0, 1) := by decide +kernel
theorem dX3_solve_18 : decode cX3_solve 18 = .ok (.iload_n 2, 1) := by decide +kernel
theorem dX3_solve_19 : decode cX3_solve 19 = .ok (.aload_n 1, 1) := by decide +kernel
theorem dX3_solve_20 : decode cX3_solve 20 = .ok (.invokevirtual 101, 3) := by decide +kernel
theorem dX3_solve_23 : decode cX3_solve 23 = .ok (.iinc 2 1, 3) := by decide +kernel
theorem dX3_solve_26 : decode cX3_solve 26 = .ok (.goto (-20), 3) := by decide +kernel
theorem dX3_solve_29 : decode cX3_solve 29 = .ok (.aload_n 0, 1) := by decide +kernel
theorem dX3_solve_30 : decode cX3_solve 30 = .ok (.iconst 1, 1) := by decide +kernel
theorem dX3_solve_31 : decode cX3_solve 31 = .ok (.putfield 52, 3) := by decide +kernel
theorem dX3_solve_34 : decode cX3_solve 34 = .ok (.return_, 1) := by decide +kernel
theorem dX3_fillValid_0 : decode cX3_fillValid 0 = .ok (.iconst 0, 1) := by decide +kernel
theorem dX3_fillValid_1 : decode cX3_fillValid 1 = .ok (.istore_n 1, 1) := by decide +kernel
theorem dX3_fillValid_2 : decode cX3_fillValid 2 = .ok (.iload_n 1, 1) := by decide +kernel
theorem dX3_fillValid_3 : decode cX3_fillValid 3 = .ok (.aload_n 0, 1) := by decide +kernel
theorem dX3_fillValid_4 : decode cX3_fillValid 4 = .ok (.getfield 9, 3) := by decide +kernel
theorem dX3_fillValid_7 : decode cX3_fillValid 7 = .ok (.getfield 19, 3) := by decide +kernel
theorem dX3_fillValid_10 : decode cX3_fillValid 10 = .ok (.if_icmp .ge 97, 3) := by decide +kernel
theorem dX3_fillValid_13 : decode cX3_fillValid 13 = .ok (.iconst 0, 1) := by decide +kernel
theorem dX3_fillValid_14 : decode cX3_fillValid 14 = .ok (.istore_n 2, 1) := by decide +kernel
theorem dX3_fillValid_15 : decode cX3_fillValid 15 = .ok (.iload_n 2, 1) := by decide +kernel
theorem dX3_fillValid_16 : decode cX3_fillValid 16 = .ok (.aload_n 0, 1) := by decide +kernel
theorem dX3_fillValid_17 : decode cX3_fillValid 17 = .ok (.getfield 9, 3) := by decide +kernel
theorem dX3_fillValid_20 : decode cX3_fillValid 20 = .ok (.getfield 19, 3) := by decide +kernel
theorem dX3_fillValid_23 : decode cX3_fillValid 23 = .ok (.if_icmp .ge 78, 3) := by decide +kernel
theorem dX3_fillValid_26 : decode cX3_fillValid 26 = .ok (.aload_n 0, 1) := by decide +kernel
theorem dX3_fillValid_27 : decode cX3_fillValid 27 = .ok (.getfield 9, 3) := by decide +kernel
theorem dX3_fillValid_30 : decode cX3_fillValid 30 = .ok (.aload_n 0, 1) := by decide +kernel
theorem dX3_fillValid_31 : decode cX3_fillValid 31 = .ok (.getfield 15, 3) := by decide +kernel
theorem dX3_fillValid_34 : decode cX3_fillValid 34 = .ok (.iload_n 1, 1) := by decide +kernel
theorem dX3_fillValid_35 : decode cX3_fillValid 35 = .ok (.iload_n 2, 1) := by decide +kernel
theorem dX3_fillValid_36 : decode cX3_fillValid 36 = .ok (.invokevirtual 105, 3) := by decide +kernel
theorem dX3_fillValid_39 : decode cX3_fillValid 39 = .ok (.lstore_n 3, 1) := by decide +kernel
theorem dX3_fillValid_40 : decode cX3_fillValid 40 = .ok (.aload_n 0, 1) := by decide +kernel
theorem dX3_fillValid_41 : decode cX3_fillValid 41 = .ok (.getfield 9, 3) := by decide +kernel
theorem dX3_fillValid_44 : decode cX3_fillValid 44 = .ok (.aload_n 0, 1) := by decide +kernel
theorem dX3_fillValid_45 : decode cX3_fillValid 45 = .ok (.getfield 15, 3) := by decide +kernel
theorem dX3_fillValid_48 : decode cX3_fillValid 48 = .ok (.iload_n 2, 1) := by decide +kernel
theorem dX3_fillValid_49 : decode cX3_fillValid 49 = .ok (.iload_n 1, 1) := by decide +kernel
theorem dX3_fillValid_50 : decode cX3_fillValid 50 = .ok (.invokestatic 64, 3) := by decide +kernel
theorem dX3_fillValid_53 : decode cX3_fillValid 53 = .ok (.invokevirtual 108, 3) := by decide +kernel
theorem dX3_fillValid_56 : decode cX3_fillValid 56 = .ok (.lstore 5, 2) := by decide +kernel
theorem dX3_fillValid_58 : decode cX3_fillValid 58 = .ok (.aload_n 0, 1) := by decide +kernel
theorem dX3_fillValid_59 : decode cX3_fillValid 59 = .ok (.getfield 36, 3) := by decide +kernel
theorem dX3_fillValid_62 : decode cX3_fillValid 62 = .ok (.aload_n 0, 1) := by decide +kernel
theorem dX3_fillValid_63 : decode cX3_fillValid 63 = .ok (.iconst 1, 1) := by decide +kernel
theorem dX3_fillValid_64 : decode cX3_fillValid 64 = .ok (.iload_n 1, 1) := by decide +kernel
theorem dX3_fillValid_65 : decode cX3_fillValid 65 = .ok (.iload_n 2, 1) := by decide +kernel
theorem dX3_fillValid_66 : decode cX3_fillValid 66 = .ok (.invokevirtual 56, 3) := by decide +kernel
theorem dX3_fillValid_69 : decode cX3_fillValid 69 = .ok (.lload_n 3, 1) := by decide +kernel
theorem dX3_fillValid_70 : decode cX3_fillValid 70 = .ok (.invokestatic 112, 3) := by decide +kernel
theorem dX3_fillValid_73 : decode cX3_fillValid 73 = .ok (.aload_n 0, 1) := by decide +kernel
theorem dX3_fillValid_74 : decode cX3_fillValid 74 = .ok (.getfield 36, 3) := by decide +kernel
theorem dX3_fillValid_77 : decode cX3_fillValid 77 = .ok (.aload_n 0, 1) := by decide +kernel
theorem dX3_fillValid_78 : decode cX3_fillValid 78 = .ok (.iconst 0, 1) := by decide +kernel
theorem dX3_fillValid_79 : decode cX3_fillValid 79 = .ok (.iload_n 1, 1) := by decide +kernel
theorem dX3_fillValid_80 : decode cX3_fillValid 80 = .ok (.iload_n 2, 1) := by decide +kernel
theorem dX3_fillValid_81 : decode cX3_fillValid 81 = .ok (.invokevirtual 56, 3) := by decide +kernel
theorem dX3_fillValid_84 : decode cX3_fillValid 84 = .ok (.lload_n 3, 1) := by decide +kernel
theorem dX3_fillValid_85 : decode cX3_fillValid 85 = .ok (.lload 5, 2) := by decide +kernel
theorem dX3_fillValid_87 : decode cX3_fillValid 87 = .ok (.ldc2_w 71, 3) := by decide +kernel
theorem dX3_fillValid_90 : decode cX3_fillValid 90 = .ok (.lxor, 1) := by decide +kernel
theorem dX3_fillValid_91 : decode cX3_fillValid 91 = .ok (.land, 1) := by decide +kernel
theorem dX3_fillValid_92 : decode cX3_fillValid 92 = .ok (.invokestatic 112, 3) := by decide +kernel
theorem dX3_fillValid_95 : decode cX3_fillValid 95 = .ok (.iinc 2 1, 3) := by decide +kernel
theorem dX3_fillValid_98 : decode cX3_fillValid 98 = .ok (.goto (-83), 3) := by decide +kernel
theorem dX3_fillValid_101 : decode cX3_fillValid 101 = .ok (.iinc 1 1, 3) := by decide +kernel
theorem dX3_fillValid_104 : decode cX3_fillValid 104 = .ok (.goto (-102), 3) := by decide +kernel
theorem dX3_fillValid_107 : decode cX3_fillValid 107 = .ok (.return_, 1) := by decide +kernel
theorem dX3_findBlack_0 : decode cX3_findBlack 0 = .ok (.iconst 0, 1) := by decide +kernel
theorem dX3_findBlack_1 : decode cX3_findBlack 1 = .ok (.istore_n 2, 1) := by decide +kernel
theorem dX3_findBlack_2 : decode cX3_findBlack 2 = .ok (.iload_n 2, 1) := by decide +kernel
theorem dX3_findBlack_3 : decode cX3_findBlack 3 = .ok (.aload_n 0, 1) := by decide +kernel
theorem dX3_findBlack_4 : decode cX3_findBlack 4 = .ok (.getfield 9, 3) := by decide +kernel
theorem dX3_findBlack_7 : decode cX3_findBlack 7 = .ok (.getfield 19, 3) := by decide +kernel
theorem dX3_findBlack_10 : decode cX3_findBlack 10 = .ok (.if_icmp .ge 120, 3) := by decide +kernel
theorem dX3_findBlack_13 : decode cX3_findBlack 13 = .ok (.iconst 0, 1) := by decide +kernel
theorem dX3_findBlack_14 : decode cX3_findBlack 14 = .ok (.istore_n 3, 1) := by decide +kernel
theorem dX3_findBlack_15 : decode cX3_findBlack 15 = .ok (.iload_n 3, 1) := by decide +kernel
theorem dX3_findBlack_16 : decode cX3_findBlack 16 = .ok (.aload_n 0, 1) := by decide +kernel
theorem dX3_findBlack_17 : decode cX3_findBlack 17 = .ok (.getfield 9, 3) := by decide +kernel
theorem dX3_findBlack_20 : decode cX3_findBlack 20 = .ok (.getfield 19, 3) := by decide +kernel
theorem dX3_findBlack_23 : decode cX3_findBlack 23 = .ok (.if_icmp .ge 101, 3) := by decide +kernel
theorem dX3_findBlack_26 : decode cX3_findBlack 26 = .ok (.aload_n 0, 1) := by decide +kernel
theorem dX3_findBlack_27 : decode cX3_findBlack 27 = .ok (.iconst 0, 1) := by decide +kernel
theorem dX3_findBlack_28 : decode cX3_findBlack 28 = .ok (.iload_n 2, 1) := by decide +kernel
theorem dX3_findBlack_29 : decode cX3_findBlack 29 = .ok (.iload_n 3, 1) := by decide +kernel
theorem dX3_findBlack_30 : decode cX3_findBlack 30 = .ok (.invokevirtual 56, 3) := by decide +kernel
theorem dX3_findBlack_33 : decode cX3_findBlack 33 = .ok (.istore 4, 2) := by decide +kernel
theorem dX3_findBlack_35 : decode cX3_findBlack 35 = .ok (.iload_n 1, 1) := by decide +kernel
theorem dX3_findBlack_36 : decode cX3_findBlack 36 = .ok (.ifCond .eq 17, 3) := by decide +kernel
theorem dX3_findBlack_39 : decode cX3_findBlack 39 = .ok (.aload_n 0, 1) := by decide +kernel
theorem dX3_findBlack_40 : decode cX3_findBlack 40 = .ok (.getfield 43, 3) := by decide +kernel
theorem dX3_findBlack_43 : decode cX3_findBlack 43 = .ok (.iload 4, 2) := by decide +kernel
theorem dX3_findBlack_45 : decode cX3_findBlack 45 = .ok (.invokestatic 60, 3) := by decide +kernel
theorem dX3_findBlack_48 : decode cX3_findBlack 48 = .ok (.lconst 0, 1) := by decide +kernel
theorem dX3_findBlack_49 : decode cX3_findBlack 49 = .ok (.lcmp, 1) := by decide +kernel
theorem dX3_findBlack_50 : decode cX3_findBlack 50 = .ok (.ifCond .eq 7, 3) := by decide +kernel
theorem dX3_findBlack_53 : decode cX3_findBlack 53 = .ok (.iconst 1, 1) := by decide +kernel
theorem dX3_findBlack_54 : decode cX3_findBlack 54 = .ok (.goto 4, 3) := by decide +kernel
theorem dX3_findBlack_57 : decode cX3_findBlack 57 = .ok (.iconst 0, 1) := by decide +kernel
theorem dX3_findBlack_58 : decode cX3_findBlack 58 = .ok (.istore 5, 2) := by decide +kernel
theorem dX3_findBlack_60 : decode cX3_findBlack 60 = .ok (.iload 5, 2) := by decide +kernel
theorem dX3_findBlack_62 : decode cX3_findBlack 62 = .ok (.ifCond .eq 12, 3) := by decide +kernel
theorem dX3_findBlack_65 : decode cX3_findBlack 65 = .ok (.aload_n 0, 1) := by decide +kernel
theorem dX3_findBlack_66 : decode cX3_findBlack 66 = .ok (.iload_n 2, 1) := by decide +kernel
theorem dX3_findBlack_67 : decode cX3_findBlack 67 = .ok (.iload_n 3, 1) := by decide +kernel
theorem dX3_findBlack_68 : decode cX3_findBlack 68 = .ok (.invokevirtual 116, 3) := by decide +kernel
theorem dX3_findBlack_71 : decode cX3_findBlack 71 = .ok (.goto 4, 3) := by decide +kernel
theorem dX3_findBlack_74 : decode cX3_findBlack 74 = .ok (.lconst 0, 1) := by decide +kernel
theorem dX3_findBlack_75 : decode cX3_findBlack 75 = .ok (.lstore 6, 2) := by decide +kernel
theorem dX3_findBlack_77 : decode cX3_findBlack 77 = .ok (.aload_n 0, 1) := by decide +kernel
theorem dX3_findBlack_78 : decode cX3_findBlack 78 = .ok (.getfield 43, 3) := by decide +kernel
theorem dX3_findBlack_81 : decode cX3_findBlack 81 = .ok (.iload 4, 2) := by decide +kernel
theorem dX3_findBlack_83 : decode cX3_findBlack 83 = .ok (.lconst 0, 1) := by decide +kernel
theorem dX3_findBlack_84 : decode cX3_findBlack 84 = .ok (.invokestatic 112, 3) := by decide +kernel
theorem dX3_findBlack_87 : decode cX3_findBlack 87 = .ok (.aload_n 0, 1) := by decide +kernel
theorem dX3_findBlack_88 : decode cX3_findBlack 88 = .ok (.getfield 43, 3) := by decide +kernel
theorem dX3_findBlack_91 : decode cX3_findBlack 91 = .ok (.aload_n 0, 1) := by decide +kernel
theorem dX3_findBlack_92 : decode cX3_findBlack 92 = .ok (.getfield 33, 3) := by decide +kernel
theorem dX3_findBlack_95 : decode cX3_findBlack 95 = .ok (.iload 4, 2) := by decide +kernel
theorem dX3_findBlack_97 : decode cX3_findBlack 97 = .ok (.iadd, 1) := by decide +kernel
theorem dX3_findBlack_98 : decode cX3_findBlack 98 = .ok (.lload 6, 2) := by decide +kernel
theorem dX3_findBlack_100 : decode cX3_findBlack 100 = .ok (.invokestatic 112, 3) := by decide +kernel
theorem dX3_findBlack_103 : decode cX3_findBlack 103 = .ok (.aload_n 0, 1) := by decide +kernel
theorem dX3_findBlack_104 : decode cX3_findBlack 104 = .ok (.iconst 1, 1) := by decide +kernel
theorem dX3_findBlack_105 : decode cX3_findBlack 105 = .ok (.aload_n 0, 1) := by decide +kernel
theorem dX3_findBlack_106 : decode cX3_findBlack 106 = .ok (.getfield 33, 3) := by decide +kernel
theorem dX3_findBlack_109 : decode cX3_findBlack 109 = .ok (.iload 4, 2) := by decide +kernel
theorem dX3_findBlack_111 : decode cX3_findBlack 111 = .ok (.iadd, 1) := by decide +kernel
theorem dX3_findBlack_112 : decode cX3_findBlack 112 = .ok (.iload_n 1, 1) := by decide +kernel
theorem dX3_findBlack_113 : decode cX3_findBlack 113 = .ok (.lload 6, 2) := by decide +kernel
theorem dX3_findBlack_115 : decode cX3_findBlack 115 = .ok (.invokevirtual 120, 3) := by decide +kernel
theorem dX3_findBlack_118 : decode cX3_findBlack 118 = .ok (.iinc 3 1, 3) := by decide +kernel
theorem dX3_findBlack_121 : decode cX3_findBlack 121 = .ok (.goto (-106), 3) := by decide +kernel
theorem dX3_findBlack_124 : decode cX3_findBlack 124 = .ok (.iinc 2 1, 3) := by decide +kernel
theorem dX3_findBlack_127 : decode cX3_findBlack 127 = .ok (.goto (-125), 3) := by decide +kernel
theorem dX3_findBlack_130 : decode cX3_findBlack 130 = .ok (.return_, 1) := by decide +kernel
theorem dX3_lostIn_0 : decode cX3_lostIn 0 = .ok (.aload_n 0, 1) := by decide +kernel
theorem dX3_lostIn_1 : decode cX3_lostIn 1 = .ok (.iconst 0, 1) := by decide +kernel
theorem dX3_lostIn_2 : decode cX3_lostIn 2 = .ok (.iload_n 1, 1) := by decide +kernel
theorem dX3_lostIn_3 : decode cX3_lostIn 3 = .ok (.iload_n 2, 1) := by decide +kernel
theorem dX3_lostIn_4 : decode cX3_lostIn 4 = .ok (.invokevirtual 56, 3) := by decide +kernel
theorem dX3_lostIn_7 : decode cX3_lostIn 7 = .ok (.istore_n 3, 1) := by decide +kernel
theorem dX3_lostIn_8 : decode cX3_lostIn 8 = .ok (.aload_n 0, 1) := by decide +kernel
theorem dX3_lostIn_9 : decode cX3_lostIn 9 = .ok (.getfield 36, 3) := by decide +kernel
theorem dX3_lostIn_12 : decode cX3_lostIn 12 = .ok (.aload_n 0, 1) := by decide +kernel
theorem dX3_lostIn_13 : decode cX3_lostIn 13 = .ok (.getfield 33, 3) := by decide +kernel
theorem dX3_lostIn_16 : decode cX3_lostIn 16 = .ok (.iload_n 3, 1) := by decide +kernel
theorem dX3_lostIn_17 : decode cX3_lostIn 17 = .ok (.iadd, 1) := by decide +kernel
theorem dX3_lostIn_18 : decode cX3_lostIn 18 = .ok (.invokestatic 60, 3) := by decide +kernel
theorem dX3_lostIn_21 : decode cX3_lostIn 21 = .ok (.aload_n 0, 1) := by decide +kernel
theorem dX3_lostIn_22 : decode cX3_lostIn 22 = .ok (.getfield 40, 3) := by decide +kernel
theorem dX3_lostIn_25 : decode cX3_lostIn 25 = .ok (.aload_n 0, 1) := by decide +kernel
theorem dX3_lostIn_26 : decode cX3_lostIn 26 = .ok (.getfield 33, 3) := by decide +kernel
theorem dX3_lostIn_29 : decode cX3_lostIn 29 = .ok (.iload_n 3, 1) := by decide +kernel
theorem dX3_lostIn_30 : decode cX3_lostIn 30 = .ok (.iadd, 1) := by decide +kernel
theorem dX3_lostIn_31 : decode cX3_lostIn 31 = .ok (.invokestatic 60, 3) := by decide +kernel
theorem dX3_lostIn_34 : decode cX3_lostIn 34 = .ok (.ldc2_w 71, 3) := by decide +kernel
theorem dX3_lostIn_37 : decode cX3_lostIn 37 = .ok (.lxor, 1) := by decide +kernel
theorem dX3_lostIn_38 : decode cX3_lostIn 38 = .ok (.land, 1) := by decide +kernel
theorem dX3_lostIn_39 : decode cX3_lostIn 39 = .ok (.lstore 4, 2) := by decide +kernel
theorem dX3_lostIn_41 : decode cX3_lostIn 41 = .ok (.aload_n 0, 1) := by decide +kernel
theorem dX3_lostIn_42 : decode cX3_lostIn 42 = .ok (.getfield 36, 3) := by decide +kernel
theorem dX3_lostIn_45 : decode cX3_lostIn 45 = .ok (.aload_n 0, 1) := by decide +kernel
theorem dX3_lostIn_46 : decode cX3_lostIn 46 = .ok (.getfield 33, 3) := by decide +kernel
theorem dX3_lostIn_49 : decode cX3_lostIn 49 = .ok (.iload_n 3, 1) := by decide +kernel
theorem dX3_lostIn_50 : decode cX3_lostIn 50 = .ok (.iadd, 1) := by decide +kernel
theorem dX3_lostIn_51 : decode cX3_lostIn 51 = .ok (.invokestatic 60, 3) := by decide +kernel
theorem dX3_lostIn_54 : decode cX3_lostIn 54 = .ok (.aload_n 0, 1) := by decide +kernel
theorem dX3_lostIn_55 : decode cX3_lostIn 55 = .ok (.getfield 36, 3) := by decide +kernel
theorem dX3_lostIn_58 : decode cX3_lostIn 58 = .ok (.iload_n 3, 1) := by decide +kernel
theorem dX3_lostIn_59 : decode cX3_lostIn 59 = .ok (.invokestatic 60, 3) := by decide +kernel
theorem dX3_lostIn_62 : decode cX3_lostIn 62 = .ok (.ldc2_w 71, 3) := by decide +kernel
theorem dX3_lostIn_65 : decode cX3_lostIn 65 = .ok (.lxor, 1) := by decide +kernel
theorem dX3_lostIn_66 : decode cX3_lostIn 66 = .ok (.land, 1) := by decide +kernel
theorem dX3_lostIn_67 : decode cX3_lostIn 67 = .ok (.lstore 6, 2) := by decide +kernel
theorem dX3_lostIn_69 : decode cX3_lostIn 69 = .ok (.iload_n 2, 1) := by decide +kernel
theorem dX3_lostIn_70 : decode cX3_lostIn 70 = .ok (.invokestatic 64, 3) := by decide +kernel
theorem dX3_lostIn_73 : decode cX3_lostIn 73 = .ok (.aload_n 0, 1) := by decide +kernel
theorem dX3_lostIn_74 : decode cX3_lostIn 74 = .ok (.getfield 9, 3) := by decide +kernel
theorem dX3_lostIn_77 : decode cX3_lostIn 77 = .ok (.iload_n 1, 1) := by decide +kernel
theorem dX3_lostIn_78 : decode cX3_lostIn 78 = .ok (.invokevirtual 124, 3) := by decide +kernel
theorem dX3_lostIn_81 : decode cX3_lostIn 81 = .ok (.ldc2_w 71, 3) := by decide +kernel
theorem dX3_lostIn_84 : decode cX3_lostIn 84 = .ok (.lxor, 1) := by decide +kernel
theorem dX3_lostIn_85 : decode cX3_lostIn 85 = .ok (.land, 1) := by decide +kernel
theorem dX3_lostIn_86 : decode cX3_lostIn 86 = .ok (.lstore 8, 2) := by decide +kernel
theorem dX3_lostIn_88 : decode cX3_lostIn 88 = .ok (.aload_n 0, 1) := by decide +kernel
theorem dX3_lostIn_89 : decode cX3_lostIn 89 = .ok (.getfield 36, 3) := by decide +kernel
theorem dX3_lostIn_92 : decode cX3_lostIn 92 = .ok (.iload_n 3, 1) := by decide +kernel
theorem dX3_lostIn_93 : decode cX3_lostIn 93 = .ok (.invokestatic 60, 3) := by decide +kernel
theorem dX3_lostIn_96 : decode cX3_lostIn 96 = .ok (.lload 8, 2) := by decide +kernel
theorem dX3_lostIn_98 : decode cX3_lostIn 98 = .ok (.lor, 1) := by decide +kernel
theorem dX3_lostIn_99 : decode cX3_lostIn 99 = .ok (.lstore 10, 2) := by decide +kernel
theorem dX3_lostIn_101 : decode cX3_lostIn 101 = .ok (.lload 10, 2) := by decide +kernel
theorem dX3_lostIn_103 : decode cX3_lostIn 103 = .ok (.aload_n 0, 1) := by decide +kernel
theorem dX3_lostIn_104 : decode cX3_lostIn 104 = .ok (.getfield 40, 3) := by decide +kernel
theorem dX3_lostIn_107 : decode cX3_lostIn 107 = .ok (.iload_n 3, 1) := by decide +kernel
theorem dX3_lostIn_108 : decode cX3_lostIn 108 = .ok (.invokestatic 60, 3) := by decide +kernel
theorem dX3_lostIn_111 : decode cX3_lostIn 111 = .ok (.ldc2_w 71, 3) := by decide +kernel
theorem dX3_lostIn_114 : decode cX3_lostIn 114 = .ok (.lxor, 1) := by decide +kernel
theorem dX3_lostIn_115 : decode cX3_lostIn 115 = .ok (.land, 1) := by decide +kernel
theorem dX3_lostIn_116 : decode cX3_lostIn 116 = .ok (.lstore 12, 2) := by decide +kernel
theorem dX3_lostIn_118 : decode cX3_lostIn 118 = .ok (.lload 4, 2) := by decide +kernel
theorem dX3_lostIn_120 : decode cX3_lostIn 120 = .ok (.aload_n 0, 1) := by decide +kernel
theorem dX3_lostIn_121 : decode cX3_lostIn 121 = .ok (.getfield 9, 3) := by decide +kernel
theorem dX3_lostIn_124 : decode cX3_lostIn 124 = .ok (.lload 12, 2) := by decide +kernel
theorem dX3_lostIn_126 : decode cX3_lostIn 126 = .ok (.invokevirtual 127, 3) := by decide +kernel
theorem dX3_lostIn_129 : decode cX3_lostIn 129 = .ok (.ldc2_w 71, 3) := by decide +kernel
theorem dX3_lostIn_132 : decode cX3_lostIn 132 = .ok (.lxor, 1) := by decide +kernel
theorem dX3_lostIn_133 : decode cX3_lostIn 133 = .ok (.land, 1) := by decide +kernel
theorem dX3_lostIn_134 : decode cX3_lostIn 134 = .ok (.lload 6, 2) := by decide +kernel
theorem dX3_lostIn_136 : decode cX3_lostIn 136 = .ok (.aload_n 0, 1) := by decide +kernel
theorem dX3_lostIn_137 : decode cX3_lostIn 137 = .ok (.getfield 9, 3) := by decide +kernel
theorem dX3_lostIn_140 : decode cX3_lostIn 140 = .ok (.lload 10, 2) := by decide +kernel
theorem dX3_lostIn_142 : decode cX3_lostIn 142 = .ok (.invokevirtual 127, 3) := by decide +kernel
theorem dX3_lostIn_145 : decode cX3_lostIn 145 = .ok (.lor, 1) := by decide +kernel
theorem dX3_lostIn_146 : decode cX3_lostIn 146 = .ok (.land, 1) := by decide +kernel
theorem dX3_lostIn_147 : decode cX3_lostIn 147 = .ok (.lreturn, 1) := by decide +kernel
theorem dX3_findWhite_0 : decode cX3_findWhite 0 = .ok (.iconst 0, 1) := by decide +kernel
theorem dX3_findWhite_1 : decode cX3_findWhite 1 = .ok (.istore_n 3, 1) := by decide +kernel
theorem dX3_findWhite_2 : decode cX3_findWhite 2 = .ok (.iload_n 3, 1) := by decide +kernel
theorem dX3_findWhite_3 : decode cX3_findWhite 3 = .ok (.aload_n 0, 1) := by decide +kernel
theorem dX3_findWhite_4 : decode cX3_findWhite 4 = .ok (.getfield 9, 3) := by decide +kernel
theorem dX3_findWhite_7 : decode cX3_findWhite 7 = .ok (.getfield 19, 3) := by decide +kernel
theorem dX3_findWhite_10 : decode cX3_findWhite 10 = .ok (.if_icmp .ge 63, 3) := by decide +kernel
theorem dX3_findWhite_13 : decode cX3_findWhite 13 = .ok (.iconst 0, 1) := by decide +kernel
theorem dX3_findWhite_14 : decode cX3_findWhite 14 = .ok (.istore 4, 2) := by decide +kernel
theorem dX3_findWhite_16 : decode cX3_findWhite 16 = .ok (.iload 4, 2) := by decide +kernel
theorem dX3_findWhite_18 : decode cX3_findWhite 18 = .ok (.aload_n 0, 1) := by decide +kernel
theorem dX3_findWhite_19 : decode cX3_findWhite 19 = .ok (.getfield 9, 3) := by decide +kernel
theorem dX3_findWhite_22 : decode cX3_findWhite 22 = .ok (.getfield 19, 3) := by decide +kernel
theorem dX3_findWhite_25 : decode cX3_findWhite 25 = .ok (.if_icmp .ge 42, 3) := by decide +kernel
theorem dX3_findWhite_28 : decode cX3_findWhite 28 = .ok (.aload_n 0, 1) := by decide +kernel
theorem dX3_findWhite_29 : decode cX3_findWhite 29 = .ok (.getfield 43, 3) := by decide +kernel
theorem dX3_findWhite_32 : decode cX3_findWhite 32 = .ok (.aload_n 0, 1) := by decide +kernel
theorem dX3_findWhite_33 : decode cX3_findWhite 33 = .ok (.iconst 1, 1) := by decide +kernel
theorem dX3_findWhite_34 : decode cX3_findWhite 34 = .ok (.iload_n 3, 1) := by decide +kernel
theorem dX3_findWhite_35 : decode cX3_findWhite 35 = .ok (.iload 4, 2) := by decide +kernel
theorem dX3_findWhite_37 : decode cX3_findWhite 37 = .ok (.invokevirtual 56, 3) := by decide +kernel
theorem dX3_findWhite_40 : decode cX3_findWhite 40 = .ok (.invokestatic 60, 3) := by decide +kernel
theorem dX3_findWhite_43 : decode cX3_findWhite 43 = .ok (.lstore 5, 2) := by decide +kernel
theorem dX3_findWhite_45 : decode cX3_findWhite 45 = .ok (.lload 5, 2) := by decide +kernel
theorem dX3_findWhite_47 : decode cX3_findWhite 47 = .ok (.lconst 0, 1) := by decide +kernel
theorem dX3_findWhite_48 : decode cX3_findWhite 48 = .ok (.lcmp, 1) := by decide +kernel
theorem dX3_findWhite_49 : decode cX3_findWhite 49 = .ok (.ifCond .eq 12, 3) := by decide +kernel
theorem dX3_findWhite_52 : decode cX3_findWhite 52 = .ok (.aload_n 0, 1) := by decide +kernel
theorem dX3_findWhite_53 : decode cX3_findWhite 53 = .ok (.iload_n 3, 1) := by decide +kernel
theorem dX3_findWhite_54 : decode cX3_findWhite 54 = .ok (.iload 4, 2) := by decide +kernel
theorem dX3_findWhite_56 : decode cX3_findWhite 56 = .ok (.lload 5, 2) := by decide +kernel
theorem dX3_findWhite_58 : decode cX3_findWhite 58 = .ok (.invokevirtual 131, 3) := by decide +kernel
theorem dX3_findWhite_61 : decode cX3_findWhite 61 = .ok (.iinc 4 1, 3) := by decide +kernel
theorem dX3_findWhite_64 : decode cX3_findWhite 64 = .ok (.goto (-48), 3) := by decide +kernel
theorem dX3_findWhite_67 : decode cX3_findWhite 67 = .ok (.iinc 3 1, 3) := by decide +kernel
theorem dX3_findWhite_70 : decode cX3_findWhite 70 = .ok (.goto (-68), 3) := by decide +kernel
theorem dX3_findWhite_73 : decode cX3_findWhite 73 = .ok (.aload_n 0, 1) := by decide +kernel
theorem dX3_findWhite_74 : decode cX3_findWhite 74 = .ok (.getfield 15, 3) := by decide +kernel
theorem dX3_findWhite_77 : decode cX3_findWhite 77 = .ok (.iconst 1, 1) := by decide +kernel
theorem dX3_findWhite_78 : decode cX3_findWhite 78 = .ok (.if_icmp .ne 9, 3) := by decide +kernel
theorem dX3_findWhite_81 : decode cX3_findWhite 81 = .ok (.aload_n 0, 1) := by decide +kernel
theorem dX3_findWhite_82 : decode cX3_findWhite 82 = .ok (.iload_n 1, 1) := by decide +kernel
theorem dX3_findWhite_83 : decode cX3_findWhite 83 = .ok (.aload_n 2, 1) := by decide +kernel
theorem dX3_findWhite_84 : decode cX3_findWhite 84 = .ok (.invokevirtual 135, 3) := by decide +kernel
theorem dX3_findWhite_87 : decode cX3_findWhite 87 = .ok (.aload_n 0, 1) := by decide +kernel
theorem dX3_findWhite_88 : decode cX3_findWhite 88 = .ok (.iload_n 1, 1) := by decide +kernel
theorem dX3_findWhite_89 : decode cX3_findWhite 89 = .ok (.invokevirtual 138, 3) := by decide +kernel
theorem dX3_findWhite_92 : decode cX3_findWhite 92 = .ok (.return_, 1) := by decide +kernel
theorem dX3_goBack_0 : decode cX3_goBack 0 = .ok (.aload_n 0, 1) := by decide +kernel
theorem dX3_goBack_1 : decode cX3_goBack 1 = .ok (.iload_n 1, 1) := by decide +kernel
theorem dX3_goBack_2 : decode cX3_goBack 2 = .ok (.iload_n 2, 1) := by decide +kernel
theorem dX3_goBack_3 : decode cX3_goBack 3 = .ok (.lload_n 3, 1) := by decide +kernel
theorem dX3_goBack_4 : decode cX3_goBack 4 = .ok (.invokevirtual 141, 3) := by decide +kernel
theorem dX3_goBack_7 : decode cX3_goBack 7 = .ok (.aload_n 0, 1) := by decide +kernel
theorem dX3_goBack_8 : decode cX3_goBack 8 = .ok (.getfield 15, 3) := by decide +kernel
theorem dX3_goBack_11 : decode cX3_goBack 11 = .ok (.iconst 1, 1) := by decide +kernel
theorem dX3_goBack_12 : decode cX3_goBack 12 = .ok (.if_icmp .ne 13, 3) := by decide +kernel
theorem dX3_goBack_15 : decode cX3_goBack 15 = .ok (.aload_n 0, 1) := by decide +kernel
theorem dX3_goBack_16 : decode cX3_goBack 16 = .ok (.iload_n 1, 1) := by decide +kernel
theorem dX3_goBack_17 : decode cX3_goBack 17 = .ok (.iload_n 2, 1) := by decide +kernel
theorem dX3_goBack_18 : decode cX3_goBack 18 = .ok (.lload_n 3, 1) := by decide +kernel
theorem dX3_goBack_19 : decode cX3_goBack 19 = .ok (.invokevirtual 144, 3) := by decide +kernel
theorem dX3_goBack_22 : decode cX3_goBack 22 = .ok (.goto 10, 3) := by decide +kernel
theorem dX3_goBack_25 : decode cX3_goBack 25 = .ok (.aload_n 0, 1) := by decide +kernel
theorem dX3_goBack_26 : decode cX3_goBack 26 = .ok (.iload_n 1, 1) := by decide +kernel
theorem dX3_goBack_27 : decode cX3_goBack 27 = .ok (.iload_n 2, 1) := by decide +kernel
theorem dX3_goBack_28 : decode cX3_goBack 28 = .ok (.lload_n 3, 1) := by decide +kernel
theorem dX3_goBack_29 : decode cX3_goBack 29 = .ok (.invokevirtual 147, 3) := by decide +kernel
theorem dX3_goBack_32 : decode cX3_goBack 32 = .ok (.return_, 1) := by decide +kernel
theorem dX3_keepFresh_0 : decode cX3_keepFresh 0 = .ok (.iconst 0, 1) := by decide +kernel
theorem dX3_keepFresh_1 : decode cX3_keepFresh 1 = .ok (.istore_n 2, 1) := by decide +kernel
theorem dX3_keepFresh_2 : decode cX3_keepFresh 2 = .ok (.iload_n 2, 1) := by decide +kernel
theorem dX3_keepFresh_3 : decode cX3_keepFresh 3 = .ok (.aload_n 0, 1) := by decide +kernel
theorem dX3_keepFresh_4 : decode cX3_keepFresh 4 = .ok (.getfield 33, 3) := by decide +kernel
theorem dX3_keepFresh_7 : decode cX3_keepFresh 7 = .ok (.if_icmp .ge 24, 3) := by decide +kernel
theorem dX3_keepFresh_10 : decode cX3_keepFresh 10 = .ok (.aload_n 0, 1) := by decide +kernel
theorem dX3_keepFresh_11 : decode cX3_keepFresh 11 = .ok (.iconst 0, 1) := by decide +kernel
theorem dX3_keepFresh_12 : decode cX3_keepFresh 12 = .ok (.iload_n 2, 1) := by decide +kernel
theorem dX3_keepFresh_13 : decode cX3_keepFresh 13 = .ok (.iload_n 1, 1) := by decide +kernel
theorem dX3_keepFresh_14 : decode cX3_keepFresh 14 = .ok (.aload_n 0, 1) := by decide +kernel
theorem dX3_keepFresh_15 : decode cX3_keepFresh 15 = .ok (.getfield 43, 3) := by decide +kernel
theorem dX3_keepFresh_18 : decode cX3_keepFresh 18 = .ok (.iload_n 2, 1) := by decide +kernel
theorem dX3_keepFresh_19 : decode cX3_keepFresh 19 = .ok (.invokestatic 60, 3) := by decide +kernel
theorem dX3_keepFresh_22 : decode cX3_keepFresh 22 = .ok (.invokevirtual 120, 3) := by decide +kernel
theorem dX3_keepFresh_25 : decode cX3_keepFresh 25 = .ok (.iinc 2 1, 3) := by decide +kernel
theorem dX3_keepFresh_28 : decode cX3_keepFresh 28 = .ok (.goto (-26), 3) := by decide +kernel
theorem dX3_keepFresh_31 : decode cX3_keepFresh 31 = .ok (.return_, 1) := by decide +kernel
theorem dX3_keep_0 : decode cX3_keep 0 = .ok (.lload 4, 2) := by decide +kernel
theorem dX3_keep_2 : decode cX3_keep 2 = .ok (.lconst 0, 1) := by decide +kernel
theorem dX3_keep_3 : decode cX3_keep 3 = .ok (.lcmp, 1) := by decide +kernel
theorem dX3_keep_4 : decode cX3_keep 4 = .ok (.ifCond .ne 4, 3) := by decide +kernel
theorem dX3_keep_7 : decode cX3_keep 7 = .ok (.return_, 1) := by decide +kernel
theorem dX3_keep_8 : decode cX3_keep 8 = .ok (.aload_n 0, 1) := by decide +kernel
theorem dX3_keep_9 : decode cX3_keep 9 = .ok (.getfield 40, 3) := by decide +kernel
theorem dX3_keep_12 : decode cX3_keep 12 = .ok (.iload_n 2, 1) := by decide +kernel
theorem dX3_keep_13 : decode cX3_keep 13 = .ok (.lload 4, 2) := by decide +kernel
theorem dX3_keep_15 : decode cX3_keep 15 = .ok (.invokestatic 150, 3) := by decide +kernel
theorem dX3_keep_18 : decode cX3_keep 18 = .ok (.iconst 0, 1) := by decide +kernel
theorem dX3_keep_19 : decode cX3_keep 19 = .ok (.istore 6, 2) := by decide +kernel
theorem dX3_keep_21 : decode cX3_keep 21 = .ok (.iload 6, 2) := by decide +kernel
theorem dX3_keep_23 : decode cX3_keep 23 = .ok (.iconst 5, 1) := by decide +kernel
theorem dX3_keep_24 : decode cX3_keep 24 = .ok (.if_icmp .ge 39, 3) := by decide +kernel
theorem dX3_keep_27 : decode cX3_keep 27 = .ok (.iload_n 3, 1) := by decide +kernel
theorem dX3_keep_28 : decode cX3_keep 28 = .ok (.iload 6, 2) := by decide +kernel
theorem dX3_keep_30 : decode cX3_keep 30 = .ok (.ishr, 1) := by decide +kernel
theorem dX3_keep_31 : decode cX3_keep 31 = .ok (.iconst 1, 1) := by decide +kernel
theorem dX3_keep_32 : decode cX3_keep 32 = .ok (.iand, 1) := by decide +kernel
theorem dX3_keep_33 : decode cX3_keep 33 = .ok (.iconst 1, 1) := by decide +kernel
theorem dX3_keep_34 : decode cX3_keep 34 = .ok (.if_icmp .ne 23, 3) := by decide +kernel
theorem dX3_keep_37 : decode cX3_keep 37 = .ok (.aload_n 0, 1) := by decide +kernel
theorem dX3_keep_38 : decode cX3_keep 38 = .ok (.getfield 46, 3) := by decide +kernel
theorem dX3_keep_41 : decode cX3_keep 41 = .ok (.iload 6, 2) := by decide +kernel
theorem dX3_keep_43 : decode cX3_keep 43 = .ok (.iconst 2, 1) := by decide +kernel
theorem dX3_keep_44 : decode cX3_keep 44 = .ok (.imul, 1) := by decide +kernel
theorem dX3_keep_45 : decode cX3_keep 45 = .ok (.aload_n 0, 1) := by decide +kernel
theorem dX3_keep_46 : decode cX3_keep 46 = .ok (.getfield 33, 3) := by decide +kernel
theorem dX3_keep_49 : decode cX3_keep 49 = .ok (.imul, 1) := by decide +kernel
theorem dX3_keep_50 : decode cX3_keep 50 = .ok (.iload_n 2, 1) := by decide +kernel
theorem dX3_keep_51 : decode cX3_keep 51 = .ok (.iadd, 1) := by decide +kernel
theorem dX3_keep_52 : decode cX3_keep 52 = .ok (.lload 4, 2) := by decide +kernel
theorem dX3_keep_54 : decode cX3_keep 54 = .ok (.invokestatic 150, 3) := by decide +kernel
theorem dX3_keep_57 : decode cX3_keep 57 = .ok (.iinc 6 1, 3) := by decide +kernel
theorem dX3_keep_60 : decode cX3_keep 60 = .ok (.goto (-39), 3) := by decide +kernel
theorem dX3_keep_63 : decode cX3_keep 63 = .ok (.aload_n 0, 1) := by decide +kernel
theorem dX3_keep_64 : decode cX3_keep 64 = .ok (.aload_n 0, 1) := by decide +kernel
theorem dX3_keep_65 : decode cX3_keep 65 = .ok (.getfield 49, 3) := by decide +kernel
theorem dX3_keep_68 : decode cX3_keep 68 = .ok (.iload_n 1, 1) := by decide +kernel
theorem dX3_keep_69 : decode cX3_keep 69 = .ok (.iload_n 3, 1) := by decide +kernel
theorem dX3_keep_70 : decode cX3_keep 70 = .ok (.invokestatic 68, 3) := by decide +kernel
theorem dX3_keep_73 : decode cX3_keep 73 = .ok (.invokestatic 30, 3) := by decide +kernel
theorem dX3_keep_76 : decode cX3_keep 76 = .ok (.putfield 49, 3) := by decide +kernel
theorem dX3_keep_79 : decode cX3_keep 79 = .ok (.return_, 1) := by decide +kernel
theorem dX3_win_0 : decode cX3_win 0 = .ok (.aload_n 0, 1) := by decide +kernel
theorem dX3_win_1 : decode cX3_win 1 = .ok (.iconst 0, 1) := by decide +kernel
theorem dX3_win_2 : decode cX3_win 2 = .ok (.iload_n 1, 1) := by decide +kernel
theorem dX3_win_3 : decode cX3_win 3 = .ok (.iload_n 2, 1) := by decide +kernel
theorem dX3_win_4 : decode cX3_win 4 = .ok (.invokevirtual 56, 3) := by decide +kernel
theorem dX3_win_7 : decode cX3_win 7 = .ok (.istore 5, 2) := by decide +kernel
theorem dX3_win_9 : decode cX3_win 9 = .ok (.aload_n 0, 1) := by decide +kernel
theorem dX3_win_10 : decode cX3_win 10 = .ok (.getfield 43, 3) := by decide +kernel
theorem dX3_win_13 : decode cX3_win 13 = .ok (.iload 5, 2) := by decide +kernel
theorem dX3_win_15 : decode cX3_win 15 = .ok (.lload_n 3, 1) := by decide +kernel
theorem dX3_win_16 : decode cX3_win 16 = .ok (.aload_n 0, 1) := by decide +kernel
theorem dX3_win_17 : decode cX3_win 17 = .ok (.getfield 36, 3) := by decide +kernel
theorem dX3_win_20 : decode cX3_win 20 = .ok (.iload 5, 2) := by decide +kernel
theorem dX3_win_22 : decode cX3_win 22 = .ok (.invokestatic 60, 3) := by decide +kernel
theorem dX3_win_25 : decode cX3_win 25 = .ok (.land, 1) := by decide +kernel
theorem dX3_win_26 : decode cX3_win 26 = .ok (.aload_n 0, 1) := by decide +kernel
theorem dX3_win_27 : decode cX3_win 27 = .ok (.getfield 40, 3) := by decide +kernel
theorem dX3_win_30 : decode cX3_win 30 = .ok (.iload 5, 2) := by decide +kernel
theorem dX3_win_32 : decode cX3_win 32 = .ok (.invokestatic 60, 3) := by decide +kernel
theorem dX3_win_35 : decode cX3_win 35 = .ok (.ldc2_w 71, 3) := by decide +kernel
theorem dX3_win_38 : decode cX3_win 38 = .ok (.lxor, 1) := by decide +kernel
theorem dX3_win_39 : decode cX3_win 39 = .ok (.land, 1) := by decide +kernel
theorem dX3_win_40 : decode cX3_win 40 = .ok (.invokestatic 150, 3) := by decide +kernel
theorem dX3_win_43 : decode cX3_win 43 = .ok (.return_, 1) := by decide +kernel
theorem dX3_goBackKing_0 : decode cX3_goBackKing 0 = .ok (.aload_n 0, 1) := by decide +kernel
theorem dX3_goBackKing_1 : decode cX3_goBackKing 1 = .ok (.getfield 9, 3) := by decide +kernel
theorem dX3_goBackKing_4 : decode cX3_goBackKing 4 = .ok (.iload_n 1, 1) := by decide +kernel
theorem dX3_goBackKing_5 : decode cX3_goBackKing 5 = .ok (.invokevirtual 124, 3) := by decide +kernel
theorem dX3_goBackKing_8 : decode cX3_goBackKing 8 = .ok (.iload_n 2, 1) := by decide +kernel
theorem dX3_goBackKing_9 : decode cX3_goBackKing 9 = .ok (.invokestatic 64, 3) := by decide +kernel
theorem dX3_goBackKing_12 : decode cX3_goBackKing 12 = .ok (.ldc2_w 71, 3) := by decide +kernel
theorem dX3_goBackKing_15 : decode cX3_goBackKing 15 = .ok (.lxor, 1) := by decide +kernel
theorem dX3_goBackKing_16 : decode cX3_goBackKing 16 = .ok (.land, 1) := by decide +kernel
theorem dX3_goBackKing_17 : decode cX3_goBackKing 17 = .ok (.lstore 5, 2) := by decide +kernel
theorem dX3_goBackKing_19 : decode cX3_goBackKing 19 = .ok (.iconst 0, 1) := by decide +kernel
theorem dX3_goBackKing_20 : decode cX3_goBackKing 20 = .ok (.istore 7, 2) := by decide +kernel
theorem dX3_goBackKing_22 : decode cX3_goBackKing 22 = .ok (.iload 7, 2) := by decide +kernel
theorem dX3_goBackKing_24 : decode cX3_goBackKing 24 = .ok (.aload_n 0, 1) := by decide +kernel
theorem dX3_goBackKing_25 : decode cX3_goBackKing 25 = .ok (.getfield 9, 3) := by decide +kernel
theorem dX3_goBackKing_28 : decode cX3_goBackKing 28 = .ok (.getfield 19, 3) := by decide +kernel
theorem dX3_goBackKing_31 : decode cX3_goBackKing 31 = .ok (.if_icmp .ge 30, 3) := by decide +kernel
theorem dX3_goBackKing_34 : decode cX3_goBackKing 34 = .ok (.lload 5, 2) := by decide +kernel
theorem dX3_goBackKing_36 : decode cX3_goBackKing 36 = .ok (.iload 7, 2) := by decide +kernel
theorem dX3_goBackKing_38 : decode cX3_goBackKing 38 = .ok (.invokestatic 64, 3) := by decide +kernel
theorem dX3_goBackKing_41 : decode cX3_goBackKing 41 = .ok (.land, 1) := by decide +kernel
theorem dX3_goBackKing_42 : decode cX3_goBackKing 42 = .ok (.lconst 0, 1) := by decide +kernel
theorem dX3_goBackKing_43 : decode cX3_goBackKing 43 = .ok (.lcmp, 1) := by decide +kernel
theorem dX3_goBackKing_44 : decode cX3_goBackKing 44 = .ok (.ifCond .eq 11, 3) := by decide +kernel
theorem dX3_goBackKing_47 : decode cX3_goBackKing 47 = .ok (.aload_n 0, 1) := by decide +kernel
theorem dX3_goBackKing_48 : decode cX3_goBackKing 48 = .ok (.iload 7, 2) := by decide +kernel
theorem dX3_goBackKing_50 : decode cX3_goBackKing 50 = .ok (.iload_n 2, 1) := by decide +kernel
theorem dX3_goBackKing_51 : decode cX3_goBackKing 51 = .ok (.lload_n 3, 1) := by decide +kernel
theorem dX3_goBackKing_52 : decode cX3_goBackKing 52 = .ok (.invokevirtual 153, 3) := by decide +kernel
theorem dX3_goBackKing_55 : decode cX3_goBackKing 55 = .ok (.iinc 7 1, 3) := by decide +kernel
theorem dX3_goBackKing_58 : decode cX3_goBackKing 58 = .ok (.goto (-36), 3) := by decide +kernel
theorem dX3_goBackKing_61 : decode cX3_goBackKing 61 = .ok (.return_, 1) := by decide +kernel
theorem dX3_goBackMan_0 : decode cX3_goBackMan 0 = .ok (.aload_n 0, 1) := by decide +kernel
theorem dX3_goBackMan_1 : decode cX3_goBackMan 1 = .ok (.getfield 9, 3) := by decide +kernel
theorem dX3_goBackMan_4 : decode cX3_goBackMan 4 = .ok (.aload_n 0, 1) := by decide +kernel
theorem dX3_goBackMan_5 : decode cX3_goBackMan 5 = .ok (.getfield 15, 3) := by decide +kernel
theorem dX3_goBackMan_8 : decode cX3_goBackMan 8 = .ok (.iload_n 2, 1) := by decide +kernel
theorem dX3_goBackMan_9 : decode cX3_goBackMan 9 = .ok (.iload_n 1, 1) := by decide +kernel
theorem dX3_goBackMan_10 : decode cX3_goBackMan 10 = .ok (.invokestatic 64, 3) := by decide +kernel
theorem dX3_goBackMan_13 : decode cX3_goBackMan 13 = .ok (.invokevirtual 108, 3) := by decide +kernel
theorem dX3_goBackMan_16 : decode cX3_goBackMan 16 = .ok (.iload_n 1, 1) := by decide +kernel
theorem dX3_goBackMan_17 : decode cX3_goBackMan 17 = .ok (.invokestatic 64, 3) := by decide +kernel
theorem dX3_goBackMan_20 : decode cX3_goBackMan 20 = .ok (.ldc2_w 71, 3) := by decide +kernel
theorem dX3_goBackMan_23 : decode cX3_goBackMan 23 = .ok (.lxor, 1) := by decide +kernel
theorem dX3_goBackMan_24 : decode cX3_goBackMan 24 = .ok (.land, 1) := by decide +kernel
theorem dX3_goBackMan_25 : decode cX3_goBackMan 25 = .ok (.lstore 5, 2) := by decide +kernel
theorem dX3_goBackMan_27 : decode cX3_goBackMan 27 = .ok (.iconst 0, 1) := by decide +kernel
theorem dX3_goBackMan_28 : decode cX3_goBackMan 28 = .ok (.istore 7, 2) := by decide +kernel
theorem dX3_goBackMan_30 : decode cX3_goBackMan 30 = .ok (.iload 7, 2) := by decide +kernel
theorem dX3_goBackMan_32 : decode cX3_goBackMan 32 = .ok (.aload_n 0, 1) := by decide +kernel
theorem dX3_goBackMan_33 : decode cX3_goBackMan 33 = .ok (.getfield 9, 3) := by decide +kernel
theorem dX3_goBackMan_36 : decode cX3_goBackMan 36 = .ok (.getfield 19, 3) := by decide +kernel
theorem dX3_goBackMan_39 : decode cX3_goBackMan 39 = .ok (.if_icmp .ge 30, 3) := by decide +kernel
theorem dX3_goBackMan_42 : decode cX3_goBackMan 42 = .ok (.lload 5, 2) := by decide +kernel
theorem dX3_goBackMan_44 : decode cX3_goBackMan 44 = .ok (.iload 7, 2) := by decide +kernel
theorem dX3_goBackMan_46 : decode cX3_goBackMan 46 = .ok (.invokestatic 64, 3) := by decide +kernel
theorem dX3_goBackMan_49 : decode cX3_goBackMan 49 = .ok (.land, 1) := by decide +kernel
theorem dX3_goBackMan_50 : decode cX3_goBackMan 50 = .ok (.lconst 0, 1) := by decide +kernel
theorem dX3_goBackMan_51 : decode cX3_goBackMan 51 = .ok (.lcmp, 1) := by decide +kernel
theorem dX3_goBackMan_52 : decode cX3_goBackMan 52 = .ok (.ifCond .eq 11, 3) := by decide +kernel
theorem dX3_goBackMan_55 : decode cX3_goBackMan 55 = .ok (.aload_n 0, 1) := by decide +kernel
theorem dX3_goBackMan_56 : decode cX3_goBackMan 56 = .ok (.iload_n 1, 1) := by decide +kernel
theorem dX3_goBackMan_57 : decode cX3_goBackMan 57 = .ok (.iload 7, 2) := by decide +kernel
theorem dX3_goBackMan_59 : decode cX3_goBackMan 59 = .ok (.lload_n 3, 1) := by decide +kernel
theorem dX3_goBackMan_60 : decode cX3_goBackMan 60 = .ok (.invokevirtual 153, 3) := by decide +kernel
theorem dX3_goBackMan_63 : decode cX3_goBackMan 63 = .ok (.iinc 7 1, 3) := by decide +kernel
theorem dX3_goBackMan_66 : decode cX3_goBackMan 66 = .ok (.goto (-36), 3) := by decide +kernel
theorem dX3_goBackMan_69 : decode cX3_goBackMan 69 = .ok (.return_, 1) := by decide +kernel
theorem dX3_goBackPawn_0 : decode cX3_goBackPawn 0 = .ok (.aload_n 0, 1) := by decide +kernel
theorem dX3_goBackPawn_1 : decode cX3_goBackPawn 1 = .ok (.getfield 9, 3) := by decide +kernel
theorem dX3_goBackPawn_4 : decode cX3_goBackPawn 4 = .ok (.iload_n 2, 1) := by decide +kernel
theorem dX3_goBackPawn_5 : decode cX3_goBackPawn 5 = .ok (.iconst 0, 1) := by decide +kernel
theorem dX3_goBackPawn_6 : decode cX3_goBackPawn 6 = .ok (.invokevirtual 156, 3) := by decide +kernel
theorem dX3_goBackPawn_9 : decode cX3_goBackPawn 9 = .ok (.istore 5, 2) := by decide +kernel
theorem dX3_goBackPawn_11 : decode cX3_goBackPawn 11 = .ok (.iload 5, 2) := by decide +kernel
theorem dX3_goBackPawn_13 : decode cX3_goBackPawn 13 = .ok (.iconst (-1), 1) := by decide +kernel
theorem dX3_goBackPawn_14 : decode cX3_goBackPawn 14 = .ok (.if_icmp .eq 9, 3) := by decide +kernel
theorem dX3_goBackPawn_17 : decode cX3_goBackPawn 17 = .ok (.iload 5, 2) := by decide +kernel
theorem dX3_goBackPawn_19 : decode cX3_goBackPawn 19 = .ok (.iload_n 1, 1) := by decide +kernel
theorem dX3_goBackPawn_20 : decode cX3_goBackPawn 20 = .ok (.if_icmp .ne 4, 3) := by decide +kernel
theorem dX3_goBackPawn_23 : decode cX3_goBackPawn 23 = .ok (.return_, 1) := by decide +kernel
theorem dX3_goBackPawn_24 : decode cX3_goBackPawn 24 = .ok (.aload_n 0, 1) := by decide +kernel
theorem dX3_goBackPawn_25 : decode cX3_goBackPawn 25 = .ok (.iload_n 1, 1) := by decide +kernel
theorem dX3_goBackPawn_26 : decode cX3_goBackPawn 26 = .ok (.iload 5, 2) := by decide +kernel
theorem dX3_goBackPawn_28 : decode cX3_goBackPawn 28 = .ok (.lload_n 3, 1) := by decide +kernel
theorem dX3_goBackPawn_29 : decode cX3_goBackPawn 29 = .ok (.invokevirtual 153, 3) := by decide +kernel
theorem dX3_goBackPawn_32 : decode cX3_goBackPawn 32 = .ok (.aload_n 0, 1) := by decide +kernel
theorem dX3_goBackPawn_33 : decode cX3_goBackPawn 33 = .ok (.getfield 9, 3) := by decide +kernel
theorem dX3_goBackPawn_36 : decode cX3_goBackPawn 36 = .ok (.iload 5, 2) := by decide +kernel
theorem dX3_goBackPawn_38 : decode cX3_goBackPawn 38 = .ok (.iconst 0, 1) := by decide +kernel
theorem dX3_goBackPawn_39 : decode cX3_goBackPawn 39 = .ok (.invokevirtual 156, 3) := by decide +kernel
theorem dX3_goBackPawn_42 : decode cX3_goBackPawn 42 = .ok (.istore 6, 2) := by decide +kernel
theorem dX3_goBackPawn_44 : decode cX3_goBackPawn 44 = .ok (.iload 6, 2) := by decide +kernel
theorem dX3_goBackPawn_46 : decode cX3_goBackPawn 46 = .ok (.iconst (-1), 1) := by decide +kernel
theorem dX3_goBackPawn_47 : decode cX3_goBackPawn 47 = .ok (.if_icmp .eq 34, 3) := by decide +kernel
theorem dX3_goBackPawn_50 : decode cX3_goBackPawn 50 = .ok (.aload_n 0, 1) := by decide +kernel
theorem dX3_goBackPawn_51 : decode cX3_goBackPawn 51 = .ok (.getfield 9, 3) := by decide +kernel
theorem dX3_goBackPawn_54 : decode cX3_goBackPawn 54 = .ok (.iload 6, 2) := by decide +kernel
theorem dX3_goBackPawn_56 : decode cX3_goBackPawn 56 = .ok (.invokevirtual 159, 3) := by decide +kernel
theorem dX3_goBackPawn_59 : decode cX3_goBackPawn 59 = .ok (.iconst 1, 1) := by decide +kernel
theorem dX3_goBackPawn_60 : decode cX3_goBackPawn 60 = .ok (.if_icmp .ne 21, 3) := by decide +kernel
theorem dX3_goBackPawn_63 : decode cX3_goBackPawn 63 = .ok (.aload_n 0, 1) := by decide +kernel
theorem dX3_goBackPawn_64 : decode cX3_goBackPawn 64 = .ok (.iload_n 1, 1) := by decide +kernel
theorem dX3_goBackPawn_65 : decode cX3_goBackPawn 65 = .ok (.iload 6, 2) := by decide +kernel
theorem dX3_goBackPawn_67 : decode cX3_goBackPawn 67 = .ok (.lload_n 3, 1) := by decide +kernel
theorem dX3_goBackPawn_68 : decode cX3_goBackPawn 68 = .ok (.iload 5, 2) := by decide +kernel
theorem dX3_goBackPawn_70 : decode cX3_goBackPawn 70 = .ok (.invokestatic 64, 3) := by decide +kernel
theorem dX3_goBackPawn_73 : decode cX3_goBackPawn 73 = .ok (.ldc2_w 71, 3) := by decide +kernel
theorem dX3_goBackPawn_76 : decode cX3_goBackPawn 76 = .ok (.lxor, 1) := by decide +kernel
theorem dX3_goBackPawn_77 : decode cX3_goBackPawn 77 = .ok (.land, 1) := by decide +kernel
theorem dX3_goBackPawn_78 : decode cX3_goBackPawn 78 = .ok (.invokevirtual 153, 3) := by decide +kernel
theorem dX3_goBackPawn_81 : decode cX3_goBackPawn 81 = .ok (.return_, 1) := by decide +kernel
theorem dX3_findPromotions_0 : decode cX3_findPromotions 0 = .ok (.iconst 0, 1) := by decide +kernel
theorem dX3_findPromotions_1 : decode cX3_findPromotions 1 = .ok (.istore_n 3, 1) := by decide +kernel
theorem dX3_findPromotions_2 : decode cX3_findPromotions 2 = .ok (.iload_n 3, 1) := by decide +kernel
theorem dX3_findPromotions_3 : decode cX3_findPromotions 3 = .ok (.aload_n 0, 1) := by decide +kernel
theorem dX3_findPromotions_4 : decode cX3_findPromotions 4 = .ok (.getfield 9, 3) := by decide +kernel
theorem dX3_findPromotions_7 : decode cX3_findPromotions 7 = .ok (.getfield 19, 3) := by decide +kernel
theorem dX3_findPromotions_10 : decode cX3_findPromotions 10 = .ok (.if_icmp .ge 85, 3) := by decide +kernel
theorem dX3_findPromotions_13 : decode cX3_findPromotions 13 = .ok (.iconst 0, 1) := by decide +kernel
theorem dX3_findPromotions_14 : decode cX3_findPromotions 14 = .ok (.istore 4, 2) := by decide +kernel
theorem dX3_findPromotions_16 : decode cX3_findPromotions 16 = .ok (.iload 4, 2) := by decide +kernel
theorem dX3_findPromotions_18 : decode cX3_findPromotions 18 = .ok (.aload_n 0, 1) := by decide +kernel
theorem dX3_findPromotions_19 : decode cX3_findPromotions 19 = .ok (.getfield 9, 3) := by decide +kernel
theorem dX3_findPromotions_22 : decode cX3_findPromotions 22 = .ok (.getfield 19, 3) := by decide +kernel
theorem dX3_findPromotions_25 : decode cX3_findPromotions 25 = .ok (.if_icmp .ge 64, 3) := by decide +kernel
theorem dX3_findPromotions_28 : decode cX3_findPromotions 28 = .ok (.aload_n 0, 1) := by decide +kernel
theorem dX3_findPromotions_29 : decode cX3_findPromotions 29 = .ok (.getfield 9, 3) := by decide +kernel
theorem dX3_findPromotions_32 : decode cX3_findPromotions 32 = .ok (.iload 4, 2) := by decide +kernel
theorem dX3_findPromotions_34 : decode cX3_findPromotions 34 = .ok (.iconst 3, 1) := by decide +kernel
theorem dX3_findPromotions_35 : decode cX3_findPromotions 35 = .ok (.invokevirtual 156, 3) := by decide +kernel
theorem dX3_findPromotions_38 : decode cX3_findPromotions 38 = .ok (.istore 5, 2) := by decide +kernel
theorem dX3_findPromotions_40 : decode cX3_findPromotions 40 = .ok (.iload 5, 2) := by decide +kernel
theorem dX3_findPromotions_42 : decode cX3_findPromotions 42 = .ok (.iconst (-1), 1) := by decide +kernel
theorem dX3_findPromotions_43 : decode cX3_findPromotions 43 = .ok (.if_icmp .eq 40, 3) := by decide +kernel
theorem dX3_findPromotions_46 : decode cX3_findPromotions 46 = .ok (.aload_n 0, 1) := by decide +kernel
theorem dX3_findPromotions_47 : decode cX3_findPromotions 47 = .ok (.getfield 9, 3) := by decide +kernel
theorem dX3_findPromotions_50 : decode cX3_findPromotions 50 = .ok (.iload 5, 2) := by decide +kernel
theorem dX3_findPromotions_52 : decode cX3_findPromotions 52 = .ok (.invokevirtual 159, 3) := by decide +kernel
theorem dX3_findPromotions_55 : decode cX3_findPromotions 55 = .ok (.aload_n 0, 1) := by decide +kernel
theorem dX3_findPromotions_56 : decode cX3_findPromotions 56 = .ok (.getfield 9, 3) := by decide +kernel
theorem dX3_findPromotions_59 : decode cX3_findPromotions 59 = .ok (.getfield 162, 3) := by decide +kernel
theorem dX3_findPromotions_62 : decode cX3_findPromotions 62 = .ok (.iconst 1, 1) := by decide +kernel
theorem dX3_findPromotions_63 : decode cX3_findPromotions 63 = .ok (.isub, 1) := by decide +kernel
theorem dX3_findPromotions_64 : decode cX3_findPromotions 64 = .ok (.if_icmp .ne 19, 3) := by decide +kernel
theorem dX3_findPromotions_67 : decode cX3_findPromotions 67 = .ok (.aload_n 0, 1) := by decide +kernel
theorem dX3_findPromotions_68 : decode cX3_findPromotions 68 = .ok (.iload_n 3, 1) := by decide +kernel
theorem dX3_findPromotions_69 : decode cX3_findPromotions 69 = .ok (.iload 4, 2) := by decide +kernel
theorem dX3_findPromotions_71 : decode cX3_findPromotions 71 = .ok (.aload_n 0, 1) := by decide +kernel
theorem dX3_findPromotions_72 : decode cX3_findPromotions 72 = .ok (.iload_n 1, 1) := by decide +kernel
theorem dX3_findPromotions_73 : decode cX3_findPromotions 73 = .ok (.iload_n 3, 1) := by decide +kernel
theorem dX3_findPromotions_74 : decode cX3_findPromotions 74 = .ok (.iload 5, 2) := by decide +kernel
theorem dX3_findPromotions_76 : decode cX3_findPromotions 76 = .ok (.aload_n 2, 1) := by decide +kernel
theorem dX3_findPromotions_77 : decode cX3_findPromotions 77 = .ok (.invokevirtual 165, 3) := by decide +kernel
theorem dX3_findPromotions_80 : decode cX3_findPromotions 80 = .ok (.invokevirtual 153, 3) := by decide +kernel
theorem dX3_findPromotions_83 : decode cX3_findPromotions 83 = .ok (.iinc 4 1, 3) := by decide +kernel
theorem dX3_findPromotions_86 : decode cX3_findPromotions 86 = .ok (.goto (-70), 3) := by decide +kernel
theorem dX3_findPromotions_89 : decode cX3_findPromotions 89 = .ok (.iinc 3 1, 3) := by decide +kernel
theorem dX3_findPromotions_92 : decode cX3_findPromotions 92 = .ok (.goto (-90), 3) := by decide +kernel
theorem dX3_findPromotions_95 : decode cX3_findPromotions 95 = .ok (.return_, 1) := by decide +kernel
theorem dX3_promoted_0 : decode cX3_promoted 0 = .ok (.lconst 0, 1) := by decide +kernel
theorem dX3_promoted_1 : decode cX3_promoted 1 = .ok (.lstore 5, 2) := by decide +kernel
theorem dX3_promoted_3 : decode cX3_promoted 3 = .ok (.aload_n 0, 1) := by decide +kernel
theorem dX3_promoted_4 : decode cX3_promoted 4 = .ok (.iconst 1, 1) := by decide +kernel
theorem dX3_promoted_5 : decode cX3_promoted 5 = .ok (.iload_n 2, 1) := by decide +kernel
theorem dX3_promoted_6 : decode cX3_promoted 6 = .ok (.iload_n 3, 1) := by decide +kernel
theorem dX3_promoted_7 : decode cX3_promoted 7 = .ok (.invokevirtual 56, 3) := by decide +kernel
theorem dX3_promoted_10 : decode cX3_promoted 10 = .ok (.istore 7, 2) := by decide +kernel
theorem dX3_promoted_12 : decode cX3_promoted 12 = .ok (.iconst 2, 1) := by decide +kernel
theorem dX3_promoted_13 : decode cX3_promoted 13 = .ok (.istore 8, 2) := by decide +kernel
theorem dX3_promoted_15 : decode cX3_promoted 15 = .ok (.iload 8, 2) := by decide +kernel
theorem dX3_promoted_17 : decode cX3_promoted 17 = .ok (.iconst 5, 1) := by decide +kernel
theorem dX3_promoted_18 : decode cX3_promoted 18 = .ok (.if_icmp .gt 44, 3) := by decide +kernel
theorem dX3_promoted_21 : decode cX3_promoted 21 = .ok (.iload 8, 2) := by decide +kernel
theorem dX3_promoted_23 : decode cX3_promoted 23 = .ok (.aload 4, 2) := by decide +kernel
theorem dX3_promoted_25 : decode cX3_promoted 25 = .ok (.arraylength, 1) := by decide +kernel
theorem dX3_promoted_26 : decode cX3_promoted 26 = .ok (.if_icmp .ge 30, 3) := by decide +kernel
theorem dX3_promoted_29 : decode cX3_promoted 29 = .ok (.aload 4, 2) := by decide +kernel
theorem dX3_promoted_31 : decode cX3_promoted 31 = .ok (.iload 8, 2) := by decide +kernel
theorem dX3_promoted_33 : decode cX3_promoted 33 = .ok (.aaload, 1) := by decide +kernel
theorem dX3_promoted_34 : decode cX3_promoted 34 = .ok (.ifnull 22, 3) := by decide +kernel
theorem dX3_promoted_37 : decode cX3_promoted 37 = .ok (.lload 5, 2) := by decide +kernel
theorem dX3_promoted_39 : decode cX3_promoted 39 = .ok (.aload 4, 2) := by decide +kernel
theorem dX3_promoted_41 : decode cX3_promoted 41 = .ok (.iload 8, 2) := by decide +kernel
theorem dX3_promoted_43 : decode cX3_promoted 43 = .ok (.aaload, 1) := by decide +kernel
theorem dX3_promoted_44 : decode cX3_promoted 44 = .ok (.iconst 1, 1) := by decide +kernel
theorem dX3_promoted_45 : decode cX3_promoted 45 = .ok (.iload 7, 2) := by decide +kernel
theorem dX3_promoted_47 : decode cX3_promoted 47 = .ok (.iconst 2, 1) := by decide +kernel
theorem dX3_promoted_48 : decode cX3_promoted 48 = .ok (.iload_n 1, 1) := by decide +kernel
theorem dX3_promoted_49 : decode cX3_promoted 49 = .ok (.imul, 1) := by decide +kernel
theorem dX3_promoted_50 : decode cX3_promoted 50 = .ok (.invokevirtual 73, 3) := by decide +kernel
theorem dX3_promoted_53 : decode cX3_promoted 53 = .ok (.lor, 1) := by decide +kernel
theorem dX3_promoted_54 : decode cX3_promoted 54 = .ok (.lstore 5, 2) := by decide +kernel
theorem dX3_promoted_56 : decode cX3_promoted 56 = .ok (.iinc 8 1, 3) := by decide +kernel
theorem dX3_promoted_59 : decode cX3_promoted 59 = .ok (.goto (-44), 3) := by decide +kernel
theorem dX3_promoted_62 : decode cX3_promoted 62 = .ok (.lload 5, 2) := by decide +kernel
theorem dX3_promoted_64 : decode cX3_promoted 64 = .ok (.lreturn, 1) := by decide +kernel
theorem dX4_init_0 : decode cX4_init 0 = .ok (.aload_n 0, 1) := by decide +kernel
theorem dX4_init_1 : decode cX4_init 1 = .ok (.invokespecial 1, 3) := by decide +kernel
theorem dX4_init_4 : decode cX4_init 4 = .ok (.aload_n 0, 1) := by decide +kernel
theorem dX4_init_5 : decode cX4_init 5 = .ok (.new 7, 3) := by decide +kernel
theorem dX4_init_8 : decode cX4_init 8 = .ok (.dup, 1) := by decide +kernel
theorem dX4_init_9 : decode cX4_init 9 = .ok (.iload_n 1, 1) := by decide +kernel
theorem dX4_init_10 : decode cX4_init 10 = .ok (.iload_n 2, 1) := by decide +kernel
theorem dX4_init_11 : decode cX4_init 11 = .ok (.invokespecial 9, 3) := by decide +kernel
theorem dX4_init_14 : decode cX4_init 14 = .ok (.putfield 12, 3) := by decide +kernel
theorem dX4_init_17 : decode cX4_init 17 = .ok (.aload_n 0, 1) := by decide +kernel
theorem dX4_init_18 : decode cX4_init 18 = .ok (.bipush 6, 2) := by decide +kernel
theorem dX4_init_20 : decode cX4_init 20 = .ok (.anewarray 18, 3) := by decide +kernel
theorem dX4_init_23 : decode cX4_init 23 = .ok (.putfield 20, 3) := by decide +kernel
theorem dX4_init_26 : decode cX4_init 26 = .ok (.aload_n 0, 1) := by decide +kernel
theorem dX4_init_27 : decode cX4_init 27 = .ok (.getfield 20, 3) := by decide +kernel
theorem dX4_init_30 : decode cX4_init 30 = .ok (.iconst 1, 1) := by decide +kernel
theorem dX4_init_31 : decode cX4_init 31 = .ok (.new 18, 3) := by decide +kernel
theorem dX4_init_34 : decode cX4_init 34 = .ok (.dup, 1) := by decide +kernel
theorem dX4_init_35 : decode cX4_init 35 = .ok (.aload_n 0, 1) := by decide +kernel
theorem dX4_init_36 : decode cX4_init 36 = .ok (.getfield 12, 3) := by decide +kernel
theorem dX4_init_39 : decode cX4_init 39 = .ok (.iconst 1, 1) := by decide +kernel
theorem dX4_init_40 : decode cX4_init 40 = .ok (.invokespecial 24, 3) := by decide +kernel
theorem dX4_init_43 : decode cX4_init 43 = .ok (.aastore, 1) := by decide +kernel
theorem dX4_init_44 : decode cX4_init 44 = .ok (.aload_n 0, 1) := by decide +kernel
theorem dX4_init_45 : decode cX4_init 45 = .ok (.getfield 20, 3) := by decide +kernel
theorem dX4_init_48 : decode cX4_init 48 = .ok (.iconst 2, 1) := by decide +kernel
theorem dX4_init_49 : decode cX4_init 49 = .ok (.new 18, 3) := by decide +kernel
theorem dX4_init_52 : decode cX4_init 52 = .ok (.dup, 1) := by decide +kernel
theorem dX4_init_53 : decode cX4_init 53 = .ok (.aload_n 0, 1) := by decide +kernel
theorem dX4_init_54 : decode cX4_init 54 = .ok (.getfield 12, 3) := by decide +kernel
theorem dX4_init_57 : decode cX4_init 57 = .ok (.iconst 2, 1) := by decide +kernel
theorem dX4_init_58 : decode cX4_init 58 = .ok (.invokespecial 24, 3) := by decide +kernel
theorem dX4_init_61 : decode cX4_init 61 = .ok (.aastore, 1) := by decide +kernel
theorem dX4_init_62 : decode cX4_init 62 = .ok (.aload_n 0, 1) := by decide +kernel
theorem dX4_init_63 : decode cX4_init 63 = .ok (.getfield 20, 3) := by decide +kernel
theorem dX4_init_66 : decode cX4_init 66 = .ok (.iconst 3, 1) := by decide +kernel
theorem dX4_init_67 : decode cX4_init 67 = .ok (.new 18, 3) := by decide +kernel
theorem dX4_init_70 : decode cX4_init 70 = .ok (.dup, 1) := by decide +kernel
theorem dX4_init_71 : decode cX4_init 71 = .ok (.aload_n 0, 1) := by decide +kernel
theorem dX4_init_72 : decode cX4_init 72 = .ok (.getfield 12, 3) := by decide +kernel
theorem dX4_init_75 : decode cX4_init 75 = .ok (.iconst 3, 1) := by decide +kernel
theorem dX4_init_76 : decode cX4_init 76 = .ok (.invokespecial 24, 3) := by decide +kernel
theorem dX4_init_79 : decode cX4_init 79 = .ok (.aastore, 1) := by decide +kernel
theorem dX4_init_80 : decode cX4_init 80 = .ok (.aload_n 0, 1) := by decide +kernel
theorem dX4_init_81 : decode cX4_init 81 = .ok (.getfield 20, 3) := by decide +kernel
theorem dX4_init_84 : decode cX4_init 84 = .ok (.iconst 4, 1) := by decide +kernel
theorem dX4_init_85 : decode cX4_init 85 = .ok (.new 18, 3) := by decide +kernel
theorem dX4_init_88 : decode cX4_init 88 = .ok (.dup, 1) := by decide +kernel
theorem dX4_init_89 : decode cX4_init 89 = .ok (.aload_n 0, 1) := by decide +kernel
theorem dX4_init_90 : decode cX4_init 90 = .ok (.getfield 12, 3) := by decide +kernel
theorem dX4_init_93 : decode cX4_init 93 = .ok (.iconst 4, 1) := by decide +kernel
theorem dX4_init_94 : decode cX4_init 94 = .ok (.invokespecial 24, 3) := by decide +kernel
theorem dX4_init_97 : decode cX4_init 97 = .ok (.aastore, 1) := by decide +kernel
theorem dX4_init_98 : decode cX4_init 98 = .ok (.aload_n 0, 1) := by decide +kernel
theorem dX4_init_99 : decode cX4_init 99 = .ok (.getfield 20, 3) := by decide +kernel
theorem dX4_init_102 : decode cX4_init 102 = .ok (.iconst 5, 1) := by decide +kernel
theorem dX4_init_103 : decode cX4_init 103 = .ok (.new 18, 3) := by decide +kernel
theorem dX4_init_106 : decode cX4_init 106 = .ok (.dup, 1) := by decide +kernel
theorem dX4_init_107 : decode cX4_init 107 = .ok (.aload_n 0, 1) := by decide +kernel
theorem dX4_init_108 : decode cX4_init 108 = .ok (.getfield 12, 3) := by decide +kernel
theorem dX4_init_111 : decode cX4_init 111 = .ok (.iconst 5, 1) := by decide +kernel
theorem dX4_init_112 : decode cX4_init 112 = .ok (.invokespecial 24, 3) := by decide +kernel
theorem dX4_init_115 : decode cX4_init 115 = .ok (.aastore, 1) := by decide +kernel
theorem dX4_init_116 : decode cX4_init 116 = .ok (.aload_n 0, 1) := by decide +kernel
theorem dX4_init_117 : decode cX4_init 117 = .ok (.new 27, 3) := by decide +kernel
theorem dX4_init_120 : decode cX4_init 120 = .ok (.dup, 1) := by decide +kernel
theorem dX4_init_121 : decode cX4_init 121 = .ok (.invokespecial 29, 3) := by decide +kernel
theorem dX4_init_124 : decode cX4_init 124 = .ok (.putfield 30, 3) := by decide +kernel
theorem dX4_init_127 : decode cX4_init 127 = .ok (.aload_n 0, 1) := by decide +kernel
theorem dX4_init_128 : decode cX4_init 128 = .ok (.new 27, 3) := by decide +kernel
theorem dX4_init_131 : decode cX4_init 131 = .ok (.dup, 1) := by decide +kernel
theorem dX4_init_132 : decode cX4_init 132 = .ok (.invokespecial 29, 3) := by decide +kernel
theorem dX4_init_135 : decode cX4_init 135 = .ok (.putfield 34, 3) := by decide +kernel
theorem dX4_init_138 : decode cX4_init 138 = .ok (.aload_n 0, 1) := by decide +kernel
theorem dX4_init_139 : decode cX4_init 139 = .ok (.new 37, 3) := by decide +kernel
theorem dX4_init_142 : decode cX4_init 142 = .ok (.dup, 1) := by decide +kernel
theorem dX4_init_143 : decode cX4_init 143 = .ok (.invokespecial 39, 3) := by decide +kernel
theorem dX4_init_146 : decode cX4_init 146 = .ok (.putfield 40, 3) := by decide +kernel
theorem dX4_init_149 : decode cX4_init 149 = .ok (.aload_n 0, 1) := by decide +kernel
theorem dX4_init_150 : decode cX4_init 150 = .ok (.iconst 0, 1) := by decide +kernel
theorem dX4_init_151 : decode cX4_init 151 = .ok (.putfield 44, 3) := by decide +kernel
theorem dX4_init_154 : decode cX4_init 154 = .ok (.return_, 1) := by decide +kernel
theorem dX4_size_0 : decode cX4_size 0 = .ok (.iload_n 1, 1) := by decide +kernel
theorem dX4_size_1 : decode cX4_size 1 = .ok (.ifCond .eq 13, 3) := by decide +kernel
theorem dX4_size_4 : decode cX4_size 4 = .ok (.aload_n 0, 1) := by decide +kernel
theorem dX4_size_5 : decode cX4_size 5 = .ok (.getfield 12, 3) := by decide +kernel
theorem dX4_size_8 : decode cX4_size 8 = .ok (.getfield 48, 3) := by decide +kernel
theorem dX4_size_11 : decode cX4_size 11 = .ok (.goto 10, 3) := by decide +kernel
theorem dX4_size_14 : decode cX4_size 14 = .ok (.aload_n 0, 1) := by decide +kernel
theorem dX4_size_15 : decode cX4_size 15 = .ok (.getfield 12, 3) := by decide +kernel
theorem dX4_size_18 : decode cX4_size 18 = .ok (.getfield 52, 3) := by decide +kernel
theorem dX4_size_21 : decode cX4_size 21 = .ok (.ireturn, 1) := by decide +kernel
theorem dX4_distance_0 : decode cX4_distance 0 = .ok (.iload_n 1, 1) := by decide +kernel
theorem dX4_distance_1 : decode cX4_distance 1 = .ok (.invokestatic 55, 3) := by decide +kernel
theorem dX4_distance_4 : decode cX4_distance 4 = .ok (.ifCond .eq 17, 3) := by decide +kernel
theorem dX4_distance_7 : decode cX4_distance 7 = .ok (.aload_n 0, 1) := by decide +kernel
theorem dX4_distance_8 : decode cX4_distance 8 = .ok (.iload_n 1, 1) := by decide +kernel
theorem dX4_distance_9 : decode cX4_distance 9 = .ok (.iload_n 2, 1) := by decide +kernel
theorem dX4_distance_10 : decode cX4_distance 10 = .ok (.iload_n 3, 1) := by decide +kernel
theorem dX4_distance_11 : decode cX4_distance 11 = .ok (.iload 4, 2) := by decide +kernel
theorem dX4_distance_13 : decode cX4_distance 13 = .ok (.iload 5, 2) := by decide +kernel
theorem dX4_distance_15 : decode cX4_distance 15 = .ok (.invokevirtual 59, 3) := by decide +kernel
theorem dX4_distance_18 : decode cX4_distance 18 = .ok (.ifCond .ne 13, 3) := by decide +kernel
theorem dX4_distance_21 : decode cX4_distance 21 = .ok (.new 63, 3) := by decide +kernel
theorem dX4_distance_24 : decode cX4_distance 24 = .ok (.dup, 1) := by decide +kernel
theorem dX4_distance_25 : decode cX4_distance 25 = .ok (.ldc 65, 2) := by decide +kernel
theorem dX4_distance_27 : decode cX4_distance 27 = .ok (.invokespecial 67, 3) := by decide +kernel
theorem dX4_distance_30 : decode cX4_distance 30 = .ok (.athrow, 1) := by decide +kernel
theorem dX4_distance_31 : decode cX4_distance 31 = .ok (.aload_n 0, 1) := by decide +kernel
theorem dX4_distance_32 : decode cX4_distance 32 = .ok (.iload_n 1, 1) := by decide +kernel
theorem dX4_distance_33 : decode cX4_distance 33 = .ok (.invokevirtual 70, 3) := by decide +kernel
theorem dX4_distance_36 : decode cX4_distance 36 = .ok (.pop, 1) := by decide +kernel
theorem dX4_distance_37 : decode cX4_distance 37 = .ok (.aload_n 0, 1) := by decide +kernel
theorem dX4_distance_38 : decode cX4_distance 38 = .ok (.aload_n 0, 1) := by decide +kernel
theorem dX4_distance_39 : decode cX4_distance 39 = .ok (.getfield 34, 3) := by decide +kernel
theorem dX4_distance_42 : decode cX4_distance 42 = .ok (.invokevirtual 74, 3) := by decide +kernel
theorem dX4_distance_45 : decode cX4_distance 45 = .ok (.ireturn, 1) := by decide +kernel
theorem dX4_count_0 : decode cX4_count 0 = .ok (.iload_n 1, 1) := by decide +kernel
theorem dX4_count_1 : decode cX4_count 1 = .ok (.iload_n 2, 1) := by decide +kernel
theorem dX4_count_2 : decode cX4_count 2 = .ok (.invokestatic 78, 3) := by decide +kernel
theorem dX4_count_5 : decode cX4_count 5 = .ok (.aload_n 0, 1) := by decide +kernel
theorem dX4_count_6 : decode cX4_count 6 = .ok (.iload_n 1, 1) := by decide +kernel
theorem dX4_count_7 : decode cX4_count 7 = .ok (.invokevirtual 70, 3) := by decide +kernel
theorem dX4_count_10 : decode cX4_count 10 = .ok (.astore 4, 2) := by decide +kernel
theorem dX4_count_12 : decode cX4_count 12 = .ok (.aload 4, 2) := by decide +kernel
theorem dX4_count_14 : decode cX4_count 14 = .ok (.ifnonnull 7, 3) := by decide +kernel
theorem dX4_count_17 : decode cX4_count 17 = .ok (.iconst 0, 1) := by decide +kernel
theorem dX4_count_18 : decode cX4_count 18 = .ok (.goto 10, 3) := by decide +kernel
theorem dX4_count_21 : decode cX4_count 21 = .ok (.aload 4, 2) := by decide +kernel
theorem dX4_count_23 : decode cX4_count 23 = .ok (.iload_n 2, 1) := by decide +kernel
theorem dX4_count_24 : decode cX4_count 24 = .ok (.iload_n 3, 1) := by decide +kernel
theorem dX4_count_25 : decode cX4_count 25 = .ok (.invokevirtual 81, 3) := by decide +kernel
theorem dX4_count_28 : decode cX4_count 28 = .ok (.ireturn, 1) := by decide +kernel
theorem dX4_find_0 : decode cX4_find 0 = .ok (.iload_n 1, 1) := by decide +kernel
theorem dX4_find_1 : decode cX4_find 1 = .ok (.iload_n 2, 1) := by decide +kernel
theorem dX4_find_2 : decode cX4_find 2 = .ok (.invokestatic 78, 3) := by decide +kernel
theorem dX4_find_5 : decode cX4_find 5 = .ok (.aload_n 0, 1) := by decide +kernel
theorem dX4_find_6 : decode cX4_find 6 = .ok (.iload_n 1, 1) := by decide +kernel
theorem dX4_find_7 : decode cX4_find 7 = .ok (.invokevirtual 70, 3) := by decide +kernel
theorem dX4_find_10 : decode cX4_find 10 = .ok (.astore 5, 2) := by decide +kernel
theorem dX4_find_12 : decode cX4_find 12 = .ok (.aload 5, 2) := by decide +kernel
theorem dX4_find_14 : decode cX4_find 14 = .ok (.ifnonnull 7, 3) := by decide +kernel
theorem dX4_find_17 : decode cX4_find 17 = .ok (.iconst (-1), 1) := by decide +kernel
theorem dX4_find_18 : decode cX4_find 18 = .ok (.goto 12, 3) := by decide +kernel
theorem dX4_find_21 : decode cX4_find 21 = .ok (.aload 5, 2) := by decide +kernel
theorem dX4_find_23 : decode cX4_find 23 = .ok (.iload_n 2, 1) := by decide +kernel
theorem dX4_find_24 : decode cX4_find 24 = .ok (.iload_n 3, 1) := by decide +kernel
theorem dX4_find_25 : decode cX4_find 25 = .ok (.iload 4, 2) := by decide +kernel
theorem dX4_find_27 : decode cX4_find 27 = .ok (.invokevirtual 85, 3) := by decide +kernel
theorem dX4_find_30 : decode cX4_find 30 = .ok (.istore 6, 2) := by decide +kernel
theorem dX4_find_32 : decode cX4_find 32 = .ok (.iload 6, 2) := by decide +kernel
theorem dX4_find_34 : decode cX4_find 34 = .ok (.ifCond .ge 13, 3) := by decide +kernel
theorem dX4_find_37 : decode cX4_find 37 = .ok (.new 89, 3) := by decide +kernel
theorem dX4_find_40 : decode cX4_find 40 = .ok (.dup, 1) := by decide +kernel
theorem dX4_find_41 : decode cX4_find 41 = .ok (.ldc 91, 2) := by decide +kernel
theorem dX4_find_43 : decode cX4_find 43 = .ok (.invokespecial 93, 3) := by decide +kernel
theorem dX4_find_46 : decode cX4_find 46 = .ok (.athrow, 1) := by decide +kernel
theorem dX4_find_47 : decode cX4_find 47 = .ok (.iload 6, 2) := by decide +kernel
theorem dX4_find_49 : decode cX4_find 49 = .ok (.ireturn, 1) := by decide +kernel
theorem dX4_longest_0 : decode cX4_longest 0 = .ok (.iload_n 1, 1) := by decide +kernel
theorem dX4_longest_1 : decode cX4_longest 1 = .ok (.invokestatic 55, 3) := by decide +kernel
theorem dX4_longest_4 : decode cX4_longest 4 = .ok (.ifCond .ne 13, 3) := by decide +kernel
theorem dX4_longest_7 : decode cX4_longest 7 = .ok (.new 63, 3) := by decide +kernel
theorem dX4_longest_10 : decode cX4_longest 10 = .ok (.dup, 1) := by decide +kernel
theorem dX4_longest_11 : decode cX4_longest 11 = .ok (.ldc 94, 2) := by decide +kernel
theorem dX4_longest_13 : decode cX4_longest 13 = .ok (.invokespecial 67, 3) := by decide +kernel
theorem dX4_longest_16 : decode cX4_longest 16 = .ok (.athrow, 1) := by decide +kernel
theorem dX4_longest_17 : decode cX4_longest 17 = .ok (.aload_n 0, 1) := by decide +kernel
theorem dX4_longest_18 : decode cX4_longest 18 = .ok (.iload_n 1, 1) := by decide +kernel
theorem dX4_longest_19 : decode cX4_longest 19 = .ok (.invokevirtual 70, 3) := by decide +kernel
theorem dX4_longest_22 : decode cX4_longest 22 = .ok (.astore_n 2, 1) := by decide +kernel
theorem dX4_longest_23 : decode cX4_longest 23 = .ok (.aload_n 2, 1) := by decide +kernel
theorem dX4_longest_24 : decode cX4_longest 24 = .ok (.ifnonnull 7, 3) := by decide +kernel
theorem dX4_longest_27 : decode cX4_longest 27 = .ok (.iconst (-1), 1) := by decide +kernel
theorem dX4_longest_28 : decode cX4_longest 28 = .ok (.goto 7, 3) := by decide +kernel
theorem dX4_longest_31 : decode cX4_longest 31 = .ok (.aload_n 2, 1) := by decide +kernel
theorem dX4_longest_32 : decode cX4_longest 32 = .ok (.getfield 96, 3) := by decide +kernel
theorem dX4_longest_35 : decode cX4_longest 35 = .ok (.ireturn, 1) := by decide +kernel
theorem dX4_set_0 : decode cX4_set 0 = .ok (.aload_n 0, 1) := by decide +kernel
theorem dX4_set_1 : decode cX4_set 1 = .ok (.iload_n 1, 1) := by decide +kernel
theorem dX4_set_2 : decode cX4_set 2 = .ok (.iload_n 2, 1) := by decide +kernel
theorem dX4_set_3 : decode cX4_set 3 = .ok (.iload_n 3, 1) := by decide +kernel
theorem dX4_set_4 : decode cX4_set 4 = .ok (.iload 4, 2) := by decide +kernel
theorem dX4_set_6 : decode cX4_set 6 = .ok (.iload 5, 2) := by decide +kernel
theorem dX4_set_8 : decode cX4_set 8 = .ok (.invokevirtual 59, 3) := by decide +kernel
theorem dX4_set_11 : decode cX4_set 11 = .ok (.ifCond .ne 5, 3) := by decide +kernel
theorem dX4_set_14 : decode cX4_set 14 = .ok (.iconst 0, 1) := by decide +kernel
theorem dX4_set_15 : decode cX4_set 15 = .ok (.ireturn, 1) := by decide +kernel
theorem dX4_set_16 : decode cX4_set 16 = .ok (.aload_n 0, 1) := by decide +kernel
theorem dX4_set_17 : decode cX4_set 17 = .ok (.getfield 30, 3) := by decide +kernel
theorem dX4_set_20 : decode cX4_set 20 = .ok (.aload_n 0, 1) := by decide +kernel
theorem dX4_set_21 : decode cX4_set 21 = .ok (.getfield 34, 3) := by decide +kernel
theorem dX4_set_24 : decode cX4_set 24 = .ok (.invokevirtual 99, 3) := by decide +kernel
theorem dX4_set_27 : decode cX4_set 27 = .ok (.aload_n 0, 1) := by decide +kernel
theorem dX4_set_28 : decode cX4_set 28 = .ok (.iconst 1, 1) := by decide +kernel
theorem dX4_set_29 : decode cX4_set 29 = .ok (.putfield 44, 3) := by decide +kernel
theorem dX4_set_32 : decode cX4_set 32 = .ok (.aload_n 0, 1) := by decide +kernel
theorem dX4_set_33 : decode cX4_set 33 = .ok (.getfield 40, 3) := by decide +kernel
theorem dX4_set_36 : decode cX4_set 36 = .ok (.aload_n 0, 1) := by decide +kernel
theorem dX4_set_37 : decode cX4_set 37 = .ok (.getfield 12, 3) := by decide +kernel
theorem dX4_set_40 : decode cX4_set 40 = .ok (.aload_n 0, 1) := by decide +kernel
theorem dX4_set_41 : decode cX4_set 41 = .ok (.getfield 30, 3) := by decide +kernel
theorem dX4_set_44 : decode cX4_set 44 = .ok (.invokevirtual 103, 3) := by decide +kernel
theorem dX4_set_47 : decode cX4_set 47 = .ok (.iconst 1, 1) := by decide +kernel
theorem dX4_set_48 : decode cX4_set 48 = .ok (.ireturn, 1) := by decide +kernel
theorem dX4_about_0 : decode cX4_about 0 = .ok (.aload_n 0, 1) := by decide +kernel
theorem dX4_about_1 : decode cX4_about 1 = .ok (.invokevirtual 107, 3) := by decide +kernel
theorem dX4_about_4 : decode cX4_about 4 = .ok (.iload_n 1, 1) := by decide +kernel
theorem dX4_about_5 : decode cX4_about 5 = .ok (.tableswitch 134 0 5 #[39, 47, 62, 91, 106, 114], 39) := by decide +kernel
theorem dX4_about_44 : decode cX4_about 44 = .ok (.aload_n 0, 1) := by decide +kernel
theorem dX4_about_45 : decode cX4_about 45 = .ok (.getfield 30, 3) := by decide +kernel
theorem dX4_about_48 : decode cX4_about 48 = .ok (.getfield 110, 3) := by decide +kernel
theorem dX4_about_51 : decode cX4_about 51 = .ok (.ireturn, 1) := by decide +kernel
theorem dX4_about_52 : decode cX4_about 52 = .ok (.aload_n 0, 1) := by decide +kernel
theorem dX4_about_53 : decode cX4_about 53 = .ok (.getfield 12, 3) := by decide +kernel
theorem dX4_about_56 : decode cX4_about 56 = .ok (.aload_n 0, 1) := by decide +kernel
theorem dX4_about_57 : decode cX4_about 57 = .ok (.getfield 30, 3) := by decide +kernel
theorem dX4_about_60 : decode cX4_about 60 = .ok (.getfield 113, 3) := by decide +kernel
theorem dX4_about_63 : decode cX4_about 63 = .ok (.invokevirtual 116, 3) := by decide +kernel
theorem dX4_about_66 : decode cX4_about 66 = .ok (.ireturn, 1) := by decide +kernel
theorem dX4_about_67 : decode cX4_about 67 = .ok (.aload_n 0, 1) := by decide +kernel
theorem dX4_about_68 : decode cX4_about 68 = .ok (.getfield 30, 3) := by decide +kernel
theorem dX4_about_71 : decode cX4_about 71 = .ok (.getfield 110, 3) := by decide +kernel
theorem dX4_about_74 : decode cX4_about 74 = .ok (.ifCond .ne 7, 3) := by decide +kernel
theorem dX4_about_77 : decode cX4_about 77 = .ok (.iconst 0, 1) := by decide +kernel
theorem dX4_about_78 : decode cX4_about 78 = .ok (.goto 17, 3) := by decide +kernel
theorem dX4_about_81 : decode cX4_about 81 = .ok (.aload_n 0, 1) := by decide +kernel
theorem dX4_about_82 : decode cX4_about 82 = .ok (.getfield 12, 3) := by decide +kernel
theorem dX4_about_85 : decode cX4_about 85 = .ok (.aload_n 0, 1) := by decide +kernel
theorem dX4_about_86 : decode cX4_about 86 = .ok (.getfield 30, 3) := by decide +kernel
theorem dX4_about_89 : decode cX4_about 89 = .ok (.getfield 120, 3) := by decide +kernel
theorem dX4_about_92 : decode cX4_about 92 = .ok (.invokevirtual 116, 3) := by decide +kernel
theorem dX4_about_95 : decode cX4_about 95 = .ok (.ireturn, 1) := by decide +kernel
theorem dX4_about_96 : decode cX4_about 96 = .ok (.aload_n 0, 1) := by decide +kernel
theorem dX4_about_97 : decode cX4_about 97 = .ok (.getfield 12, 3) := by decide +kernel
theorem dX4_about_100 : decode cX4_about 100 = .ok (.aload_n 0, 1) := by decide +kernel
theorem dX4_about_101 : decode cX4_about 101 = .ok (.getfield 30, 3) := by decide +kernel
theorem dX4_about_104 : decode cX4_about 104 = .ok (.getfield 123, 3) := by decide +kernel
theorem dX4_about_107 : decode cX4_about 107 = .ok (.invokevirtual 116, 3) := by decide +kernel
theorem dX4_about_110 : decode cX4_about 110 = .ok (.ireturn, 1) := by decide +kernel
theorem dX4_about_111 : decode cX4_about 111 = .ok (.aload_n 0, 1) := by decide +kernel
theorem dX4_about_112 : decode cX4_about 112 = .ok (.getfield 30, 3) := by decide +kernel
theorem dX4_about_115 : decode cX4_about 115 = .ok (.getfield 126, 3) := by decide +kernel
theorem dX4_about_118 : decode cX4_about 118 = .ok (.ireturn, 1) := by decide +kernel
theorem dX4_about_119 : decode cX4_about 119 = .ok (.aload_n 0, 1) := by decide +kernel
theorem dX4_about_120 : decode cX4_about 120 = .ok (.getfield 12, 3) := by decide +kernel
theorem dX4_about_123 : decode cX4_about 123 = .ok (.aload_n 0, 1) := by decide +kernel
theorem dX4_about_124 : decode cX4_about 124 = .ok (.getfield 30, 3) := by decide +kernel
theorem dX4_about_127 : decode cX4_about 127 = .ok (.invokevirtual 129, 3) := by decide +kernel
theorem dX4_about_130 : decode cX4_about 130 = .ok (.ifCond .eq 7, 3) := by decide +kernel
theorem dX4_about_133 : decode cX4_about 133 = .ok (.iconst 1, 1) := by decide +kernel
theorem dX4_about_134 : decode cX4_about 134 = .ok (.goto 4, 3) := by decide +kernel
theorem dX4_about_137 : decode cX4_about 137 = .ok (.iconst 0, 1) := by decide +kernel
theorem dX4_about_138 : decode cX4_about 138 = .ok (.ireturn, 1) := by decide +kernel
theorem dX4_about_139 : decode cX4_about 139 = .ok (.new 89, 3) := by decide +kernel
theorem dX4_about_142 : decode cX4_about 142 = .ok (.dup, 1) := by decide +kernel
theorem dX4_about_143 : decode cX4_about 143 = .ok (.ldc 133, 2) := by decide +kernel
theorem dX4_about_145 : decode cX4_about 145 = .ok (.invokespecial 93, 3) := by decide +kernel
theorem dX4_about_148 : decode cX4_about 148 = .ok (.athrow, 1) := by decide +kernel
theorem dX4_left_0 : decode cX4_left 0 = .ok (.aload_n 0, 1) := by decide +kernel
theorem dX4_left_1 : decode cX4_left 1 = .ok (.invokevirtual 107, 3) := by decide +kernel
theorem dX4_left_4 : decode cX4_left 4 = .ok (.aload_n 0, 1) := by decide +kernel
theorem dX4_left_5 : decode cX4_left 5 = .ok (.aload_n 0, 1) := by decide +kernel
theorem dX4_left_6 : decode cX4_left 6 = .ok (.getfield 30, 3) := by decide +kernel
theorem dX4_left_9 : decode cX4_left 9 = .ok (.getfield 110, 3) := by decide +kernel
theorem dX4_left_12 : decode cX4_left 12 = .ok (.invokevirtual 70, 3) := by decide +kernel
theorem dX4_left_15 : decode cX4_left 15 = .ok (.pop, 1) := by decide +kernel
theorem dX4_left_16 : decode cX4_left 16 = .ok (.aload_n 0, 1) := by decide +kernel
theorem dX4_left_17 : decode cX4_left 17 = .ok (.aload_n 0, 1) := by decide +kernel
theorem dX4_left_18 : decode cX4_left 18 = .ok (.getfield 30, 3) := by decide +kernel
theorem dX4_left_21 : decode cX4_left 21 = .ok (.invokevirtual 74, 3) := by decide +kernel
theorem dX4_left_24 : decode cX4_left 24 = .ok (.ireturn, 1) := by decide +kernel
theorem dX4_moves_0 : decode cX4_moves 0 = .ok (.aload_n 0, 1) := by decide +kernel
theorem dX4_moves_1 : decode cX4_moves 1 = .ok (.invokevirtual 107, 3) := by decide +kernel
theorem dX4_moves_4 : decode cX4_moves 4 = .ok (.aload_n 0, 1) := by decide +kernel
theorem dX4_moves_5 : decode cX4_moves 5 = .ok (.getfield 40, 3) := by decide +kernel
theorem dX4_moves_8 : decode cX4_moves 8 = .ok (.getfield 135, 3) := by decide +kernel
theorem dX4_moves_11 : decode cX4_moves 11 = .ok (.ireturn, 1) := by decide +kernel
theorem dX4_move_0 : decode cX4_move 0 = .ok (.aload_n 0, 1) := by decide +kernel
theorem dX4_move_1 : decode cX4_move 1 = .ok (.invokevirtual 107, 3) := by decide +kernel
theorem dX4_move_4 : decode cX4_move 4 = .ok (.iload_n 1, 1) := by decide +kernel
theorem dX4_move_5 : decode cX4_move 5 = .ok (.ifCond .lt 14, 3) := by decide +kernel
theorem dX4_move_8 : decode cX4_move 8 = .ok (.iload_n 1, 1) := by decide +kernel
theorem dX4_move_9 : decode cX4_move 9 = .ok (.aload_n 0, 1) := by decide +kernel
theorem dX4_move_10 : decode cX4_move 10 = .ok (.getfield 40, 3) := by decide +kernel
theorem dX4_move_13 : decode cX4_move 13 = .ok (.getfield 135, 3) := by decide +kernel
theorem dX4_move_16 : decode cX4_move 16 = .ok (.if_icmp .lt 13, 3) := by decide +kernel
theorem dX4_move_19 : decode cX4_move 19 = .ok (.new 89, 3) := by decide +kernel
theorem dX4_move_22 : decode cX4_move 22 = .ok (.dup, 1) := by decide +kernel
theorem dX4_move_23 : decode cX4_move 23 = .ok (.ldc 138, 2) := by decide +kernel
theorem dX4_move_25 : decode cX4_move 25 = .ok (.invokespecial 93, 3) := by decide +kernel
theorem dX4_move_28 : decode cX4_move 28 = .ok (.athrow, 1) := by decide +kernel
theorem dX4_move_29 : decode cX4_move 29 = .ok (.aload_n 0, 1) := by decide +kernel
theorem dX4_move_30 : decode cX4_move 30 = .ok (.getfield 40, 3) := by decide +kernel
theorem dX4_move_33 : decode cX4_move 33 = .ok (.iload_n 1, 1) := by decide +kernel
theorem dX4_move_34 : decode cX4_move 34 = .ok (.invokevirtual 140, 3) := by decide +kernel
theorem dX4_move_37 : decode cX4_move 37 = .ok (.ireturn, 1) := by decide +kernel
theorem dX4_best_0 : decode cX4_best 0 = .ok (.aload_n 0, 1) := by decide +kernel
theorem dX4_best_1 : decode cX4_best 1 = .ok (.invokevirtual 107, 3) := by decide +kernel
theorem dX4_best_4 : decode cX4_best 4 = .ok (.aload_n 0, 1) := by decide +kernel
theorem dX4_best_5 : decode cX4_best 5 = .ok (.getfield 40, 3) := by decide +kernel
theorem dX4_best_8 : decode cX4_best 8 = .ok (.getfield 135, 3) := by decide +kernel
theorem dX4_best_11 : decode cX4_best 11 = .ok (.ifCond .ne 13, 3) := by decide +kernel
theorem dX4_best_14 : decode cX4_best 14 = .ok (.new 143, 3) := by decide +kernel
theorem dX4_best_17 : decode cX4_best 17 = .ok (.dup, 1) := by decide +kernel
theorem dX4_best_18 : decode cX4_best 18 = .ok (.ldc 145, 2) := by decide +kernel
theorem dX4_best_20 : decode cX4_best 20 = .ok (.invokespecial 147, 3) := by decide +kernel
theorem dX4_best_23 : decode cX4_best 23 = .ok (.athrow, 1) := by decide +kernel
theorem dX4_best_24 : decode cX4_best 24 = .ok (.aload_n 0, 1) := by decide +kernel
theorem dX4_best_25 : decode cX4_best 25 = .ok (.aload_n 0, 1) := by decide +kernel
theorem dX4_best_26 : decode cX4_best 26 = .ok (.getfield 30, 3) := by decide +kernel
theorem dX4_best_29 : decode cX4_best 29 = .ok (.getfield 110, 3) := by decide +kernel
theorem dX4_best_32 : decode cX4_best 32 = .ok (.invokevirtual 70, 3) := by decide +kernel
theorem dX4_best_35 : decode cX4_best 35 = .ok (.pop, 1) := by decide +kernel
theorem dX4_best_36 : decode cX4_best 36 = .ok (.aload_n 0, 1) := by decide +kernel
theorem dX4_best_37 : decode cX4_best 37 = .ok (.invokevirtual 148, 3) := by decide +kernel
theorem dX4_best_40 : decode cX4_best 40 = .ok (.ireturn, 1) := by decide +kernel
theorem dX4_play_0 : decode cX4_play 0 = .ok (.aload_n 0, 1) := by decide +kernel
theorem dX4_play_1 : decode cX4_play 1 = .ok (.invokevirtual 107, 3) := by decide +kernel
theorem dX4_play_4 : decode cX4_play 4 = .ok (.aload_n 0, 1) := by decide +kernel
theorem dX4_play_5 : decode cX4_play 5 = .ok (.getfield 40, 3) := by decide +kernel
theorem dX4_play_8 : decode cX4_play 8 = .ok (.iload_n 1, 1) := by decide +kernel
theorem dX4_play_9 : decode cX4_play 9 = .ok (.invokevirtual 152, 3) := by decide +kernel
theorem dX4_play_12 : decode cX4_play 12 = .ok (.ifCond .ne 13, 3) := by decide +kernel
theorem dX4_play_15 : decode cX4_play 15 = .ok (.new 63, 3) := by decide +kernel
theorem dX4_play_18 : decode cX4_play 18 = .ok (.dup, 1) := by decide +kernel
theorem dX4_play_19 : decode cX4_play 19 = .ok (.ldc 155, 2) := by decide +kernel
theorem dX4_play_21 : decode cX4_play 21 = .ok (.invokespecial 67, 3) := by decide +kernel
theorem dX4_play_24 : decode cX4_play 24 = .ok (.athrow, 1) := by decide +kernel
theorem dX4_play_25 : decode cX4_play 25 = .ok (.aload_n 0, 1) := by decide +kernel
theorem dX4_play_26 : decode cX4_play 26 = .ok (.aload_n 0, 1) := by decide +kernel
theorem dX4_play_27 : decode cX4_play 27 = .ok (.getfield 30, 3) := by decide +kernel
theorem dX4_play_30 : decode cX4_play 30 = .ok (.getfield 110, 3) := by decide +kernel
theorem dX4_play_33 : decode cX4_play 33 = .ok (.invokevirtual 70, 3) := by decide +kernel
theorem dX4_play_36 : decode cX4_play 36 = .ok (.pop, 1) := by decide +kernel
theorem dX4_play_37 : decode cX4_play 37 = .ok (.aload_n 0, 1) := by decide +kernel
theorem dX4_play_38 : decode cX4_play 38 = .ok (.iload_n 1, 1) := by decide +kernel
theorem dX4_play_39 : decode cX4_play 39 = .ok (.invokevirtual 157, 3) := by decide +kernel
theorem dX4_play_42 : decode cX4_play 42 = .ok (.aload_n 0, 1) := by decide +kernel
theorem dX4_play_43 : decode cX4_play 43 = .ok (.aload_n 0, 1) := by decide +kernel
theorem dX4_play_44 : decode cX4_play 44 = .ok (.getfield 30, 3) := by decide +kernel
theorem dX4_play_47 : decode cX4_play 47 = .ok (.invokevirtual 74, 3) := by decide +kernel
theorem dX4_play_50 : decode cX4_play 50 = .ok (.ireturn, 1) := by decide +kernel
theorem dX4_run_0 : decode cX4_run 0 = .ok (.aload_n 0, 1) := by decide +kernel
theorem dX4_run_1 : decode cX4_run 1 = .ok (.invokevirtual 107, 3) := by decide +kernel
theorem dX4_run_4 : decode cX4_run 4 = .ok (.iload_n 1, 1) := by decide +kernel
theorem dX4_run_5 : decode cX4_run 5 = .ok (.ifCond .lt 9, 3) := by decide +kernel
theorem dX4_run_8 : decode cX4_run 8 = .ok (.iload_n 1, 1) := by decide +kernel
theorem dX4_run_9 : decode cX4_run 9 = .ok (.bipush 100, 2) := by decide +kernel
theorem dX4_run_11 : decode cX4_run 11 = .ok (.if_icmp .le 13, 3) := by decide +kernel
theorem dX4_run_14 : decode cX4_run 14 = .ok (.new 63, 3) := by decide +kernel
theorem dX4_run_17 : decode cX4_run 17 = .ok (.dup, 1) := by decide +kernel
theorem dX4_run_18 : decode cX4_run 18 = .ok (.ldc 161, 2) := by decide +kernel
theorem dX4_run_20 : decode cX4_run 20 = .ok (.invokespecial 67, 3) := by decide +kernel
theorem dX4_run_23 : decode cX4_run 23 = .ok (.athrow, 1) := by decide +kernel
theorem dX4_run_24 : decode cX4_run 24 = .ok (.aload_n 0, 1) := by decide +kernel
theorem dX4_run_25 : decode cX4_run 25 = .ok (.aload_n 0, 1) := by decide +kernel
theorem dX4_run_26 : decode cX4_run 26 = .ok (.getfield 30, 3) := by decide +kernel
theorem dX4_run_29 : decode cX4_run 29 = .ok (.getfield 110, 3) := by decide +kernel
theorem dX4_run_32 : decode cX4_run 32 = .ok (.invokevirtual 70, 3) := by decide +kernel
theorem dX4_run_35 : decode cX4_run 35 = .ok (.pop, 1) := by decide +kernel
theorem dX4_run_36 : decode cX4_run 36 = .ok (.iconst 0, 1) := by decide +kernel
theorem dX4_run_37 : decode cX4_run 37 = .ok (.istore_n 2, 1) := by decide +kernel
theorem dX4_run_38 : decode cX4_run 38 = .ok (.iload_n 2, 1) := by decide +kernel
theorem dX4_run_39 : decode cX4_run 39 = .ok (.iload_n 1, 1) := by decide +kernel
theorem dX4_run_40 : decode cX4_run 40 = .ok (.if_icmp .ge 29, 3) := by decide +kernel
theorem dX4_run_43 : decode cX4_run 43 = .ok (.aload_n 0, 1) := by decide +kernel
theorem dX4_run_44 : decode cX4_run 44 = .ok (.getfield 40, 3) := by decide +kernel
theorem dX4_run_47 : decode cX4_run 47 = .ok (.getfield 135, 3) := by decide +kernel
theorem dX4_run_50 : decode cX4_run 50 = .ok (.ifCond .ne 5, 3) := by decide +kernel
theorem dX4_run_53 : decode cX4_run 53 = .ok (.iload_n 2, 1) := by decide +kernel
theorem dX4_run_54 : decode cX4_run 54 = .ok (.ireturn, 1) := by decide +kernel
theorem dX4_run_55 : decode cX4_run 55 = .ok (.aload_n 0, 1) := by decide +kernel
theorem dX4_run_56 : decode cX4_run 56 = .ok (.aload_n 0, 1) := by decide +kernel
theorem dX4_run_57 : decode cX4_run 57 = .ok (.invokevirtual 148, 3) := by decide +kernel
theorem dX4_run_60 : decode cX4_run 60 = .ok (.invokevirtual 157, 3) := by decide +kernel
theorem dX4_run_63 : decode cX4_run 63 = .ok (.iinc 2 1, 3) := by decide +kernel
theorem dX4_run_66 : decode cX4_run 66 = .ok (.goto (-28), 3) := by decide +kernel
theorem dX4_run_69 : decode cX4_run 69 = .ok (.iload_n 1, 1) := by decide +kernel
theorem dX4_run_70 : decode cX4_run 70 = .ok (.ireturn, 1) := by decide +kernel
theorem dX4_checkPlaced_0 : decode cX4_checkPlaced 0 = .ok (.aload_n 0, 1) := by decide +kernel
theorem dX4_checkPlaced_1 : decode cX4_checkPlaced 1 = .ok (.getfield 44, 3) := by decide +kernel
theorem dX4_checkPlaced_4 : decode cX4_checkPlaced 4 = .ok (.ifCond .ne 13, 3) := by decide +kernel
theorem dX4_checkPlaced_7 : decode cX4_checkPlaced 7 = .ok (.new 143, 3) := by decide +kernel
theorem dX4_checkPlaced_10 : decode cX4_checkPlaced 10 = .ok (.dup, 1) := by decide +kernel
theorem dX4_checkPlaced_11 : decode cX4_checkPlaced 11 = .ok (.ldc 163, 2) := by decide +kernel
theorem dX4_checkPlaced_13 : decode cX4_checkPlaced 13 = .ok (.invokespecial 147, 3) := by decide +kernel
theorem dX4_checkPlaced_16 : decode cX4_checkPlaced 16 = .ok (.athrow, 1) := by decide +kernel
theorem dX4_checkPlaced_17 : decode cX4_checkPlaced 17 = .ok (.return_, 1) := by decide +kernel
theorem dX4_checkKindAndSide_0 : decode cX4_checkKindAndSide 0 = .ok (.iload_n 0, 1) := by decide +kernel
theorem dX4_checkKindAndSide_1 : decode cX4_checkKindAndSide 1 = .ok (.invokestatic 55, 3) := by decide +kernel
theorem dX4_checkKindAndSide_4 : decode cX4_checkKindAndSide 4 = .ok (.ifCond .eq 10, 3) := by decide +kernel
theorem dX4_checkKindAndSide_7 : decode cX4_checkKindAndSide 7 = .ok (.iload_n 1, 1) := by decide +kernel
theorem dX4_checkKindAndSide_8 : decode cX4_checkKindAndSide 8 = .ok (.invokestatic 165, 3) := by decide +kernel
theorem dX4_checkKindAndSide_11 : decode cX4_checkKindAndSide 11 = .ok (.ifCond .ne 13, 3) := by decide +kernel
theorem dX4_checkKindAndSide_14 : decode cX4_checkKindAndSide 14 = .ok (.new 63, 3) := by decide +kernel
theorem dX4_checkKindAndSide_17 : decode cX4_checkKindAndSide 17 = .ok (.dup, 1) := by decide +kernel
theorem dX4_checkKindAndSide_18 : decode cX4_checkKindAndSide 18 = .ok (.ldc 168, 2) := by decide +kernel
theorem dX4_checkKindAndSide_20 : decode cX4_checkKindAndSide 20 = .ok (.invokespecial 67, 3) := by decide +kernel
theorem dX4_checkKindAndSide_23 : decode cX4_checkKindAndSide 23 = .ok (.athrow, 1) := by decide +kernel
theorem dX4_checkKindAndSide_24 : decode cX4_checkKindAndSide 24 = .ok (.return_, 1) := by decide +kernel
theorem dX4_isMan_0 : decode cX4_isMan 0 = .ok (.iload_n 0, 1) := by decide +kernel
theorem dX4_isMan_1 : decode cX4_isMan 1 = .ok (.iconst 1, 1) := by decide +kernel
theorem dX4_isMan_2 : decode cX4_isMan 2 = .ok (.if_icmp .lt 12, 3) := by decide +kernel
theorem dX4_isMan_5 : decode cX4_isMan 5 = .ok (.iload_n 0, 1) := by decide +kernel
theorem dX4_isMan_6 : decode cX4_isMan 6 = .ok (.iconst 5, 1) := by decide +kernel
theorem dX4_isMan_7 : decode cX4_isMan 7 = .ok (.if_icmp .gt 7, 3) := by decide +kernel
theorem dX4_isMan_10 : decode cX4_isMan 10 = .ok (.iconst 1, 1) := by decide +kernel
theorem dX4_isMan_11 : decode cX4_isMan 11 = .ok (.goto 4, 3) := by decide +kernel
theorem dX4_isMan_14 : decode cX4_isMan 14 = .ok (.iconst 0, 1) := by decide +kernel
theorem dX4_isMan_15 : decode cX4_isMan 15 = .ok (.ireturn, 1) := by decide +kernel
theorem dX4_isSide_0 : decode cX4_isSide 0 = .ok (.iload_n 0, 1) := by decide +kernel
theorem dX4_isSide_1 : decode cX4_isSide 1 = .ok (.ifCond .eq 8, 3) := by decide +kernel
theorem dX4_isSide_4 : decode cX4_isSide 4 = .ok (.iload_n 0, 1) := by decide +kernel
theorem dX4_isSide_5 : decode cX4_isSide 5 = .ok (.iconst 1, 1) := by decide +kernel
theorem dX4_isSide_6 : decode cX4_isSide 6 = .ok (.if_icmp .ne 7, 3) := by decide +kernel
theorem dX4_isSide_9 : decode cX4_isSide 9 = .ok (.iconst 1, 1) := by decide +kernel
theorem dX4_isSide_10 : decode cX4_isSide 10 = .ok (.goto 4, 3) := by decide +kernel
theorem dX4_isSide_13 : decode cX4_isSide 13 = .ok (.iconst 0, 1) := by decide +kernel
theorem dX4_isSide_14 : decode cX4_isSide 14 = .ok (.ireturn, 1) := by decide +kernel
theorem dX4_lookAt_0 : decode cX4_lookAt 0 = .ok (.iload_n 1, 1) := by decide +kernel
theorem dX4_lookAt_1 : decode cX4_lookAt 1 = .ok (.ifCond .ne 9, 3) := by decide +kernel
theorem dX4_lookAt_4 : decode cX4_lookAt 4 = .ok (.iload_n 3, 1) := by decide +kernel
theorem dX4_lookAt_5 : decode cX4_lookAt 5 = .ok (.ifCond .eq 5, 3) := by decide +kernel
theorem dX4_lookAt_8 : decode cX4_lookAt 8 = .ok (.iconst 0, 1) := by decide +kernel
theorem dX4_lookAt_9 : decode cX4_lookAt 9 = .ok (.ireturn, 1) := by decide +kernel
theorem dX4_lookAt_10 : decode cX4_lookAt 10 = .ok (.aload_n 0, 1) := by decide +kernel
theorem dX4_lookAt_11 : decode cX4_lookAt 11 = .ok (.getfield 34, 3) := by decide +kernel
theorem dX4_lookAt_14 : decode cX4_lookAt 14 = .ok (.iload_n 1, 1) := by decide +kernel
theorem dX4_lookAt_15 : decode cX4_lookAt 15 = .ok (.putfield 110, 3) := by decide +kernel
theorem dX4_lookAt_18 : decode cX4_lookAt 18 = .ok (.aload_n 0, 1) := by decide +kernel
theorem dX4_lookAt_19 : decode cX4_lookAt 19 = .ok (.getfield 34, 3) := by decide +kernel
theorem dX4_lookAt_22 : decode cX4_lookAt 22 = .ok (.aload_n 0, 1) := by decide +kernel
theorem dX4_lookAt_23 : decode cX4_lookAt 23 = .ok (.getfield 12, 3) := by decide +kernel
theorem dX4_lookAt_26 : decode cX4_lookAt 26 = .ok (.iload_n 2, 1) := by decide +kernel
theorem dX4_lookAt_27 : decode cX4_lookAt 27 = .ok (.invokevirtual 170, 3) := by decide +kernel
theorem dX4_lookAt_30 : decode cX4_lookAt 30 = .ok (.putfield 113, 3) := by decide +kernel
theorem dX4_lookAt_33 : decode cX4_lookAt 33 = .ok (.aload_n 0, 1) := by decide +kernel
theorem dX4_lookAt_34 : decode cX4_lookAt 34 = .ok (.getfield 34, 3) := by decide +kernel
theorem dX4_lookAt_37 : decode cX4_lookAt 37 = .ok (.iload_n 1, 1) := by decide +kernel
theorem dX4_lookAt_38 : decode cX4_lookAt 38 = .ok (.ifCond .ne 7, 3) := by decide +kernel
theorem dX4_lookAt_41 : decode cX4_lookAt 41 = .ok (.iconst (-1), 1) := by decide +kernel
theorem dX4_lookAt_42 : decode cX4_lookAt 42 = .ok (.goto 11, 3) := by decide +kernel
theorem dX4_lookAt_45 : decode cX4_lookAt 45 = .ok (.aload_n 0, 1) := by decide +kernel
theorem dX4_lookAt_46 : decode cX4_lookAt 46 = .ok (.getfield 12, 3) := by decide +kernel
theorem dX4_lookAt_49 : decode cX4_lookAt 49 = .ok (.iload_n 3, 1) := by decide +kernel
theorem dX4_lookAt_50 : decode cX4_lookAt 50 = .ok (.invokevirtual 170, 3) := by decide +kernel
theorem dX4_lookAt_53 : decode cX4_lookAt 53 = .ok (.putfield 120, 3) := by decide +kernel
theorem dX4_lookAt_56 : decode cX4_lookAt 56 = .ok (.aload_n 0, 1) := by decide +kernel
theorem dX4_lookAt_57 : decode cX4_lookAt 57 = .ok (.getfield 34, 3) := by decide +kernel
theorem dX4_lookAt_60 : decode cX4_lookAt 60 = .ok (.aload_n 0, 1) := by decide +kernel
theorem dX4_lookAt_61 : decode cX4_lookAt 61 = .ok (.getfield 12, 3) := by decide +kernel
theorem dX4_lookAt_64 : decode cX4_lookAt 64 = .ok (.iload 4, 2) := by decide +kernel
theorem dX4_lookAt_66 : decode cX4_lookAt 66 = .ok (.invokevirtual 170, 3) := by decide +kernel
theorem dX4_lookAt_69 : decode cX4_lookAt 69 = .ok (.putfield 123, 3) := by decide +kernel
theorem dX4_lookAt_72 : decode cX4_lookAt 72 = .ok (.aload_n 0, 1) := by decide +kernel
theorem dX4_lookAt_73 : decode cX4_lookAt 73 = .ok (.getfield 34, 3) := by decide +kernel
theorem dX4_lookAt_76 : decode cX4_lookAt 76 = .ok (.iload 5, 2) := by decide +kernel
theorem dX4_lookAt_78 : decode cX4_lookAt 78 = .ok (.putfield 126, 3) := by decide +kernel
theorem dX4_lookAt_81 : decode cX4_lookAt 81 = .ok (.aload_n 0, 1) := by decide +kernel
theorem dX4_lookAt_82 : decode cX4_lookAt 82 = .ok (.getfield 12, 3) := by decide +kernel
theorem dX4_lookAt_85 : decode cX4_lookAt 85 = .ok (.aload_n 0, 1) := by decide +kernel
theorem dX4_lookAt_86 : decode cX4_lookAt 86 = .ok (.getfield 34, 3) := by decide +kernel
theorem dX4_lookAt_89 : decode cX4_lookAt 89 = .ok (.invokevirtual 173, 3) := by decide +kernel
theorem dX4_lookAt_92 : decode cX4_lookAt 92 = .ok (.ireturn, 1) := by decide +kernel
theorem dX4_prepare_0 : decode cX4_prepare 0 = .ok (.iconst 5, 1) := by decide +kernel
theorem dX4_prepare_1 : decode cX4_prepare 1 = .ok (.istore_n 2, 1) := by decide +kernel
theorem dX4_prepare_2 : decode cX4_prepare 2 = .ok (.iload_n 2, 1) := by decide +kernel
theorem dX4_prepare_3 : decode cX4_prepare 3 = .ok (.iconst 1, 1) := by decide +kernel
theorem dX4_prepare_4 : decode cX4_prepare 4 = .ok (.if_icmp .lt 56, 3) := by decide +kernel
theorem dX4_prepare_7 : decode cX4_prepare 7 = .ok (.aload_n 0, 1) := by decide +kernel
theorem dX4_prepare_8 : decode cX4_prepare 8 = .ok (.iload_n 2, 1) := by decide +kernel
theorem dX4_prepare_9 : decode cX4_prepare 9 = .ok (.invokevirtual 176, 3) := by decide +kernel
theorem dX4_prepare_12 : decode cX4_prepare 12 = .ok (.astore_n 3, 1) := by decide +kernel
theorem dX4_prepare_13 : decode cX4_prepare 13 = .ok (.iload_n 2, 1) := by decide +kernel
theorem dX4_prepare_14 : decode cX4_prepare 14 = .ok (.iload_n 1, 1) := by decide +kernel
theorem dX4_prepare_15 : decode cX4_prepare 15 = .ok (.if_icmp .eq 8, 3) := by decide +kernel
theorem dX4_prepare_18 : decode cX4_prepare 18 = .ok (.iload_n 1, 1) := by decide +kernel
theorem dX4_prepare_19 : decode cX4_prepare 19 = .ok (.iconst 1, 1) := by decide +kernel
theorem dX4_prepare_20 : decode cX4_prepare 20 = .ok (.if_icmp .ne 7, 3) := by decide +kernel
theorem dX4_prepare_23 : decode cX4_prepare 23 = .ok (.iconst 1, 1) := by decide +kernel
theorem dX4_prepare_24 : decode cX4_prepare 24 = .ok (.goto 4, 3) := by decide +kernel
theorem dX4_prepare_27 : decode cX4_prepare 27 = .ok (.iconst 0, 1) := by decide +kernel
theorem dX4_prepare_28 : decode cX4_prepare 28 = .ok (.istore 4, 2) := by decide +kernel
theorem dX4_prepare_30 : decode cX4_prepare 30 = .ok (.iload 4, 2) := by decide +kernel
theorem dX4_prepare_32 : decode cX4_prepare 32 = .ok (.ifCond .eq 22, 3) := by decide +kernel
theorem dX4_prepare_35 : decode cX4_prepare 35 = .ok (.aload_n 3, 1) := by decide +kernel
theorem dX4_prepare_36 : decode cX4_prepare 36 = .ok (.ifnull 18, 3) := by decide +kernel
theorem dX4_prepare_39 : decode cX4_prepare 39 = .ok (.aload_n 3, 1) := by decide +kernel
theorem dX4_prepare_40 : decode cX4_prepare 40 = .ok (.getfield 179, 3) := by decide +kernel
theorem dX4_prepare_43 : decode cX4_prepare 43 = .ok (.ifCond .ne 11, 3) := by decide +kernel
theorem dX4_prepare_46 : decode cX4_prepare 46 = .ok (.aload_n 3, 1) := by decide +kernel
theorem dX4_prepare_47 : decode cX4_prepare 47 = .ok (.aload_n 0, 1) := by decide +kernel
theorem dX4_prepare_48 : decode cX4_prepare 48 = .ok (.getfield 20, 3) := by decide +kernel
theorem dX4_prepare_51 : decode cX4_prepare 51 = .ok (.invokevirtual 182, 3) := by decide +kernel
theorem dX4_prepare_54 : decode cX4_prepare 54 = .ok (.iinc 2 (-1), 3) := by decide +kernel
theorem dX4_prepare_57 : decode cX4_prepare 57 = .ok (.goto (-55), 3) := by decide +kernel
theorem dX4_prepare_60 : decode cX4_prepare 60 = .ok (.aload_n 0, 1) := by decide +kernel
theorem dX4_prepare_61 : decode cX4_prepare 61 = .ok (.iload_n 1, 1) := by decide +kernel
theorem dX4_prepare_62 : decode cX4_prepare 62 = .ok (.invokevirtual 176, 3) := by decide +kernel
theorem dX4_prepare_65 : decode cX4_prepare 65 = .ok (.areturn, 1) := by decide +kernel
theorem dX4_tableOf_0 : decode cX4_tableOf 0 = .ok (.iload_n 1, 1) := by decide +kernel
theorem dX4_tableOf_1 : decode cX4_tableOf 1 = .ok (.ifCond .lt 21, 3) := by decide +kernel
theorem dX4_tableOf_4 : decode cX4_tableOf 4 = .ok (.iload_n 1, 1) := by decide +kernel
theorem dX4_tableOf_5 : decode cX4_tableOf 5 = .ok (.aload_n 0, 1) := by decide +kernel
theorem dX4_tableOf_6 : decode cX4_tableOf 6 = .ok (.getfield 20, 3) := by decide +kernel
theorem dX4_tableOf_9 : decode cX4_tableOf 9 = .ok (.arraylength, 1) := by decide +kernel
theorem dX4_tableOf_10 : decode cX4_tableOf 10 = .ok (.if_icmp .ge 12, 3) := by decide +kernel
theorem dX4_tableOf_13 : decode cX4_tableOf 13 = .ok (.aload_n 0, 1) := by decide +kernel
theorem dX4_tableOf_14 : decode cX4_tableOf 14 = .ok (.getfield 20, 3) := by decide +kernel
theorem dX4_tableOf_17 : decode cX4_tableOf 17 = .ok (.iload_n 1, 1) := by decide +kernel
theorem dX4_tableOf_18 : decode cX4_tableOf 18 = .ok (.aaload, 1) := by decide +kernel
theorem dX4_tableOf_19 : decode cX4_tableOf 19 = .ok (.goto 4, 3) := by decide +kernel
theorem dX4_tableOf_22 : decode cX4_tableOf 22 = .ok (.aconst_null, 1) := by decide +kernel
theorem dX4_tableOf_23 : decode cX4_tableOf 23 = .ok (.areturn, 1) := by decide +kernel
theorem dX4_pliesOf_0 : decode cX4_pliesOf 0 = .ok (.aload_n 0, 1) := by decide +kernel
theorem dX4_pliesOf_1 : decode cX4_pliesOf 1 = .ok (.aload_n 1, 1) := by decide +kernel
theorem dX4_pliesOf_2 : decode cX4_pliesOf 2 = .ok (.getfield 110, 3) := by decide +kernel
theorem dX4_pliesOf_5 : decode cX4_pliesOf 5 = .ok (.invokevirtual 176, 3) := by decide +kernel
theorem dX4_pliesOf_8 : decode cX4_pliesOf 8 = .ok (.astore_n 2, 1) := by decide +kernel
theorem dX4_pliesOf_9 : decode cX4_pliesOf 9 = .ok (.aload_n 2, 1) := by decide +kernel
theorem dX4_pliesOf_10 : decode cX4_pliesOf 10 = .ok (.ifnonnull 5, 3) := by decide +kernel
theorem dX4_pliesOf_13 : decode cX4_pliesOf 13 = .ok (.iconst (-1), 1) := by decide +kernel
theorem dX4_pliesOf_14 : decode cX4_pliesOf 14 = .ok (.ireturn, 1) := by decide +kernel
theorem dX4_pliesOf_15 : decode cX4_pliesOf 15 = .ok (.aload_n 2, 1) := by decide +kernel
theorem dX4_pliesOf_16 : decode cX4_pliesOf 16 = .ok (.aload_n 1, 1) := by decide +kernel
theorem dX4_pliesOf_17 : decode cX4_pliesOf 17 = .ok (.getfield 126, 3) := by decide +kernel
theorem dX4_pliesOf_20 : decode cX4_pliesOf 20 = .ok (.aload_n 1, 1) := by decide +kernel
theorem dX4_pliesOf_21 : decode cX4_pliesOf 21 = .ok (.getfield 113, 3) := by decide +kernel
theorem dX4_pliesOf_24 : decode cX4_pliesOf 24 = .ok (.aload_n 1, 1) := by decide +kernel
theorem dX4_pliesOf_25 : decode cX4_pliesOf 25 = .ok (.getfield 120, 3) := by decide +kernel
theorem dX4_pliesOf_28 : decode cX4_pliesOf 28 = .ok (.aload_n 1, 1) := by decide +kernel
theorem dX4_pliesOf_29 : decode cX4_pliesOf 29 = .ok (.getfield 123, 3) := by decide +kernel
theorem dX4_pliesOf_32 : decode cX4_pliesOf 32 = .ok (.invokevirtual 186, 3) := by decide +kernel
theorem dX4_pliesOf_35 : decode cX4_pliesOf 35 = .ok (.ireturn, 1) := by decide +kernel
theorem dX4_pliesBehind_0 : decode cX4_pliesBehind 0 = .ok (.aload_n 0, 1) := by decide +kernel
theorem dX4_pliesBehind_1 : decode cX4_pliesBehind 1 = .ok (.getfield 34, 3) := by decide +kernel
theorem dX4_pliesBehind_4 : decode cX4_pliesBehind 4 = .ok (.aload_n 0, 1) := by decide +kernel
theorem dX4_pliesBehind_5 : decode cX4_pliesBehind 5 = .ok (.getfield 30, 3) := by decide +kernel
theorem dX4_pliesBehind_8 : decode cX4_pliesBehind 8 = .ok (.invokevirtual 99, 3) := by decide +kernel
theorem dX4_pliesBehind_11 : decode cX4_pliesBehind 11 = .ok (.aload_n 0, 1) := by decide +kernel
theorem dX4_pliesBehind_12 : decode cX4_pliesBehind 12 = .ok (.getfield 34, 3) := by decide +kernel
theorem dX4_pliesBehind_15 : decode cX4_pliesBehind 15 = .ok (.aload_n 0, 1) := by decide +kernel
theorem dX4_pliesBehind_16 : decode cX4_pliesBehind 16 = .ok (.getfield 12, 3) := by decide +kernel
theorem dX4_pliesBehind_19 : decode cX4_pliesBehind 19 = .ok (.iload_n 1, 1) := by decide +kernel
theorem dX4_pliesBehind_20 : decode cX4_pliesBehind 20 = .ok (.invokevirtual 190, 3) := by decide +kernel
theorem dX4_pliesBehind_23 : decode cX4_pliesBehind 23 = .ok (.aload_n 0, 1) := by decide +kernel
theorem dX4_pliesBehind_24 : decode cX4_pliesBehind 24 = .ok (.aload_n 0, 1) := by decide +kernel
theorem dX4_pliesBehind_25 : decode cX4_pliesBehind 25 = .ok (.getfield 34, 3) := by decide +kernel
theorem dX4_pliesBehind_28 : decode cX4_pliesBehind 28 = .ok (.invokevirtual 74, 3) := by decide +kernel
theorem dX4_pliesBehind_31 : decode cX4_pliesBehind 31 = .ok (.ireturn, 1) := by decide +kernel
theorem dX4_make_0 : decode cX4_make 0 = .ok (.aload_n 0, 1) := by decide +kernel
theorem dX4_make_1 : decode cX4_make 1 = .ok (.getfield 30, 3) := by decide +kernel
theorem dX4_make_4 : decode cX4_make 4 = .ok (.aload_n 0, 1) := by decide +kernel
theorem dX4_make_5 : decode cX4_make 5 = .ok (.getfield 12, 3) := by decide +kernel
theorem dX4_make_8 : decode cX4_make 8 = .ok (.iload_n 1, 1) := by decide +kernel
theorem dX4_make_9 : decode cX4_make 9 = .ok (.invokevirtual 190, 3) := by decide +kernel
theorem dX4_make_12 : decode cX4_make 12 = .ok (.aload_n 0, 1) := by decide +kernel
theorem dX4_make_13 : decode cX4_make 13 = .ok (.getfield 40, 3) := by decide +kernel
theorem dX4_make_16 : decode cX4_make 16 = .ok (.aload_n 0, 1) := by decide +kernel
theorem dX4_make_17 : decode cX4_make 17 = .ok (.getfield 12, 3) := by decide +kernel
theorem dX4_make_20 : decode cX4_make 20 = .ok (.aload_n 0, 1) := by decide +kernel
theorem dX4_make_21 : decode cX4_make 21 = .ok (.getfield 30, 3) := by decide +kernel
theorem dX4_make_24 : decode cX4_make 24 = .ok (.invokevirtual 103, 3) := by decide +kernel
theorem dX4_make_27 : decode cX4_make 27 = .ok (.return_, 1) := by decide +kernel
theorem dX4_bestMove_0 : decode cX4_bestMove 0 = .ok (.aload_n 0, 1) := by decide +kernel
theorem dX4_bestMove_1 : decode cX4_bestMove 1 = .ok (.getfield 40, 3) := by decide +kernel
theorem dX4_bestMove_4 : decode cX4_bestMove 4 = .ok (.iconst 0, 1) := by decide +kernel
theorem dX4_bestMove_5 : decode cX4_bestMove 5 = .ok (.invokevirtual 140, 3) := by decide +kernel
theorem dX4_bestMove_8 : decode cX4_bestMove 8 = .ok (.istore_n 1, 1) := by decide +kernel
theorem dX4_bestMove_9 : decode cX4_bestMove 9 = .ok (.aload_n 0, 1) := by decide +kernel
theorem dX4_bestMove_10 : decode cX4_bestMove 10 = .ok (.iload_n 1, 1) := by decide +kernel
theorem dX4_bestMove_11 : decode cX4_bestMove 11 = .ok (.invokevirtual 193, 3) := by decide +kernel
theorem dX4_bestMove_14 : decode cX4_bestMove 14 = .ok (.istore_n 2, 1) := by decide +kernel
theorem dX4_bestMove_15 : decode cX4_bestMove 15 = .ok (.iconst 1, 1) := by decide +kernel
theorem dX4_bestMove_16 : decode cX4_bestMove 16 = .ok (.istore_n 3, 1) := by decide +kernel
theorem dX4_bestMove_17 : decode cX4_bestMove 17 = .ok (.iload_n 3, 1) := by decide +kernel
theorem dX4_bestMove_18 : decode cX4_bestMove 18 = .ok (.aload_n 0, 1) := by decide +kernel
theorem dX4_bestMove_19 : decode cX4_bestMove 19 = .ok (.getfield 40, 3) := by decide +kernel
theorem dX4_bestMove_22 : decode cX4_bestMove 22 = .ok (.getfield 135, 3) := by decide +kernel
theorem dX4_bestMove_25 : decode cX4_bestMove 25 = .ok (.if_icmp .ge 49, 3) := by decide +kernel
theorem dX4_bestMove_28 : decode cX4_bestMove 28 = .ok (.aload_n 0, 1) := by decide +kernel
theorem dX4_bestMove_29 : decode cX4_bestMove 29 = .ok (.getfield 40, 3) := by decide +kernel
theorem dX4_bestMove_32 : decode cX4_bestMove 32 = .ok (.iload_n 3, 1) := by decide +kernel
theorem dX4_bestMove_33 : decode cX4_bestMove 33 = .ok (.invokevirtual 140, 3) := by decide +kernel
theorem dX4_bestMove_36 : decode cX4_bestMove 36 = .ok (.istore 4, 2) := by decide +kernel
theorem dX4_bestMove_38 : decode cX4_bestMove 38 = .ok (.aload_n 0, 1) := by decide +kernel
theorem dX4_bestMove_39 : decode cX4_bestMove 39 = .ok (.iload 4, 2) := by decide +kernel
theorem dX4_bestMove_41 : decode cX4_bestMove 41 = .ok (.invokevirtual 193, 3) := by decide +kernel
theorem dX4_bestMove_44 : decode cX4_bestMove 44 = .ok (.istore 5, 2) := by decide +kernel
theorem dX4_bestMove_46 : decode cX4_bestMove 46 = .ok (.aload_n 0, 1) := by decide +kernel
theorem dX4_bestMove_47 : decode cX4_bestMove 47 = .ok (.getfield 30, 3) := by decide +kernel
theorem dX4_bestMove_50 : decode cX4_bestMove 50 = .ok (.getfield 126, 3) := by decide +kernel
theorem dX4_bestMove_53 : decode cX4_bestMove 53 = .ok (.iload 5, 2) := by decide +kernel
theorem dX4_bestMove_55 : decode cX4_bestMove 55 = .ok (.iload_n 2, 1) := by decide +kernel
theorem dX4_bestMove_56 : decode cX4_bestMove 56 = .ok (.invokestatic 196, 3) := by decide +kernel
theorem dX4_bestMove_59 : decode cX4_bestMove 59 = .ok (.ifCond .eq 9, 3) := by decide +kernel
theorem dX4_bestMove_62 : decode cX4_bestMove 62 = .ok (.iload 4, 2) := by decide +kernel
theorem dX4_bestMove_64 : decode cX4_bestMove 64 = .ok (.istore_n 1, 1) := by decide +kernel
theorem dX4_bestMove_65 : decode cX4_bestMove 65 = .ok (.iload 5, 2) := by decide +kernel
theorem dX4_bestMove_67 : decode cX4_bestMove 67 = .ok (.istore_n 2, 1) := by decide +kernel
theorem dX4_bestMove_68 : decode cX4_bestMove 68 = .ok (.iinc 3 1, 3) := by decide +kernel
theorem dX4_bestMove_71 : decode cX4_bestMove 71 = .ok (.goto (-54), 3) := by decide +kernel
theorem dX4_bestMove_74 : decode cX4_bestMove 74 = .ok (.iload_n 1, 1) := by decide +kernel
theorem dX4_bestMove_75 : decode cX4_bestMove 75 = .ok (.ireturn, 1) := by decide +kernel
theorem dX4_isBetter_0 : decode cX4_isBetter 0 = .ok (.iload_n 1, 1) := by decide +kernel
theorem dX4_isBetter_1 : decode cX4_isBetter 1 = .ok (.iconst (-1), 1) := by decide +kernel
theorem dX4_isBetter_2 : decode cX4_isBetter 2 = .ok (.if_icmp .eq 8, 3) := by decide +kernel
theorem dX4_isBetter_5 : decode cX4_isBetter 5 = .ok (.iload_n 2, 1) := by decide +kernel
theorem dX4_isBetter_6 : decode cX4_isBetter 6 = .ok (.iconst (-1), 1) := by decide +kernel
theorem dX4_isBetter_7 : decode cX4_isBetter 7 = .ok (.if_icmp .ne 37, 3) := by decide +kernel
theorem dX4_isBetter_10 : decode cX4_isBetter 10 = .ok (.iload_n 1, 1) := by decide +kernel
theorem dX4_isBetter_11 : decode cX4_isBetter 11 = .ok (.iload_n 2, 1) := by decide +kernel
theorem dX4_isBetter_12 : decode cX4_isBetter 12 = .ok (.if_icmp .eq 30, 3) := by decide +kernel
theorem dX4_isBetter_15 : decode cX4_isBetter 15 = .ok (.iload_n 0, 1) := by decide +kernel
theorem dX4_isBetter_16 : decode cX4_isBetter 16 = .ok (.iconst 1, 1) := by decide +kernel
theorem dX4_isBetter_17 : decode cX4_isBetter 17 = .ok (.if_icmp .ne 7, 3) := by decide +kernel
theorem dX4_isBetter_20 : decode cX4_isBetter 20 = .ok (.iconst 1, 1) := by decide +kernel
theorem dX4_isBetter_21 : decode cX4_isBetter 21 = .ok (.goto 4, 3) := by decide +kernel
theorem dX4_isBetter_24 : decode cX4_isBetter 24 = .ok (.iconst 0, 1) := by decide +kernel
theorem dX4_isBetter_25 : decode cX4_isBetter 25 = .ok (.iload_n 1, 1) := by decide +kernel
theorem dX4_isBetter_26 : decode cX4_isBetter 26 = .ok (.iconst (-1), 1) := by decide +kernel
theorem dX4_isBetter_27 : decode cX4_isBetter 27 = .ok (.if_icmp .ne 7, 3) := by decide +kernel
theorem dX4_isBetter_30 : decode cX4_isBetter 30 = .ok (.iconst 1, 1) := by decide +kernel
theorem dX4_isBetter_31 : decode cX4_isBetter 31 = .ok (.goto 4, 3) := by decide +kernel
theorem dX4_isBetter_34 : decode cX4_isBetter 34 = .ok (.iconst 0, 1) := by decide +kernel
theorem dX4_isBetter_35 : decode cX4_isBetter 35 = .ok (.if_icmp .ne 7, 3) := by decide +kernel
theorem dX4_isBetter_38 : decode cX4_isBetter 38 = .ok (.iconst 1, 1) := by decide +kernel
theorem dX4_isBetter_39 : decode cX4_isBetter 39 = .ok (.goto 4, 3) := by decide +kernel
theorem dX4_isBetter_42 : decode cX4_isBetter 42 = .ok (.iconst 0, 1) := by decide +kernel
theorem dX4_isBetter_43 : decode cX4_isBetter 43 = .ok (.ireturn, 1) := by decide +kernel
theorem dX4_isBetter_44 : decode cX4_isBetter 44 = .ok (.iload_n 0, 1) := by decide +kernel
theorem dX4_isBetter_45 : decode cX4_isBetter 45 = .ok (.iconst 1, 1) := by decide +kernel
theorem dX4_isBetter_46 : decode cX4_isBetter 46 = .ok (.if_icmp .ne 16, 3) := by decide +kernel
theorem dX4_isBetter_49 : decode cX4_isBetter 49 = .ok (.iload_n 1, 1) := by decide +kernel
theorem dX4_isBetter_50 : decode cX4_isBetter 50 = .ok (.iload_n 2, 1) := by decide +kernel
theorem dX4_isBetter_51 : decode cX4_isBetter 51 = .ok (.if_icmp .le 7, 3) := by decide +kernel
theorem dX4_isBetter_54 : decode cX4_isBetter 54 = .ok (.iconst 1, 1) := by decide +kernel
theorem dX4_isBetter_55 : decode cX4_isBetter 55 = .ok (.goto 17, 3) := by decide +kernel
theorem dX4_isBetter_58 : decode cX4_isBetter 58 = .ok (.iconst 0, 1) := by decide +kernel
theorem dX4_isBetter_59 : decode cX4_isBetter 59 = .ok (.goto 13, 3) := by decide +kernel
theorem dX4_isBetter_62 : decode cX4_isBetter 62 = .ok (.iload_n 1, 1) := by decide +kernel
theorem dX4_isBetter_63 : decode cX4_isBetter 63 = .ok (.iload_n 2, 1) := by decide +kernel
theorem dX4_isBetter_64 : decode cX4_isBetter 64 = .ok (.if_icmp .ge 7, 3) := by decide +kernel
theorem dX4_isBetter_67 : decode cX4_isBetter 67 = .ok (.iconst 1, 1) := by decide +kernel
theorem dX4_isBetter_68 : decode cX4_isBetter 68 = .ok (.goto 4, 3) := by decide +kernel
theorem dX4_isBetter_71 : decode cX4_isBetter 71 = .ok (.iconst 0, 1) := by decide +kernel
theorem dX4_isBetter_72 : decode cX4_isBetter 72 = .ok (.ireturn, 1) := by decide +kernel
theorem dX5_init_0 : decode cX5_init 0 = .ok (.aload_n 0, 1) := by decide +kernel
theorem dX5_init_1 : decode cX5_init 1 = .ok (.invokespecial 1, 3) := by decide +kernel
theorem dX5_init_4 : decode cX5_init 4 = .ok (.aload_n 0, 1) := by decide +kernel
theorem dX5_init_5 : decode cX5_init 5 = .ok (.ldc 7, 2) := by decide +kernel
theorem dX5_init_7 : decode cX5_init 7 = .ok (.newarray .long, 2) := by decide +kernel
theorem dX5_init_9 : decode cX5_init 9 = .ok (.putfield 8, 3) := by decide +kernel
theorem dX5_init_12 : decode cX5_init 12 = .ok (.aload_n 0, 1) := by decide +kernel
theorem dX5_init_13 : decode cX5_init 13 = .ok (.bipush 6, 2) := by decide +kernel
theorem dX5_init_15 : decode cX5_init 15 = .ok (.newarray .boolean, 2) := by decide +kernel
theorem dX5_init_17 : decode cX5_init 17 = .ok (.putfield 14, 3) := by decide +kernel
theorem dX5_init_20 : decode cX5_init 20 = .ok (.aload_n 0, 1) := by decide +kernel
theorem dX5_init_21 : decode cX5_init 21 = .ok (.bipush 6, 2) := by decide +kernel
theorem dX5_init_23 : decode cX5_init 23 = .ok (.newarray .int, 2) := by decide +kernel
theorem dX5_init_25 : decode cX5_init 25 = .ok (.putfield 18, 3) := by decide +kernel
theorem dX5_init_28 : decode cX5_init 28 = .ok (.aload_n 0, 1) := by decide +kernel
theorem dX5_init_29 : decode cX5_init 29 = .ok (.bipush 64, 2) := by decide +kernel
theorem dX5_init_31 : decode cX5_init 31 = .ok (.newarray .int, 2) := by decide +kernel
theorem dX5_init_33 : decode cX5_init 33 = .ok (.putfield 22, 3) := by decide +kernel
theorem dX5_init_36 : decode cX5_init 36 = .ok (.aload_n 0, 1) := by decide +kernel
theorem dX5_init_37 : decode cX5_init 37 = .ok (.iload_n 1, 1) := by decide +kernel
theorem dX5_init_38 : decode cX5_init 38 = .ok (.iconst 3, 1) := by decide +kernel
theorem dX5_init_39 : decode cX5_init 39 = .ok (.if_icmp .lt 9, 3) := by decide +kernel
theorem dX5_init_42 : decode cX5_init 42 = .ok (.iload_n 1, 1) := by decide +kernel
theorem dX5_init_43 : decode cX5_init 43 = .ok (.bipush 8, 2) := by decide +kernel
theorem dX5_init_45 : decode cX5_init 45 = .ok (.if_icmp .le 8, 3) := by decide +kernel
theorem dX5_init_48 : decode cX5_init 48 = .ok (.bipush 8, 2) := by decide +kernel
theorem dX5_init_50 : decode cX5_init 50 = .ok (.goto 4, 3) := by decide +kernel
theorem dX5_init_53 : decode cX5_init 53 = .ok (.iload_n 1, 1) := by decide +kernel
theorem dX5_init_54 : decode cX5_init 54 = .ok (.putfield 25, 3) := by decide +kernel
theorem dX5_init_57 : decode cX5_init 57 = .ok (.aload_n 0, 1) := by decide +kernel
theorem dX5_init_58 : decode cX5_init 58 = .ok (.iload_n 2, 1) := by decide +kernel
theorem dX5_init_59 : decode cX5_init 59 = .ok (.iconst 3, 1) := by decide +kernel
theorem dX5_init_60 : decode cX5_init 60 = .ok (.if_icmp .lt 9, 3) := by decide +kernel
theorem dX5_init_63 : decode cX5_init 63 = .ok (.iload_n 2, 1) := by decide +kernel
theorem dX5_init_64 : decode cX5_init 64 = .ok (.bipush 8, 2) := by decide +kernel
theorem dX5_init_66 : decode cX5_init 66 = .ok (.if_icmp .le 8, 3) := by decide +kernel
theorem dX5_init_69 : decode cX5_init 69 = .ok (.bipush 8, 2) := by decide +kernel
theorem dX5_init_71 : decode cX5_init 71 = .ok (.goto 4, 3) := by decide +kernel
theorem dX5_init_74 : decode cX5_init 74 = .ok (.iload_n 2, 1) := by decide +kernel
theorem dX5_init_75 : decode cX5_init 75 = .ok (.putfield 29, 3) := by decide +kernel
theorem dX5_init_78 : decode cX5_init 78 = .ok (.return_, 1) := by decide +kernel
theorem dX5_thrown_0 : decode cX5_thrown 0 = .ok (.aload_n 0, 1) := by decide +kernel
theorem dX5_thrown_1 : decode cX5_thrown 1 = .ok (.getfield 32, 3) := by decide +kernel
theorem dX5_thrown_4 : decode cX5_thrown 4 = .ok (.ireturn, 1) := by decide +kernel
theorem dX5_isSquare_0 : decode cX5_isSquare 0 = .ok (.iload_n 1, 1) := by decide +kernel
theorem dX5_isSquare_1 : decode cX5_isSquare 1 = .ok (.ifCond .lt 35, 3) := by decide +kernel
theorem dX5_isSquare_4 : decode cX5_isSquare 4 = .ok (.iload_n 1, 1) := by decide +kernel
theorem dX5_isSquare_5 : decode cX5_isSquare 5 = .ok (.bipush 64, 2) := by decide +kernel
theorem dX5_isSquare_7 : decode cX5_isSquare 7 = .ok (.if_icmp .ge 29, 3) := by decide +kernel
theorem dX5_isSquare_10 : decode cX5_isSquare 10 = .ok (.iload_n 1, 1) := by decide +kernel
theorem dX5_isSquare_11 : decode cX5_isSquare 11 = .ok (.bipush 8, 2) := by decide +kernel
theorem dX5_isSquare_13 : decode cX5_isSquare 13 = .ok (.irem, 1) := by decide +kernel
theorem dX5_isSquare_14 : decode cX5_isSquare 14 = .ok (.aload_n 0, 1) := by decide +kernel
theorem dX5_isSquare_15 : decode cX5_isSquare 15 = .ok (.getfield 25, 3) := by decide +kernel
theorem dX5_isSquare_18 : decode cX5_isSquare 18 = .ok (.if_icmp .ge 18, 3) := by decide +kernel
theorem dX5_isSquare_21 : decode cX5_isSquare 21 = .ok (.iload_n 1, 1) := by decide +kernel
theorem dX5_isSquare_22 : decode cX5_isSquare 22 = .ok (.bipush 8, 2) := by decide +kernel
theorem dX5_isSquare_24 : decode cX5_isSquare 24 = .ok (.idiv, 1) := by decide +kernel
theorem dX5_isSquare_25 : decode cX5_isSquare 25 = .ok (.aload_n 0, 1) := by decide +kernel
theorem dX5_isSquare_26 : decode cX5_isSquare 26 = .ok (.getfield 29, 3) := by decide +kernel
theorem dX5_isSquare_29 : decode cX5_isSquare 29 = .ok (.if_icmp .ge 7, 3) := by decide +kernel
theorem dX5_isSquare_32 : decode cX5_isSquare 32 = .ok (.iconst 1, 1) := by decide +kernel
theorem dX5_isSquare_33 : decode cX5_isSquare 33 = .ok (.goto 4, 3) := by decide +kernel
theorem dX5_isSquare_36 : decode cX5_isSquare 36 = .ok (.iconst 0, 1) := by decide +kernel
theorem dX5_isSquare_37 : decode cX5_isSquare 37 = .ok (.ireturn, 1) := by decide +kernel
theorem dX5_step_0 : decode cX5_step 0 = .ok (.iload_n 1, 1) := by decide +kernel
theorem dX5_step_1 : decode cX5_step 1 = .ok (.bipush 8, 2) := by decide +kernel
theorem dX5_step_3 : decode cX5_step 3 = .ok (.irem, 1) := by decide +kernel
theorem dX5_step_4 : decode cX5_step 4 = .ok (.iload_n 2, 1) := by decide +kernel
theorem dX5_step_5 : decode cX5_step 5 = .ok (.iadd, 1) := by decide +kernel
theorem dX5_step_6 : decode cX5_step 6 = .ok (.istore 4, 2) := by decide +kernel
theorem dX5_step_8 : decode cX5_step 8 = .ok (.iload_n 1, 1) := by decide +kernel
theorem dX5_step_9 : decode cX5_step 9 = .ok (.bipush 8, 2) := by decide +kernel
theorem dX5_step_11 : decode cX5_step 11 = .ok (.idiv, 1) := by decide +kernel
theorem dX5_step_12 : decode cX5_step 12 = .ok (.iload_n 3, 1) := by decide +kernel
theorem dX5_step_13 : decode cX5_step 13 = .ok (.iadd, 1) := by decide +kernel
theorem dX5_step_14 : decode cX5_step 14 = .ok (.istore 5, 2) := by decide +kernel
theorem dX5_step_16 : decode cX5_step 16 = .ok (.iload 4, 2) := by decide +kernel
theorem dX5_step_18 : decode cX5_step 18 = .ok (.ifCond .lt 37, 3) := by decide +kernel
theorem dX5_step_21 : decode cX5_step 21 = .ok (.iload 4, 2) := by decide +kernel
theorem dX5_step_23 : decode cX5_step 23 = .ok (.aload_n 0, 1) := by decide +kernel
theorem dX5_step_24 : decode cX5_step 24 = .ok (.getfield 25, 3) := by decide +kernel
theorem dX5_step_27 : decode cX5_step 27 = .ok (.if_icmp .ge 28, 3) := by decide +kernel
theorem dX5_step_30 : decode cX5_step 30 = .ok (.iload 5, 2) := by decide +kernel
theorem dX5_step_32 : decode cX5_step 32 = .ok (.ifCond .lt 23, 3) := by decide +kernel
theorem dX5_step_35 : decode cX5_step 35 = .ok (.iload 5, 2) := by decide +kernel
theorem dX5_step_37 : decode cX5_step 37 = .ok (.aload_n 0, 1) := by decide +kernel
theorem dX5_step_38 : decode cX5_step 38 = .ok (.getfield 29, 3) := by decide +kernel
theorem dX5_step_41 : decode cX5_step 41 = .ok (.if_icmp .ge 14, 3) := by decide +kernel
theorem dX5_step_44 : decode cX5_step 44 = .ok (.bipush 8, 2) := by decide +kernel
theorem dX5_step_46 : decode cX5_step 46 = .ok (.iload 5, 2) := by decide +kernel
theorem dX5_step_48 : decode cX5_step 48 = .ok (.imul, 1) := by decide +kernel
theorem dX5_step_49 : decode cX5_step 49 = .ok (.iload 4, 2) := by decide +kernel
theorem dX5_step_51 : decode cX5_step 51 = .ok (.iadd, 1) := by decide +kernel
theorem dX5_step_52 : decode cX5_step 52 = .ok (.goto 4, 3) := by decide +kernel
theorem dX5_step_55 : decode cX5_step 55 = .ok (.iconst (-1), 1) := by decide +kernel
theorem dX5_step_56 : decode cX5_step 56 = .ok (.ireturn, 1) := by decide +kernel
theorem dX5_apart_0 : decode cX5_apart 0 = .ok (.iload_n 0, 1) := by decide +kernel
theorem dX5_apart_1 : decode cX5_apart 1 = .ok (.iload_n 1, 1) := by decide +kernel
theorem dX5_apart_2 : decode cX5_apart 2 = .ok (.if_icmp .le 9, 3) := by decide +kernel
theorem dX5_apart_5 : decode cX5_apart 5 = .ok (.iload_n 0, 1) := by decide +kernel
theorem dX5_apart_6 : decode cX5_apart 6 = .ok (.iload_n 1, 1) := by decide +kernel
theorem dX5_apart_7 : decode cX5_apart 7 = .ok (.isub, 1) := by decide +kernel
theorem dX5_apart_8 : decode cX5_apart 8 = .ok (.goto 6, 3) := by decide +kernel
theorem dX5_apart_11 : decode cX5_apart 11 = .ok (.iload_n 1, 1) := by decide +kernel
theorem dX5_apart_12 : decode cX5_apart 12 = .ok (.iload_n 0, 1) := by decide +kernel
theorem dX5_apart_13 : decode cX5_apart 13 = .ok (.isub, 1) := by decide +kernel
theorem dX5_apart_14 : decode cX5_apart 14 = .ok (.ireturn, 1) := by decide +kernel
theorem dX5_isNext_0 : decode cX5_isNext 0 = .ok (.iload_n 0, 1) := by decide +kernel
theorem dX5_isNext_1 : decode cX5_isNext 1 = .ok (.bipush 8, 2) := by decide +kernel
theorem dX5_isNext_3 : decode cX5_isNext 3 = .ok (.irem, 1) := by decide +kernel
theorem dX5_isNext_4 : decode cX5_isNext 4 = .ok (.iload_n 1, 1) := by decide +kernel
theorem dX5_isNext_5 : decode cX5_isNext 5 = .ok (.bipush 8, 2) := by decide +kernel
theorem dX5_isNext_7 : decode cX5_isNext 7 = .ok (.irem, 1) := by decide +kernel
theorem dX5_isNext_8 : decode cX5_isNext 8 = .ok (.invokestatic 35, 3) := by decide +kernel
theorem dX5_isNext_11 : decode cX5_isNext 11 = .ok (.iconst 2, 1) := by decide +kernel
theorem dX5_isNext_12 : decode cX5_isNext 12 = .ok (.if_icmp .ge 27, 3) := by decide +kernel
theorem dX5_isNext_15 : decode cX5_isNext 15 = .ok (.iload_n 0, 1) := by decide +kernel
theorem dX5_isNext_16 : decode cX5_isNext 16 = .ok (.bipush 8, 2) := by decide +kernel
theorem dX5_isNext_18 : decode cX5_isNext 18 = .ok (.idiv, 1) := by decide +kernel
theorem dX5_isNext_19 : decode cX5_isNext 19 = .ok (.iload_n 1, 1) := by decide +kernel
theorem dX5_isNext_20 : decode cX5_isNext 20 = .ok (.bipush 8, 2) := by decide +kernel
theorem dX5_isNext_22 : decode cX5_isNext 22 = .ok (.idiv, 1) := by decide +kernel
theorem dX5_isNext_23 : decode cX5_isNext 23 = .ok (.invokestatic 35, 3) := by decide +kernel
theorem dX5_isNext_26 : decode cX5_isNext 26 = .ok (.iconst 2, 1) := by decide +kernel
theorem dX5_isNext_27 : decode cX5_isNext 27 = .ok (.if_icmp .ge 12, 3) := by decide +kernel
theorem dX5_isNext_30 : decode cX5_isNext 30 = .ok (.iload_n 0, 1) := by decide +kernel
theorem dX5_isNext_31 : decode cX5_isNext 31 = .ok (.iload_n 1, 1) := by decide +kernel
theorem dX5_isNext_32 : decode cX5_isNext 32 = .ok (.if_icmp .eq 7, 3) := by decide +kernel
theorem dX5_isNext_35 : decode cX5_isNext 35 = .ok (.iconst 1, 1) := by decide +kernel
theorem dX5_isNext_36 : decode cX5_isNext 36 = .ok (.goto 4, 3) := by decide +kernel
theorem dX5_isNext_39 : decode cX5_isNext 39 = .ok (.iconst 0, 1) := by decide +kernel
theorem dX5_isNext_40 : decode cX5_isNext 40 = .ok (.ireturn, 1) := by decide +kernel
theorem dX5_goesAlong_0 : decode cX5_goesAlong 0 = .ok (.iload_n 1, 1) := by decide +kernel
theorem dX5_goesAlong_1 : decode cX5_goesAlong 1 = .ok (.iload_n 1, 1) := by decide +kernel
theorem dX5_goesAlong_2 : decode cX5_goesAlong 2 = .ok (.imul, 1) := by decide +kernel
theorem dX5_goesAlong_3 : decode cX5_goesAlong 3 = .ok (.iload_n 2, 1) := by decide +kernel
theorem dX5_goesAlong_4 : decode cX5_goesAlong 4 = .ok (.iload_n 2, 1) := by decide +kernel
theorem dX5_goesAlong_5 : decode cX5_goesAlong 5 = .ok (.imul, 1) := by decide +kernel
theorem dX5_goesAlong_6 : decode cX5_goesAlong 6 = .ok (.iadd, 1) := by decide +kernel
theorem dX5_goesAlong_7 : decode cX5_goesAlong 7 = .ok (.istore_n 3, 1) := by decide +kernel
theorem dX5_goesAlong_8 : decode cX5_goesAlong 8 = .ok (.iload_n 3, 1) := by decide +kernel
theorem dX5_goesAlong_9 : decode cX5_goesAlong 9 = .ok (.iconst 1, 1) := by decide +kernel
theorem dX5_goesAlong_10 : decode cX5_goesAlong 10 = .ok (.if_icmp .ne 13, 3) := by decide +kernel
theorem dX5_goesAlong_13 : decode cX5_goesAlong 13 = .ok (.iload_n 0, 1) := by decide +kernel
theorem dX5_goesAlong_14 : decode cX5_goesAlong 14 = .ok (.iconst 4, 1) := by decide +kernel
theorem dX5_goesAlong_15 : decode cX5_goesAlong 15 = .ok (.if_icmp .eq 23, 3) := by decide +kernel
theorem dX5_goesAlong_18 : decode cX5_goesAlong 18 = .ok (.iload_n 0, 1) := by decide +kernel
theorem dX5_goesAlong_19 : decode cX5_goesAlong 19 = .ok (.iconst 5, 1) := by decide +kernel
theorem dX5_goesAlong_20 : decode cX5_goesAlong 20 = .ok (.if_icmp .eq 18, 3) := by decide +kernel
theorem dX5_goesAlong_23 : decode cX5_goesAlong 23 = .ok (.iload_n 3, 1) := by decide +kernel
theorem dX5_goesAlong_24 : decode cX5_goesAlong 24 = .ok (.iconst 2, 1) := by decide +kernel
theorem dX5_goesAlong_25 : decode cX5_goesAlong 25 = .ok (.if_icmp .ne 17, 3) := by decide +kernel
theorem dX5_goesAlong_28 : decode cX5_goesAlong 28 = .ok (.iload_n 0, 1) := by decide +kernel
theorem dX5_goesAlong_29 : decode cX5_goesAlong 29 = .ok (.iconst 3, 1) := by decide +kernel
theorem dX5_goesAlong_30 : decode cX5_goesAlong 30 = .ok (.if_icmp .eq 8, 3) := by decide +kernel
theorem dX5_goesAlong_33 : decode cX5_goesAlong 33 = .ok (.iload_n 0, 1) := by decide +kernel
theorem dX5_goesAlong_34 : decode cX5_goesAlong 34 = .ok (.iconst 5, 1) := by decide +kernel
theorem dX5_goesAlong_35 : decode cX5_goesAlong 35 = .ok (.if_icmp .ne 7, 3) := by decide +kernel
theorem dX5_goesAlong_38 : decode cX5_goesAlong 38 = .ok (.iconst 1, 1) := by decide +kernel
theorem dX5_goesAlong_39 : decode cX5_goesAlong 39 = .ok (.goto 4, 3) := by decide +kernel
theorem dX5_goesAlong_42 : decode cX5_goesAlong 42 = .ok (.iconst 0, 1) := by decide +kernel
theorem dX5_goesAlong_43 : decode cX5_goesAlong 43 = .ok (.ireturn, 1) := by decide +kernel
theorem dX5_attacks_0 : decode cX5_attacks 0 = .ok (.iload_n 3, 1) := by decide +kernel
theorem dX5_attacks_1 : decode cX5_attacks 1 = .ok (.bipush 8, 2) := by decide +kernel
theorem dX5_attacks_3 : decode cX5_attacks 3 = .ok (.irem, 1) := by decide +kernel
theorem dX5_attacks_4 : decode cX5_attacks 4 = .ok (.iload_n 2, 1) := by decide +kernel
theorem dX5_attacks_5 : decode cX5_attacks 5 = .ok (.bipush 8, 2) := by decide +kernel
theorem dX5_attacks_7 : decode cX5_attacks 7 = .ok (.irem, 1) := by decide +kernel
theorem dX5_attacks_8 : decode cX5_attacks 8 = .ok (.isub, 1) := by decide +kernel
theorem dX5_attacks_9 : decode cX5_attacks 9 = .ok (.istore 6, 2) := by decide +kernel
theorem dX5_attacks_11 : decode cX5_attacks 11 = .ok (.iload_n 3, 1) := by decide +kernel
theorem dX5_attacks_12 : decode cX5_attacks 12 = .ok (.bipush 8, 2) := by decide +kernel
theorem dX5_attacks_14 : decode cX5_attacks 14 = .ok (.idiv, 1) := by decide +kernel
theorem dX5_attacks_15 : decode cX5_attacks 15 = .ok (.iload_n 2, 1) := by decide +kernel
theorem dX5_attacks_16 : decode cX5_attacks 16 = .ok (.bipush 8, 2) := by decide +kernel
theorem dX5_attacks_18 : decode cX5_attacks 18 = .ok (.idiv, 1) := by decide +kernel
theorem dX5_attacks_19 : decode cX5_attacks 19 = .ok (.isub, 1) := by decide +kernel
theorem dX5_attacks_20 : decode cX5_attacks 20 = .ok (.istore 7, 2) := by decide +kernel
theorem dX5_attacks_22 : decode cX5_attacks 22 = .ok (.iload_n 1, 1) := by decide +kernel
theorem dX5_attacks_23 : decode cX5_attacks 23 = .ok (.iconst 1, 1) := by decide +kernel
theorem dX5_attacks_24 : decode cX5_attacks 24 = .ok (.if_icmp .ne 27, 3) := by decide +kernel
theorem dX5_attacks_27 : decode cX5_attacks 27 = .ok (.iload 7, 2) := by decide +kernel
theorem dX5_attacks_29 : decode cX5_attacks 29 = .ok (.iconst 1, 1) := by decide +kernel
theorem dX5_attacks_30 : decode cX5_attacks 30 = .ok (.if_icmp .ne 19, 3) := by decide +kernel
theorem dX5_attacks_33 : decode cX5_attacks 33 = .ok (.iload 6, 2) := by decide +kernel
theorem dX5_attacks_35 : decode cX5_attacks 35 = .ok (.iconst 1, 1) := by decide +kernel
theorem dX5_attacks_36 : decode cX5_attacks 36 = .ok (.if_icmp .eq 9, 3) := by decide +kernel
theorem dX5_attacks_39 : decode cX5_attacks 39 = .ok (.iload 6, 2) := by decide +kernel
theorem dX5_attacks_41 : decode cX5_attacks 41 = .ok (.iconst (-1), 1) := by decide +kernel
theorem dX5_attacks_42 : decode cX5_attacks 42 = .ok (.if_icmp .ne 7, 3) := by decide +kernel
theorem dX5_attacks_45 : decode cX5_attacks 45 = .ok (.iconst 1, 1) := by decide +kernel
theorem dX5_attacks_46 : decode cX5_attacks 46 = .ok (.goto 4, 3) := by decide +kernel
theorem dX5_attacks_49 : decode cX5_attacks 49 = .ok (.iconst 0, 1) := by decide +kernel
theorem dX5_attacks_50 : decode cX5_attacks 50 = .ok (.ireturn, 1) := by decide +kernel
theorem dX5_attacks_51 : decode cX5_attacks 51 = .ok (.iload_n 1, 1) := by decide +kernel
theorem dX5_attacks_52 : decode cX5_attacks 52 = .ok (.iconst 2, 1) := by decide +kernel
theorem dX5_attacks_53 : decode cX5_attacks 53 = .ok (.if_icmp .ne 24, 3) := by decide +kernel
theorem dX5_attacks_56 : decode cX5_attacks 56 = .ok (.iload 6, 2) := by decide +kernel
theorem dX5_attacks_58 : decode cX5_attacks 58 = .ok (.iload 6, 2) := by decide +kernel
theorem dX5_attacks_60 : decode cX5_attacks 60 = .ok (.imul, 1) := by decide +kernel
theorem dX5_attacks_61 : decode cX5_attacks 61 = .ok (.iload 7, 2) := by decide +kernel
theorem dX5_attacks_63 : decode cX5_attacks 63 = .ok (.iload 7, 2) := by decide +kernel
theorem dX5_attacks_65 : decode cX5_attacks 65 = .ok (.imul, 1) := by decide +kernel
theorem dX5_attacks_66 : decode cX5_attacks 66 = .ok (.iadd, 1) := by decide +kernel
theorem dX5_attacks_67 : decode cX5_attacks 67 = .ok (.iconst 5, 1) := by decide +kernel
theorem dX5_attacks_68 : decode cX5_attacks 68 = .ok (.if_icmp .ne 7, 3) := by decide +kernel
theorem dX5_attacks_71 : decode cX5_attacks 71 = .ok (.iconst 1, 1) := by decide +kernel
theorem dX5_attacks_72 : decode cX5_attacks 72 = .ok (.goto 4, 3) := by decide +kernel
theorem dX5_attacks_75 : decode cX5_attacks 75 = .ok (.iconst 0, 1) := by decide +kernel
theorem dX5_attacks_76 : decode cX5_attacks 76 = .ok (.ireturn, 1) := by decide +kernel
theorem dX5_attacks_77 : decode cX5_attacks 77 = .ok (.iload 6, 2) := by decide +kernel
theorem dX5_attacks_79 : decode cX5_attacks 79 = .ok (.ifCond .ne 8, 3) := by decide +kernel
theorem dX5_attacks_82 : decode cX5_attacks 82 = .ok (.iload 7, 2) := by decide +kernel
theorem dX5_attacks_84 : decode cX5_attacks 84 = .ok (.ifCond .eq 7, 3) := by decide +kernel
theorem dX5_attacks_87 : decode cX5_attacks 87 = .ok (.iload_n 1, 1) := by decide +kernel
theorem dX5_attacks_88 : decode cX5_attacks 88 = .ok (.ifCond .ne 5, 3) := by decide +kernel
theorem dX5_attacks_91 : decode cX5_attacks 91 = .ok (.iconst 0, 1) := by decide +kernel
theorem dX5_attacks_92 : decode cX5_attacks 92 = .ok (.ireturn, 1) := by decide +kernel
theorem dX5_attacks_93 : decode cX5_attacks 93 = .ok (.iload 6, 2) := by decide +kernel
theorem dX5_attacks_95 : decode cX5_attacks 95 = .ok (.ifCond .eq 25, 3) := by decide +kernel
theorem dX5_attacks_98 : decode cX5_attacks 98 = .ok (.iload 7, 2) := by decide +kernel
theorem dX5_attacks_100 : decode cX5_attacks 100 = .ok (.ifCond .eq 20, 3) := by decide +kernel
theorem dX5_attacks_103 : decode cX5_attacks 103 = .ok (.iload 6, 2) := by decide +kernel
theorem dX5_attacks_105 : decode cX5_attacks 105 = .ok (.iload 7, 2) := by decide +kernel
theorem dX5_attacks_107 : decode cX5_attacks 107 = .ok (.if_icmp .eq 13, 3) := by decide +kernel
theorem dX5_attacks_110 : decode cX5_attacks 110 = .ok (.iload 6, 2) := by decide +kernel
theorem dX5_attacks_112 : decode cX5_attacks 112 = .ok (.iload 7, 2) := by decide +kernel
theorem dX5_attacks_114 : decode cX5_attacks 114 = .ok (.ineg, 1) := by decide +kernel
theorem dX5_attacks_115 : decode cX5_attacks 115 = .ok (.if_icmp .eq 5, 3) := by decide +kernel
theorem dX5_attacks_118 : decode cX5_attacks 118 = .ok (.iconst 0, 1) := by decide +kernel
theorem dX5_attacks_119 : decode cX5_attacks 119 = .ok (.ireturn, 1) := by decide +kernel
theorem dX5_attacks_120 : decode cX5_attacks 120 = .ok (.iload 6, 2) := by decide +kernel
theorem dX5_attacks_122 : decode cX5_attacks 122 = .ok (.ifCond .le 7, 3) := by decide +kernel
theorem dX5_attacks_125 : decode cX5_attacks 125 = .ok (.iconst 1, 1) := by decide +kernel
theorem dX5_attacks_126 : decode cX5_attacks 126 = .ok (.goto 13, 3) := by decide +kernel
theorem dX5_attacks_129 : decode cX5_attacks 129 = .ok (.iload 6, 2) := by decide +kernel
theorem dX5_attacks_131 : decode cX5_attacks 131 = .ok (.ifCond .ge 7, 3) := by decide +kernel
theorem dX5_attacks_134 : decode cX5_attacks 134 = .ok (.iconst (-1), 1) := by decide +kernel
theorem dX5_attacks_135 : decode cX5_attacks 135 = .ok (.goto 4, 3) := by decide +kernel
theorem dX5_attacks_138 : decode cX5_attacks 138 = .ok (.iconst 0, 1) := by decide +kernel
theorem dX5_attacks_139 : decode cX5_attacks 139 = .ok (.istore 8, 2) := by decide +kernel
theorem dX5_attacks_141 : decode cX5_attacks 141 = .ok (.iload 7, 2) := by decide +kernel
theorem dX5_attacks_143 : decode cX5_attacks 143 = .ok (.ifCond .le 7, 3) := by decide +kernel
theorem dX5_attacks_146 : decode cX5_attacks 146 = .ok (.iconst 1, 1) := by decide +kernel
theorem dX5_attacks_147 : decode cX5_attacks 147 = .ok (.goto 13, 3) := by decide +kernel
theorem dX5_attacks_150 : decode cX5_attacks 150 = .ok (.iload 7, 2) := by decide +kernel
theorem dX5_attacks_152 : decode cX5_attacks 152 = .ok (.ifCond .ge 7, 3) := by decide +kernel
theorem dX5_attacks_155 : decode cX5_attacks 155 = .ok (.iconst (-1), 1) := by decide +kernel
theorem dX5_attacks_156 : decode cX5_attacks 156 = .ok (.goto 4, 3) := by decide +kernel
theorem dX5_attacks_159 : decode cX5_attacks 159 = .ok (.iconst 0, 1) := by decide +kernel
theorem dX5_attacks_160 : decode cX5_attacks 160 = .ok (.istore 9, 2) := by decide +kernel
theorem dX5_attacks_162 : decode cX5_attacks 162 = .ok (.iload_n 1, 1) := by decide +kernel
theorem dX5_attacks_163 : decode cX5_attacks 163 = .ok (.iload 8, 2) := by decide +kernel
theorem dX5_attacks_165 : decode cX5_attacks 165 = .ok (.iload 9, 2) := by decide +kernel
theorem dX5_attacks_167 : decode cX5_attacks 167 = .ok (.invokestatic 39, 3) := by decide +kernel
theorem dX5_attacks_170 : decode cX5_attacks 170 = .ok (.ifCond .ne 5, 3) := by decide +kernel
theorem dX5_attacks_173 : decode cX5_attacks 173 = .ok (.iconst 0, 1) := by decide +kernel
theorem dX5_attacks_174 : decode cX5_attacks 174 = .ok (.ireturn, 1) := by decide +kernel
theorem dX5_attacks_175 : decode cX5_attacks 175 = .ok (.aload_n 0, 1) := by decide +kernel
theorem dX5_attacks_176 : decode cX5_attacks 176 = .ok (.iload_n 2, 1) := by decide +kernel
theorem dX5_attacks_177 : decode cX5_attacks 177 = .ok (.iload 8, 2) := by decide +kernel
theorem dX5_attacks_179 : decode cX5_attacks 179 = .ok (.iload 9, 2) := by decide +kernel
theorem dX5_attacks_181 : decode cX5_attacks 181 = .ok (.invokevirtual 43, 3) := by decide +kernel
theorem dX5_attacks_184 : decode cX5_attacks 184 = .ok (.istore 10, 2) := by decide +kernel
theorem dX5_attacks_186 : decode cX5_attacks 186 = .ok (.iload 10, 2) := by decide +kernel
theorem dX5_attacks_188 : decode cX5_attacks 188 = .ok (.iload_n 3, 1) := by decide +kernel
theorem dX5_attacks_189 : decode cX5_attacks 189 = .ok (.if_icmp .eq 32, 3) := by decide +kernel
theorem dX5_attacks_192 : decode cX5_attacks 192 = .ok (.iload 10, 2) := by decide +kernel
theorem dX5_attacks_194 : decode cX5_attacks 194 = .ok (.iload 4, 2) := by decide +kernel
theorem dX5_attacks_196 : decode cX5_attacks 196 = .ok (.if_icmp .eq 25, 3) := by decide +kernel
theorem dX5_attacks_199 : decode cX5_attacks 199 = .ok (.iload 10, 2) := by decide +kernel
theorem dX5_attacks_201 : decode cX5_attacks 201 = .ok (.iload 5, 2) := by decide +kernel
theorem dX5_attacks_203 : decode cX5_attacks 203 = .ok (.if_icmp .eq 18, 3) := by decide +kernel
theorem dX5_attacks_206 : decode cX5_attacks 206 = .ok (.aload_n 0, 1) := by decide +kernel
theorem dX5_attacks_207 : decode cX5_attacks 207 = .ok (.iload 10, 2) := by decide +kernel
theorem dX5_attacks_209 : decode cX5_attacks 209 = .ok (.iload 8, 2) := by decide +kernel
theorem dX5_attacks_211 : decode cX5_attacks 211 = .ok (.iload 9, 2) := by decide +kernel
theorem dX5_attacks_213 : decode cX5_attacks 213 = .ok (.invokevirtual 43, 3) := by decide +kernel
theorem dX5_attacks_216 : decode cX5_attacks 216 = .ok (.istore 10, 2) := by decide +kernel
theorem dX5_attacks_218 : decode cX5_attacks 218 = .ok (.goto (-32), 3) := by decide +kernel
theorem dX5_attacks_221 : decode cX5_attacks 221 = .ok (.iload 10, 2) := by decide +kernel
theorem dX5_attacks_223 : decode cX5_attacks 223 = .ok (.iload_n 3, 1) := by decide +kernel
theorem dX5_attacks_224 : decode cX5_attacks 224 = .ok (.if_icmp .ne 7, 3) := by decide +kernel
theorem dX5_attacks_227 : decode cX5_attacks 227 = .ok (.iconst 1, 1) := by decide +kernel
theorem dX5_attacks_228 : decode cX5_attacks 228 = .ok (.goto 4, 3) := by decide +kernel
theorem dX5_attacks_231 : decode cX5_attacks 231 = .ok (.iconst 0, 1) := by decide +kernel
theorem dX5_attacks_232 : decode cX5_attacks 232 = .ok (.ireturn, 1) := by decide +kernel
theorem dX5_isPosition_0 : decode cX5_isPosition 0 = .ok (.iload_n 1, 1) := by decide +kernel
theorem dX5_isPosition_1 : decode cX5_isPosition 1 = .ok (.ifCond .lt 51, 3) := by decide +kernel
theorem dX5_isPosition_4 : decode cX5_isPosition 4 = .ok (.iload_n 1, 1) := by decide +kernel
theorem dX5_isPosition_5 : decode cX5_isPosition 5 = .ok (.iconst 5, 1) := by decide +kernel
theorem dX5_isPosition_6 : decode cX5_isPosition 6 = .ok (.if_icmp .gt 46, 3) := by decide +kernel
theorem dX5_isPosition_9 : decode cX5_isPosition 9 = .ok (.iload 5, 2) := by decide +kernel
theorem dX5_isPosition_11 : decode cX5_isPosition 11 = .ok (.ifCond .lt 41, 3) := by decide +kernel
theorem dX5_isPosition_14 : decode cX5_isPosition 14 = .ok (.iload 5, 2) := by decide +kernel
theorem dX5_isPosition_16 : decode cX5_isPosition 16 = .ok (.iconst 1, 1) := by decide +kernel
theorem dX5_isPosition_17 : decode cX5_isPosition 17 = .ok (.if_icmp .gt 35, 3) := by decide +kernel
theorem dX5_isPosition_20 : decode cX5_isPosition 20 = .ok (.aload_n 0, 1) := by decide +kernel
theorem dX5_isPosition_21 : decode cX5_isPosition 21 = .ok (.iload_n 2, 1) := by decide +kernel
theorem dX5_isPosition_22 : decode cX5_isPosition 22 = .ok (.invokevirtual 47, 3) := by decide +kernel
theorem dX5_isPosition_25 : decode cX5_isPosition 25 = .ok (.ifCond .eq 27, 3) := by decide +kernel
theorem dX5_isPosition_28 : decode cX5_isPosition 28 = .ok (.aload_n 0, 1) := by decide +kernel
theorem dX5_isPosition_29 : decode cX5_isPosition 29 = .ok (.iload 4, 2) := by decide +kernel
theorem dX5_isPosition_31 : decode cX5_isPosition 31 = .ok (.invokevirtual 47, 3) := by decide +kernel
theorem dX5_isPosition_34 : decode cX5_isPosition 34 = .ok (.ifCond .eq 18, 3) := by decide +kernel
theorem dX5_isPosition_37 : decode cX5_isPosition 37 = .ok (.iload_n 2, 1) := by decide +kernel
theorem dX5_isPosition_38 : decode cX5_isPosition 38 = .ok (.iload 4, 2) := by decide +kernel
theorem dX5_isPosition_40 : decode cX5_isPosition 40 = .ok (.if_icmp .eq 12, 3) := by decide +kernel
theorem dX5_isPosition_43 : decode cX5_isPosition 43 = .ok (.iload_n 2, 1) := by decide +kernel
theorem dX5_isPosition_44 : decode cX5_isPosition 44 = .ok (.iload 4, 2) := by decide +kernel
theorem dX5_isPosition_46 : decode cX5_isPosition 46 = .ok (.invokestatic 51, 3) := by decide +kernel
theorem dX5_isPosition_49 : decode cX5_isPosition 49 = .ok (.ifCond .eq 5, 3) := by decide +kernel
theorem dX5_isPosition_52 : decode cX5_isPosition 52 = .ok (.iconst 0, 1) := by decide +kernel
theorem dX5_isPosition_53 : decode cX5_isPosition 53 = .ok (.ireturn, 1) := by decide +kernel
theorem dX5_isPosition_54 : decode cX5_isPosition 54 = .ok (.iload_n 1, 1) := by decide +kernel
theorem dX5_isPosition_55 : decode cX5_isPosition 55 = .ok (.ifCond .ne 13, 3) := by decide +kernel
theorem dX5_isPosition_58 : decode cX5_isPosition 58 = .ok (.iload_n 3, 1) := by decide +kernel
theorem dX5_isPosition_59 : decode cX5_isPosition 59 = .ok (.ifCond .ne 7, 3) := by decide +kernel
theorem dX5_isPosition_62 : decode cX5_isPosition 62 = .ok (.iconst 1, 1) := by decide +kernel
theorem dX5_isPosition_63 : decode cX5_isPosition 63 = .ok (.goto 4, 3) := by decide +kernel
theorem dX5_isPosition_66 : decode cX5_isPosition 66 = .ok (.iconst 0, 1) := by decide +kernel
theorem dX5_isPosition_67 : decode cX5_isPosition 67 = .ok (.ireturn, 1) := by decide +kernel
theorem dX5_isPosition_68 : decode cX5_isPosition 68 = .ok (.aload_n 0, 1) := by decide +kernel
theorem dX5_isPosition_69 : decode cX5_isPosition 69 = .ok (.iload_n 3, 1) := by decide +kernel
theorem dX5_isPosition_70 : decode cX5_isPosition 70 = .ok (.invokevirtual 47, 3) := by decide +kernel
theorem dX5_isPosition_73 : decode cX5_isPosition 73 = .ok (.ifCond .eq 39, 3) := by decide +kernel
theorem dX5_isPosition_76 : decode cX5_isPosition 76 = .ok (.iload_n 3, 1) := by decide +kernel
theorem dX5_isPosition_77 : decode cX5_isPosition 77 = .ok (.iload_n 2, 1) := by decide +kernel
theorem dX5_isPosition_78 : decode cX5_isPosition 78 = .ok (.if_icmp .eq 34, 3) := by decide +kernel
theorem dX5_isPosition_81 : decode cX5_isPosition 81 = .ok (.iload_n 3, 1) := by decide +kernel
theorem dX5_isPosition_82 : decode cX5_isPosition 82 = .ok (.iload 4, 2) := by decide +kernel
theorem dX5_isPosition_84 : decode cX5_isPosition 84 = .ok (.if_icmp .eq 28, 3) := by decide +kernel
theorem dX5_isPosition_87 : decode cX5_isPosition 87 = .ok (.iload_n 1, 1) := by decide +kernel
theorem dX5_isPosition_88 : decode cX5_isPosition 88 = .ok (.iconst 1, 1) := by decide +kernel
theorem dX5_isPosition_89 : decode cX5_isPosition 89 = .ok (.if_icmp .ne 25, 3) := by decide +kernel
theorem dX5_isPosition_92 : decode cX5_isPosition 92 = .ok (.iload_n 3, 1) := by decide +kernel
theorem dX5_isPosition_93 : decode cX5_isPosition 93 = .ok (.bipush 8, 2) := by decide +kernel
theorem dX5_isPosition_95 : decode cX5_isPosition 95 = .ok (.idiv, 1) := by decide +kernel
theorem dX5_isPosition_96 : decode cX5_isPosition 96 = .ok (.ifCond .eq 16, 3) := by decide +kernel
theorem dX5_isPosition_99 : decode cX5_isPosition 99 = .ok (.iload_n 3, 1) := by decide +kernel
theorem dX5_isPosition_100 : decode cX5_isPosition 100 = .ok (.bipush 8, 2) := by decide +kernel
theorem dX5_isPosition_102 : decode cX5_isPosition 102 = .ok (.idiv, 1) := by decide +kernel
theorem dX5_isPosition_103 : decode cX5_isPosition 103 = .ok (.aload_n 0, 1) := by decide +kernel
theorem dX5_isPosition_104 : decode cX5_isPosition 104 = .ok (.getfield 29, 3) := by decide +kernel
theorem dX5_isPosition_107 : decode cX5_isPosition 107 = .ok (.iconst 1, 1) := by decide +kernel
theorem dX5_isPosition_108 : decode cX5_isPosition 108 = .ok (.isub, 1) := by decide +kernel
theorem dX5_isPosition_109 : decode cX5_isPosition 109 = .ok (.if_icmp .ne 5, 3) := by decide +kernel
theorem dX5_isPosition_112 : decode cX5_isPosition 112 = .ok (.iconst 0, 1) := by decide +kernel
theorem dX5_isPosition_113 : decode cX5_isPosition 113 = .ok (.ireturn, 1) := by decide +kernel
theorem dX5_isPosition_114 : decode cX5_isPosition 114 = .ok (.iload 5, 2) := by decide +kernel
theorem dX5_isPosition_116 : decode cX5_isPosition 116 = .ok (.iconst 1, 1) := by decide +kernel
theorem dX5_isPosition_117 : decode cX5_isPosition 117 = .ok (.if_icmp .eq 16, 3) := by decide +kernel
theorem dX5_isPosition_120 : decode cX5_isPosition 120 = .ok (.aload_n 0, 1) := by decide +kernel
theorem dX5_isPosition_121 : decode cX5_isPosition 121 = .ok (.iload_n 1, 1) := by decide +kernel
theorem dX5_isPosition_122 : decode cX5_isPosition 122 = .ok (.iload_n 3, 1) := by decide +kernel
theorem dX5_isPosition_123 : decode cX5_isPosition 123 = .ok (.iload 4, 2) := by decide +kernel
theorem dX5_isPosition_125 : decode cX5_isPosition 125 = .ok (.iload_n 2, 1) := by decide +kernel
theorem dX5_isPosition_126 : decode cX5_isPosition 126 = .ok (.iconst (-1), 1) := by decide +kernel
theorem dX5_isPosition_127 : decode cX5_isPosition 127 = .ok (.invokevirtual 55, 3) := by decide +kernel
theorem dX5_isPosition_130 : decode cX5_isPosition 130 = .ok (.ifCond .ne 7, 3) := by decide +kernel
theorem dX5_isPosition_133 : decode cX5_isPosition 133 = .ok (.iconst 1, 1) := by decide +kernel
theorem dX5_isPosition_134 : decode cX5_isPosition 134 = .ok (.goto 4, 3) := by decide +kernel
theorem dX5_isPosition_137 : decode cX5_isPosition 137 = .ok (.iconst 0, 1) := by decide +kernel
theorem dX5_isPosition_138 : decode cX5_isPosition 138 = .ok (.ireturn, 1) := by decide +kernel
theorem dX5_cell_0 : decode cX5_cell 0 = .ok (.iconst 2, 1) := by decide +kernel
theorem dX5_cell_1 : decode cX5_cell 1 = .ok (.iload_n 0, 1) := by decide +kernel
theorem dX5_cell_2 : decode cX5_cell 2 = .ok (.iconst 1, 1) := by decide +kernel
theorem dX5_cell_3 : decode cX5_cell 3 = .ok (.isub, 1) := by decide +kernel
theorem dX5_cell_4 : decode cX5_cell 4 = .ok (.imul, 1) := by decide +kernel
theorem dX5_cell_5 : decode cX5_cell 5 = .ok (.iload_n 1, 1) := by decide +kernel
theorem dX5_cell_6 : decode cX5_cell 6 = .ok (.iadd, 1) := by decide +kernel
theorem dX5_cell_7 : decode cX5_cell 7 = .ok (.ldc 59, 2) := by decide +kernel
theorem dX5_cell_9 : decode cX5_cell 9 = .ok (.imul, 1) := by decide +kernel
theorem dX5_cell_10 : decode cX5_cell 10 = .ok (.iload_n 2, 1) := by decide +kernel
theorem dX5_cell_11 : decode cX5_cell 11 = .ok (.bipush 64, 2) := by decide +kernel
theorem dX5_cell_13 : decode cX5_cell 13 = .ok (.imul, 1) := by decide +kernel
theorem dX5_cell_14 : decode cX5_cell 14 = .ok (.iload_n 3, 1) := by decide +kernel
theorem dX5_cell_15 : decode cX5_cell 15 = .ok (.iadd, 1) := by decide +kernel
theorem dX5_cell_16 : decode cX5_cell 16 = .ok (.bipush 64, 2) := by decide +kernel
theorem dX5_cell_18 : decode cX5_cell 18 = .ok (.imul, 1) := by decide +kernel
theorem dX5_cell_19 : decode cX5_cell 19 = .ok (.iadd, 1) := by decide +kernel
theorem dX5_cell_20 : decode cX5_cell 20 = .ok (.iload 4, 2) := by decide +kernel
theorem dX5_cell_22 : decode cX5_cell 22 = .ok (.iadd, 1) := by decide +kernel
theorem dX5_cell_23 : decode cX5_cell 23 = .ok (.ireturn, 1) := by decide +kernel
theorem dX5_known_0 : decode cX5_known 0 = .ok (.iload_n 1, 1) := by decide +kernel
theorem dX5_known_1 : decode cX5_known 1 = .ok (.iload_n 2, 1) := by decide +kernel
theorem dX5_known_2 : decode cX5_known 2 = .ok (.iload_n 3, 1) := by decide +kernel
theorem dX5_known_3 : decode cX5_known 3 = .ok (.iload 4, 2) := by decide +kernel
theorem dX5_known_5 : decode cX5_known 5 = .ok (.iload 5, 2) := by decide +kernel
theorem dX5_known_7 : decode cX5_known 7 = .ok (.invokestatic 60, 3) := by decide +kernel
theorem dX5_known_10 : decode cX5_known 10 = .ok (.istore 6, 2) := by decide +kernel
theorem dX5_known_12 : decode cX5_known 12 = .ok (.aload_n 0, 1) := by decide +kernel
theorem dX5_known_13 : decode cX5_known 13 = .ok (.getfield 8, 3) := by decide +kernel
theorem dX5_known_16 : decode cX5_known 16 = .ok (.iload 6, 2) := by decide +kernel
theorem dX5_known_18 : decode cX5_known 18 = .ok (.iconst 3, 1) := by decide +kernel
theorem dX5_known_19 : decode cX5_known 19 = .ok (.ishr, 1) := by decide +kernel
theorem dX5_known_20 : decode cX5_known 20 = .ok (.laload, 1) := by decide +kernel
theorem dX5_known_21 : decode cX5_known 21 = .ok (.bipush 8, 2) := by decide +kernel
theorem dX5_known_23 : decode cX5_known 23 = .ok (.iload 6, 2) := by decide +kernel
theorem dX5_known_25 : decode cX5_known 25 = .ok (.bipush 7, 2) := by decide +kernel
theorem dX5_known_27 : decode cX5_known 27 = .ok (.iand, 1) := by decide +kernel
theorem dX5_known_28 : decode cX5_known 28 = .ok (.imul, 1) := by decide +kernel
theorem dX5_known_29 : decode cX5_known 29 = .ok (.lshr, 1) := by decide +kernel
theorem dX5_known_30 : decode cX5_known 30 = .ok (.ldc2_w 64, 3) := by decide +kernel
theorem dX5_known_33 : decode cX5_known 33 = .ok (.land, 1) := by decide +kernel
theorem dX5_known_34 : decode cX5_known 34 = .ok (.l2i, 1) := by decide +kernel
theorem dX5_known_35 : decode cX5_known 35 = .ok (.iconst 1, 1) := by decide +kernel
theorem dX5_known_36 : decode cX5_known 36 = .ok (.isub, 1) := by decide +kernel
theorem dX5_known_37 : decode cX5_known 37 = .ok (.ireturn, 1) := by decide +kernel
theorem dX5_note_0 : decode cX5_note 0 = .ok (.iload_n 1, 1) := by decide +kernel
theorem dX5_note_1 : decode cX5_note 1 = .ok (.iload_n 2, 1) := by decide +kernel
theorem dX5_note_2 : decode cX5_note 2 = .ok (.iload_n 3, 1) := by decide +kernel
theorem dX5_note_3 : decode cX5_note 3 = .ok (.iload 4, 2) := by decide +kernel
theorem dX5_note_5 : decode cX5_note 5 = .ok (.iload 5, 2) := by decide +kernel
theorem dX5_note_7 : decode cX5_note 7 = .ok (.invokestatic 60, 3) := by decide +kernel
theorem dX5_note_10 : decode cX5_note 10 = .ok (.istore 7, 2) := by decide +kernel
theorem dX5_note_12 : decode cX5_note 12 = .ok (.aload_n 0, 1) := by decide +kernel
theorem dX5_note_13 : decode cX5_note 13 = .ok (.getfield 8, 3) := by decide +kernel
theorem dX5_note_16 : decode cX5_note 16 = .ok (.iload 7, 2) := by decide +kernel
theorem dX5_note_18 : decode cX5_note 18 = .ok (.iconst 3, 1) := by decide +kernel
theorem dX5_note_19 : decode cX5_note 19 = .ok (.ishr, 1) := by decide +kernel
theorem dX5_note_20 : decode cX5_note 20 = .ok (.aload_n 0, 1) := by decide +kernel
theorem dX5_note_21 : decode cX5_note 21 = .ok (.getfield 8, 3) := by decide +kernel
theorem dX5_note_24 : decode cX5_note 24 = .ok (.iload 7, 2) := by decide +kernel
theorem dX5_note_26 : decode cX5_note 26 = .ok (.iconst 3, 1) := by decide +kernel
theorem dX5_note_27 : decode cX5_note 27 = .ok (.ishr, 1) := by decide +kernel
theorem dX5_note_28 : decode cX5_note 28 = .ok (.laload, 1) := by decide +kernel
theorem dX5_note_29 : decode cX5_note 29 = .ok (.iload 6, 2) := by decide +kernel
theorem dX5_note_31 : decode cX5_note 31 = .ok (.iconst 1, 1) := by decide +kernel
theorem dX5_note_32 : decode cX5_note 32 = .ok (.iadd, 1) := by decide +kernel
theorem dX5_note_33 : decode cX5_note 33 = .ok (.i2l, 1) := by decide +kernel
theorem dX5_note_34 : decode cX5_note 34 = .ok (.bipush 8, 2) := by decide +kernel
theorem dX5_note_36 : decode cX5_note 36 = .ok (.iload 7, 2) := by decide +kernel
theorem dX5_note_38 : decode cX5_note 38 = .ok (.bipush 7, 2) := by decide +kernel
theorem dX5_note_40 : decode cX5_note 40 = .ok (.iand, 1) := by decide +kernel
theorem dX5_note_41 : decode cX5_note 41 = .ok (.imul, 1) := by decide +kernel
theorem dX5_note_42 : decode cX5_note 42 = .ok (.lshl, 1) := by decide +kernel
theorem dX5_note_43 : decode cX5_note 43 = .ok (.lor, 1) := by decide +kernel
theorem dX5_note_44 : decode cX5_note 44 = .ok (.lastore, 1) := by decide +kernel
theorem dX5_note_45 : decode cX5_note 45 = .ok (.return_, 1) := by decide +kernel
theorem dX5_mayGo_0 : decode cX5_mayGo 0 = .ok (.iload 4, 2) := by decide +kernel
theorem dX5_mayGo_2 : decode cX5_mayGo 2 = .ok (.ifCond .lt 49, 3) := by decide +kernel
theorem dX5_mayGo_5 : decode cX5_mayGo 5 = .ok (.iload 4, 2) := by decide +kernel
theorem dX5_mayGo_7 : decode cX5_mayGo 7 = .ok (.iload_n 2, 1) := by decide +kernel
theorem dX5_mayGo_8 : decode cX5_mayGo 8 = .ok (.invokestatic 51, 3) := by decide +kernel
theorem dX5_mayGo_11 : decode cX5_mayGo 11 = .ok (.ifCond .ne 40, 3) := by decide +kernel
theorem dX5_mayGo_14 : decode cX5_mayGo 14 = .ok (.iload 4, 2) := by decide +kernel
theorem dX5_mayGo_16 : decode cX5_mayGo 16 = .ok (.iload_n 2, 1) := by decide +kernel
theorem dX5_mayGo_17 : decode cX5_mayGo 17 = .ok (.if_icmp .eq 34, 3) := by decide +kernel
theorem dX5_mayGo_20 : decode cX5_mayGo 20 = .ok (.iload_n 1, 1) := by decide +kernel
theorem dX5_mayGo_21 : decode cX5_mayGo 21 = .ok (.ifCond .le 9, 3) := by decide +kernel
theorem dX5_mayGo_24 : decode cX5_mayGo 24 = .ok (.iload 4, 2) := by decide +kernel
theorem dX5_mayGo_26 : decode cX5_mayGo 26 = .ok (.iload_n 3, 1) := by decide +kernel
theorem dX5_mayGo_27 : decode cX5_mayGo 27 = .ok (.if_icmp .eq 20, 3) := by decide +kernel
theorem dX5_mayGo_30 : decode cX5_mayGo 30 = .ok (.iload_n 1, 1) := by decide +kernel
theorem dX5_mayGo_31 : decode cX5_mayGo 31 = .ok (.ifCond .eq 16, 3) := by decide +kernel
theorem dX5_mayGo_34 : decode cX5_mayGo 34 = .ok (.aload_n 0, 1) := by decide +kernel
theorem dX5_mayGo_35 : decode cX5_mayGo 35 = .ok (.iload_n 1, 1) := by decide +kernel
theorem dX5_mayGo_36 : decode cX5_mayGo 36 = .ok (.iload_n 3, 1) := by decide +kernel
theorem dX5_mayGo_37 : decode cX5_mayGo 37 = .ok (.iload 4, 2) := by decide +kernel
theorem dX5_mayGo_39 : decode cX5_mayGo 39 = .ok (.iload_n 2, 1) := by decide +kernel
theorem dX5_mayGo_40 : decode cX5_mayGo 40 = .ok (.iconst (-1), 1) := by decide +kernel
theorem dX5_mayGo_41 : decode cX5_mayGo 41 = .ok (.invokevirtual 55, 3) := by decide +kernel
theorem dX5_mayGo_44 : decode cX5_mayGo 44 = .ok (.ifCond .ne 7, 3) := by decide +kernel
theorem dX5_mayGo_47 : decode cX5_mayGo 47 = .ok (.iconst 1, 1) := by decide +kernel
theorem dX5_mayGo_48 : decode cX5_mayGo 48 = .ok (.goto 4, 3) := by decide +kernel
theorem dX5_mayGo_51 : decode cX5_mayGo 51 = .ok (.iconst 0, 1) := by decide +kernel
theorem dX5_mayGo_52 : decode cX5_mayGo 52 = .ok (.ireturn, 1) := by decide +kernel
theorem dX5_isLost_0 : decode cX5_isLost 0 = .ok (.iconst 0, 1) := by decide +kernel
theorem dX5_isLost_1 : decode cX5_isLost 1 = .ok (.istore 6, 2) := by decide +kernel
theorem dX5_isLost_3 : decode cX5_isLost 3 = .ok (.iconst 1, 1) := by decide +kernel
theorem dX5_isLost_4 : decode cX5_isLost 4 = .ok (.istore 7, 2) := by decide +kernel
theorem dX5_isLost_6 : decode cX5_isLost 6 = .ok (.iconst (-1), 1) := by decide +kernel
theorem dX5_isLost_7 : decode cX5_isLost 7 = .ok (.istore 8, 2) := by decide +kernel
theorem dX5_isLost_9 : decode cX5_isLost 9 = .ok (.iload 8, 2) := by decide +kernel
theorem dX5_isLost_11 : decode cX5_isLost 11 = .ok (.iconst 2, 1) := by decide +kernel
theorem dX5_isLost_12 : decode cX5_isLost 12 = .ok (.if_icmp .ge 96, 3) := by decide +kernel
theorem dX5_isLost_15 : decode cX5_isLost 15 = .ok (.iconst (-1), 1) := by decide +kernel
theorem dX5_isLost_16 : decode cX5_isLost 16 = .ok (.istore 9, 2) := by decide +kernel
theorem dX5_isLost_18 : decode cX5_isLost 18 = .ok (.iload 9, 2) := by decide +kernel
theorem dX5_isLost_20 : decode cX5_isLost 20 = .ok (.iconst 2, 1) := by decide +kernel
theorem dX5_isLost_21 : decode cX5_isLost 21 = .ok (.if_icmp .ge 81, 3) := by decide +kernel
theorem dX5_isLost_24 : decode cX5_isLost 24 = .ok (.iload 8, 2) := by decide +kernel
theorem dX5_isLost_26 : decode cX5_isLost 26 = .ok (.ifCond .ne 12, 3) := by decide +kernel
theorem dX5_isLost_29 : decode cX5_isLost 29 = .ok (.iload 9, 2) := by decide +kernel
theorem dX5_isLost_31 : decode cX5_isLost 31 = .ok (.ifCond .ne 7, 3) := by decide +kernel
theorem dX5_isLost_34 : decode cX5_isLost 34 = .ok (.iconst (-1), 1) := by decide +kernel
theorem dX5_isLost_35 : decode cX5_isLost 35 = .ok (.goto 13, 3) := by decide +kernel
theorem dX5_isLost_38 : decode cX5_isLost 38 = .ok (.aload_n 0, 1) := by decide +kernel
theorem dX5_isLost_39 : decode cX5_isLost 39 = .ok (.iload 4, 2) := by decide +kernel
theorem dX5_isLost_41 : decode cX5_isLost 41 = .ok (.iload 8, 2) := by decide +kernel
theorem dX5_isLost_43 : decode cX5_isLost 43 = .ok (.iload 9, 2) := by decide +kernel
theorem dX5_isLost_45 : decode cX5_isLost 45 = .ok (.invokevirtual 43, 3) := by decide +kernel
theorem dX5_isLost_48 : decode cX5_isLost 48 = .ok (.istore 10, 2) := by decide +kernel
theorem dX5_isLost_50 : decode cX5_isLost 50 = .ok (.aload_n 0, 1) := by decide +kernel
theorem dX5_isLost_51 : decode cX5_isLost 51 = .ok (.iload_n 1, 1) := by decide +kernel
theorem dX5_isLost_52 : decode cX5_isLost 52 = .ok (.iload_n 2, 1) := by decide +kernel
theorem dX5_isLost_53 : decode cX5_isLost 53 = .ok (.iload_n 3, 1) := by decide +kernel
theorem dX5_isLost_54 : decode cX5_isLost 54 = .ok (.iload 10, 2) := by decide +kernel
theorem dX5_isLost_56 : decode cX5_isLost 56 = .ok (.invokevirtual 66, 3) := by decide +kernel
theorem dX5_isLost_59 : decode cX5_isLost 59 = .ok (.ifCond .eq 37, 3) := by decide +kernel
theorem dX5_isLost_62 : decode cX5_isLost 62 = .ok (.iinc 6 1, 3) := by decide +kernel
theorem dX5_isLost_65 : decode cX5_isLost 65 = .ok (.iload 7, 2) := by decide +kernel
theorem dX5_isLost_67 : decode cX5_isLost 67 = .ok (.ifCond .eq 26, 3) := by decide +kernel
theorem dX5_isLost_70 : decode cX5_isLost 70 = .ok (.iload 10, 2) := by decide +kernel
theorem dX5_isLost_72 : decode cX5_isLost 72 = .ok (.iload_n 3, 1) := by decide +kernel
theorem dX5_isLost_73 : decode cX5_isLost 73 = .ok (.if_icmp .eq 20, 3) := by decide +kernel
theorem dX5_isLost_76 : decode cX5_isLost 76 = .ok (.aload_n 0, 1) := by decide +kernel
theorem dX5_isLost_77 : decode cX5_isLost 77 = .ok (.iload_n 1, 1) := by decide +kernel
theorem dX5_isLost_78 : decode cX5_isLost 78 = .ok (.iconst 0, 1) := by decide +kernel
theorem dX5_isLost_79 : decode cX5_isLost 79 = .ok (.iload_n 2, 1) := by decide +kernel
theorem dX5_isLost_80 : decode cX5_isLost 80 = .ok (.iload_n 3, 1) := by decide +kernel
theorem dX5_isLost_81 : decode cX5_isLost 81 = .ok (.iload 10, 2) := by decide +kernel
theorem dX5_isLost_83 : decode cX5_isLost 83 = .ok (.invokevirtual 70, 3) := by decide +kernel
theorem dX5_isLost_86 : decode cX5_isLost 86 = .ok (.ifCond .lt 7, 3) := by decide +kernel
theorem dX5_isLost_89 : decode cX5_isLost 89 = .ok (.iconst 1, 1) := by decide +kernel
theorem dX5_isLost_90 : decode cX5_isLost 90 = .ok (.goto 4, 3) := by decide +kernel
theorem dX5_isLost_93 : decode cX5_isLost 93 = .ok (.iconst 0, 1) := by decide +kernel
theorem dX5_isLost_94 : decode cX5_isLost 94 = .ok (.istore 7, 2) := by decide +kernel
theorem dX5_isLost_96 : decode cX5_isLost 96 = .ok (.iinc 9 1, 3) := by decide +kernel
theorem dX5_isLost_99 : decode cX5_isLost 99 = .ok (.goto (-81), 3) := by decide +kernel
theorem dX5_isLost_102 : decode cX5_isLost 102 = .ok (.iinc 8 1, 3) := by decide +kernel
theorem dX5_isLost_105 : decode cX5_isLost 105 = .ok (.goto (-96), 3) := by decide +kernel
theorem dX5_isLost_108 : decode cX5_isLost 108 = .ok (.iload 5, 2) := by decide +kernel
theorem dX5_isLost_110 : decode cX5_isLost 110 = .ok (.ifCond .eq 29, 3) := by decide +kernel
theorem dX5_isLost_113 : decode cX5_isLost 113 = .ok (.iload 6, 2) := by decide +kernel
theorem dX5_isLost_115 : decode cX5_isLost 115 = .ok (.ifCond .ne 20, 3) := by decide +kernel
theorem dX5_isLost_118 : decode cX5_isLost 118 = .ok (.aload_n 0, 1) := by decide +kernel
theorem dX5_isLost_119 : decode cX5_isLost 119 = .ok (.iload_n 1, 1) := by decide +kernel
theorem dX5_isLost_120 : decode cX5_isLost 120 = .ok (.iload_n 3, 1) := by decide +kernel
theorem dX5_isLost_121 : decode cX5_isLost 121 = .ok (.iload 4, 2) := by decide +kernel
theorem dX5_isLost_123 : decode cX5_isLost 123 = .ok (.iload_n 2, 1) := by decide +kernel
theorem dX5_isLost_124 : decode cX5_isLost 124 = .ok (.iconst (-1), 1) := by decide +kernel
theorem dX5_isLost_125 : decode cX5_isLost 125 = .ok (.invokevirtual 55, 3) := by decide +kernel
theorem dX5_isLost_128 : decode cX5_isLost 128 = .ok (.ifCond .eq 7, 3) := by decide +kernel
theorem dX5_isLost_131 : decode cX5_isLost 131 = .ok (.iconst 1, 1) := by decide +kernel
theorem dX5_isLost_132 : decode cX5_isLost 132 = .ok (.goto 22, 3) := by decide +kernel
theorem dX5_isLost_135 : decode cX5_isLost 135 = .ok (.iconst 0, 1) := by decide +kernel
theorem dX5_isLost_136 : decode cX5_isLost 136 = .ok (.goto 18, 3) := by decide +kernel
theorem dX5_isLost_139 : decode cX5_isLost 139 = .ok (.iload 6, 2) := by decide +kernel
theorem dX5_isLost_141 : decode cX5_isLost 141 = .ok (.ifCond .le 12, 3) := by decide +kernel
theorem dX5_isLost_144 : decode cX5_isLost 144 = .ok (.iload 7, 2) := by decide +kernel
theorem dX5_isLost_146 : decode cX5_isLost 146 = .ok (.ifCond .eq 7, 3) := by decide +kernel
theorem dX5_isLost_149 : decode cX5_isLost 149 = .ok (.iconst 1, 1) := by decide +kernel
theorem dX5_isLost_150 : decode cX5_isLost 150 = .ok (.goto 4, 3) := by decide +kernel
theorem dX5_isLost_153 : decode cX5_isLost 153 = .ok (.iconst 0, 1) := by decide +kernel
theorem dX5_isLost_154 : decode cX5_isLost 154 = .ok (.ireturn, 1) := by decide +kernel
theorem dX5_reaches_0 : decode cX5_reaches 0 = .ok (.aload_n 0, 1) := by decide +kernel
theorem dX5_reaches_1 : decode cX5_reaches 1 = .ok (.iload_n 1, 1) := by decide +kernel
theorem dX5_reaches_2 : decode cX5_reaches 2 = .ok (.iconst 1, 1) := by decide +kernel
theorem dX5_reaches_3 : decode cX5_reaches 3 = .ok (.iload_n 2, 1) := by decide +kernel
theorem dX5_reaches_4 : decode cX5_reaches 4 = .ok (.iload_n 3, 1) := by decide +kernel
theorem dX5_reaches_5 : decode cX5_reaches 5 = .ok (.iload 4, 2) := by decide +kernel
theorem dX5_reaches_7 : decode cX5_reaches 7 = .ok (.invokevirtual 70, 3) := by decide +kernel
theorem dX5_reaches_10 : decode cX5_reaches 10 = .ok (.iload 5, 2) := by decide +kernel
theorem dX5_reaches_12 : decode cX5_reaches 12 = .ok (.if_icmp .ne 7, 3) := by decide +kernel
theorem dX5_reaches_15 : decode cX5_reaches 15 = .ok (.iconst 1, 1) := by decide +kernel
theorem dX5_reaches_16 : decode cX5_reaches 16 = .ok (.goto 4, 3) := by decide +kernel
theorem dX5_reaches_19 : decode cX5_reaches 19 = .ok (.iconst 0, 1) := by decide +kernel
theorem dX5_reaches_20 : decode cX5_reaches 20 = .ok (.ireturn, 1) := by decide +kernel
theorem dX5_manReaches_0 : decode cX5_manReaches 0 = .ok (.iconst 0, 1) := by decide +kernel
theorem dX5_manReaches_1 : decode cX5_manReaches 1 = .ok (.istore 6, 2) := by decide +kernel
theorem dX5_manReaches_3 : decode cX5_manReaches 3 = .ok (.iload_n 1, 1) := by decide +kernel
theorem dX5_manReaches_4 : decode cX5_manReaches 4 = .ok (.iconst 1, 1) := by decide +kernel
theorem dX5_manReaches_5 : decode cX5_manReaches 5 = .ok (.if_icmp .ne 214, 3) := by decide +kernel
theorem dX5_manReaches_8 : decode cX5_manReaches 8 = .ok (.aload_n 0, 1) := by decide +kernel
theorem dX5_manReaches_9 : decode cX5_manReaches 9 = .ok (.iload_n 3, 1) := by decide +kernel
theorem dX5_manReaches_10 : decode cX5_manReaches 10 = .ok (.iconst 0, 1) := by decide +kernel
theorem dX5_manReaches_11 : decode cX5_manReaches 11 = .ok (.iconst 1, 1) := by decide +kernel
theorem dX5_manReaches_12 : decode cX5_manReaches 12 = .ok (.invokevirtual 43, 3) := by decide +kernel
theorem dX5_manReaches_15 : decode cX5_manReaches 15 = .ok (.istore 7, 2) := by decide +kernel
theorem dX5_manReaches_17 : decode cX5_manReaches 17 = .ok (.iload 7, 2) := by decide +kernel
theorem dX5_manReaches_19 : decode cX5_manReaches 19 = .ok (.ifCond .lt 20, 3) := by decide +kernel
theorem dX5_manReaches_22 : decode cX5_manReaches 22 = .ok (.iload 7, 2) := by decide +kernel
theorem dX5_manReaches_24 : decode cX5_manReaches 24 = .ok (.iload_n 2, 1) := by decide +kernel
theorem dX5_manReaches_25 : decode cX5_manReaches 25 = .ok (.if_icmp .eq 14, 3) := by decide +kernel
theorem dX5_manReaches_28 : decode cX5_manReaches 28 = .ok (.iload 7, 2) := by decide +kernel
theorem dX5_manReaches_30 : decode cX5_manReaches 30 = .ok (.iload 4, 2) := by decide +kernel
theorem dX5_manReaches_32 : decode cX5_manReaches 32 = .ok (.if_icmp .eq 7, 3) := by decide +kernel
theorem dX5_manReaches_35 : decode cX5_manReaches 35 = .ok (.iconst 1, 1) := by decide +kernel
theorem dX5_manReaches_36 : decode cX5_manReaches 36 = .ok (.goto 4, 3) := by decide +kernel
theorem dX5_manReaches_39 : decode cX5_manReaches 39 = .ok (.iconst 0, 1) := by decide +kernel
theorem dX5_manReaches_40 : decode cX5_manReaches 40 = .ok (.istore 8, 2) := by decide +kernel
theorem dX5_manReaches_42 : decode cX5_manReaches 42 = .ok (.iload 8, 2) := by decide +kernel
theorem dX5_manReaches_44 : decode cX5_manReaches 44 = .ok (.ifCond .eq 63, 3) := by decide +kernel
theorem dX5_manReaches_47 : decode cX5_manReaches 47 = .ok (.iload 7, 2) := by decide +kernel
theorem dX5_manReaches_49 : decode cX5_manReaches 49 = .ok (.bipush 8, 2) := by decide +kernel
theorem dX5_manReaches_51 : decode cX5_manReaches 51 = .ok (.idiv, 1) := by decide +kernel
theorem dX5_manReaches_52 : decode cX5_manReaches 52 = .ok (.aload_n 0, 1) := by decide +kernel
theorem dX5_manReaches_53 : decode cX5_manReaches 53 = .ok (.getfield 29, 3) := by decide +kernel
theorem dX5_manReaches_56 : decode cX5_manReaches 56 = .ok (.iconst 1, 1) := by decide +kernel
theorem dX5_manReaches_57 : decode cX5_manReaches 57 = .ok (.isub, 1) := by decide +kernel
theorem dX5_manReaches_58 : decode cX5_manReaches 58 = .ok (.if_icmp .ne 49, 3) := by decide +kernel
theorem dX5_manReaches_61 : decode cX5_manReaches 61 = .ok (.iconst 2, 1) := by decide +kernel
theorem dX5_manReaches_62 : decode cX5_manReaches 62 = .ok (.istore 9, 2) := by decide +kernel
theorem dX5_manReaches_64 : decode cX5_manReaches 64 = .ok (.iload 9, 2) := by decide +kernel
theorem dX5_manReaches_66 : decode cX5_manReaches 66 = .ok (.iconst 5, 1) := by decide +kernel
theorem dX5_manReaches_67 : decode cX5_manReaches 67 = .ok (.if_icmp .gt 37, 3) := by decide +kernel
theorem dX5_manReaches_70 : decode cX5_manReaches 70 = .ok (.iload 6, 2) := by decide +kernel
theorem dX5_manReaches_72 : decode cX5_manReaches 72 = .ok (.ifCond .ne 19, 3) := by decide +kernel
theorem dX5_manReaches_75 : decode cX5_manReaches 75 = .ok (.aload_n 0, 1) := by decide +kernel
theorem dX5_manReaches_76 : decode cX5_manReaches 76 = .ok (.iload 9, 2) := by decide +kernel
theorem dX5_manReaches_78 : decode cX5_manReaches 78 = .ok (.iload_n 2, 1) := by decide +kernel
theorem dX5_manReaches_79 : decode cX5_manReaches 79 = .ok (.iload 7, 2) := by decide +kernel
theorem dX5_manReaches_81 : decode cX5_manReaches 81 = .ok (.iload 4, 2) := by decide +kernel
theorem dX5_manReaches_83 : decode cX5_manReaches 83 = .ok (.iload 5, 2) := by decide +kernel
theorem dX5_manReaches_85 : decode cX5_manReaches 85 = .ok (.invokevirtual 73, 3) := by decide +kernel
theorem dX5_manReaches_88 : decode cX5_manReaches 88 = .ok (.ifCond .eq 7, 3) := by decide +kernel
theorem dX5_manReaches_91 : decode cX5_manReaches 91 = .ok (.iconst 1, 1) := by decide +kernel
theorem dX5_manReaches_92 : decode cX5_manReaches 92 = .ok (.goto 4, 3) := by decide +kernel
theorem dX5_manReaches_95 : decode cX5_manReaches 95 = .ok (.iconst 0, 1) := by decide +kernel
theorem dX5_manReaches_96 : decode cX5_manReaches 96 = .ok (.istore 6, 2) := by decide +kernel
theorem dX5_manReaches_98 : decode cX5_manReaches 98 = .ok (.iinc 9 1, 3) := by decide +kernel
theorem dX5_manReaches_101 : decode cX5_manReaches 101 = .ok (.goto (-37), 3) := by decide +kernel
theorem dX5_manReaches_104 : decode cX5_manReaches 104 = .ok (.iload 6, 2) := by decide +kernel
theorem dX5_manReaches_106 : decode cX5_manReaches 106 = .ok (.ireturn, 1) := by decide +kernel
theorem dX5_manReaches_107 : decode cX5_manReaches 107 = .ok (.iload 8, 2) := by decide +kernel
theorem dX5_manReaches_109 : decode cX5_manReaches 109 = .ok (.ifCond .eq 22, 3) := by decide +kernel
theorem dX5_manReaches_112 : decode cX5_manReaches 112 = .ok (.iload_n 3, 1) := by decide +kernel
theorem dX5_manReaches_113 : decode cX5_manReaches 113 = .ok (.bipush 8, 2) := by decide +kernel
theorem dX5_manReaches_115 : decode cX5_manReaches 115 = .ok (.idiv, 1) := by decide +kernel
theorem dX5_manReaches_116 : decode cX5_manReaches 116 = .ok (.iconst 1, 1) := by decide +kernel
theorem dX5_manReaches_117 : decode cX5_manReaches 117 = .ok (.if_icmp .ne 14, 3) := by decide +kernel
theorem dX5_manReaches_120 : decode cX5_manReaches 120 = .ok (.aload_n 0, 1) := by decide +kernel
theorem dX5_manReaches_121 : decode cX5_manReaches 121 = .ok (.iload 7, 2) := by decide +kernel
theorem dX5_manReaches_123 : decode cX5_manReaches 123 = .ok (.iconst 0, 1) := by decide +kernel
theorem dX5_manReaches_124 : decode cX5_manReaches 124 = .ok (.iconst 1, 1) := by decide +kernel
theorem dX5_manReaches_125 : decode cX5_manReaches 125 = .ok (.invokevirtual 43, 3) := by decide +kernel
theorem dX5_manReaches_128 : decode cX5_manReaches 128 = .ok (.goto 4, 3) := by decide +kernel
theorem dX5_manReaches_131 : decode cX5_manReaches 131 = .ok (.iconst (-1), 1) := by decide +kernel
theorem dX5_manReaches_132 : decode cX5_manReaches 132 = .ok (.istore 9, 2) := by decide +kernel
theorem dX5_manReaches_134 : decode cX5_manReaches 134 = .ok (.iload 8, 2) := by decide +kernel
theorem dX5_manReaches_136 : decode cX5_manReaches 136 = .ok (.ifCond .eq 22, 3) := by decide +kernel
theorem dX5_manReaches_139 : decode cX5_manReaches 139 = .ok (.aload_n 0, 1) := by decide +kernel
theorem dX5_manReaches_140 : decode cX5_manReaches 140 = .ok (.iload_n 1, 1) := by decide +kernel
theorem dX5_manReaches_141 : decode cX5_manReaches 141 = .ok (.iload_n 2, 1) := by decide +kernel
theorem dX5_manReaches_142 : decode cX5_manReaches 142 = .ok (.iload 7, 2) := by decide +kernel
theorem dX5_manReaches_144 : decode cX5_manReaches 144 = .ok (.iload 4, 2) := by decide +kernel
theorem dX5_manReaches_146 : decode cX5_manReaches 146 = .ok (.iload 5, 2) := by decide +kernel
theorem dX5_manReaches_148 : decode cX5_manReaches 148 = .ok (.invokevirtual 73, 3) := by decide +kernel
theorem dX5_manReaches_151 : decode cX5_manReaches 151 = .ok (.ifCond .eq 7, 3) := by decide +kernel
theorem dX5_manReaches_154 : decode cX5_manReaches 154 = .ok (.iconst 1, 1) := by decide +kernel
theorem dX5_manReaches_155 : decode cX5_manReaches 155 = .ok (.goto 4, 3) := by decide +kernel
theorem dX5_manReaches_158 : decode cX5_manReaches 158 = .ok (.iconst 0, 1) := by decide +kernel
theorem dX5_manReaches_159 : decode cX5_manReaches 159 = .ok (.istore 6, 2) := by decide +kernel
theorem dX5_manReaches_161 : decode cX5_manReaches 161 = .ok (.iload 6, 2) := by decide +kernel
theorem dX5_manReaches_163 : decode cX5_manReaches 163 = .ok (.ifCond .ne 50, 3) := by decide +kernel
theorem dX5_manReaches_166 : decode cX5_manReaches 166 = .ok (.iload 9, 2) := by decide +kernel
theorem dX5_manReaches_168 : decode cX5_manReaches 168 = .ok (.ifCond .lt 49, 3) := by decide +kernel
theorem dX5_manReaches_171 : decode cX5_manReaches 171 = .ok (.iload 9, 2) := by decide +kernel
theorem dX5_manReaches_173 : decode cX5_manReaches 173 = .ok (.bipush 8, 2) := by decide +kernel
theorem dX5_manReaches_175 : decode cX5_manReaches 175 = .ok (.idiv, 1) := by decide +kernel
theorem dX5_manReaches_176 : decode cX5_manReaches 176 = .ok (.aload_n 0, 1) := by decide +kernel
theorem dX5_manReaches_177 : decode cX5_manReaches 177 = .ok (.getfield 29, 3) := by decide +kernel
theorem dX5_manReaches_180 : decode cX5_manReaches 180 = .ok (.iconst 1, 1) := by decide +kernel
theorem dX5_manReaches_181 : decode cX5_manReaches 181 = .ok (.isub, 1) := by decide +kernel
theorem dX5_manReaches_182 : decode cX5_manReaches 182 = .ok (.if_icmp .ge 35, 3) := by decide +kernel
theorem dX5_manReaches_185 : decode cX5_manReaches 185 = .ok (.iload 9, 2) := by decide +kernel
theorem dX5_manReaches_187 : decode cX5_manReaches 187 = .ok (.iload_n 2, 1) := by decide +kernel
theorem dX5_manReaches_188 : decode cX5_manReaches 188 = .ok (.if_icmp .eq 29, 3) := by decide +kernel
theorem dX5_manReaches_191 : decode cX5_manReaches 191 = .ok (.iload 9, 2) := by decide +kernel
theorem dX5_manReaches_193 : decode cX5_manReaches 193 = .ok (.iload 4, 2) := by decide +kernel
theorem dX5_manReaches_195 : decode cX5_manReaches 195 = .ok (.if_icmp .eq 22, 3) := by decide +kernel
theorem dX5_manReaches_198 : decode cX5_manReaches 198 = .ok (.aload_n 0, 1) := by decide +kernel
theorem dX5_manReaches_199 : decode cX5_manReaches 199 = .ok (.iload_n 1, 1) := by decide +kernel
theorem dX5_manReaches_200 : decode cX5_manReaches 200 = .ok (.iload_n 2, 1) := by decide +kernel
theorem dX5_manReaches_201 : decode cX5_manReaches 201 = .ok (.iload 9, 2) := by decide +kernel
theorem dX5_manReaches_203 : decode cX5_manReaches 203 = .ok (.iload 4, 2) := by decide +kernel
theorem dX5_manReaches_205 : decode cX5_manReaches 205 = .ok (.iload 5, 2) := by decide +kernel
theorem dX5_manReaches_207 : decode cX5_manReaches 207 = .ok (.invokevirtual 73, 3) := by decide +kernel
theorem dX5_manReaches_210 : decode cX5_manReaches 210 = .ok (.ifCond .eq 7, 3) := by decide +kernel
theorem dX5_manReaches_213 : decode cX5_manReaches 213 = .ok (.iconst 1, 1) := by decide +kernel
theorem dX5_manReaches_214 : decode cX5_manReaches 214 = .ok (.goto 4, 3) := by decide +kernel
theorem dX5_manReaches_217 : decode cX5_manReaches 217 = .ok (.iconst 0, 1) := by decide +kernel
theorem dX5_manReaches_218 : decode cX5_manReaches 218 = .ok (.ireturn, 1) := by decide +kernel
theorem dX5_manReaches_219 : decode cX5_manReaches 219 = .ok (.bipush (-2), 2) := by decide +kernel
theorem dX5_manReaches_221 : decode cX5_manReaches 221 = .ok (.istore 7, 2) := by decide +kernel
theorem dX5_manReaches_223 : decode cX5_manReaches 223 = .ok (.iload 7, 2) := by decide +kernel
theorem dX5_manReaches_225 : decode cX5_manReaches 225 = .ok (.iconst 3, 1) := by decide +kernel
theorem dX5_manReaches_226 : decode cX5_manReaches 226 = .ok (.if_icmp .ge 169, 3) := by decide +kernel
theorem dX5_manReaches_229 : decode cX5_manReaches 229 = .ok (.bipush (-2), 2) := by decide +kernel
theorem dX5_manReaches_231 : decode cX5_manReaches 231 = .ok (.istore 8, 2) := by decide +kernel
theorem dX5_manReaches_233 : decode cX5_manReaches 233 = .ok (.iload 8, 2) := by decide +kernel
theorem dX5_manReaches_235 : decode cX5_manReaches 235 = .ok (.iconst 3, 1) := by decide +kernel
theorem dX5_manReaches_236 : decode cX5_manReaches 236 = .ok (.if_icmp .ge 153, 3) := by decide +kernel
theorem dX5_manReaches_239 : decode cX5_manReaches 239 = .ok (.iload_n 1, 1) := by decide +kernel
theorem dX5_manReaches_240 : decode cX5_manReaches 240 = .ok (.iconst 2, 1) := by decide +kernel
theorem dX5_manReaches_241 : decode cX5_manReaches 241 = .ok (.if_icmp .ne 22, 3) := by decide +kernel
theorem dX5_manReaches_244 : decode cX5_manReaches 244 = .ok (.iload 7, 2) := by decide +kernel
theorem dX5_manReaches_246 : decode cX5_manReaches 246 = .ok (.iload 7, 2) := by decide +kernel
theorem dX5_manReaches_248 : decode cX5_manReaches 248 = .ok (.imul, 1) := by decide +kernel
theorem dX5_manReaches_249 : decode cX5_manReaches 249 = .ok (.iload 8, 2) := by decide +kernel
theorem dX5_manReaches_251 : decode cX5_manReaches 251 = .ok (.iload 8, 2) := by decide +kernel
theorem dX5_manReaches_253 : decode cX5_manReaches 253 = .ok (.imul, 1) := by decide +kernel
theorem dX5_manReaches_254 : decode cX5_manReaches 254 = .ok (.iadd, 1) := by decide +kernel
theorem dX5_manReaches_255 : decode cX5_manReaches 255 = .ok (.iconst 5, 1) := by decide +kernel
theorem dX5_manReaches_256 : decode cX5_manReaches 256 = .ok (.if_icmp .ne 7, 3) := by decide +kernel
theorem dX5_manReaches_259 : decode cX5_manReaches 259 = .ok (.iconst 1, 1) := by decide +kernel
theorem dX5_manReaches_260 : decode cX5_manReaches 260 = .ok (.goto 4, 3) := by decide +kernel
theorem dX5_manReaches_263 : decode cX5_manReaches 263 = .ok (.iconst 0, 1) := by decide +kernel
theorem dX5_manReaches_264 : decode cX5_manReaches 264 = .ok (.istore 9, 2) := by decide +kernel
theorem dX5_manReaches_266 : decode cX5_manReaches 266 = .ok (.iload_n 1, 1) := by decide +kernel
theorem dX5_manReaches_267 : decode cX5_manReaches 267 = .ok (.iconst 2, 1) := by decide +kernel
theorem dX5_manReaches_268 : decode cX5_manReaches 268 = .ok (.if_icmp .le 18, 3) := by decide +kernel
theorem dX5_manReaches_271 : decode cX5_manReaches 271 = .ok (.iload_n 1, 1) := by decide +kernel
theorem dX5_manReaches_272 : decode cX5_manReaches 272 = .ok (.iload 7, 2) := by decide +kernel
theorem dX5_manReaches_274 : decode cX5_manReaches 274 = .ok (.iload 8, 2) := by decide +kernel
theorem dX5_manReaches_276 : decode cX5_manReaches 276 = .ok (.invokestatic 39, 3) := by decide +kernel
theorem dX5_manReaches_279 : decode cX5_manReaches 279 = .ok (.ifCond .eq 7, 3) := by decide +kernel
theorem dX5_manReaches_282 : decode cX5_manReaches 282 = .ok (.iconst 1, 1) := by decide +kernel
theorem dX5_manReaches_283 : decode cX5_manReaches 283 = .ok (.goto 4, 3) := by decide +kernel
theorem dX5_manReaches_286 : decode cX5_manReaches 286 = .ok (.iconst 0, 1) := by decide +kernel
theorem dX5_manReaches_287 : decode cX5_manReaches 287 = .ok (.istore 10, 2) := by decide +kernel
theorem dX5_manReaches_289 : decode cX5_manReaches 289 = .ok (.iload 9, 2) := by decide +kernel
theorem dX5_manReaches_291 : decode cX5_manReaches 291 = .ok (.ifCond .ne 8, 3) := by decide +kernel
theorem dX5_manReaches_294 : decode cX5_manReaches 294 = .ok (.iload 10, 2) := by decide +kernel
theorem dX5_manReaches_296 : decode cX5_manReaches 296 = .ok (.ifCond .eq 15, 3) := by decide +kernel
theorem dX5_manReaches_299 : decode cX5_manReaches 299 = .ok (.aload_n 0, 1) := by decide +kernel
theorem dX5_manReaches_300 : decode cX5_manReaches 300 = .ok (.iload_n 3, 1) := by decide +kernel
theorem dX5_manReaches_301 : decode cX5_manReaches 301 = .ok (.iload 7, 2) := by decide +kernel
theorem dX5_manReaches_303 : decode cX5_manReaches 303 = .ok (.iload 8, 2) := by decide +kernel
theorem dX5_manReaches_305 : decode cX5_manReaches 305 = .ok (.invokevirtual 43, 3) := by decide +kernel
theorem dX5_manReaches_308 : decode cX5_manReaches 308 = .ok (.goto 4, 3) := by decide +kernel
theorem dX5_manReaches_311 : decode cX5_manReaches 311 = .ok (.iconst (-1), 1) := by decide +kernel
theorem dX5_manReaches_312 : decode cX5_manReaches 312 = .ok (.istore 11, 2) := by decide +kernel
theorem dX5_manReaches_314 : decode cX5_manReaches 314 = .ok (.iload 11, 2) := by decide +kernel
theorem dX5_manReaches_316 : decode cX5_manReaches 316 = .ok (.ifCond .lt 67, 3) := by decide +kernel
theorem dX5_manReaches_319 : decode cX5_manReaches 319 = .ok (.iload 11, 2) := by decide +kernel
theorem dX5_manReaches_321 : decode cX5_manReaches 321 = .ok (.iload_n 2, 1) := by decide +kernel
theorem dX5_manReaches_322 : decode cX5_manReaches 322 = .ok (.if_icmp .eq 61, 3) := by decide +kernel
theorem dX5_manReaches_325 : decode cX5_manReaches 325 = .ok (.iload 11, 2) := by decide +kernel
theorem dX5_manReaches_327 : decode cX5_manReaches 327 = .ok (.iload 4, 2) := by decide +kernel
theorem dX5_manReaches_329 : decode cX5_manReaches 329 = .ok (.if_icmp .eq 54, 3) := by decide +kernel
theorem dX5_manReaches_332 : decode cX5_manReaches 332 = .ok (.iload 6, 2) := by decide +kernel
theorem dX5_manReaches_334 : decode cX5_manReaches 334 = .ok (.ifCond .ne 18, 3) := by decide +kernel
theorem dX5_manReaches_337 : decode cX5_manReaches 337 = .ok (.aload_n 0, 1) := by decide +kernel
theorem dX5_manReaches_338 : decode cX5_manReaches 338 = .ok (.iload_n 1, 1) := by decide +kernel
theorem dX5_manReaches_339 : decode cX5_manReaches 339 = .ok (.iload_n 2, 1) := by decide +kernel
theorem dX5_manReaches_340 : decode cX5_manReaches 340 = .ok (.iload 11, 2) := by decide +kernel
theorem dX5_manReaches_342 : decode cX5_manReaches 342 = .ok (.iload 4, 2) := by decide +kernel
theorem dX5_manReaches_344 : decode cX5_manReaches 344 = .ok (.iload 5, 2) := by decide +kernel
theorem dX5_manReaches_346 : decode cX5_manReaches 346 = .ok (.invokevirtual 73, 3) := by decide +kernel
theorem dX5_manReaches_349 : decode cX5_manReaches 349 = .ok (.ifCond .eq 7, 3) := by decide +kernel
theorem dX5_manReaches_352 : decode cX5_manReaches 352 = .ok (.iconst 1, 1) := by decide +kernel
theorem dX5_manReaches_353 : decode cX5_manReaches 353 = .ok (.goto 4, 3) := by decide +kernel
theorem dX5_manReaches_356 : decode cX5_manReaches 356 = .ok (.iconst 0, 1) := by decide +kernel
theorem dX5_manReaches_357 : decode cX5_manReaches 357 = .ok (.istore 6, 2) := by decide +kernel
theorem dX5_manReaches_359 : decode cX5_manReaches 359 = .ok (.iload 10, 2) := by decide +kernel
theorem dX5_manReaches_361 : decode cX5_manReaches 361 = .ok (.ifCond .eq 16, 3) := by decide +kernel
theorem dX5_manReaches_364 : decode cX5_manReaches 364 = .ok (.aload_n 0, 1) := by decide +kernel
theorem dX5_manReaches_365 : decode cX5_manReaches 365 = .ok (.iload 11, 2) := by decide +kernel
theorem dX5_manReaches_367 : decode cX5_manReaches 367 = .ok (.iload 7, 2) := by decide +kernel
theorem dX5_manReaches_369 : decode cX5_manReaches 369 = .ok (.iload 8, 2) := by decide +kernel
theorem dX5_manReaches_371 : decode cX5_manReaches 371 = .ok (.invokevirtual 43, 3) := by decide +kernel
theorem dX5_manReaches_374 : decode cX5_manReaches 374 = .ok (.goto 4, 3) := by decide +kernel
theorem dX5_manReaches_377 : decode cX5_manReaches 377 = .ok (.iconst (-1), 1) := by decide +kernel
theorem dX5_manReaches_378 : decode cX5_manReaches 378 = .ok (.istore 11, 2) := by decide +kernel
theorem dX5_manReaches_380 : decode cX5_manReaches 380 = .ok (.goto (-66), 3) := by decide +kernel
theorem dX5_manReaches_383 : decode cX5_manReaches 383 = .ok (.iinc 8 1, 3) := by decide +kernel
theorem dX5_manReaches_386 : decode cX5_manReaches 386 = .ok (.goto (-153), 3) := by decide +kernel
theorem dX5_manReaches_389 : decode cX5_manReaches 389 = .ok (.iinc 7 1, 3) := by decide +kernel
theorem dX5_manReaches_392 : decode cX5_manReaches 392 = .ok (.goto (-169), 3) := by decide +kernel
theorem dX5_manReaches_395 : decode cX5_manReaches 395 = .ok (.iload 6, 2) := by decide +kernel
theorem dX5_manReaches_397 : decode cX5_manReaches 397 = .ok (.ireturn, 1) := by decide +kernel
theorem dX5_kingReaches_0 : decode cX5_kingReaches 0 = .ok (.iconst 0, 1) := by decide +kernel
theorem dX5_kingReaches_1 : decode cX5_kingReaches 1 = .ok (.istore 6, 2) := by decide +kernel
theorem dX5_kingReaches_3 : decode cX5_kingReaches 3 = .ok (.iconst (-1), 1) := by decide +kernel
theorem dX5_kingReaches_4 : decode cX5_kingReaches 4 = .ok (.istore 7, 2) := by decide +kernel
theorem dX5_kingReaches_6 : decode cX5_kingReaches 6 = .ok (.iload 7, 2) := by decide +kernel
theorem dX5_kingReaches_8 : decode cX5_kingReaches 8 = .ok (.iconst 2, 1) := by decide +kernel
theorem dX5_kingReaches_9 : decode cX5_kingReaches 9 = .ok (.if_icmp .ge 104, 3) := by decide +kernel
theorem dX5_kingReaches_12 : decode cX5_kingReaches 12 = .ok (.iconst (-1), 1) := by decide +kernel
theorem dX5_kingReaches_13 : decode cX5_kingReaches 13 = .ok (.istore 8, 2) := by decide +kernel
theorem dX5_kingReaches_15 : decode cX5_kingReaches 15 = .ok (.iload 8, 2) := by decide +kernel
theorem dX5_kingReaches_17 : decode cX5_kingReaches 17 = .ok (.iconst 2, 1) := by decide +kernel
theorem dX5_kingReaches_18 : decode cX5_kingReaches 18 = .ok (.if_icmp .ge 89, 3) := by decide +kernel
theorem dX5_kingReaches_21 : decode cX5_kingReaches 21 = .ok (.iload 7, 2) := by decide +kernel
theorem dX5_kingReaches_23 : decode cX5_kingReaches 23 = .ok (.ifCond .ne 12, 3) := by decide +kernel
theorem dX5_kingReaches_26 : decode cX5_kingReaches 26 = .ok (.iload 8, 2) := by decide +kernel
theorem dX5_kingReaches_28 : decode cX5_kingReaches 28 = .ok (.ifCond .ne 7, 3) := by decide +kernel
theorem dX5_kingReaches_31 : decode cX5_kingReaches 31 = .ok (.iconst (-1), 1) := by decide +kernel
theorem dX5_kingReaches_32 : decode cX5_kingReaches 32 = .ok (.goto 12, 3) := by decide +kernel
theorem dX5_kingReaches_35 : decode cX5_kingReaches 35 = .ok (.aload_n 0, 1) := by decide +kernel
theorem dX5_kingReaches_36 : decode cX5_kingReaches 36 = .ok (.iload_n 2, 1) := by decide +kernel
theorem dX5_kingReaches_37 : decode cX5_kingReaches 37 = .ok (.iload 7, 2) := by decide +kernel
theorem dX5_kingReaches_39 : decode cX5_kingReaches 39 = .ok (.iload 8, 2) := by decide +kernel
theorem dX5_kingReaches_41 : decode cX5_kingReaches 41 = .ok (.invokevirtual 43, 3) := by decide +kernel
theorem dX5_kingReaches_44 : decode cX5_kingReaches 44 = .ok (.istore 9, 2) := by decide +kernel
theorem dX5_kingReaches_46 : decode cX5_kingReaches 46 = .ok (.iload 6, 2) := by decide +kernel
theorem dX5_kingReaches_48 : decode cX5_kingReaches 48 = .ok (.ifCond .ne 46, 3) := by decide +kernel
theorem dX5_kingReaches_51 : decode cX5_kingReaches 51 = .ok (.iload 9, 2) := by decide +kernel
theorem dX5_kingReaches_53 : decode cX5_kingReaches 53 = .ok (.ifCond .lt 45, 3) := by decide +kernel
theorem dX5_kingReaches_56 : decode cX5_kingReaches 56 = .ok (.iload 9, 2) := by decide +kernel
theorem dX5_kingReaches_58 : decode cX5_kingReaches 58 = .ok (.iload_n 3, 1) := by decide +kernel
theorem dX5_kingReaches_59 : decode cX5_kingReaches 59 = .ok (.if_icmp .eq 39, 3) := by decide +kernel
theorem dX5_kingReaches_62 : decode cX5_kingReaches 62 = .ok (.iload 9, 2) := by decide +kernel
theorem dX5_kingReaches_64 : decode cX5_kingReaches 64 = .ok (.iload 4, 2) := by decide +kernel
theorem dX5_kingReaches_66 : decode cX5_kingReaches 66 = .ok (.if_icmp .eq 32, 3) := by decide +kernel
theorem dX5_kingReaches_69 : decode cX5_kingReaches 69 = .ok (.iload 9, 2) := by decide +kernel
theorem dX5_kingReaches_71 : decode cX5_kingReaches 71 = .ok (.iload 4, 2) := by decide +kernel
theorem dX5_kingReaches_73 : decode cX5_kingReaches 73 = .ok (.invokestatic 51, 3) := by decide +kernel
theorem dX5_kingReaches_76 : decode cX5_kingReaches 76 = .ok (.ifCond .ne 22, 3) := by decide +kernel
theorem dX5_kingReaches_79 : decode cX5_kingReaches 79 = .ok (.aload_n 0, 1) := by decide +kernel
theorem dX5_kingReaches_80 : decode cX5_kingReaches 80 = .ok (.iload_n 1, 1) := by decide +kernel
theorem dX5_kingReaches_81 : decode cX5_kingReaches 81 = .ok (.iload 9, 2) := by decide +kernel
theorem dX5_kingReaches_83 : decode cX5_kingReaches 83 = .ok (.iload_n 3, 1) := by decide +kernel
theorem dX5_kingReaches_84 : decode cX5_kingReaches 84 = .ok (.iload 4, 2) := by decide +kernel
theorem dX5_kingReaches_86 : decode cX5_kingReaches 86 = .ok (.iload 5, 2) := by decide +kernel
theorem dX5_kingReaches_88 : decode cX5_kingReaches 88 = .ok (.invokevirtual 73, 3) := by decide +kernel
theorem dX5_kingReaches_91 : decode cX5_kingReaches 91 = .ok (.ifCond .eq 7, 3) := by decide +kernel
theorem dX5_kingReaches_94 : decode cX5_kingReaches 94 = .ok (.iconst 1, 1) := by decide +kernel
theorem dX5_kingReaches_95 : decode cX5_kingReaches 95 = .ok (.goto 4, 3) := by decide +kernel
theorem dX5_kingReaches_98 : decode cX5_kingReaches 98 = .ok (.iconst 0, 1) := by decide +kernel
theorem dX5_kingReaches_99 : decode cX5_kingReaches 99 = .ok (.istore 6, 2) := by decide +kernel
theorem dX5_kingReaches_101 : decode cX5_kingReaches 101 = .ok (.iinc 8 1, 3) := by decide +kernel
theorem dX5_kingReaches_104 : decode cX5_kingReaches 104 = .ok (.goto (-89), 3) := by decide +kernel
theorem dX5_kingReaches_107 : decode cX5_kingReaches 107 = .ok (.iinc 7 1, 3) := by decide +kernel
theorem dX5_kingReaches_110 : decode cX5_kingReaches 110 = .ok (.goto (-104), 3) := by decide +kernel
theorem dX5_kingReaches_113 : decode cX5_kingReaches 113 = .ok (.iload 6, 2) := by decide +kernel
theorem dX5_kingReaches_115 : decode cX5_kingReaches 115 = .ok (.ireturn, 1) := by decide +kernel
theorem dX5_pass_0 : decode cX5_pass 0 = .ok (.iload_n 2, 1) := by decide +kernel
theorem dX5_pass_1 : decode cX5_pass 1 = .ok (.iconst 2, 1) := by decide +kernel
theorem dX5_pass_2 : decode cX5_pass 2 = .ok (.irem, 1) := by decide +kernel
theorem dX5_pass_3 : decode cX5_pass 3 = .ok (.iconst 1, 1) := by decide +kernel
theorem dX5_pass_4 : decode cX5_pass 4 = .ok (.if_icmp .ne 7, 3) := by decide +kernel
theorem dX5_pass_7 : decode cX5_pass 7 = .ok (.iconst 0, 1) := by decide +kernel
theorem dX5_pass_8 : decode cX5_pass 8 = .ok (.goto 4, 3) := by decide +kernel
theorem dX5_pass_11 : decode cX5_pass 11 = .ok (.iconst 1, 1) := by decide +kernel
theorem dX5_pass_12 : decode cX5_pass 12 = .ok (.istore_n 3, 1) := by decide +kernel
theorem dX5_pass_13 : decode cX5_pass 13 = .ok (.iconst 0, 1) := by decide +kernel
theorem dX5_pass_14 : decode cX5_pass 14 = .ok (.istore 4, 2) := by decide +kernel
theorem dX5_pass_16 : decode cX5_pass 16 = .ok (.iconst 0, 1) := by decide +kernel
theorem dX5_pass_17 : decode cX5_pass 17 = .ok (.istore 5, 2) := by decide +kernel
theorem dX5_pass_19 : decode cX5_pass 19 = .ok (.iload 5, 2) := by decide +kernel
theorem dX5_pass_21 : decode cX5_pass 21 = .ok (.bipush 64, 2) := by decide +kernel
theorem dX5_pass_23 : decode cX5_pass 23 = .ok (.if_icmp .ge 186, 3) := by decide +kernel
theorem dX5_pass_26 : decode cX5_pass 26 = .ok (.iconst 0, 1) := by decide +kernel
theorem dX5_pass_27 : decode cX5_pass 27 = .ok (.istore 6, 2) := by decide +kernel
theorem dX5_pass_29 : decode cX5_pass 29 = .ok (.iload 6, 2) := by decide +kernel
theorem dX5_pass_31 : decode cX5_pass 31 = .ok (.bipush 64, 2) := by decide +kernel
theorem dX5_pass_33 : decode cX5_pass 33 = .ok (.if_icmp .ge 170, 3) := by decide +kernel
theorem dX5_pass_36 : decode cX5_pass 36 = .ok (.aload_n 0, 1) := by decide +kernel
theorem dX5_pass_37 : decode cX5_pass 37 = .ok (.iload 5, 2) := by decide +kernel
theorem dX5_pass_39 : decode cX5_pass 39 = .ok (.invokevirtual 47, 3) := by decide +kernel
theorem dX5_pass_42 : decode cX5_pass 42 = .ok (.ifCond .eq 161, 3) := by decide +kernel
theorem dX5_pass_45 : decode cX5_pass 45 = .ok (.iconst 0, 1) := by decide +kernel
theorem dX5_pass_46 : decode cX5_pass 46 = .ok (.istore 7, 2) := by decide +kernel
theorem dX5_pass_48 : decode cX5_pass 48 = .ok (.iload 7, 2) := by decide +kernel
theorem dX5_pass_50 : decode cX5_pass 50 = .ok (.bipush 64, 2) := by decide +kernel
theorem dX5_pass_52 : decode cX5_pass 52 = .ok (.if_icmp .ge 145, 3) := by decide +kernel
theorem dX5_pass_55 : decode cX5_pass 55 = .ok (.aload_n 0, 1) := by decide +kernel
theorem dX5_pass_56 : decode cX5_pass 56 = .ok (.iload 6, 2) := by decide +kernel
theorem dX5_pass_58 : decode cX5_pass 58 = .ok (.invokevirtual 47, 3) := by decide +kernel
theorem dX5_pass_61 : decode cX5_pass 61 = .ok (.ifCond .eq 136, 3) := by decide +kernel
theorem dX5_pass_64 : decode cX5_pass 64 = .ok (.iload 6, 2) := by decide +kernel
theorem dX5_pass_66 : decode cX5_pass 66 = .ok (.iload 5, 2) := by decide +kernel
theorem dX5_pass_68 : decode cX5_pass 68 = .ok (.if_icmp .eq 129, 3) := by decide +kernel
theorem dX5_pass_71 : decode cX5_pass 71 = .ok (.aload_n 0, 1) := by decide +kernel
theorem dX5_pass_72 : decode cX5_pass 72 = .ok (.iload_n 1, 1) := by decide +kernel
theorem dX5_pass_73 : decode cX5_pass 73 = .ok (.iload 5, 2) := by decide +kernel
theorem dX5_pass_75 : decode cX5_pass 75 = .ok (.iload 6, 2) := by decide +kernel
theorem dX5_pass_77 : decode cX5_pass 77 = .ok (.iload 7, 2) := by decide +kernel
theorem dX5_pass_79 : decode cX5_pass 79 = .ok (.iload_n 3, 1) := by decide +kernel
theorem dX5_pass_80 : decode cX5_pass 80 = .ok (.invokevirtual 76, 3) := by decide +kernel
theorem dX5_pass_83 : decode cX5_pass 83 = .ok (.ifCond .eq 108, 3) := by decide +kernel
theorem dX5_pass_86 : decode cX5_pass 86 = .ok (.aload_n 0, 1) := by decide +kernel
theorem dX5_pass_87 : decode cX5_pass 87 = .ok (.iload_n 1, 1) := by decide +kernel
theorem dX5_pass_88 : decode cX5_pass 88 = .ok (.iload_n 3, 1) := by decide +kernel
theorem dX5_pass_89 : decode cX5_pass 89 = .ok (.iload 5, 2) := by decide +kernel
theorem dX5_pass_91 : decode cX5_pass 91 = .ok (.iload 6, 2) := by decide +kernel
theorem dX5_pass_93 : decode cX5_pass 93 = .ok (.iload 7, 2) := by decide +kernel
theorem dX5_pass_95 : decode cX5_pass 95 = .ok (.invokevirtual 70, 3) := by decide +kernel
theorem dX5_pass_98 : decode cX5_pass 98 = .ok (.ifCond .ge 93, 3) := by decide +kernel
theorem dX5_pass_101 : decode cX5_pass 101 = .ok (.iload_n 3, 1) := by decide +kernel
theorem dX5_pass_102 : decode cX5_pass 102 = .ok (.iconst 1, 1) := by decide +kernel
theorem dX5_pass_103 : decode cX5_pass 103 = .ok (.if_icmp .ne 26, 3) := by decide +kernel
theorem dX5_pass_106 : decode cX5_pass 106 = .ok (.aload_n 0, 1) := by decide +kernel
theorem dX5_pass_107 : decode cX5_pass 107 = .ok (.iload_n 1, 1) := by decide +kernel
theorem dX5_pass_108 : decode cX5_pass 108 = .ok (.iload 5, 2) := by decide +kernel
theorem dX5_pass_110 : decode cX5_pass 110 = .ok (.iload 6, 2) := by decide +kernel
theorem dX5_pass_112 : decode cX5_pass 112 = .ok (.iload 7, 2) := by decide +kernel
theorem dX5_pass_114 : decode cX5_pass 114 = .ok (.iload_n 2, 1) := by decide +kernel
theorem dX5_pass_115 : decode cX5_pass 115 = .ok (.ifCond .ne 7, 3) := by decide +kernel
theorem dX5_pass_118 : decode cX5_pass 118 = .ok (.iconst 1, 1) := by decide +kernel
theorem dX5_pass_119 : decode cX5_pass 119 = .ok (.goto 4, 3) := by decide +kernel
theorem dX5_pass_122 : decode cX5_pass 122 = .ok (.iconst 0, 1) := by decide +kernel
theorem dX5_pass_123 : decode cX5_pass 123 = .ok (.invokevirtual 79, 3) := by decide +kernel
theorem dX5_pass_126 : decode cX5_pass 126 = .ok (.goto 42, 3) := by decide +kernel
theorem dX5_pass_129 : decode cX5_pass 129 = .ok (.aload_n 0, 1) := by decide +kernel
theorem dX5_pass_130 : decode cX5_pass 130 = .ok (.iload_n 1, 1) := by decide +kernel
theorem dX5_pass_131 : decode cX5_pass 131 = .ok (.iload 5, 2) := by decide +kernel
theorem dX5_pass_133 : decode cX5_pass 133 = .ok (.iload 6, 2) := by decide +kernel
theorem dX5_pass_135 : decode cX5_pass 135 = .ok (.iload 7, 2) := by decide +kernel
theorem dX5_pass_137 : decode cX5_pass 137 = .ok (.iload_n 2, 1) := by decide +kernel
theorem dX5_pass_138 : decode cX5_pass 138 = .ok (.iconst 1, 1) := by decide +kernel
theorem dX5_pass_139 : decode cX5_pass 139 = .ok (.isub, 1) := by decide +kernel
theorem dX5_pass_140 : decode cX5_pass 140 = .ok (.invokevirtual 83, 3) := by decide +kernel
theorem dX5_pass_143 : decode cX5_pass 143 = .ok (.ifCond .ne 20, 3) := by decide +kernel
theorem dX5_pass_146 : decode cX5_pass 146 = .ok (.aload_n 0, 1) := by decide +kernel
theorem dX5_pass_147 : decode cX5_pass 147 = .ok (.iload_n 1, 1) := by decide +kernel
theorem dX5_pass_148 : decode cX5_pass 148 = .ok (.iload 5, 2) := by decide +kernel
theorem dX5_pass_150 : decode cX5_pass 150 = .ok (.iload 6, 2) := by decide +kernel
theorem dX5_pass_152 : decode cX5_pass 152 = .ok (.iload 7, 2) := by decide +kernel
theorem dX5_pass_154 : decode cX5_pass 154 = .ok (.iload_n 2, 1) := by decide +kernel
theorem dX5_pass_155 : decode cX5_pass 155 = .ok (.iconst 1, 1) := by decide +kernel
theorem dX5_pass_156 : decode cX5_pass 156 = .ok (.isub, 1) := by decide +kernel
theorem dX5_pass_157 : decode cX5_pass 157 = .ok (.invokevirtual 86, 3) := by decide +kernel
theorem dX5_pass_160 : decode cX5_pass 160 = .ok (.ifCond .eq 7, 3) := by decide +kernel
theorem dX5_pass_163 : decode cX5_pass 163 = .ok (.iconst 1, 1) := by decide +kernel
theorem dX5_pass_164 : decode cX5_pass 164 = .ok (.goto 4, 3) := by decide +kernel
theorem dX5_pass_167 : decode cX5_pass 167 = .ok (.iconst 0, 1) := by decide +kernel
theorem dX5_pass_168 : decode cX5_pass 168 = .ok (.istore 8, 2) := by decide +kernel
theorem dX5_pass_170 : decode cX5_pass 170 = .ok (.iload 8, 2) := by decide +kernel
theorem dX5_pass_172 : decode cX5_pass 172 = .ok (.ifCond .eq 19, 3) := by decide +kernel
theorem dX5_pass_175 : decode cX5_pass 175 = .ok (.aload_n 0, 1) := by decide +kernel
theorem dX5_pass_176 : decode cX5_pass 176 = .ok (.iload_n 1, 1) := by decide +kernel
theorem dX5_pass_177 : decode cX5_pass 177 = .ok (.iload_n 3, 1) := by decide +kernel
theorem dX5_pass_178 : decode cX5_pass 178 = .ok (.iload 5, 2) := by decide +kernel
theorem dX5_pass_180 : decode cX5_pass 180 = .ok (.iload 6, 2) := by decide +kernel
theorem dX5_pass_182 : decode cX5_pass 182 = .ok (.iload 7, 2) := by decide +kernel
theorem dX5_pass_184 : decode cX5_pass 184 = .ok (.iload_n 2, 1) := by decide +kernel
theorem dX5_pass_185 : decode cX5_pass 185 = .ok (.invokevirtual 89, 3) := by decide +kernel
theorem dX5_pass_188 : decode cX5_pass 188 = .ok (.iconst 1, 1) := by decide +kernel
theorem dX5_pass_189 : decode cX5_pass 189 = .ok (.istore 4, 2) := by decide +kernel
theorem dX5_pass_191 : decode cX5_pass 191 = .ok (.iinc 7 1, 3) := by decide +kernel
theorem dX5_pass_194 : decode cX5_pass 194 = .ok (.goto (-146), 3) := by decide +kernel
theorem dX5_pass_197 : decode cX5_pass 197 = .ok (.iinc 6 1, 3) := by decide +kernel
theorem dX5_pass_200 : decode cX5_pass 200 = .ok (.goto (-171), 3) := by decide +kernel
theorem dX5_pass_203 : decode cX5_pass 203 = .ok (.iinc 5 1, 3) := by decide +kernel
theorem dX5_pass_206 : decode cX5_pass 206 = .ok (.goto (-187), 3) := by decide +kernel
theorem dX5_pass_209 : decode cX5_pass 209 = .ok (.iload 4, 2) := by decide +kernel
theorem dX5_pass_211 : decode cX5_pass 211 = .ok (.ireturn, 1) := by decide +kernel
theorem dX5_build_0 : decode cX5_build 0 = .ok (.aload_n 0, 1) := by decide +kernel
theorem dX5_build_1 : decode cX5_build 1 = .ok (.getfield 14, 3) := by decide +kernel
theorem dX5_build_4 : decode cX5_build 4 = .ok (.iload_n 1, 1) := by decide +kernel
theorem dX5_build_5 : decode cX5_build 5 = .ok (.baload, 1) := by decide +kernel
theorem dX5_build_6 : decode cX5_build 6 = .ok (.ifCond .eq 4, 3) := by decide +kernel
theorem dX5_build_9 : decode cX5_build 9 = .ok (.return_, 1) := by decide +kernel
theorem dX5_build_10 : decode cX5_build 10 = .ok (.iconst 1, 1) := by decide +kernel
theorem dX5_build_11 : decode cX5_build 11 = .ok (.istore_n 2, 1) := by decide +kernel
theorem dX5_build_12 : decode cX5_build 12 = .ok (.iload_n 1, 1) := by decide +kernel
theorem dX5_build_13 : decode cX5_build 13 = .ok (.iconst 1, 1) := by decide +kernel
theorem dX5_build_14 : decode cX5_build 14 = .ok (.if_icmp .ne 46, 3) := by decide +kernel
theorem dX5_build_17 : decode cX5_build 17 = .ok (.iconst 2, 1) := by decide +kernel
theorem dX5_build_18 : decode cX5_build 18 = .ok (.istore_n 3, 1) := by decide +kernel
theorem dX5_build_19 : decode cX5_build 19 = .ok (.iload_n 3, 1) := by decide +kernel
theorem dX5_build_20 : decode cX5_build 20 = .ok (.iconst 5, 1) := by decide +kernel
theorem dX5_build_21 : decode cX5_build 21 = .ok (.if_icmp .gt 39, 3) := by decide +kernel
theorem dX5_build_24 : decode cX5_build 24 = .ok (.aload_n 0, 1) := by decide +kernel
theorem dX5_build_25 : decode cX5_build 25 = .ok (.iload_n 3, 1) := by decide +kernel
theorem dX5_build_26 : decode cX5_build 26 = .ok (.invokevirtual 93, 3) := by decide +kernel
theorem dX5_build_29 : decode cX5_build 29 = .ok (.aload_n 0, 1) := by decide +kernel
theorem dX5_build_30 : decode cX5_build 30 = .ok (.getfield 18, 3) := by decide +kernel
theorem dX5_build_33 : decode cX5_build 33 = .ok (.iload_n 3, 1) := by decide +kernel
theorem dX5_build_34 : decode cX5_build 34 = .ok (.iaload, 1) := by decide +kernel
theorem dX5_build_35 : decode cX5_build 35 = .ok (.iconst 1, 1) := by decide +kernel
theorem dX5_build_36 : decode cX5_build 36 = .ok (.iadd, 1) := by decide +kernel
theorem dX5_build_37 : decode cX5_build 37 = .ok (.iload_n 2, 1) := by decide +kernel
theorem dX5_build_38 : decode cX5_build 38 = .ok (.if_icmp .le 14, 3) := by decide +kernel
theorem dX5_build_41 : decode cX5_build 41 = .ok (.aload_n 0, 1) := by decide +kernel
theorem dX5_build_42 : decode cX5_build 42 = .ok (.getfield 18, 3) := by decide +kernel
theorem dX5_build_45 : decode cX5_build 45 = .ok (.iload_n 3, 1) := by decide +kernel
theorem dX5_build_46 : decode cX5_build 46 = .ok (.iaload, 1) := by decide +kernel
theorem dX5_build_47 : decode cX5_build 47 = .ok (.iconst 1, 1) := by decide +kernel
theorem dX5_build_48 : decode cX5_build 48 = .ok (.iadd, 1) := by decide +kernel
theorem dX5_build_49 : decode cX5_build 49 = .ok (.goto 4, 3) := by decide +kernel
theorem dX5_build_52 : decode cX5_build 52 = .ok (.iload_n 2, 1) := by decide +kernel
theorem dX5_build_53 : decode cX5_build 53 = .ok (.istore_n 2, 1) := by decide +kernel
theorem dX5_build_54 : decode cX5_build 54 = .ok (.iinc 3 1, 3) := by decide +kernel
theorem dX5_build_57 : decode cX5_build 57 = .ok (.goto (-38), 3) := by decide +kernel
theorem dX5_build_60 : decode cX5_build 60 = .ok (.aload_n 0, 1) := by decide +kernel
theorem dX5_build_61 : decode cX5_build 61 = .ok (.iload_n 1, 1) := by decide +kernel
theorem dX5_build_62 : decode cX5_build 62 = .ok (.iload_n 2, 1) := by decide +kernel
theorem dX5_build_63 : decode cX5_build 63 = .ok (.invokevirtual 97, 3) := by decide +kernel
theorem dX5_build_66 : decode cX5_build 66 = .ok (.return_, 1) := by decide +kernel
theorem dX5_build2_0 : decode cX5_build2 0 = .ok (.aload_n 0, 1) := by decide +kernel
theorem dX5_build2_1 : decode cX5_build2 1 = .ok (.getfield 14, 3) := by decide +kernel
theorem dX5_build2_4 : decode cX5_build2 4 = .ok (.iload_n 1, 1) := by decide +kernel
theorem dX5_build2_5 : decode cX5_build2 5 = .ok (.baload, 1) := by decide +kernel
theorem dX5_build2_6 : decode cX5_build2 6 = .ok (.ifCond .ne 9, 3) := by decide +kernel
theorem dX5_build2_9 : decode cX5_build2 9 = .ok (.aload_n 0, 1) := by decide +kernel
theorem dX5_build2_10 : decode cX5_build2 10 = .ok (.iload_n 1, 1) := by decide +kernel
theorem dX5_build2_11 : decode cX5_build2 11 = .ok (.iconst 1, 1) := by decide +kernel
theorem dX5_build2_12 : decode cX5_build2 12 = .ok (.invokevirtual 97, 3) := by decide +kernel
theorem dX5_build2_15 : decode cX5_build2 15 = .ok (.return_, 1) := by decide +kernel
theorem dX5_passAll_0 : decode cX5_passAll 0 = .ok (.aload_n 0, 1) := by decide +kernel
theorem dX5_passAll_1 : decode cX5_passAll 1 = .ok (.getfield 14, 3) := by decide +kernel
theorem dX5_passAll_4 : decode cX5_passAll 4 = .ok (.iload_n 1, 1) := by decide +kernel
theorem dX5_passAll_5 : decode cX5_passAll 5 = .ok (.iconst 1, 1) := by decide +kernel
theorem dX5_passAll_6 : decode cX5_passAll 6 = .ok (.bastore, 1) := by decide +kernel
theorem dX5_passAll_7 : decode cX5_passAll 7 = .ok (.aload_n 0, 1) := by decide +kernel
theorem dX5_passAll_8 : decode cX5_passAll 8 = .ok (.getfield 18, 3) := by decide +kernel
theorem dX5_passAll_11 : decode cX5_passAll 11 = .ok (.iload_n 1, 1) := by decide +kernel
theorem dX5_passAll_12 : decode cX5_passAll 12 = .ok (.iconst (-1), 1) := by decide +kernel
theorem dX5_passAll_13 : decode cX5_passAll 13 = .ok (.iastore, 1) := by decide +kernel
theorem dX5_passAll_14 : decode cX5_passAll 14 = .ok (.iconst 0, 1) := by decide +kernel
theorem dX5_passAll_15 : decode cX5_passAll 15 = .ok (.istore_n 3, 1) := by decide +kernel
theorem dX5_passAll_16 : decode cX5_passAll 16 = .ok (.iconst 0, 1) := by decide +kernel
theorem dX5_passAll_17 : decode cX5_passAll 17 = .ok (.istore 4, 2) := by decide +kernel
theorem dX5_passAll_19 : decode cX5_passAll 19 = .ok (.iload 4, 2) := by decide +kernel
theorem dX5_passAll_21 : decode cX5_passAll 21 = .ok (.iload_n 2, 1) := by decide +kernel
theorem dX5_passAll_22 : decode cX5_passAll 22 = .ok (.if_icmp .le 8, 3) := by decide +kernel
theorem dX5_passAll_25 : decode cX5_passAll 25 = .ok (.iload_n 3, 1) := by decide +kernel
theorem dX5_passAll_26 : decode cX5_passAll 26 = .ok (.iconst 2, 1) := by decide +kernel
theorem dX5_passAll_27 : decode cX5_passAll 27 = .ok (.if_icmp .ge 53, 3) := by decide +kernel
theorem dX5_passAll_30 : decode cX5_passAll 30 = .ok (.aload_n 0, 1) := by decide +kernel
theorem dX5_passAll_31 : decode cX5_passAll 31 = .ok (.iload_n 1, 1) := by decide +kernel
theorem dX5_passAll_32 : decode cX5_passAll 32 = .ok (.iload 4, 2) := by decide +kernel
theorem dX5_passAll_34 : decode cX5_passAll 34 = .ok (.invokevirtual 101, 3) := by decide +kernel
theorem dX5_passAll_37 : decode cX5_passAll 37 = .ok (.istore 5, 2) := by decide +kernel
theorem dX5_passAll_39 : decode cX5_passAll 39 = .ok (.aload_n 0, 1) := by decide +kernel
theorem dX5_passAll_40 : decode cX5_passAll 40 = .ok (.getfield 18, 3) := by decide +kernel
theorem dX5_passAll_43 : decode cX5_passAll 43 = .ok (.iload_n 1, 1) := by decide +kernel
theorem dX5_passAll_44 : decode cX5_passAll 44 = .ok (.iload 5, 2) := by decide +kernel
theorem dX5_passAll_46 : decode cX5_passAll 46 = .ok (.ifCond .eq 8, 3) := by decide +kernel
theorem dX5_passAll_49 : decode cX5_passAll 49 = .ok (.iload 4, 2) := by decide +kernel
theorem dX5_passAll_51 : decode cX5_passAll 51 = .ok (.goto 9, 3) := by decide +kernel
theorem dX5_passAll_54 : decode cX5_passAll 54 = .ok (.aload_n 0, 1) := by decide +kernel
theorem dX5_passAll_55 : decode cX5_passAll 55 = .ok (.getfield 18, 3) := by decide +kernel
theorem dX5_passAll_58 : decode cX5_passAll 58 = .ok (.iload_n 1, 1) := by decide +kernel
theorem dX5_passAll_59 : decode cX5_passAll 59 = .ok (.iaload, 1) := by decide +kernel
theorem dX5_passAll_60 : decode cX5_passAll 60 = .ok (.iastore, 1) := by decide +kernel
theorem dX5_passAll_61 : decode cX5_passAll 61 = .ok (.iload 5, 2) := by decide +kernel
theorem dX5_passAll_63 : decode cX5_passAll 63 = .ok (.ifCond .eq 7, 3) := by decide +kernel
theorem dX5_passAll_66 : decode cX5_passAll 66 = .ok (.iconst 0, 1) := by decide +kernel
theorem dX5_passAll_67 : decode cX5_passAll 67 = .ok (.goto 6, 3) := by decide +kernel
theorem dX5_passAll_70 : decode cX5_passAll 70 = .ok (.iload_n 3, 1) := by decide +kernel
theorem dX5_passAll_71 : decode cX5_passAll 71 = .ok (.iconst 1, 1) := by decide +kernel
theorem dX5_passAll_72 : decode cX5_passAll 72 = .ok (.iadd, 1) := by decide +kernel
theorem dX5_passAll_73 : decode cX5_passAll 73 = .ok (.istore_n 3, 1) := by decide +kernel
theorem dX5_passAll_74 : decode cX5_passAll 74 = .ok (.iinc 4 1, 3) := by decide +kernel
theorem dX5_passAll_77 : decode cX5_passAll 77 = .ok (.goto (-58), 3) := by decide +kernel
theorem dX5_passAll_80 : decode cX5_passAll 80 = .ok (.return_, 1) := by decide +kernel
theorem dX5_distanceOf_0 : decode cX5_distanceOf 0 = .ok (.iload_n 1, 1) := by decide +kernel
theorem dX5_distanceOf_1 : decode cX5_distanceOf 1 = .ok (.ifCond .ne 5, 3) := by decide +kernel
theorem dX5_distanceOf_4 : decode cX5_distanceOf 4 = .ok (.iconst (-1), 1) := by decide +kernel
theorem dX5_distanceOf_5 : decode cX5_distanceOf 5 = .ok (.ireturn, 1) := by decide +kernel
theorem dX5_distanceOf_6 : decode cX5_distanceOf 6 = .ok (.aload_n 0, 1) := by decide +kernel
theorem dX5_distanceOf_7 : decode cX5_distanceOf 7 = .ok (.iload_n 1, 1) := by decide +kernel
theorem dX5_distanceOf_8 : decode cX5_distanceOf 8 = .ok (.invokevirtual 104, 3) := by decide +kernel
theorem dX5_distanceOf_11 : decode cX5_distanceOf 11 = .ok (.aload_n 0, 1) := by decide +kernel
theorem dX5_distanceOf_12 : decode cX5_distanceOf 12 = .ok (.iload_n 1, 1) := by decide +kernel
theorem dX5_distanceOf_13 : decode cX5_distanceOf 13 = .ok (.iload 5, 2) := by decide +kernel
theorem dX5_distanceOf_15 : decode cX5_distanceOf 15 = .ok (.iload_n 2, 1) := by decide +kernel
theorem dX5_distanceOf_16 : decode cX5_distanceOf 16 = .ok (.iload_n 3, 1) := by decide +kernel
theorem dX5_distanceOf_17 : decode cX5_distanceOf 17 = .ok (.iload 4, 2) := by decide +kernel
theorem dX5_distanceOf_19 : decode cX5_distanceOf 19 = .ok (.invokevirtual 70, 3) := by decide +kernel
theorem dX5_distanceOf_22 : decode cX5_distanceOf 22 = .ok (.ireturn, 1) := by decide +kernel
theorem dX5_size_0 : decode cX5_size 0 = .ok (.aload_n 0, 1) := by decide +kernel
theorem dX5_size_1 : decode cX5_size 1 = .ok (.iconst 0, 1) := by decide +kernel
theorem dX5_size_2 : decode cX5_size 2 = .ok (.putfield 32, 3) := by decide +kernel
theorem dX5_size_5 : decode cX5_size 5 = .ok (.iload_n 1, 1) := by decide +kernel
theorem dX5_size_6 : decode cX5_size 6 = .ok (.ifCond .eq 10, 3) := by decide +kernel
theorem dX5_size_9 : decode cX5_size 9 = .ok (.aload_n 0, 1) := by decide +kernel
theorem dX5_size_10 : decode cX5_size 10 = .ok (.getfield 29, 3) := by decide +kernel
theorem dX5_size_13 : decode cX5_size 13 = .ok (.goto 7, 3) := by decide +kernel
theorem dX5_size_16 : decode cX5_size 16 = .ok (.aload_n 0, 1) := by decide +kernel
theorem dX5_size_17 : decode cX5_size 17 = .ok (.getfield 25, 3) := by decide +kernel
theorem dX5_size_20 : decode cX5_size 20 = .ok (.ireturn, 1) := by decide +kernel
theorem dX5_isKind_0 : decode cX5_isKind 0 = .ok (.iload_n 0, 1) := by decide +kernel
theorem dX5_isKind_1 : decode cX5_isKind 1 = .ok (.ifCond .le 13, 3) := by decide +kernel
theorem dX5_isKind_4 : decode cX5_isKind 4 = .ok (.iload_n 0, 1) := by decide +kernel
theorem dX5_isKind_5 : decode cX5_isKind 5 = .ok (.bipush 6, 2) := by decide +kernel
theorem dX5_isKind_7 : decode cX5_isKind 7 = .ok (.if_icmp .ge 7, 3) := by decide +kernel
theorem dX5_isKind_10 : decode cX5_isKind 10 = .ok (.iconst 1, 1) := by decide +kernel
theorem dX5_isKind_11 : decode cX5_isKind 11 = .ok (.goto 4, 3) := by decide +kernel
theorem dX5_isKind_14 : decode cX5_isKind 14 = .ok (.iconst 0, 1) := by decide +kernel
theorem dX5_isKind_15 : decode cX5_isKind 15 = .ok (.ireturn, 1) := by decide +kernel
theorem dX5_distance_0 : decode cX5_distance 0 = .ok (.aload_n 0, 1) := by decide +kernel
theorem dX5_distance_1 : decode cX5_distance 1 = .ok (.iload_n 1, 1) := by decide +kernel
theorem dX5_distance_2 : decode cX5_distance 2 = .ok (.invokestatic 107, 3) := by decide +kernel
theorem dX5_distance_5 : decode cX5_distance 5 = .ok (.ifCond .eq 21, 3) := by decide +kernel
theorem dX5_distance_8 : decode cX5_distance 8 = .ok (.aload_n 0, 1) := by decide +kernel
theorem dX5_distance_9 : decode cX5_distance 9 = .ok (.iload_n 1, 1) := by decide +kernel
theorem dX5_distance_10 : decode cX5_distance 10 = .ok (.iload_n 2, 1) := by decide +kernel
theorem dX5_distance_11 : decode cX5_distance 11 = .ok (.iload_n 3, 1) := by decide +kernel
theorem dX5_distance_12 : decode cX5_distance 12 = .ok (.iload 4, 2) := by decide +kernel
theorem dX5_distance_14 : decode cX5_distance 14 = .ok (.iload 5, 2) := by decide +kernel
theorem dX5_distance_16 : decode cX5_distance 16 = .ok (.invokevirtual 76, 3) := by decide +kernel
theorem dX5_distance_19 : decode cX5_distance 19 = .ok (.ifCond .eq 7, 3) := by decide +kernel
theorem dX5_distance_22 : decode cX5_distance 22 = .ok (.iconst 0, 1) := by decide +kernel
theorem dX5_distance_23 : decode cX5_distance 23 = .ok (.goto 4, 3) := by decide +kernel
theorem dX5_distance_26 : decode cX5_distance 26 = .ok (.iconst 1, 1) := by decide +kernel
theorem dX5_distance_27 : decode cX5_distance 27 = .ok (.putfield 32, 3) := by decide +kernel
theorem dX5_distance_30 : decode cX5_distance 30 = .ok (.aload_n 0, 1) := by decide +kernel
theorem dX5_distance_31 : decode cX5_distance 31 = .ok (.getfield 32, 3) := by decide +kernel
theorem dX5_distance_34 : decode cX5_distance 34 = .ok (.ifCond .le 7, 3) := by decide +kernel
theorem dX5_distance_37 : decode cX5_distance 37 = .ok (.iconst 0, 1) := by decide +kernel
theorem dX5_distance_38 : decode cX5_distance 38 = .ok (.goto 14, 3) := by decide +kernel
theorem dX5_distance_41 : decode cX5_distance 41 = .ok (.aload_n 0, 1) := by decide +kernel
theorem dX5_distance_42 : decode cX5_distance 42 = .ok (.iload_n 1, 1) := by decide +kernel
theorem dX5_distance_43 : decode cX5_distance 43 = .ok (.iload_n 2, 1) := by decide +kernel
theorem dX5_distance_44 : decode cX5_distance 44 = .ok (.iload_n 3, 1) := by decide +kernel
theorem dX5_distance_45 : decode cX5_distance 45 = .ok (.iload 4, 2) := by decide +kernel
theorem dX5_distance_47 : decode cX5_distance 47 = .ok (.iload 5, 2) := by decide +kernel
theorem dX5_distance_49 : decode cX5_distance 49 = .ok (.invokevirtual 110, 3) := by decide +kernel
theorem dX5_distance_52 : decode cX5_distance 52 = .ok (.ireturn, 1) := by decide +kernel
theorem dX5_count_0 : decode cX5_count 0 = .ok (.aload_n 0, 1) := by decide +kernel
theorem dX5_count_1 : decode cX5_count 1 = .ok (.iload_n 1, 1) := by decide +kernel
theorem dX5_count_2 : decode cX5_count 2 = .ok (.invokestatic 107, 3) := by decide +kernel
theorem dX5_count_5 : decode cX5_count 5 = .ok (.ifCond .eq 16, 3) := by decide +kernel
theorem dX5_count_8 : decode cX5_count 8 = .ok (.iload_n 2, 1) := by decide +kernel
theorem dX5_count_9 : decode cX5_count 9 = .ok (.ifCond .lt 12, 3) := by decide +kernel
theorem dX5_count_12 : decode cX5_count 12 = .ok (.iload_n 2, 1) := by decide +kernel
theorem dX5_count_13 : decode cX5_count 13 = .ok (.iconst 2, 1) := by decide +kernel
theorem dX5_count_14 : decode cX5_count 14 = .ok (.if_icmp .ge 7, 3) := by decide +kernel
theorem dX5_count_17 : decode cX5_count 17 = .ok (.iconst 0, 1) := by decide +kernel
theorem dX5_count_18 : decode cX5_count 18 = .ok (.goto 4, 3) := by decide +kernel
theorem dX5_count_21 : decode cX5_count 21 = .ok (.iconst 1, 1) := by decide +kernel
theorem dX5_count_22 : decode cX5_count 22 = .ok (.putfield 32, 3) := by decide +kernel
theorem dX5_count_25 : decode cX5_count 25 = .ok (.aload_n 0, 1) := by decide +kernel
theorem dX5_count_26 : decode cX5_count 26 = .ok (.getfield 32, 3) := by decide +kernel
theorem dX5_count_29 : decode cX5_count 29 = .ok (.ifCond .le 5, 3) := by decide +kernel
theorem dX5_count_32 : decode cX5_count 32 = .ok (.iconst 0, 1) := by decide +kernel
theorem dX5_count_33 : decode cX5_count 33 = .ok (.ireturn, 1) := by decide +kernel
theorem dX5_count_34 : decode cX5_count 34 = .ok (.aload_n 0, 1) := by decide +kernel
theorem dX5_count_35 : decode cX5_count 35 = .ok (.iload_n 1, 1) := by decide +kernel
theorem dX5_count_36 : decode cX5_count 36 = .ok (.invokevirtual 104, 3) := by decide +kernel
theorem dX5_count_39 : decode cX5_count 39 = .ok (.iconst 0, 1) := by decide +kernel
theorem dX5_count_40 : decode cX5_count 40 = .ok (.istore 4, 2) := by decide +kernel
theorem dX5_count_42 : decode cX5_count 42 = .ok (.iconst 0, 1) := by decide +kernel
theorem dX5_count_43 : decode cX5_count 43 = .ok (.istore 5, 2) := by decide +kernel
theorem dX5_count_45 : decode cX5_count 45 = .ok (.iload 5, 2) := by decide +kernel
theorem dX5_count_47 : decode cX5_count 47 = .ok (.ldc 59, 2) := by decide +kernel
theorem dX5_count_49 : decode cX5_count 49 = .ok (.if_icmp .ge 32, 3) := by decide +kernel
theorem dX5_count_52 : decode cX5_count 52 = .ok (.aload_n 0, 1) := by decide +kernel
theorem dX5_count_53 : decode cX5_count 53 = .ok (.iload_n 1, 1) := by decide +kernel
theorem dX5_count_54 : decode cX5_count 54 = .ok (.iload_n 2, 1) := by decide +kernel
theorem dX5_count_55 : decode cX5_count 55 = .ok (.iload_n 3, 1) := by decide +kernel
theorem dX5_count_56 : decode cX5_count 56 = .ok (.iload 5, 2) := by decide +kernel
theorem dX5_count_58 : decode cX5_count 58 = .ok (.invokevirtual 113, 3) := by decide +kernel
theorem dX5_count_61 : decode cX5_count 61 = .ok (.ifCond .eq 10, 3) := by decide +kernel
theorem dX5_count_64 : decode cX5_count 64 = .ok (.iload 4, 2) := by decide +kernel
theorem dX5_count_66 : decode cX5_count 66 = .ok (.iconst 1, 1) := by decide +kernel
theorem dX5_count_67 : decode cX5_count 67 = .ok (.iadd, 1) := by decide +kernel
theorem dX5_count_68 : decode cX5_count 68 = .ok (.goto 5, 3) := by decide +kernel
theorem dX5_count_71 : decode cX5_count 71 = .ok (.iload 4, 2) := by decide +kernel
theorem dX5_count_73 : decode cX5_count 73 = .ok (.istore 4, 2) := by decide +kernel
theorem dX5_count_75 : decode cX5_count 75 = .ok (.iinc 5 1, 3) := by decide +kernel
theorem dX5_count_78 : decode cX5_count 78 = .ok (.goto (-33), 3) := by decide +kernel
theorem dX5_count_81 : decode cX5_count 81 = .ok (.iload 4, 2) := by decide +kernel
theorem dX5_count_83 : decode cX5_count 83 = .ok (.ireturn, 1) := by decide +kernel
theorem dX5_isOne_0 : decode cX5_isOne 0 = .ok (.iload 4, 2) := by decide +kernel
theorem dX5_isOne_2 : decode cX5_isOne 2 = .ok (.sipush 4096, 3) := by decide +kernel
theorem dX5_isOne_5 : decode cX5_isOne 5 = .ok (.idiv, 1) := by decide +kernel
theorem dX5_isOne_6 : decode cX5_isOne 6 = .ok (.istore 5, 2) := by decide +kernel
theorem dX5_isOne_8 : decode cX5_isOne 8 = .ok (.iload 4, 2) := by decide +kernel
theorem dX5_isOne_10 : decode cX5_isOne 10 = .ok (.bipush 64, 2) := by decide +kernel
theorem dX5_isOne_12 : decode cX5_isOne 12 = .ok (.idiv, 1) := by decide +kernel
theorem dX5_isOne_13 : decode cX5_isOne 13 = .ok (.bipush 64, 2) := by decide +kernel
theorem dX5_isOne_15 : decode cX5_isOne 15 = .ok (.irem, 1) := by decide +kernel
theorem dX5_isOne_16 : decode cX5_isOne 16 = .ok (.istore 6, 2) := by decide +kernel
theorem dX5_isOne_18 : decode cX5_isOne 18 = .ok (.iload 4, 2) := by decide +kernel
theorem dX5_isOne_20 : decode cX5_isOne 20 = .ok (.bipush 64, 2) := by decide +kernel
theorem dX5_isOne_22 : decode cX5_isOne 22 = .ok (.irem, 1) := by decide +kernel
theorem dX5_isOne_23 : decode cX5_isOne 23 = .ok (.istore 7, 2) := by decide +kernel
theorem dX5_isOne_25 : decode cX5_isOne 25 = .ok (.aload_n 0, 1) := by decide +kernel
theorem dX5_isOne_26 : decode cX5_isOne 26 = .ok (.iload 5, 2) := by decide +kernel
theorem dX5_isOne_28 : decode cX5_isOne 28 = .ok (.invokevirtual 47, 3) := by decide +kernel
theorem dX5_isOne_31 : decode cX5_isOne 31 = .ok (.ifCond .eq 56, 3) := by decide +kernel
theorem dX5_isOne_34 : decode cX5_isOne 34 = .ok (.aload_n 0, 1) := by decide +kernel
theorem dX5_isOne_35 : decode cX5_isOne 35 = .ok (.iload 6, 2) := by decide +kernel
theorem dX5_isOne_37 : decode cX5_isOne 37 = .ok (.invokevirtual 47, 3) := by decide +kernel
theorem dX5_isOne_40 : decode cX5_isOne 40 = .ok (.ifCond .eq 47, 3) := by decide +kernel
theorem dX5_isOne_43 : decode cX5_isOne 43 = .ok (.aload_n 0, 1) := by decide +kernel
theorem dX5_isOne_44 : decode cX5_isOne 44 = .ok (.iload 7, 2) := by decide +kernel
theorem dX5_isOne_46 : decode cX5_isOne 46 = .ok (.invokevirtual 47, 3) := by decide +kernel
theorem dX5_isOne_49 : decode cX5_isOne 49 = .ok (.ifCond .eq 38, 3) := by decide +kernel
theorem dX5_isOne_52 : decode cX5_isOne 52 = .ok (.aload_n 0, 1) := by decide +kernel
theorem dX5_isOne_53 : decode cX5_isOne 53 = .ok (.iload_n 1, 1) := by decide +kernel
theorem dX5_isOne_54 : decode cX5_isOne 54 = .ok (.iload_n 2, 1) := by decide +kernel
theorem dX5_isOne_55 : decode cX5_isOne 55 = .ok (.iload 5, 2) := by decide +kernel
theorem dX5_isOne_57 : decode cX5_isOne 57 = .ok (.iload 6, 2) := by decide +kernel
theorem dX5_isOne_59 : decode cX5_isOne 59 = .ok (.iload 7, 2) := by decide +kernel
theorem dX5_isOne_61 : decode cX5_isOne 61 = .ok (.invokevirtual 70, 3) := by decide +kernel
theorem dX5_isOne_64 : decode cX5_isOne 64 = .ok (.iload_n 3, 1) := by decide +kernel
theorem dX5_isOne_65 : decode cX5_isOne 65 = .ok (.if_icmp .ne 22, 3) := by decide +kernel
theorem dX5_isOne_68 : decode cX5_isOne 68 = .ok (.aload_n 0, 1) := by decide +kernel
theorem dX5_isOne_69 : decode cX5_isOne 69 = .ok (.iload_n 1, 1) := by decide +kernel
theorem dX5_isOne_70 : decode cX5_isOne 70 = .ok (.iload 5, 2) := by decide +kernel
theorem dX5_isOne_72 : decode cX5_isOne 72 = .ok (.iload 6, 2) := by decide +kernel
theorem dX5_isOne_74 : decode cX5_isOne 74 = .ok (.iload 7, 2) := by decide +kernel
theorem dX5_isOne_76 : decode cX5_isOne 76 = .ok (.iload_n 2, 1) := by decide +kernel
theorem dX5_isOne_77 : decode cX5_isOne 77 = .ok (.invokevirtual 76, 3) := by decide +kernel
theorem dX5_isOne_80 : decode cX5_isOne 80 = .ok (.ifCond .eq 7, 3) := by decide +kernel
theorem dX5_isOne_83 : decode cX5_isOne 83 = .ok (.iconst 1, 1) := by decide +kernel
theorem dX5_isOne_84 : decode cX5_isOne 84 = .ok (.goto 4, 3) := by decide +kernel
theorem dX5_isOne_87 : decode cX5_isOne 87 = .ok (.iconst 0, 1) := by decide +kernel
theorem dX5_isOne_88 : decode cX5_isOne 88 = .ok (.ireturn, 1) := by decide +kernel
theorem dX5_find_0 : decode cX5_find 0 = .ok (.aload_n 0, 1) := by decide +kernel
theorem dX5_find_1 : decode cX5_find 1 = .ok (.iload_n 1, 1) := by decide +kernel
theorem dX5_find_2 : decode cX5_find 2 = .ok (.invokestatic 107, 3) := by decide +kernel
theorem dX5_find_5 : decode cX5_find 5 = .ok (.ifCond .eq 16, 3) := by decide +kernel
theorem dX5_find_8 : decode cX5_find 8 = .ok (.iload_n 2, 1) := by decide +kernel
theorem dX5_find_9 : decode cX5_find 9 = .ok (.ifCond .lt 12, 3) := by decide +kernel
theorem dX5_find_12 : decode cX5_find 12 = .ok (.iload_n 2, 1) := by decide +kernel
theorem dX5_find_13 : decode cX5_find 13 = .ok (.iconst 2, 1) := by decide +kernel
theorem dX5_find_14 : decode cX5_find 14 = .ok (.if_icmp .ge 7, 3) := by decide +kernel
theorem dX5_find_17 : decode cX5_find 17 = .ok (.iconst 0, 1) := by decide +kernel
theorem dX5_find_18 : decode cX5_find 18 = .ok (.goto 4, 3) := by decide +kernel
theorem dX5_find_21 : decode cX5_find 21 = .ok (.iconst 1, 1) := by decide +kernel
theorem dX5_find_22 : decode cX5_find 22 = .ok (.putfield 32, 3) := by decide +kernel
theorem dX5_find_25 : decode cX5_find 25 = .ok (.aload_n 0, 1) := by decide +kernel
theorem dX5_find_26 : decode cX5_find 26 = .ok (.getfield 32, 3) := by decide +kernel
theorem dX5_find_29 : decode cX5_find 29 = .ok (.ifCond .le 5, 3) := by decide +kernel
theorem dX5_find_32 : decode cX5_find 32 = .ok (.iconst 0, 1) := by decide +kernel
theorem dX5_find_33 : decode cX5_find 33 = .ok (.ireturn, 1) := by decide +kernel
theorem dX5_find_34 : decode cX5_find 34 = .ok (.aload_n 0, 1) := by decide +kernel
theorem dX5_find_35 : decode cX5_find 35 = .ok (.iload_n 1, 1) := by decide +kernel
theorem dX5_find_36 : decode cX5_find 36 = .ok (.invokevirtual 104, 3) := by decide +kernel
theorem dX5_find_39 : decode cX5_find 39 = .ok (.iload 4, 2) := by decide +kernel
theorem dX5_find_41 : decode cX5_find 41 = .ok (.istore 5, 2) := by decide +kernel
theorem dX5_find_43 : decode cX5_find 43 = .ok (.iconst 0, 1) := by decide +kernel
theorem dX5_find_44 : decode cX5_find 44 = .ok (.istore 6, 2) := by decide +kernel
theorem dX5_find_46 : decode cX5_find 46 = .ok (.iload 6, 2) := by decide +kernel
theorem dX5_find_48 : decode cX5_find 48 = .ok (.ldc 59, 2) := by decide +kernel
theorem dX5_find_50 : decode cX5_find 50 = .ok (.if_icmp .ge 63, 3) := by decide +kernel
theorem dX5_find_53 : decode cX5_find 53 = .ok (.iload 4, 2) := by decide +kernel
theorem dX5_find_55 : decode cX5_find 55 = .ok (.ifCond .lt 58, 3) := by decide +kernel
theorem dX5_find_58 : decode cX5_find 58 = .ok (.aload_n 0, 1) := by decide +kernel
theorem dX5_find_59 : decode cX5_find 59 = .ok (.iload_n 1, 1) := by decide +kernel
theorem dX5_find_60 : decode cX5_find 60 = .ok (.iload_n 2, 1) := by decide +kernel
theorem dX5_find_61 : decode cX5_find 61 = .ok (.iload_n 3, 1) := by decide +kernel
theorem dX5_find_62 : decode cX5_find 62 = .ok (.iload 6, 2) := by decide +kernel
theorem dX5_find_64 : decode cX5_find 64 = .ok (.invokevirtual 113, 3) := by decide +kernel
theorem dX5_find_67 : decode cX5_find 67 = .ok (.ifCond .eq 40, 3) := by decide +kernel
theorem dX5_find_70 : decode cX5_find 70 = .ok (.iload 5, 2) := by decide +kernel
theorem dX5_find_72 : decode cX5_find 72 = .ok (.ifCond .ne 32, 3) := by decide +kernel
theorem dX5_find_75 : decode cX5_find 75 = .ok (.iload 6, 2) := by decide +kernel
theorem dX5_find_77 : decode cX5_find 77 = .ok (.sipush 4096, 3) := by decide +kernel
theorem dX5_find_80 : decode cX5_find 80 = .ok (.idiv, 1) := by decide +kernel
theorem dX5_find_81 : decode cX5_find 81 = .ok (.bipush 64, 2) := by decide +kernel
theorem dX5_find_83 : decode cX5_find 83 = .ok (.iload 6, 2) := by decide +kernel
theorem dX5_find_85 : decode cX5_find 85 = .ok (.bipush 64, 2) := by decide +kernel
theorem dX5_find_87 : decode cX5_find 87 = .ok (.idiv, 1) := by decide +kernel
theorem dX5_find_88 : decode cX5_find 88 = .ok (.bipush 64, 2) := by decide +kernel
theorem dX5_find_90 : decode cX5_find 90 = .ok (.irem, 1) := by decide +kernel
theorem dX5_find_91 : decode cX5_find 91 = .ok (.imul, 1) := by decide +kernel
theorem dX5_find_92 : decode cX5_find 92 = .ok (.iadd, 1) := by decide +kernel
theorem dX5_find_93 : decode cX5_find 93 = .ok (.sipush 4096, 3) := by decide +kernel
theorem dX5_find_96 : decode cX5_find 96 = .ok (.iload 6, 2) := by decide +kernel
theorem dX5_find_98 : decode cX5_find 98 = .ok (.bipush 64, 2) := by decide +kernel
theorem dX5_find_100 : decode cX5_find 100 = .ok (.irem, 1) := by decide +kernel
theorem dX5_find_101 : decode cX5_find 101 = .ok (.imul, 1) := by decide +kernel
theorem dX5_find_102 : decode cX5_find 102 = .ok (.iadd, 1) := by decide +kernel
theorem dX5_find_103 : decode cX5_find 103 = .ok (.ireturn, 1) := by decide +kernel
theorem dX5_find_104 : decode cX5_find 104 = .ok (.iinc 5 (-1), 3) := by decide +kernel
theorem dX5_find_107 : decode cX5_find 107 = .ok (.iinc 6 1, 3) := by decide +kernel
theorem dX5_find_110 : decode cX5_find 110 = .ok (.goto (-64), 3) := by decide +kernel
theorem dX5_find_113 : decode cX5_find 113 = .ok (.aload_n 0, 1) := by decide +kernel
theorem dX5_find_114 : decode cX5_find 114 = .ok (.iconst 2, 1) := by decide +kernel
theorem dX5_find_115 : decode cX5_find 115 = .ok (.putfield 32, 3) := by decide +kernel
theorem dX5_find_118 : decode cX5_find 118 = .ok (.iconst 0, 1) := by decide +kernel
theorem dX5_find_119 : decode cX5_find 119 = .ok (.ireturn, 1) := by decide +kernel
theorem dX5_longest_0 : decode cX5_longest 0 = .ok (.aload_n 0, 1) := by decide +kernel
theorem dX5_longest_1 : decode cX5_longest 1 = .ok (.iload_n 1, 1) := by decide +kernel
theorem dX5_longest_2 : decode cX5_longest 2 = .ok (.invokestatic 107, 3) := by decide +kernel
theorem dX5_longest_5 : decode cX5_longest 5 = .ok (.ifCond .eq 7, 3) := by decide +kernel
theorem dX5_longest_8 : decode cX5_longest 8 = .ok (.iconst 0, 1) := by decide +kernel
theorem dX5_longest_9 : decode cX5_longest 9 = .ok (.goto 4, 3) := by decide +kernel
theorem dX5_longest_12 : decode cX5_longest 12 = .ok (.iconst 1, 1) := by decide +kernel
theorem dX5_longest_13 : decode cX5_longest 13 = .ok (.putfield 32, 3) := by decide +kernel
theorem dX5_longest_16 : decode cX5_longest 16 = .ok (.aload_n 0, 1) := by decide +kernel
theorem dX5_longest_17 : decode cX5_longest 17 = .ok (.getfield 32, 3) := by decide +kernel
theorem dX5_longest_20 : decode cX5_longest 20 = .ok (.ifCond .le 5, 3) := by decide +kernel
theorem dX5_longest_23 : decode cX5_longest 23 = .ok (.iconst 0, 1) := by decide +kernel
theorem dX5_longest_24 : decode cX5_longest 24 = .ok (.ireturn, 1) := by decide +kernel
theorem dX5_longest_25 : decode cX5_longest 25 = .ok (.aload_n 0, 1) := by decide +kernel
theorem dX5_longest_26 : decode cX5_longest 26 = .ok (.iload_n 1, 1) := by decide +kernel
theorem dX5_longest_27 : decode cX5_longest 27 = .ok (.invokevirtual 104, 3) := by decide +kernel
theorem dX5_longest_30 : decode cX5_longest 30 = .ok (.aload_n 0, 1) := by decide +kernel
theorem dX5_longest_31 : decode cX5_longest 31 = .ok (.getfield 18, 3) := by decide +kernel
theorem dX5_longest_34 : decode cX5_longest 34 = .ok (.iload_n 1, 1) := by decide +kernel
theorem dX5_longest_35 : decode cX5_longest 35 = .ok (.iaload, 1) := by decide +kernel
theorem dX5_longest_36 : decode cX5_longest 36 = .ok (.ireturn, 1) := by decide +kernel
theorem dX5_set_0 : decode cX5_set 0 = .ok (.aload_n 0, 1) := by decide +kernel
theorem dX5_set_1 : decode cX5_set 1 = .ok (.iconst 0, 1) := by decide +kernel
theorem dX5_set_2 : decode cX5_set 2 = .ok (.putfield 32, 3) := by decide +kernel
theorem dX5_set_5 : decode cX5_set 5 = .ok (.aload_n 0, 1) := by decide +kernel
theorem dX5_set_6 : decode cX5_set 6 = .ok (.iload_n 1, 1) := by decide +kernel
theorem dX5_set_7 : decode cX5_set 7 = .ok (.iload_n 2, 1) := by decide +kernel
theorem dX5_set_8 : decode cX5_set 8 = .ok (.iload_n 3, 1) := by decide +kernel
theorem dX5_set_9 : decode cX5_set 9 = .ok (.iload 4, 2) := by decide +kernel
theorem dX5_set_11 : decode cX5_set 11 = .ok (.iload 5, 2) := by decide +kernel
theorem dX5_set_13 : decode cX5_set 13 = .ok (.invokevirtual 76, 3) := by decide +kernel
theorem dX5_set_16 : decode cX5_set 16 = .ok (.ifCond .ne 5, 3) := by decide +kernel
theorem dX5_set_19 : decode cX5_set 19 = .ok (.iconst 0, 1) := by decide +kernel
theorem dX5_set_20 : decode cX5_set 20 = .ok (.ireturn, 1) := by decide +kernel
theorem dX5_set_21 : decode cX5_set 21 = .ok (.aload_n 0, 1) := by decide +kernel
theorem dX5_set_22 : decode cX5_set 22 = .ok (.iconst 1, 1) := by decide +kernel
theorem dX5_set_23 : decode cX5_set 23 = .ok (.putfield 116, 3) := by decide +kernel
theorem dX5_set_26 : decode cX5_set 26 = .ok (.aload_n 0, 1) := by decide +kernel
theorem dX5_set_27 : decode cX5_set 27 = .ok (.iload_n 1, 1) := by decide +kernel
theorem dX5_set_28 : decode cX5_set 28 = .ok (.putfield 120, 3) := by decide +kernel
theorem dX5_set_31 : decode cX5_set 31 = .ok (.aload_n 0, 1) := by decide +kernel
theorem dX5_set_32 : decode cX5_set 32 = .ok (.iload_n 2, 1) := by decide +kernel
theorem dX5_set_33 : decode cX5_set 33 = .ok (.putfield 123, 3) := by decide +kernel
theorem dX5_set_36 : decode cX5_set 36 = .ok (.aload_n 0, 1) := by decide +kernel
theorem dX5_set_37 : decode cX5_set 37 = .ok (.iload_n 3, 1) := by decide +kernel
theorem dX5_set_38 : decode cX5_set 38 = .ok (.putfield 126, 3) := by decide +kernel
theorem dX5_set_41 : decode cX5_set 41 = .ok (.aload_n 0, 1) := by decide +kernel
theorem dX5_set_42 : decode cX5_set 42 = .ok (.iload 4, 2) := by decide +kernel
theorem dX5_set_44 : decode cX5_set 44 = .ok (.putfield 129, 3) := by decide +kernel
theorem dX5_set_47 : decode cX5_set 47 = .ok (.aload_n 0, 1) := by decide +kernel
theorem dX5_set_48 : decode cX5_set 48 = .ok (.iload 5, 2) := by decide +kernel
theorem dX5_set_50 : decode cX5_set 50 = .ok (.putfield 132, 3) := by decide +kernel
theorem dX5_set_53 : decode cX5_set 53 = .ok (.iconst 1, 1) := by decide +kernel
theorem dX5_set_54 : decode cX5_set 54 = .ok (.ireturn, 1) := by decide +kernel
theorem dX5_about_0 : decode cX5_about 0 = .ok (.aload_n 0, 1) := by decide +kernel
theorem dX5_about_1 : decode cX5_about 1 = .ok (.aload_n 0, 1) := by decide +kernel
theorem dX5_about_2 : decode cX5_about 2 = .ok (.getfield 116, 3) := by decide +kernel
theorem dX5_about_5 : decode cX5_about 5 = .ok (.ifCond .ne 7, 3) := by decide +kernel
theorem dX5_about_8 : decode cX5_about 8 = .ok (.iconst 1, 1) := by decide +kernel
theorem dX5_about_9 : decode cX5_about 9 = .ok (.goto 17, 3) := by decide +kernel
theorem dX5_about_12 : decode cX5_about 12 = .ok (.iload_n 1, 1) := by decide +kernel
theorem dX5_about_13 : decode cX5_about 13 = .ok (.ifCond .lt 8, 3) := by decide +kernel
theorem dX5_about_16 : decode cX5_about 16 = .ok (.iload_n 1, 1) := by decide +kernel
theorem dX5_about_17 : decode cX5_about 17 = .ok (.iconst 5, 1) := by decide +kernel
theorem dX5_about_18 : decode cX5_about 18 = .ok (.if_icmp .le 7, 3) := by decide +kernel
theorem dX5_about_21 : decode cX5_about 21 = .ok (.iconst 2, 1) := by decide +kernel
theorem dX5_about_22 : decode cX5_about 22 = .ok (.goto 4, 3) := by decide +kernel
theorem dX5_about_25 : decode cX5_about 25 = .ok (.iconst 0, 1) := by decide +kernel
theorem dX5_about_26 : decode cX5_about 26 = .ok (.putfield 32, 3) := by decide +kernel
theorem dX5_about_29 : decode cX5_about 29 = .ok (.aload_n 0, 1) := by decide +kernel
theorem dX5_about_30 : decode cX5_about 30 = .ok (.getfield 32, 3) := by decide +kernel
theorem dX5_about_33 : decode cX5_about 33 = .ok (.ifCond .le 5, 3) := by decide +kernel
theorem dX5_about_36 : decode cX5_about 36 = .ok (.iconst 0, 1) := by decide +kernel
theorem dX5_about_37 : decode cX5_about 37 = .ok (.ireturn, 1) := by decide +kernel
theorem dX5_about_38 : decode cX5_about 38 = .ok (.iload_n 1, 1) := by decide +kernel
theorem dX5_about_39 : decode cX5_about 39 = .ok (.tableswitch 58 0 4 #[33, 38, 43, 48, 53], 33) := by decide +kernel
theorem dX5_about_72 : decode cX5_about 72 = .ok (.aload_n 0, 1) := by decide +kernel
theorem dX5_about_73 : decode cX5_about 73 = .ok (.getfield 120, 3) := by decide +kernel
theorem dX5_about_76 : decode cX5_about 76 = .ok (.ireturn, 1) := by decide +kernel
theorem dX5_about_77 : decode cX5_about 77 = .ok (.aload_n 0, 1) := by decide +kernel
theorem dX5_about_78 : decode cX5_about 78 = .ok (.getfield 123, 3) := by decide +kernel
theorem dX5_about_81 : decode cX5_about 81 = .ok (.ireturn, 1) := by decide +kernel
theorem dX5_about_82 : decode cX5_about 82 = .ok (.aload_n 0, 1) := by decide +kernel
theorem dX5_about_83 : decode cX5_about 83 = .ok (.getfield 126, 3) := by decide +kernel
theorem dX5_about_86 : decode cX5_about 86 = .ok (.ireturn, 1) := by decide +kernel
theorem dX5_about_87 : decode cX5_about 87 = .ok (.aload_n 0, 1) := by decide +kernel
theorem dX5_about_88 : decode cX5_about 88 = .ok (.getfield 129, 3) := by decide +kernel
theorem dX5_about_91 : decode cX5_about 91 = .ok (.ireturn, 1) := by decide +kernel
theorem dX5_about_92 : decode cX5_about 92 = .ok (.aload_n 0, 1) := by decide +kernel
theorem dX5_about_93 : decode cX5_about 93 = .ok (.getfield 132, 3) := by decide +kernel
theorem dX5_about_96 : decode cX5_about 96 = .ok (.ireturn, 1) := by decide +kernel
theorem dX5_about_97 : decode cX5_about 97 = .ok (.aload_n 0, 1) := by decide +kernel
theorem dX5_about_98 : decode cX5_about 98 = .ok (.aload_n 0, 1) := by decide +kernel
theorem dX5_about_99 : decode cX5_about 99 = .ok (.getfield 120, 3) := by decide +kernel
theorem dX5_about_102 : decode cX5_about 102 = .ok (.aload_n 0, 1) := by decide +kernel
theorem dX5_about_103 : decode cX5_about 103 = .ok (.getfield 126, 3) := by decide +kernel
theorem dX5_about_106 : decode cX5_about 106 = .ok (.aload_n 0, 1) := by decide +kernel
theorem dX5_about_107 : decode cX5_about 107 = .ok (.getfield 129, 3) := by decide +kernel
theorem dX5_about_110 : decode cX5_about 110 = .ok (.aload_n 0, 1) := by decide +kernel
theorem dX5_about_111 : decode cX5_about 111 = .ok (.getfield 123, 3) := by decide +kernel
theorem dX5_about_114 : decode cX5_about 114 = .ok (.iconst (-1), 1) := by decide +kernel
theorem dX5_about_115 : decode cX5_about 115 = .ok (.invokevirtual 55, 3) := by decide +kernel
theorem dX5_about_118 : decode cX5_about 118 = .ok (.ifCond .eq 7, 3) := by decide +kernel
theorem dX5_about_121 : decode cX5_about 121 = .ok (.iconst 1, 1) := by decide +kernel
theorem dX5_about_122 : decode cX5_about 122 = .ok (.goto 4, 3) := by decide +kernel
theorem dX5_about_125 : decode cX5_about 125 = .ok (.iconst 0, 1) := by decide +kernel
theorem dX5_about_126 : decode cX5_about 126 = .ok (.ireturn, 1) := by decide +kernel
theorem dX5_left_0 : decode cX5_left 0 = .ok (.aload_n 0, 1) := by decide +kernel
theorem dX5_left_1 : decode cX5_left 1 = .ok (.aload_n 0, 1) := by decide +kernel
theorem dX5_left_2 : decode cX5_left 2 = .ok (.getfield 116, 3) := by decide +kernel
theorem dX5_left_5 : decode cX5_left 5 = .ok (.ifCond .eq 7, 3) := by decide +kernel
theorem dX5_left_8 : decode cX5_left 8 = .ok (.iconst 0, 1) := by decide +kernel
theorem dX5_left_9 : decode cX5_left 9 = .ok (.goto 4, 3) := by decide +kernel
theorem dX5_left_12 : decode cX5_left 12 = .ok (.iconst 1, 1) := by decide +kernel
theorem dX5_left_13 : decode cX5_left 13 = .ok (.putfield 32, 3) := by decide +kernel
theorem dX5_left_16 : decode cX5_left 16 = .ok (.aload_n 0, 1) := by decide +kernel
theorem dX5_left_17 : decode cX5_left 17 = .ok (.getfield 32, 3) := by decide +kernel
theorem dX5_left_20 : decode cX5_left 20 = .ok (.ifCond .le 7, 3) := by decide +kernel
theorem dX5_left_23 : decode cX5_left 23 = .ok (.iconst 0, 1) := by decide +kernel
theorem dX5_left_24 : decode cX5_left 24 = .ok (.goto 27, 3) := by decide +kernel
theorem dX5_left_27 : decode cX5_left 27 = .ok (.aload_n 0, 1) := by decide +kernel
theorem dX5_left_28 : decode cX5_left 28 = .ok (.aload_n 0, 1) := by decide +kernel
theorem dX5_left_29 : decode cX5_left 29 = .ok (.getfield 120, 3) := by decide +kernel
theorem dX5_left_32 : decode cX5_left 32 = .ok (.aload_n 0, 1) := by decide +kernel
theorem dX5_left_33 : decode cX5_left 33 = .ok (.getfield 123, 3) := by decide +kernel
theorem dX5_left_36 : decode cX5_left 36 = .ok (.aload_n 0, 1) := by decide +kernel
theorem dX5_left_37 : decode cX5_left 37 = .ok (.getfield 126, 3) := by decide +kernel
theorem dX5_left_40 : decode cX5_left 40 = .ok (.aload_n 0, 1) := by decide +kernel
theorem dX5_left_41 : decode cX5_left 41 = .ok (.getfield 129, 3) := by decide +kernel
theorem dX5_left_44 : decode cX5_left 44 = .ok (.aload_n 0, 1) := by decide +kernel
theorem dX5_left_45 : decode cX5_left 45 = .ok (.getfield 132, 3) := by decide +kernel
theorem dX5_left_48 : decode cX5_left 48 = .ok (.invokevirtual 110, 3) := by decide +kernel
theorem dX5_left_51 : decode cX5_left 51 = .ok (.ireturn, 1) := by decide +kernel
theorem dX5_add_0 : decode cX5_add 0 = .ok (.aload_n 0, 1) := by decide +kernel
theorem dX5_add_1 : decode cX5_add 1 = .ok (.getfield 22, 3) := by decide +kernel
theorem dX5_add_4 : decode cX5_add 4 = .ok (.aload_n 0, 1) := by decide +kernel
theorem dX5_add_5 : decode cX5_add 5 = .ok (.getfield 135, 3) := by decide +kernel
theorem dX5_add_8 : decode cX5_add 8 = .ok (.iload_n 1, 1) := by decide +kernel
theorem dX5_add_9 : decode cX5_add 9 = .ok (.iastore, 1) := by decide +kernel
theorem dX5_add_10 : decode cX5_add 10 = .ok (.aload_n 0, 1) := by decide +kernel
theorem dX5_add_11 : decode cX5_add 11 = .ok (.dup, 1) := by decide +kernel
theorem dX5_add_12 : decode cX5_add 12 = .ok (.getfield 135, 3) := by decide +kernel
theorem dX5_add_15 : decode cX5_add 15 = .ok (.iconst 1, 1) := by decide +kernel
theorem dX5_add_16 : decode cX5_add 16 = .ok (.iadd, 1) := by decide +kernel
theorem dX5_add_17 : decode cX5_add 17 = .ok (.putfield 135, 3) := by decide +kernel
theorem dX5_add_20 : decode cX5_add 20 = .ok (.return_, 1) := by decide +kernel
theorem dX5_manGoes_0 : decode cX5_manGoes 0 = .ok (.iload_n 1, 1) := by decide +kernel
theorem dX5_manGoes_1 : decode cX5_manGoes 1 = .ok (.aload_n 0, 1) := by decide +kernel
theorem dX5_manGoes_2 : decode cX5_manGoes 2 = .ok (.getfield 123, 3) := by decide +kernel
theorem dX5_manGoes_5 : decode cX5_manGoes 5 = .ok (.if_icmp .eq 11, 3) := by decide +kernel
theorem dX5_manGoes_8 : decode cX5_manGoes 8 = .ok (.iload_n 1, 1) := by decide +kernel
theorem dX5_manGoes_9 : decode cX5_manGoes 9 = .ok (.aload_n 0, 1) := by decide +kernel
theorem dX5_manGoes_10 : decode cX5_manGoes 10 = .ok (.getfield 129, 3) := by decide +kernel
theorem dX5_manGoes_13 : decode cX5_manGoes 13 = .ok (.if_icmp .ne 5, 3) := by decide +kernel
theorem dX5_manGoes_16 : decode cX5_manGoes 16 = .ok (.iconst 0, 1) := by decide +kernel
theorem dX5_manGoes_17 : decode cX5_manGoes 17 = .ok (.ireturn, 1) := by decide +kernel
theorem dX5_manGoes_18 : decode cX5_manGoes 18 = .ok (.aload_n 0, 1) := by decide +kernel
theorem dX5_manGoes_19 : decode cX5_manGoes 19 = .ok (.getfield 120, 3) := by decide +kernel
theorem dX5_manGoes_22 : decode cX5_manGoes 22 = .ok (.iconst 1, 1) := by decide +kernel
theorem dX5_manGoes_23 : decode cX5_manGoes 23 = .ok (.if_icmp .eq 40, 3) := by decide +kernel
theorem dX5_manGoes_26 : decode cX5_manGoes 26 = .ok (.aload_n 0, 1) := by decide +kernel
theorem dX5_manGoes_27 : decode cX5_manGoes 27 = .ok (.getfield 120, 3) := by decide +kernel
theorem dX5_manGoes_30 : decode cX5_manGoes 30 = .ok (.ifCond .le 31, 3) := by decide +kernel
theorem dX5_manGoes_33 : decode cX5_manGoes 33 = .ok (.aload_n 0, 1) := by decide +kernel
theorem dX5_manGoes_34 : decode cX5_manGoes 34 = .ok (.aload_n 0, 1) := by decide +kernel
theorem dX5_manGoes_35 : decode cX5_manGoes 35 = .ok (.getfield 120, 3) := by decide +kernel
theorem dX5_manGoes_38 : decode cX5_manGoes 38 = .ok (.aload_n 0, 1) := by decide +kernel
theorem dX5_manGoes_39 : decode cX5_manGoes 39 = .ok (.getfield 126, 3) := by decide +kernel
theorem dX5_manGoes_42 : decode cX5_manGoes 42 = .ok (.iload_n 1, 1) := by decide +kernel
theorem dX5_manGoes_43 : decode cX5_manGoes 43 = .ok (.aload_n 0, 1) := by decide +kernel
theorem dX5_manGoes_44 : decode cX5_manGoes 44 = .ok (.getfield 123, 3) := by decide +kernel
theorem dX5_manGoes_47 : decode cX5_manGoes 47 = .ok (.aload_n 0, 1) := by decide +kernel
theorem dX5_manGoes_48 : decode cX5_manGoes 48 = .ok (.getfield 129, 3) := by decide +kernel
theorem dX5_manGoes_51 : decode cX5_manGoes 51 = .ok (.invokevirtual 55, 3) := by decide +kernel
theorem dX5_manGoes_54 : decode cX5_manGoes 54 = .ok (.ifCond .eq 7, 3) := by decide +kernel
theorem dX5_manGoes_57 : decode cX5_manGoes 57 = .ok (.iconst 1, 1) := by decide +kernel
theorem dX5_manGoes_58 : decode cX5_manGoes 58 = .ok (.goto 4, 3) := by decide +kernel
theorem dX5_manGoes_61 : decode cX5_manGoes 61 = .ok (.iconst 0, 1) := by decide +kernel
theorem dX5_manGoes_62 : decode cX5_manGoes 62 = .ok (.ireturn, 1) := by decide +kernel
theorem dX5_manGoes_63 : decode cX5_manGoes 63 = .ok (.aload_n 0, 1) := by decide +kernel
theorem dX5_manGoes_64 : decode cX5_manGoes 64 = .ok (.getfield 126, 3) := by decide +kernel
theorem dX5_manGoes_67 : decode cX5_manGoes 67 = .ok (.bipush 8, 2) := by decide +kernel
theorem dX5_manGoes_69 : decode cX5_manGoes 69 = .ok (.iadd, 1) := by decide +kernel
theorem dX5_manGoes_70 : decode cX5_manGoes 70 = .ok (.aload_n 0, 1) := by decide +kernel
theorem dX5_manGoes_71 : decode cX5_manGoes 71 = .ok (.getfield 123, 3) := by decide +kernel
theorem dX5_manGoes_74 : decode cX5_manGoes 74 = .ok (.if_icmp .eq 21, 3) := by decide +kernel
theorem dX5_manGoes_77 : decode cX5_manGoes 77 = .ok (.aload_n 0, 1) := by decide +kernel
theorem dX5_manGoes_78 : decode cX5_manGoes 78 = .ok (.getfield 126, 3) := by decide +kernel
theorem dX5_manGoes_81 : decode cX5_manGoes 81 = .ok (.bipush 8, 2) := by decide +kernel
theorem dX5_manGoes_83 : decode cX5_manGoes 83 = .ok (.iadd, 1) := by decide +kernel
theorem dX5_manGoes_84 : decode cX5_manGoes 84 = .ok (.aload_n 0, 1) := by decide +kernel
theorem dX5_manGoes_85 : decode cX5_manGoes 85 = .ok (.getfield 129, 3) := by decide +kernel
theorem dX5_manGoes_88 : decode cX5_manGoes 88 = .ok (.if_icmp .eq 7, 3) := by decide +kernel
theorem dX5_manGoes_91 : decode cX5_manGoes 91 = .ok (.iconst 1, 1) := by decide +kernel
theorem dX5_manGoes_92 : decode cX5_manGoes 92 = .ok (.goto 4, 3) := by decide +kernel
theorem dX5_manGoes_95 : decode cX5_manGoes 95 = .ok (.iconst 0, 1) := by decide +kernel
theorem dX5_manGoes_96 : decode cX5_manGoes 96 = .ok (.istore_n 2, 1) := by decide +kernel
theorem dX5_manGoes_97 : decode cX5_manGoes 97 = .ok (.iload_n 2, 1) := by decide +kernel
theorem dX5_manGoes_98 : decode cX5_manGoes 98 = .ok (.ifCond .eq 53, 3) := by decide +kernel
theorem dX5_manGoes_101 : decode cX5_manGoes 101 = .ok (.iload_n 1, 1) := by decide +kernel
theorem dX5_manGoes_102 : decode cX5_manGoes 102 = .ok (.aload_n 0, 1) := by decide +kernel
theorem dX5_manGoes_103 : decode cX5_manGoes 103 = .ok (.getfield 126, 3) := by decide +kernel
theorem dX5_manGoes_106 : decode cX5_manGoes 106 = .ok (.bipush 8, 2) := by decide +kernel
theorem dX5_manGoes_108 : decode cX5_manGoes 108 = .ok (.iadd, 1) := by decide +kernel
theorem dX5_manGoes_109 : decode cX5_manGoes 109 = .ok (.if_icmp .eq 38, 3) := by decide +kernel
theorem dX5_manGoes_112 : decode cX5_manGoes 112 = .ok (.iload_n 1, 1) := by decide +kernel
theorem dX5_manGoes_113 : decode cX5_manGoes 113 = .ok (.aload_n 0, 1) := by decide +kernel
theorem dX5_manGoes_114 : decode cX5_manGoes 114 = .ok (.getfield 126, 3) := by decide +kernel
theorem dX5_manGoes_117 : decode cX5_manGoes 117 = .ok (.bipush 16, 2) := by decide +kernel
theorem dX5_manGoes_119 : decode cX5_manGoes 119 = .ok (.iadd, 1) := by decide +kernel
theorem dX5_manGoes_120 : decode cX5_manGoes 120 = .ok (.if_icmp .ne 31, 3) := by decide +kernel
theorem dX5_manGoes_123 : decode cX5_manGoes 123 = .ok (.aload_n 0, 1) := by decide +kernel
theorem dX5_manGoes_124 : decode cX5_manGoes 124 = .ok (.getfield 126, 3) := by decide +kernel
theorem dX5_manGoes_127 : decode cX5_manGoes 127 = .ok (.bipush 8, 2) := by decide +kernel
theorem dX5_manGoes_129 : decode cX5_manGoes 129 = .ok (.idiv, 1) := by decide +kernel
theorem dX5_manGoes_130 : decode cX5_manGoes 130 = .ok (.iconst 1, 1) := by decide +kernel
theorem dX5_manGoes_131 : decode cX5_manGoes 131 = .ok (.if_icmp .ne 20, 3) := by decide +kernel
theorem dX5_manGoes_134 : decode cX5_manGoes 134 = .ok (.iload_n 1, 1) := by decide +kernel
theorem dX5_manGoes_135 : decode cX5_manGoes 135 = .ok (.bipush 8, 2) := by decide +kernel
theorem dX5_manGoes_137 : decode cX5_manGoes 137 = .ok (.idiv, 1) := by decide +kernel
theorem dX5_manGoes_138 : decode cX5_manGoes 138 = .ok (.aload_n 0, 1) := by decide +kernel
theorem dX5_manGoes_139 : decode cX5_manGoes 139 = .ok (.getfield 29, 3) := by decide +kernel
theorem dX5_manGoes_142 : decode cX5_manGoes 142 = .ok (.iconst 1, 1) := by decide +kernel
theorem dX5_manGoes_143 : decode cX5_manGoes 143 = .ok (.isub, 1) := by decide +kernel
theorem dX5_manGoes_144 : decode cX5_manGoes 144 = .ok (.if_icmp .ge 7, 3) := by decide +kernel
theorem dX5_manGoes_147 : decode cX5_manGoes 147 = .ok (.iconst 1, 1) := by decide +kernel
theorem dX5_manGoes_148 : decode cX5_manGoes 148 = .ok (.goto 4, 3) := by decide +kernel
theorem dX5_manGoes_151 : decode cX5_manGoes 151 = .ok (.iconst 0, 1) := by decide +kernel
theorem dX5_manGoes_152 : decode cX5_manGoes 152 = .ok (.ireturn, 1) := by decide +kernel
theorem dX5_kingGoes_0 : decode cX5_kingGoes 0 = .ok (.aload_n 0, 1) := by decide +kernel
theorem dX5_kingGoes_1 : decode cX5_kingGoes 1 = .ok (.getfield 123, 3) := by decide +kernel
theorem dX5_kingGoes_4 : decode cX5_kingGoes 4 = .ok (.iload_n 1, 1) := by decide +kernel
theorem dX5_kingGoes_5 : decode cX5_kingGoes 5 = .ok (.invokestatic 51, 3) := by decide +kernel
theorem dX5_kingGoes_8 : decode cX5_kingGoes 8 = .ok (.ifCond .eq 41, 3) := by decide +kernel
theorem dX5_kingGoes_11 : decode cX5_kingGoes 11 = .ok (.iload_n 1, 1) := by decide +kernel
theorem dX5_kingGoes_12 : decode cX5_kingGoes 12 = .ok (.aload_n 0, 1) := by decide +kernel
theorem dX5_kingGoes_13 : decode cX5_kingGoes 13 = .ok (.getfield 129, 3) := by decide +kernel
theorem dX5_kingGoes_16 : decode cX5_kingGoes 16 = .ok (.if_icmp .eq 33, 3) := by decide +kernel
theorem dX5_kingGoes_19 : decode cX5_kingGoes 19 = .ok (.iload_n 1, 1) := by decide +kernel
theorem dX5_kingGoes_20 : decode cX5_kingGoes 20 = .ok (.aload_n 0, 1) := by decide +kernel
theorem dX5_kingGoes_21 : decode cX5_kingGoes 21 = .ok (.getfield 129, 3) := by decide +kernel
theorem dX5_kingGoes_24 : decode cX5_kingGoes 24 = .ok (.invokestatic 51, 3) := by decide +kernel
theorem dX5_kingGoes_27 : decode cX5_kingGoes 27 = .ok (.ifCond .ne 22, 3) := by decide +kernel
theorem dX5_kingGoes_30 : decode cX5_kingGoes 30 = .ok (.aload_n 0, 1) := by decide +kernel
theorem dX5_kingGoes_31 : decode cX5_kingGoes 31 = .ok (.getfield 120, 3) := by decide +kernel
theorem dX5_kingGoes_34 : decode cX5_kingGoes 34 = .ok (.ifCond .eq 11, 3) := by decide +kernel
theorem dX5_kingGoes_37 : decode cX5_kingGoes 37 = .ok (.iload_n 1, 1) := by decide +kernel
theorem dX5_kingGoes_38 : decode cX5_kingGoes 38 = .ok (.aload_n 0, 1) := by decide +kernel
theorem dX5_kingGoes_39 : decode cX5_kingGoes 39 = .ok (.getfield 126, 3) := by decide +kernel
theorem dX5_kingGoes_42 : decode cX5_kingGoes 42 = .ok (.if_icmp .eq 7, 3) := by decide +kernel
theorem dX5_kingGoes_45 : decode cX5_kingGoes 45 = .ok (.iconst 1, 1) := by decide +kernel
theorem dX5_kingGoes_46 : decode cX5_kingGoes 46 = .ok (.goto 4, 3) := by decide +kernel
theorem dX5_kingGoes_49 : decode cX5_kingGoes 49 = .ok (.iconst 0, 1) := by decide +kernel
theorem dX5_kingGoes_50 : decode cX5_kingGoes 50 = .ok (.ireturn, 1) := by decide +kernel
theorem dX5_findMoves_0 : decode cX5_findMoves 0 = .ok (.aload_n 0, 1) := by decide +kernel
theorem dX5_findMoves_1 : decode cX5_findMoves 1 = .ok (.iconst 0, 1) := by decide +kernel
theorem dX5_findMoves_2 : decode cX5_findMoves 2 = .ok (.putfield 135, 3) := by decide +kernel
theorem dX5_findMoves_5 : decode cX5_findMoves 5 = .ok (.iconst 0, 1) := by decide +kernel
theorem dX5_findMoves_6 : decode cX5_findMoves 6 = .ok (.istore_n 1, 1) := by decide +kernel
theorem dX5_findMoves_7 : decode cX5_findMoves 7 = .ok (.iload_n 1, 1) := by decide +kernel
theorem dX5_findMoves_8 : decode cX5_findMoves 8 = .ok (.bipush 64, 2) := by decide +kernel
theorem dX5_findMoves_10 : decode cX5_findMoves 10 = .ok (.if_icmp .ge 268, 3) := by decide +kernel
theorem dX5_findMoves_13 : decode cX5_findMoves 13 = .ok (.aload_n 0, 1) := by decide +kernel
theorem dX5_findMoves_14 : decode cX5_findMoves 14 = .ok (.getfield 116, 3) := by decide +kernel
theorem dX5_findMoves_17 : decode cX5_findMoves 17 = .ok (.ifCond .eq 261, 3) := by decide +kernel
theorem dX5_findMoves_20 : decode cX5_findMoves 20 = .ok (.iload_n 1, 1) := by decide +kernel
theorem dX5_findMoves_21 : decode cX5_findMoves 21 = .ok (.aload_n 0, 1) := by decide +kernel
theorem dX5_findMoves_22 : decode cX5_findMoves 22 = .ok (.getfield 132, 3) := by decide +kernel
theorem dX5_findMoves_25 : decode cX5_findMoves 25 = .ok (.ifCond .ne 10, 3) := by decide +kernel
theorem dX5_findMoves_28 : decode cX5_findMoves 28 = .ok (.aload_n 0, 1) := by decide +kernel
theorem dX5_findMoves_29 : decode cX5_findMoves 29 = .ok (.getfield 123, 3) := by decide +kernel
theorem dX5_findMoves_32 : decode cX5_findMoves 32 = .ok (.goto 7, 3) := by decide +kernel
theorem dX5_findMoves_35 : decode cX5_findMoves 35 = .ok (.aload_n 0, 1) := by decide +kernel
theorem dX5_findMoves_36 : decode cX5_findMoves 36 = .ok (.getfield 129, 3) := by decide +kernel
theorem dX5_findMoves_39 : decode cX5_findMoves 39 = .ok (.if_icmp .ne 7, 3) := by decide +kernel
theorem dX5_findMoves_42 : decode cX5_findMoves 42 = .ok (.iconst 1, 1) := by decide +kernel
theorem dX5_findMoves_43 : decode cX5_findMoves 43 = .ok (.goto 4, 3) := by decide +kernel
theorem dX5_findMoves_46 : decode cX5_findMoves 46 = .ok (.iconst 0, 1) := by decide +kernel
theorem dX5_findMoves_47 : decode cX5_findMoves 47 = .ok (.istore_n 2, 1) := by decide +kernel
theorem dX5_findMoves_48 : decode cX5_findMoves 48 = .ok (.aload_n 0, 1) := by decide +kernel
theorem dX5_findMoves_49 : decode cX5_findMoves 49 = .ok (.getfield 132, 3) := by decide +kernel
theorem dX5_findMoves_52 : decode cX5_findMoves 52 = .ok (.ifCond .ne 22, 3) := by decide +kernel
theorem dX5_findMoves_55 : decode cX5_findMoves 55 = .ok (.aload_n 0, 1) := by decide +kernel
theorem dX5_findMoves_56 : decode cX5_findMoves 56 = .ok (.getfield 120, 3) := by decide +kernel
theorem dX5_findMoves_59 : decode cX5_findMoves 59 = .ok (.ifCond .le 15, 3) := by decide +kernel
theorem dX5_findMoves_62 : decode cX5_findMoves 62 = .ok (.iload_n 1, 1) := by decide +kernel
theorem dX5_findMoves_63 : decode cX5_findMoves 63 = .ok (.aload_n 0, 1) := by decide +kernel
theorem dX5_findMoves_64 : decode cX5_findMoves 64 = .ok (.getfield 126, 3) := by decide +kernel
theorem dX5_findMoves_67 : decode cX5_findMoves 67 = .ok (.if_icmp .ne 7, 3) := by decide +kernel
theorem dX5_findMoves_70 : decode cX5_findMoves 70 = .ok (.iconst 1, 1) := by decide +kernel
theorem dX5_findMoves_71 : decode cX5_findMoves 71 = .ok (.goto 4, 3) := by decide +kernel
theorem dX5_findMoves_74 : decode cX5_findMoves 74 = .ok (.iconst 0, 1) := by decide +kernel
theorem dX5_findMoves_75 : decode cX5_findMoves 75 = .ok (.istore_n 3, 1) := by decide +kernel
theorem dX5_findMoves_76 : decode cX5_findMoves 76 = .ok (.iconst 0, 1) := by decide +kernel
theorem dX5_findMoves_77 : decode cX5_findMoves 77 = .ok (.istore 4, 2) := by decide +kernel
theorem dX5_findMoves_79 : decode cX5_findMoves 79 = .ok (.iload 4, 2) := by decide +kernel
theorem dX5_findMoves_81 : decode cX5_findMoves 81 = .ok (.bipush 64, 2) := by decide +kernel
theorem dX5_findMoves_83 : decode cX5_findMoves 83 = .ok (.if_icmp .ge 189, 3) := by decide +kernel
theorem dX5_findMoves_86 : decode cX5_findMoves 86 = .ok (.iload_n 2, 1) := by decide +kernel
theorem dX5_findMoves_87 : decode cX5_findMoves 87 = .ok (.ifCond .ne 7, 3) := by decide +kernel
theorem dX5_findMoves_90 : decode cX5_findMoves 90 = .ok (.iload_n 3, 1) := by decide +kernel
theorem dX5_findMoves_91 : decode cX5_findMoves 91 = .ok (.ifCond .eq 181, 3) := by decide +kernel
theorem dX5_findMoves_94 : decode cX5_findMoves 94 = .ok (.aload_n 0, 1) := by decide +kernel
theorem dX5_findMoves_95 : decode cX5_findMoves 95 = .ok (.iload 4, 2) := by decide +kernel
theorem dX5_findMoves_97 : decode cX5_findMoves 97 = .ok (.invokevirtual 47, 3) := by decide +kernel
theorem dX5_findMoves_100 : decode cX5_findMoves 100 = .ok (.ifCond .eq 166, 3) := by decide +kernel
theorem dX5_findMoves_103 : decode cX5_findMoves 103 = .ok (.iload_n 2, 1) := by decide +kernel
theorem dX5_findMoves_104 : decode cX5_findMoves 104 = .ok (.ifCond .eq 69, 3) := by decide +kernel
theorem dX5_findMoves_107 : decode cX5_findMoves 107 = .ok (.aload_n 0, 1) := by decide +kernel
theorem dX5_findMoves_108 : decode cX5_findMoves 108 = .ok (.getfield 132, 3) := by decide +kernel
theorem dX5_findMoves_111 : decode cX5_findMoves 111 = .ok (.ifCond .ne 15, 3) := by decide +kernel
theorem dX5_findMoves_114 : decode cX5_findMoves 114 = .ok (.aload_n 0, 1) := by decide +kernel
theorem dX5_findMoves_115 : decode cX5_findMoves 115 = .ok (.iload 4, 2) := by decide +kernel
theorem dX5_findMoves_117 : decode cX5_findMoves 117 = .ok (.invokevirtual 138, 3) := by decide +kernel
theorem dX5_findMoves_120 : decode cX5_findMoves 120 = .ok (.ifCond .eq 53, 3) := by decide +kernel
theorem dX5_findMoves_123 : decode cX5_findMoves 123 = .ok (.goto 36, 3) := by decide +kernel
theorem dX5_findMoves_126 : decode cX5_findMoves 126 = .ok (.aload_n 0, 1) := by decide +kernel
theorem dX5_findMoves_127 : decode cX5_findMoves 127 = .ok (.getfield 129, 3) := by decide +kernel
theorem dX5_findMoves_130 : decode cX5_findMoves 130 = .ok (.iload 4, 2) := by decide +kernel
theorem dX5_findMoves_132 : decode cX5_findMoves 132 = .ok (.invokestatic 51, 3) := by decide +kernel
theorem dX5_findMoves_135 : decode cX5_findMoves 135 = .ok (.ifCond .eq 38, 3) := by decide +kernel
theorem dX5_findMoves_138 : decode cX5_findMoves 138 = .ok (.aload_n 0, 1) := by decide +kernel
theorem dX5_findMoves_139 : decode cX5_findMoves 139 = .ok (.aload_n 0, 1) := by decide +kernel
theorem dX5_findMoves_140 : decode cX5_findMoves 140 = .ok (.getfield 120, 3) := by decide +kernel
theorem dX5_findMoves_143 : decode cX5_findMoves 143 = .ok (.aload_n 0, 1) := by decide +kernel
theorem dX5_findMoves_144 : decode cX5_findMoves 144 = .ok (.getfield 123, 3) := by decide +kernel
theorem dX5_findMoves_147 : decode cX5_findMoves 147 = .ok (.aload_n 0, 1) := by decide +kernel
theorem dX5_findMoves_148 : decode cX5_findMoves 148 = .ok (.getfield 126, 3) := by decide +kernel
theorem dX5_findMoves_151 : decode cX5_findMoves 151 = .ok (.iload 4, 2) := by decide +kernel
theorem dX5_findMoves_153 : decode cX5_findMoves 153 = .ok (.invokevirtual 66, 3) := by decide +kernel
theorem dX5_findMoves_156 : decode cX5_findMoves 156 = .ok (.ifCond .eq 17, 3) := by decide +kernel
theorem dX5_findMoves_159 : decode cX5_findMoves 159 = .ok (.aload_n 0, 1) := by decide +kernel
theorem dX5_findMoves_160 : decode cX5_findMoves 160 = .ok (.iload_n 1, 1) := by decide +kernel
theorem dX5_findMoves_161 : decode cX5_findMoves 161 = .ok (.bipush 64, 2) := by decide +kernel
theorem dX5_findMoves_163 : decode cX5_findMoves 163 = .ok (.iload 4, 2) := by decide +kernel
theorem dX5_findMoves_165 : decode cX5_findMoves 165 = .ok (.imul, 1) := by decide +kernel
theorem dX5_findMoves_166 : decode cX5_findMoves 166 = .ok (.iadd, 1) := by decide +kernel
theorem dX5_findMoves_167 : decode cX5_findMoves 167 = .ok (.invokevirtual 141, 3) := by decide +kernel
theorem dX5_findMoves_170 : decode cX5_findMoves 170 = .ok (.goto 96, 3) := by decide +kernel
theorem dX5_findMoves_173 : decode cX5_findMoves 173 = .ok (.iload_n 3, 1) := by decide +kernel
theorem dX5_findMoves_174 : decode cX5_findMoves 174 = .ok (.ifCond .eq 92, 3) := by decide +kernel
theorem dX5_findMoves_177 : decode cX5_findMoves 177 = .ok (.aload_n 0, 1) := by decide +kernel
theorem dX5_findMoves_178 : decode cX5_findMoves 178 = .ok (.iload 4, 2) := by decide +kernel
theorem dX5_findMoves_180 : decode cX5_findMoves 180 = .ok (.invokevirtual 144, 3) := by decide +kernel
theorem dX5_findMoves_183 : decode cX5_findMoves 183 = .ok (.ifCond .eq 83, 3) := by decide +kernel
theorem dX5_findMoves_186 : decode cX5_findMoves 186 = .ok (.aload_n 0, 1) := by decide +kernel
theorem dX5_findMoves_187 : decode cX5_findMoves 187 = .ok (.getfield 120, 3) := by decide +kernel
theorem dX5_findMoves_190 : decode cX5_findMoves 190 = .ok (.iconst 1, 1) := by decide +kernel
theorem dX5_findMoves_191 : decode cX5_findMoves 191 = .ok (.if_icmp .ne 21, 3) := by decide +kernel
theorem dX5_findMoves_194 : decode cX5_findMoves 194 = .ok (.iload 4, 2) := by decide +kernel
theorem dX5_findMoves_196 : decode cX5_findMoves 196 = .ok (.bipush 8, 2) := by decide +kernel
theorem dX5_findMoves_198 : decode cX5_findMoves 198 = .ok (.idiv, 1) := by decide +kernel
theorem dX5_findMoves_199 : decode cX5_findMoves 199 = .ok (.aload_n 0, 1) := by decide +kernel
theorem dX5_findMoves_200 : decode cX5_findMoves 200 = .ok (.getfield 29, 3) := by decide +kernel
theorem dX5_findMoves_203 : decode cX5_findMoves 203 = .ok (.iconst 1, 1) := by decide +kernel
theorem dX5_findMoves_204 : decode cX5_findMoves 204 = .ok (.isub, 1) := by decide +kernel
theorem dX5_findMoves_205 : decode cX5_findMoves 205 = .ok (.if_icmp .ne 7, 3) := by decide +kernel
theorem dX5_findMoves_208 : decode cX5_findMoves 208 = .ok (.iconst 1, 1) := by decide +kernel
theorem dX5_findMoves_209 : decode cX5_findMoves 209 = .ok (.goto 4, 3) := by decide +kernel
theorem dX5_findMoves_212 : decode cX5_findMoves 212 = .ok (.iconst 0, 1) := by decide +kernel
theorem dX5_findMoves_213 : decode cX5_findMoves 213 = .ok (.istore 5, 2) := by decide +kernel
theorem dX5_findMoves_215 : decode cX5_findMoves 215 = .ok (.iload 5, 2) := by decide +kernel
theorem dX5_findMoves_217 : decode cX5_findMoves 217 = .ok (.ifCond .eq 7, 3) := by decide +kernel
theorem dX5_findMoves_220 : decode cX5_findMoves 220 = .ok (.iconst 2, 1) := by decide +kernel
theorem dX5_findMoves_221 : decode cX5_findMoves 221 = .ok (.goto 4, 3) := by decide +kernel
theorem dX5_findMoves_224 : decode cX5_findMoves 224 = .ok (.iconst 0, 1) := by decide +kernel
theorem dX5_findMoves_225 : decode cX5_findMoves 225 = .ok (.istore 6, 2) := by decide +kernel
theorem dX5_findMoves_227 : decode cX5_findMoves 227 = .ok (.iload 6, 2) := by decide +kernel
theorem dX5_findMoves_229 : decode cX5_findMoves 229 = .ok (.iload 5, 2) := by decide +kernel
theorem dX5_findMoves_231 : decode cX5_findMoves 231 = .ok (.ifCond .eq 7, 3) := by decide +kernel
theorem dX5_findMoves_234 : decode cX5_findMoves 234 = .ok (.iconst 5, 1) := by decide +kernel
theorem dX5_findMoves_235 : decode cX5_findMoves 235 = .ok (.goto 4, 3) := by decide +kernel
theorem dX5_findMoves_238 : decode cX5_findMoves 238 = .ok (.iconst 0, 1) := by decide +kernel
theorem dX5_findMoves_239 : decode cX5_findMoves 239 = .ok (.if_icmp .gt 27, 3) := by decide +kernel
theorem dX5_findMoves_242 : decode cX5_findMoves 242 = .ok (.aload_n 0, 1) := by decide +kernel
theorem dX5_findMoves_243 : decode cX5_findMoves 243 = .ok (.iload_n 1, 1) := by decide +kernel
theorem dX5_findMoves_244 : decode cX5_findMoves 244 = .ok (.bipush 64, 2) := by decide +kernel
theorem dX5_findMoves_246 : decode cX5_findMoves 246 = .ok (.iload 4, 2) := by decide +kernel
theorem dX5_findMoves_248 : decode cX5_findMoves 248 = .ok (.imul, 1) := by decide +kernel
theorem dX5_findMoves_249 : decode cX5_findMoves 249 = .ok (.iadd, 1) := by decide +kernel
theorem dX5_findMoves_250 : decode cX5_findMoves 250 = .ok (.sipush 4096, 3) := by decide +kernel
theorem dX5_findMoves_253 : decode cX5_findMoves 253 = .ok (.iload 6, 2) := by decide +kernel
theorem dX5_findMoves_255 : decode cX5_findMoves 255 = .ok (.imul, 1) := by decide +kernel
theorem dX5_findMoves_256 : decode cX5_findMoves 256 = .ok (.iadd, 1) := by decide +kernel
theorem dX5_findMoves_257 : decode cX5_findMoves 257 = .ok (.invokevirtual 141, 3) := by decide +kernel
theorem dX5_findMoves_260 : decode cX5_findMoves 260 = .ok (.iinc 6 1, 3) := by decide +kernel
theorem dX5_findMoves_263 : decode cX5_findMoves 263 = .ok (.goto (-36), 3) := by decide +kernel
theorem dX5_findMoves_266 : decode cX5_findMoves 266 = .ok (.iinc 4 1, 3) := by decide +kernel
theorem dX5_findMoves_269 : decode cX5_findMoves 269 = .ok (.goto (-190), 3) := by decide +kernel
theorem dX5_findMoves_272 : decode cX5_findMoves 272 = .ok (.iinc 1 1, 3) := by decide +kernel
theorem dX5_findMoves_275 : decode cX5_findMoves 275 = .ok (.goto (-268), 3) := by decide +kernel
theorem dX5_findMoves_278 : decode cX5_findMoves 278 = .ok (.return_, 1) := by decide +kernel
theorem dX5_behind_0 : decode cX5_behind 0 = .ok (.iload_n 1, 1) := by decide +kernel
theorem dX5_behind_1 : decode cX5_behind 1 = .ok (.bipush 64, 2) := by decide +kernel
theorem dX5_behind_3 : decode cX5_behind 3 = .ok (.idiv, 1) := by decide +kernel
theorem dX5_behind_4 : decode cX5_behind 4 = .ok (.bipush 64, 2) := by decide +kernel
theorem dX5_behind_6 : decode cX5_behind 6 = .ok (.irem, 1) := by decide +kernel
theorem dX5_behind_7 : decode cX5_behind 7 = .ok (.istore_n 2, 1) := by decide +kernel
theorem dX5_behind_8 : decode cX5_behind 8 = .ok (.iload_n 1, 1) := by decide +kernel
theorem dX5_behind_9 : decode cX5_behind 9 = .ok (.sipush 4096, 3) := by decide +kernel
theorem dX5_behind_12 : decode cX5_behind 12 = .ok (.idiv, 1) := by decide +kernel
theorem dX5_behind_13 : decode cX5_behind 13 = .ok (.istore_n 3, 1) := by decide +kernel
theorem dX5_behind_14 : decode cX5_behind 14 = .ok (.aload_n 0, 1) := by decide +kernel
theorem dX5_behind_15 : decode cX5_behind 15 = .ok (.getfield 132, 3) := by decide +kernel
theorem dX5_behind_18 : decode cX5_behind 18 = .ok (.iconst 1, 1) := by decide +kernel
theorem dX5_behind_19 : decode cX5_behind 19 = .ok (.if_icmp .ne 41, 3) := by decide +kernel
theorem dX5_behind_22 : decode cX5_behind 22 = .ok (.aload_n 0, 1) := by decide +kernel
theorem dX5_behind_23 : decode cX5_behind 23 = .ok (.getfield 120, 3) := by decide +kernel
theorem dX5_behind_26 : decode cX5_behind 26 = .ok (.ifCond .eq 11, 3) := by decide +kernel
theorem dX5_behind_29 : decode cX5_behind 29 = .ok (.iload_n 2, 1) := by decide +kernel
theorem dX5_behind_30 : decode cX5_behind 30 = .ok (.aload_n 0, 1) := by decide +kernel
theorem dX5_behind_31 : decode cX5_behind 31 = .ok (.getfield 126, 3) := by decide +kernel
theorem dX5_behind_34 : decode cX5_behind 34 = .ok (.if_icmp .ne 7, 3) := by decide +kernel
theorem dX5_behind_37 : decode cX5_behind 37 = .ok (.iconst (-1), 1) := by decide +kernel
theorem dX5_behind_38 : decode cX5_behind 38 = .ok (.goto 21, 3) := by decide +kernel
theorem dX5_behind_41 : decode cX5_behind 41 = .ok (.aload_n 0, 1) := by decide +kernel
theorem dX5_behind_42 : decode cX5_behind 42 = .ok (.aload_n 0, 1) := by decide +kernel
theorem dX5_behind_43 : decode cX5_behind 43 = .ok (.getfield 120, 3) := by decide +kernel
theorem dX5_behind_46 : decode cX5_behind 46 = .ok (.aload_n 0, 1) := by decide +kernel
theorem dX5_behind_47 : decode cX5_behind 47 = .ok (.getfield 123, 3) := by decide +kernel
theorem dX5_behind_50 : decode cX5_behind 50 = .ok (.aload_n 0, 1) := by decide +kernel
theorem dX5_behind_51 : decode cX5_behind 51 = .ok (.getfield 126, 3) := by decide +kernel
theorem dX5_behind_54 : decode cX5_behind 54 = .ok (.iload_n 2, 1) := by decide +kernel
theorem dX5_behind_55 : decode cX5_behind 55 = .ok (.iconst 0, 1) := by decide +kernel
theorem dX5_behind_56 : decode cX5_behind 56 = .ok (.invokevirtual 110, 3) := by decide +kernel
theorem dX5_behind_59 : decode cX5_behind 59 = .ok (.ireturn, 1) := by decide +kernel
theorem dX5_behind_60 : decode cX5_behind 60 = .ok (.iload_n 1, 1) := by decide +kernel
theorem dX5_behind_61 : decode cX5_behind 61 = .ok (.bipush 64, 2) := by decide +kernel
theorem dX5_behind_63 : decode cX5_behind 63 = .ok (.irem, 1) := by decide +kernel
theorem dX5_behind_64 : decode cX5_behind 64 = .ok (.aload_n 0, 1) := by decide +kernel
theorem dX5_behind_65 : decode cX5_behind 65 = .ok (.getfield 123, 3) := by decide +kernel
theorem dX5_behind_68 : decode cX5_behind 68 = .ok (.if_icmp .ne 33, 3) := by decide +kernel
theorem dX5_behind_71 : decode cX5_behind 71 = .ok (.aload_n 0, 1) := by decide +kernel
theorem dX5_behind_72 : decode cX5_behind 72 = .ok (.getfield 120, 3) := by decide +kernel
theorem dX5_behind_75 : decode cX5_behind 75 = .ok (.ifCond .ne 7, 3) := by decide +kernel
theorem dX5_behind_78 : decode cX5_behind 78 = .ok (.iconst (-1), 1) := by decide +kernel
theorem dX5_behind_79 : decode cX5_behind 79 = .ok (.goto 21, 3) := by decide +kernel
theorem dX5_behind_82 : decode cX5_behind 82 = .ok (.aload_n 0, 1) := by decide +kernel
theorem dX5_behind_83 : decode cX5_behind 83 = .ok (.aload_n 0, 1) := by decide +kernel
theorem dX5_behind_84 : decode cX5_behind 84 = .ok (.getfield 120, 3) := by decide +kernel
theorem dX5_behind_87 : decode cX5_behind 87 = .ok (.iload_n 2, 1) := by decide +kernel
theorem dX5_behind_88 : decode cX5_behind 88 = .ok (.aload_n 0, 1) := by decide +kernel
theorem dX5_behind_89 : decode cX5_behind 89 = .ok (.getfield 126, 3) := by decide +kernel
theorem dX5_behind_92 : decode cX5_behind 92 = .ok (.aload_n 0, 1) := by decide +kernel
theorem dX5_behind_93 : decode cX5_behind 93 = .ok (.getfield 129, 3) := by decide +kernel
theorem dX5_behind_96 : decode cX5_behind 96 = .ok (.iconst 1, 1) := by decide +kernel
theorem dX5_behind_97 : decode cX5_behind 97 = .ok (.invokevirtual 110, 3) := by decide +kernel
theorem dX5_behind_100 : decode cX5_behind 100 = .ok (.ireturn, 1) := by decide +kernel
theorem dX5_behind_101 : decode cX5_behind 101 = .ok (.aload_n 0, 1) := by decide +kernel
theorem dX5_behind_102 : decode cX5_behind 102 = .ok (.iload_n 3, 1) := by decide +kernel
theorem dX5_behind_103 : decode cX5_behind 103 = .ok (.ifCond .le 7, 3) := by decide +kernel
theorem dX5_behind_106 : decode cX5_behind 106 = .ok (.iload_n 3, 1) := by decide +kernel
theorem dX5_behind_107 : decode cX5_behind 107 = .ok (.goto 7, 3) := by decide +kernel
theorem dX5_behind_110 : decode cX5_behind 110 = .ok (.aload_n 0, 1) := by decide +kernel
theorem dX5_behind_111 : decode cX5_behind 111 = .ok (.getfield 120, 3) := by decide +kernel
theorem dX5_behind_114 : decode cX5_behind 114 = .ok (.aload_n 0, 1) := by decide +kernel
theorem dX5_behind_115 : decode cX5_behind 115 = .ok (.getfield 123, 3) := by decide +kernel
theorem dX5_behind_118 : decode cX5_behind 118 = .ok (.iload_n 2, 1) := by decide +kernel
theorem dX5_behind_119 : decode cX5_behind 119 = .ok (.aload_n 0, 1) := by decide +kernel
theorem dX5_behind_120 : decode cX5_behind 120 = .ok (.getfield 129, 3) := by decide +kernel
theorem dX5_behind_123 : decode cX5_behind 123 = .ok (.iconst 1, 1) := by decide +kernel
theorem dX5_behind_124 : decode cX5_behind 124 = .ok (.invokevirtual 110, 3) := by decide +kernel
theorem dX5_behind_127 : decode cX5_behind 127 = .ok (.ireturn, 1) := by decide +kernel
theorem dX5_moves_0 : decode cX5_moves 0 = .ok (.aload_n 0, 1) := by decide +kernel
theorem dX5_moves_1 : decode cX5_moves 1 = .ok (.aload_n 0, 1) := by decide +kernel
theorem dX5_moves_2 : decode cX5_moves 2 = .ok (.getfield 116, 3) := by decide +kernel
theorem dX5_moves_5 : decode cX5_moves 5 = .ok (.ifCond .eq 7, 3) := by decide +kernel
theorem dX5_moves_8 : decode cX5_moves 8 = .ok (.iconst 0, 1) := by decide +kernel
theorem dX5_moves_9 : decode cX5_moves 9 = .ok (.goto 4, 3) := by decide +kernel
theorem dX5_moves_12 : decode cX5_moves 12 = .ok (.iconst 1, 1) := by decide +kernel
theorem dX5_moves_13 : decode cX5_moves 13 = .ok (.putfield 32, 3) := by decide +kernel
theorem dX5_moves_16 : decode cX5_moves 16 = .ok (.aload_n 0, 1) := by decide +kernel
theorem dX5_moves_17 : decode cX5_moves 17 = .ok (.getfield 32, 3) := by decide +kernel
theorem dX5_moves_20 : decode cX5_moves 20 = .ok (.ifCond .le 5, 3) := by decide +kernel
theorem dX5_moves_23 : decode cX5_moves 23 = .ok (.iconst 0, 1) := by decide +kernel
theorem dX5_moves_24 : decode cX5_moves 24 = .ok (.ireturn, 1) := by decide +kernel
theorem dX5_moves_25 : decode cX5_moves 25 = .ok (.aload_n 0, 1) := by decide +kernel
theorem dX5_moves_26 : decode cX5_moves 26 = .ok (.invokevirtual 147, 3) := by decide +kernel
theorem dX5_moves_29 : decode cX5_moves 29 = .ok (.aload_n 0, 1) := by decide +kernel
theorem dX5_moves_30 : decode cX5_moves 30 = .ok (.getfield 135, 3) := by decide +kernel
theorem dX5_moves_33 : decode cX5_moves 33 = .ok (.ireturn, 1) := by decide +kernel
theorem dX5_move_0 : decode cX5_move 0 = .ok (.aload_n 0, 1) := by decide +kernel
theorem dX5_move_1 : decode cX5_move 1 = .ok (.invokevirtual 147, 3) := by decide +kernel
theorem dX5_move_4 : decode cX5_move 4 = .ok (.aload_n 0, 1) := by decide +kernel
theorem dX5_move_5 : decode cX5_move 5 = .ok (.aload_n 0, 1) := by decide +kernel
theorem dX5_move_6 : decode cX5_move 6 = .ok (.getfield 116, 3) := by decide +kernel
theorem dX5_move_9 : decode cX5_move 9 = .ok (.ifCond .ne 7, 3) := by decide +kernel
theorem dX5_move_12 : decode cX5_move 12 = .ok (.iconst 1, 1) := by decide +kernel
theorem dX5_move_13 : decode cX5_move 13 = .ok (.goto 20, 3) := by decide +kernel
theorem dX5_move_16 : decode cX5_move 16 = .ok (.iload_n 1, 1) := by decide +kernel
theorem dX5_move_17 : decode cX5_move 17 = .ok (.ifCond .lt 11, 3) := by decide +kernel
theorem dX5_move_20 : decode cX5_move 20 = .ok (.iload_n 1, 1) := by decide +kernel
theorem dX5_move_21 : decode cX5_move 21 = .ok (.aload_n 0, 1) := by decide +kernel
theorem dX5_move_22 : decode cX5_move 22 = .ok (.getfield 135, 3) := by decide +kernel
theorem dX5_move_25 : decode cX5_move 25 = .ok (.if_icmp .lt 7, 3) := by decide +kernel
theorem dX5_move_28 : decode cX5_move 28 = .ok (.iconst 2, 1) := by decide +kernel
theorem dX5_move_29 : decode cX5_move 29 = .ok (.goto 4, 3) := by decide +kernel
theorem dX5_move_32 : decode cX5_move 32 = .ok (.iconst 0, 1) := by decide +kernel
theorem dX5_move_33 : decode cX5_move 33 = .ok (.putfield 32, 3) := by decide +kernel
theorem dX5_move_36 : decode cX5_move 36 = .ok (.aload_n 0, 1) := by decide +kernel
theorem dX5_move_37 : decode cX5_move 37 = .ok (.getfield 32, 3) := by decide +kernel
theorem dX5_move_40 : decode cX5_move 40 = .ok (.ifCond .le 7, 3) := by decide +kernel
theorem dX5_move_43 : decode cX5_move 43 = .ok (.iconst 0, 1) := by decide +kernel
theorem dX5_move_44 : decode cX5_move 44 = .ok (.goto 9, 3) := by decide +kernel
theorem dX5_move_47 : decode cX5_move 47 = .ok (.aload_n 0, 1) := by decide +kernel
theorem dX5_move_48 : decode cX5_move 48 = .ok (.getfield 22, 3) := by decide +kernel
theorem dX5_move_51 : decode cX5_move 51 = .ok (.iload_n 1, 1) := by decide +kernel
theorem dX5_move_52 : decode cX5_move 52 = .ok (.iaload, 1) := by decide +kernel
theorem dX5_move_53 : decode cX5_move 53 = .ok (.ireturn, 1) := by decide +kernel
theorem dX5_bestOf_0 : decode cX5_bestOf 0 = .ok (.iconst 0, 1) := by decide +kernel
theorem dX5_bestOf_1 : decode cX5_bestOf 1 = .ok (.istore_n 1, 1) := by decide +kernel
theorem dX5_bestOf_2 : decode cX5_bestOf 2 = .ok (.aload_n 0, 1) := by decide +kernel
theorem dX5_bestOf_3 : decode cX5_bestOf 3 = .ok (.aload_n 0, 1) := by decide +kernel
theorem dX5_bestOf_4 : decode cX5_bestOf 4 = .ok (.getfield 22, 3) := by decide +kernel
theorem dX5_bestOf_7 : decode cX5_bestOf 7 = .ok (.iconst 0, 1) := by decide +kernel
theorem dX5_bestOf_8 : decode cX5_bestOf 8 = .ok (.iaload, 1) := by decide +kernel
theorem dX5_bestOf_9 : decode cX5_bestOf 9 = .ok (.invokevirtual 150, 3) := by decide +kernel
theorem dX5_bestOf_12 : decode cX5_bestOf 12 = .ok (.istore_n 2, 1) := by decide +kernel
theorem dX5_bestOf_13 : decode cX5_bestOf 13 = .ok (.iconst 1, 1) := by decide +kernel
theorem dX5_bestOf_14 : decode cX5_bestOf 14 = .ok (.istore_n 3, 1) := by decide +kernel
theorem dX5_bestOf_15 : decode cX5_bestOf 15 = .ok (.iload_n 3, 1) := by decide +kernel
theorem dX5_bestOf_16 : decode cX5_bestOf 16 = .ok (.aload_n 0, 1) := by decide +kernel
theorem dX5_bestOf_17 : decode cX5_bestOf 17 = .ok (.getfield 135, 3) := by decide +kernel
theorem dX5_bestOf_20 : decode cX5_bestOf 20 = .ok (.if_icmp .ge 96, 3) := by decide +kernel
theorem dX5_bestOf_23 : decode cX5_bestOf 23 = .ok (.aload_n 0, 1) := by decide +kernel
theorem dX5_bestOf_24 : decode cX5_bestOf 24 = .ok (.aload_n 0, 1) := by decide +kernel
theorem dX5_bestOf_25 : decode cX5_bestOf 25 = .ok (.getfield 22, 3) := by decide +kernel
theorem dX5_bestOf_28 : decode cX5_bestOf 28 = .ok (.iload_n 3, 1) := by decide +kernel
theorem dX5_bestOf_29 : decode cX5_bestOf 29 = .ok (.iaload, 1) := by decide +kernel
theorem dX5_bestOf_30 : decode cX5_bestOf 30 = .ok (.invokevirtual 150, 3) := by decide +kernel
theorem dX5_bestOf_33 : decode cX5_bestOf 33 = .ok (.istore 4, 2) := by decide +kernel
theorem dX5_bestOf_35 : decode cX5_bestOf 35 = .ok (.aload_n 0, 1) := by decide +kernel
theorem dX5_bestOf_36 : decode cX5_bestOf 36 = .ok (.getfield 132, 3) := by decide +kernel
theorem dX5_bestOf_39 : decode cX5_bestOf 39 = .ok (.ifCond .ne 26, 3) := by decide +kernel
theorem dX5_bestOf_42 : decode cX5_bestOf 42 = .ok (.iload 4, 2) := by decide +kernel
theorem dX5_bestOf_44 : decode cX5_bestOf 44 = .ok (.ifCond .lt 17, 3) := by decide +kernel
theorem dX5_bestOf_47 : decode cX5_bestOf 47 = .ok (.iload_n 2, 1) := by decide +kernel
theorem dX5_bestOf_48 : decode cX5_bestOf 48 = .ok (.ifCond .lt 9, 3) := by decide +kernel
theorem dX5_bestOf_51 : decode cX5_bestOf 51 = .ok (.iload 4, 2) := by decide +kernel
theorem dX5_bestOf_53 : decode cX5_bestOf 53 = .ok (.iload_n 2, 1) := by decide +kernel
theorem dX5_bestOf_54 : decode cX5_bestOf 54 = .ok (.if_icmp .ge 7, 3) := by decide +kernel
theorem dX5_bestOf_57 : decode cX5_bestOf 57 = .ok (.iconst 1, 1) := by decide +kernel
theorem dX5_bestOf_58 : decode cX5_bestOf 58 = .ok (.goto 27, 3) := by decide +kernel
theorem dX5_bestOf_61 : decode cX5_bestOf 61 = .ok (.iconst 0, 1) := by decide +kernel
theorem dX5_bestOf_62 : decode cX5_bestOf 62 = .ok (.goto 23, 3) := by decide +kernel
theorem dX5_bestOf_65 : decode cX5_bestOf 65 = .ok (.iload_n 2, 1) := by decide +kernel
theorem dX5_bestOf_66 : decode cX5_bestOf 66 = .ok (.ifCond .lt 18, 3) := by decide +kernel
theorem dX5_bestOf_69 : decode cX5_bestOf 69 = .ok (.iload 4, 2) := by decide +kernel
theorem dX5_bestOf_71 : decode cX5_bestOf 71 = .ok (.ifCond .lt 9, 3) := by decide +kernel
theorem dX5_bestOf_74 : decode cX5_bestOf 74 = .ok (.iload 4, 2) := by decide +kernel
theorem dX5_bestOf_76 : decode cX5_bestOf 76 = .ok (.iload_n 2, 1) := by decide +kernel
theorem dX5_bestOf_77 : decode cX5_bestOf 77 = .ok (.if_icmp .le 7, 3) := by decide +kernel
theorem dX5_bestOf_80 : decode cX5_bestOf 80 = .ok (.iconst 1, 1) := by decide +kernel
theorem dX5_bestOf_81 : decode cX5_bestOf 81 = .ok (.goto 4, 3) := by decide +kernel
theorem dX5_bestOf_84 : decode cX5_bestOf 84 = .ok (.iconst 0, 1) := by decide +kernel
theorem dX5_bestOf_85 : decode cX5_bestOf 85 = .ok (.istore 5, 2) := by decide +kernel
theorem dX5_bestOf_87 : decode cX5_bestOf 87 = .ok (.iload 5, 2) := by decide +kernel
theorem dX5_bestOf_89 : decode cX5_bestOf 89 = .ok (.ifCond .eq 7, 3) := by decide +kernel
theorem dX5_bestOf_92 : decode cX5_bestOf 92 = .ok (.iload_n 3, 1) := by decide +kernel
theorem dX5_bestOf_93 : decode cX5_bestOf 93 = .ok (.goto 4, 3) := by decide +kernel
theorem dX5_bestOf_96 : decode cX5_bestOf 96 = .ok (.iload_n 1, 1) := by decide +kernel
theorem dX5_bestOf_97 : decode cX5_bestOf 97 = .ok (.istore_n 1, 1) := by decide +kernel
theorem dX5_bestOf_98 : decode cX5_bestOf 98 = .ok (.iload 5, 2) := by decide +kernel
theorem dX5_bestOf_100 : decode cX5_bestOf 100 = .ok (.ifCond .eq 8, 3) := by decide +kernel
theorem dX5_bestOf_103 : decode cX5_bestOf 103 = .ok (.iload 4, 2) := by decide +kernel
theorem dX5_bestOf_105 : decode cX5_bestOf 105 = .ok (.goto 4, 3) := by decide +kernel
theorem dX5_bestOf_108 : decode cX5_bestOf 108 = .ok (.iload_n 2, 1) := by decide +kernel
theorem dX5_bestOf_109 : decode cX5_bestOf 109 = .ok (.istore_n 2, 1) := by decide +kernel
theorem dX5_bestOf_110 : decode cX5_bestOf 110 = .ok (.iinc 3 1, 3) := by decide +kernel
theorem dX5_bestOf_113 : decode cX5_bestOf 113 = .ok (.goto (-98), 3) := by decide +kernel
theorem dX5_bestOf_116 : decode cX5_bestOf 116 = .ok (.aload_n 0, 1) := by decide +kernel
theorem dX5_bestOf_117 : decode cX5_bestOf 117 = .ok (.getfield 22, 3) := by decide +kernel
theorem dX5_bestOf_120 : decode cX5_bestOf 120 = .ok (.iload_n 1, 1) := by decide +kernel
theorem dX5_bestOf_121 : decode cX5_bestOf 121 = .ok (.iaload, 1) := by decide +kernel
theorem dX5_bestOf_122 : decode cX5_bestOf 122 = .ok (.ireturn, 1) := by decide +kernel
theorem dX5_best_0 : decode cX5_best 0 = .ok (.aload_n 0, 1) := by decide +kernel
theorem dX5_best_1 : decode cX5_best 1 = .ok (.invokevirtual 147, 3) := by decide +kernel
theorem dX5_best_4 : decode cX5_best 4 = .ok (.aload_n 0, 1) := by decide +kernel
theorem dX5_best_5 : decode cX5_best 5 = .ok (.aload_n 0, 1) := by decide +kernel
theorem dX5_best_6 : decode cX5_best 6 = .ok (.getfield 116, 3) := by decide +kernel
theorem dX5_best_9 : decode cX5_best 9 = .ok (.ifCond .eq 14, 3) := by decide +kernel
theorem dX5_best_12 : decode cX5_best 12 = .ok (.aload_n 0, 1) := by decide +kernel
theorem dX5_best_13 : decode cX5_best 13 = .ok (.getfield 135, 3) := by decide +kernel
theorem dX5_best_16 : decode cX5_best 16 = .ok (.ifCond .le 7, 3) := by decide +kernel
theorem dX5_best_19 : decode cX5_best 19 = .ok (.iconst 0, 1) := by decide +kernel
theorem dX5_best_20 : decode cX5_best 20 = .ok (.goto 4, 3) := by decide +kernel
theorem dX5_best_23 : decode cX5_best 23 = .ok (.iconst 1, 1) := by decide +kernel
theorem dX5_best_24 : decode cX5_best 24 = .ok (.putfield 32, 3) := by decide +kernel
theorem dX5_best_27 : decode cX5_best 27 = .ok (.aload_n 0, 1) := by decide +kernel
theorem dX5_best_28 : decode cX5_best 28 = .ok (.getfield 32, 3) := by decide +kernel
theorem dX5_best_31 : decode cX5_best 31 = .ok (.ifCond .le 7, 3) := by decide +kernel
theorem dX5_best_34 : decode cX5_best 34 = .ok (.iconst 0, 1) := by decide +kernel
theorem dX5_best_35 : decode cX5_best 35 = .ok (.goto 7, 3) := by decide +kernel
theorem dX5_best_38 : decode cX5_best 38 = .ok (.aload_n 0, 1) := by decide +kernel
theorem dX5_best_39 : decode cX5_best 39 = .ok (.invokevirtual 154, 3) := by decide +kernel
theorem dX5_best_42 : decode cX5_best 42 = .ok (.ireturn, 1) := by decide +kernel
theorem dX5_make_0 : decode cX5_make 0 = .ok (.iload_n 1, 1) := by decide +kernel
theorem dX5_make_1 : decode cX5_make 1 = .ok (.bipush 64, 2) := by decide +kernel
theorem dX5_make_3 : decode cX5_make 3 = .ok (.idiv, 1) := by decide +kernel
theorem dX5_make_4 : decode cX5_make 4 = .ok (.bipush 64, 2) := by decide +kernel
theorem dX5_make_6 : decode cX5_make 6 = .ok (.irem, 1) := by decide +kernel
theorem dX5_make_7 : decode cX5_make 7 = .ok (.istore_n 2, 1) := by decide +kernel
theorem dX5_make_8 : decode cX5_make 8 = .ok (.iload_n 1, 1) := by decide +kernel
theorem dX5_make_9 : decode cX5_make 9 = .ok (.sipush 4096, 3) := by decide +kernel
theorem dX5_make_12 : decode cX5_make 12 = .ok (.idiv, 1) := by decide +kernel
theorem dX5_make_13 : decode cX5_make 13 = .ok (.istore_n 3, 1) := by decide +kernel
theorem dX5_make_14 : decode cX5_make 14 = .ok (.aload_n 0, 1) := by decide +kernel
theorem dX5_make_15 : decode cX5_make 15 = .ok (.getfield 132, 3) := by decide +kernel
theorem dX5_make_18 : decode cX5_make 18 = .ok (.iconst 1, 1) := by decide +kernel
theorem dX5_make_19 : decode cX5_make 19 = .ok (.if_icmp .ne 67, 3) := by decide +kernel
theorem dX5_make_22 : decode cX5_make 22 = .ok (.aload_n 0, 1) := by decide +kernel
theorem dX5_make_23 : decode cX5_make 23 = .ok (.getfield 120, 3) := by decide +kernel
theorem dX5_make_26 : decode cX5_make 26 = .ok (.ifCond .le 15, 3) := by decide +kernel
theorem dX5_make_29 : decode cX5_make 29 = .ok (.iload_n 2, 1) := by decide +kernel
theorem dX5_make_30 : decode cX5_make 30 = .ok (.aload_n 0, 1) := by decide +kernel
theorem dX5_make_31 : decode cX5_make 31 = .ok (.getfield 126, 3) := by decide +kernel
theorem dX5_make_34 : decode cX5_make 34 = .ok (.if_icmp .ne 7, 3) := by decide +kernel
theorem dX5_make_37 : decode cX5_make 37 = .ok (.iconst 1, 1) := by decide +kernel
theorem dX5_make_38 : decode cX5_make 38 = .ok (.goto 4, 3) := by decide +kernel
theorem dX5_make_41 : decode cX5_make 41 = .ok (.iconst 0, 1) := by decide +kernel
theorem dX5_make_42 : decode cX5_make 42 = .ok (.istore 4, 2) := by decide +kernel
theorem dX5_make_44 : decode cX5_make 44 = .ok (.aload_n 0, 1) := by decide +kernel
theorem dX5_make_45 : decode cX5_make 45 = .ok (.iload 4, 2) := by decide +kernel
theorem dX5_make_47 : decode cX5_make 47 = .ok (.ifCond .eq 7, 3) := by decide +kernel
theorem dX5_make_50 : decode cX5_make 50 = .ok (.iconst 0, 1) := by decide +kernel
theorem dX5_make_51 : decode cX5_make 51 = .ok (.goto 7, 3) := by decide +kernel
theorem dX5_make_54 : decode cX5_make 54 = .ok (.aload_n 0, 1) := by decide +kernel
theorem dX5_make_55 : decode cX5_make 55 = .ok (.getfield 120, 3) := by decide +kernel
theorem dX5_make_58 : decode cX5_make 58 = .ok (.putfield 120, 3) := by decide +kernel
theorem dX5_make_61 : decode cX5_make 61 = .ok (.aload_n 0, 1) := by decide +kernel
theorem dX5_make_62 : decode cX5_make 62 = .ok (.iload 4, 2) := by decide +kernel
theorem dX5_make_64 : decode cX5_make 64 = .ok (.ifCond .eq 7, 3) := by decide +kernel
theorem dX5_make_67 : decode cX5_make 67 = .ok (.iconst 0, 1) := by decide +kernel
theorem dX5_make_68 : decode cX5_make 68 = .ok (.goto 7, 3) := by decide +kernel
theorem dX5_make_71 : decode cX5_make 71 = .ok (.aload_n 0, 1) := by decide +kernel
theorem dX5_make_72 : decode cX5_make 72 = .ok (.getfield 126, 3) := by decide +kernel
theorem dX5_make_75 : decode cX5_make 75 = .ok (.putfield 126, 3) := by decide +kernel
theorem dX5_make_78 : decode cX5_make 78 = .ok (.aload_n 0, 1) := by decide +kernel
theorem dX5_make_79 : decode cX5_make 79 = .ok (.iload_n 2, 1) := by decide +kernel
theorem dX5_make_80 : decode cX5_make 80 = .ok (.putfield 129, 3) := by decide +kernel
theorem dX5_make_83 : decode cX5_make 83 = .ok (.goto 43, 3) := by decide +kernel
theorem dX5_make_86 : decode cX5_make 86 = .ok (.iload_n 1, 1) := by decide +kernel
theorem dX5_make_87 : decode cX5_make 87 = .ok (.bipush 64, 2) := by decide +kernel
theorem dX5_make_89 : decode cX5_make 89 = .ok (.irem, 1) := by decide +kernel
theorem dX5_make_90 : decode cX5_make 90 = .ok (.aload_n 0, 1) := by decide +kernel
theorem dX5_make_91 : decode cX5_make 91 = .ok (.getfield 123, 3) := by decide +kernel
theorem dX5_make_94 : decode cX5_make 94 = .ok (.if_icmp .ne 11, 3) := by decide +kernel
theorem dX5_make_97 : decode cX5_make 97 = .ok (.aload_n 0, 1) := by decide +kernel
theorem dX5_make_98 : decode cX5_make 98 = .ok (.iload_n 2, 1) := by decide +kernel
theorem dX5_make_99 : decode cX5_make 99 = .ok (.putfield 123, 3) := by decide +kernel
theorem dX5_make_102 : decode cX5_make 102 = .ok (.goto 24, 3) := by decide +kernel
theorem dX5_make_105 : decode cX5_make 105 = .ok (.aload_n 0, 1) := by decide +kernel
theorem dX5_make_106 : decode cX5_make 106 = .ok (.iload_n 2, 1) := by decide +kernel
theorem dX5_make_107 : decode cX5_make 107 = .ok (.putfield 126, 3) := by decide +kernel
theorem dX5_make_110 : decode cX5_make 110 = .ok (.aload_n 0, 1) := by decide +kernel
theorem dX5_make_111 : decode cX5_make 111 = .ok (.iload_n 3, 1) := by decide +kernel
theorem dX5_make_112 : decode cX5_make 112 = .ok (.ifCond .le 7, 3) := by decide +kernel
theorem dX5_make_115 : decode cX5_make 115 = .ok (.iload_n 3, 1) := by decide +kernel
theorem dX5_make_116 : decode cX5_make 116 = .ok (.goto 7, 3) := by decide +kernel
theorem dX5_make_119 : decode cX5_make 119 = .ok (.aload_n 0, 1) := by decide +kernel
theorem dX5_make_120 : decode cX5_make 120 = .ok (.getfield 120, 3) := by decide +kernel
theorem dX5_make_123 : decode cX5_make 123 = .ok (.putfield 120, 3) := by decide +kernel
theorem dX5_make_126 : decode cX5_make 126 = .ok (.aload_n 0, 1) := by decide +kernel
theorem dX5_make_127 : decode cX5_make 127 = .ok (.iconst 1, 1) := by decide +kernel
theorem dX5_make_128 : decode cX5_make 128 = .ok (.aload_n 0, 1) := by decide +kernel
theorem dX5_make_129 : decode cX5_make 129 = .ok (.getfield 132, 3) := by decide +kernel
theorem dX5_make_132 : decode cX5_make 132 = .ok (.isub, 1) := by decide +kernel
theorem dX5_make_133 : decode cX5_make 133 = .ok (.putfield 132, 3) := by decide +kernel
theorem dX5_make_136 : decode cX5_make 136 = .ok (.return_, 1) := by decide +kernel
theorem dX5_play_0 : decode cX5_play 0 = .ok (.aload_n 0, 1) := by decide +kernel
theorem dX5_play_1 : decode cX5_play 1 = .ok (.invokevirtual 147, 3) := by decide +kernel
theorem dX5_play_4 : decode cX5_play 4 = .ok (.iconst 0, 1) := by decide +kernel
theorem dX5_play_5 : decode cX5_play 5 = .ok (.istore_n 2, 1) := by decide +kernel
theorem dX5_play_6 : decode cX5_play 6 = .ok (.iconst 0, 1) := by decide +kernel
theorem dX5_play_7 : decode cX5_play 7 = .ok (.istore_n 3, 1) := by decide +kernel
theorem dX5_play_8 : decode cX5_play 8 = .ok (.iload_n 3, 1) := by decide +kernel
theorem dX5_play_9 : decode cX5_play 9 = .ok (.aload_n 0, 1) := by decide +kernel
theorem dX5_play_10 : decode cX5_play 10 = .ok (.getfield 135, 3) := by decide +kernel
theorem dX5_play_13 : decode cX5_play 13 = .ok (.if_icmp .ge 29, 3) := by decide +kernel
theorem dX5_play_16 : decode cX5_play 16 = .ok (.iload_n 2, 1) := by decide +kernel
theorem dX5_play_17 : decode cX5_play 17 = .ok (.ifCond .ne 13, 3) := by decide +kernel
theorem dX5_play_20 : decode cX5_play 20 = .ok (.aload_n 0, 1) := by decide +kernel
theorem dX5_play_21 : decode cX5_play 21 = .ok (.getfield 22, 3) := by decide +kernel
theorem dX5_play_24 : decode cX5_play 24 = .ok (.iload_n 3, 1) := by decide +kernel
theorem dX5_play_25 : decode cX5_play 25 = .ok (.iaload, 1) := by decide +kernel
theorem dX5_play_26 : decode cX5_play 26 = .ok (.iload_n 1, 1) := by decide +kernel
theorem dX5_play_27 : decode cX5_play 27 = .ok (.if_icmp .ne 7, 3) := by decide +kernel
theorem dX5_play_30 : decode cX5_play 30 = .ok (.iconst 1, 1) := by decide +kernel
theorem dX5_play_31 : decode cX5_play 31 = .ok (.goto 4, 3) := by decide +kernel
theorem dX5_play_34 : decode cX5_play 34 = .ok (.iconst 0, 1) := by decide +kernel
theorem dX5_play_35 : decode cX5_play 35 = .ok (.istore_n 2, 1) := by decide +kernel
theorem dX5_play_36 : decode cX5_play 36 = .ok (.iinc 3 1, 3) := by decide +kernel
theorem dX5_play_39 : decode cX5_play 39 = .ok (.goto (-31), 3) := by decide +kernel
theorem dX5_play_42 : decode cX5_play 42 = .ok (.aload_n 0, 1) := by decide +kernel
theorem dX5_play_43 : decode cX5_play 43 = .ok (.aload_n 0, 1) := by decide +kernel
theorem dX5_play_44 : decode cX5_play 44 = .ok (.getfield 116, 3) := by decide +kernel
theorem dX5_play_47 : decode cX5_play 47 = .ok (.ifCond .ne 7, 3) := by decide +kernel
theorem dX5_play_50 : decode cX5_play 50 = .ok (.iconst 1, 1) := by decide +kernel
theorem dX5_play_51 : decode cX5_play 51 = .ok (.goto 12, 3) := by decide +kernel
theorem dX5_play_54 : decode cX5_play 54 = .ok (.iload_n 2, 1) := by decide +kernel
theorem dX5_play_55 : decode cX5_play 55 = .ok (.ifCond .ne 7, 3) := by decide +kernel
theorem dX5_play_58 : decode cX5_play 58 = .ok (.iconst 2, 1) := by decide +kernel
theorem dX5_play_59 : decode cX5_play 59 = .ok (.goto 4, 3) := by decide +kernel
theorem dX5_play_62 : decode cX5_play 62 = .ok (.iconst 0, 1) := by decide +kernel
theorem dX5_play_63 : decode cX5_play 63 = .ok (.putfield 32, 3) := by decide +kernel
theorem dX5_play_66 : decode cX5_play 66 = .ok (.aload_n 0, 1) := by decide +kernel
theorem dX5_play_67 : decode cX5_play 67 = .ok (.getfield 32, 3) := by decide +kernel
theorem dX5_play_70 : decode cX5_play 70 = .ok (.ifCond .le 5, 3) := by decide +kernel
theorem dX5_play_73 : decode cX5_play 73 = .ok (.iconst 0, 1) := by decide +kernel
theorem dX5_play_74 : decode cX5_play 74 = .ok (.ireturn, 1) := by decide +kernel
theorem dX5_play_75 : decode cX5_play 75 = .ok (.aload_n 0, 1) := by decide +kernel
theorem dX5_play_76 : decode cX5_play 76 = .ok (.iload_n 1, 1) := by decide +kernel
theorem dX5_play_77 : decode cX5_play 77 = .ok (.invokevirtual 158, 3) := by decide +kernel
theorem dX5_play_80 : decode cX5_play 80 = .ok (.aload_n 0, 1) := by decide +kernel
theorem dX5_play_81 : decode cX5_play 81 = .ok (.aload_n 0, 1) := by decide +kernel
theorem dX5_play_82 : decode cX5_play 82 = .ok (.getfield 120, 3) := by decide +kernel
theorem dX5_play_85 : decode cX5_play 85 = .ok (.aload_n 0, 1) := by decide +kernel
theorem dX5_play_86 : decode cX5_play 86 = .ok (.getfield 123, 3) := by decide +kernel
theorem dX5_play_89 : decode cX5_play 89 = .ok (.aload_n 0, 1) := by decide +kernel
theorem dX5_play_90 : decode cX5_play 90 = .ok (.getfield 126, 3) := by decide +kernel
theorem dX5_play_93 : decode cX5_play 93 = .ok (.aload_n 0, 1) := by decide +kernel
theorem dX5_play_94 : decode cX5_play 94 = .ok (.getfield 129, 3) := by decide +kernel
theorem dX5_play_97 : decode cX5_play 97 = .ok (.aload_n 0, 1) := by decide +kernel
theorem dX5_play_98 : decode cX5_play 98 = .ok (.getfield 132, 3) := by decide +kernel
theorem dX5_play_101 : decode cX5_play 101 = .ok (.invokevirtual 110, 3) := by decide +kernel
theorem dX5_play_104 : decode cX5_play 104 = .ok (.ireturn, 1) := by decide +kernel
theorem dX5_run_0 : decode cX5_run 0 = .ok (.aload_n 0, 1) := by decide +kernel
theorem dX5_run_1 : decode cX5_run 1 = .ok (.aload_n 0, 1) := by decide +kernel
theorem dX5_run_2 : decode cX5_run 2 = .ok (.getfield 116, 3) := by decide +kernel
theorem dX5_run_5 : decode cX5_run 5 = .ok (.ifCond .ne 7, 3) := by decide +kernel
theorem dX5_run_8 : decode cX5_run 8 = .ok (.iconst 1, 1) := by decide +kernel
theorem dX5_run_9 : decode cX5_run 9 = .ok (.goto 18, 3) := by decide +kernel
theorem dX5_run_12 : decode cX5_run 12 = .ok (.iload_n 1, 1) := by decide +kernel
theorem dX5_run_13 : decode cX5_run 13 = .ok (.ifCond .lt 9, 3) := by decide +kernel
theorem dX5_run_16 : decode cX5_run 16 = .ok (.iload_n 1, 1) := by decide +kernel
theorem dX5_run_17 : decode cX5_run 17 = .ok (.bipush 100, 2) := by decide +kernel
theorem dX5_run_19 : decode cX5_run 19 = .ok (.if_icmp .le 7, 3) := by decide +kernel
theorem dX5_run_22 : decode cX5_run 22 = .ok (.iconst 2, 1) := by decide +kernel
theorem dX5_run_23 : decode cX5_run 23 = .ok (.goto 4, 3) := by decide +kernel
theorem dX5_run_26 : decode cX5_run 26 = .ok (.iconst 0, 1) := by decide +kernel
theorem dX5_run_27 : decode cX5_run 27 = .ok (.putfield 32, 3) := by decide +kernel
theorem dX5_run_30 : decode cX5_run 30 = .ok (.aload_n 0, 1) := by decide +kernel
theorem dX5_run_31 : decode cX5_run 31 = .ok (.getfield 32, 3) := by decide +kernel
theorem dX5_run_34 : decode cX5_run 34 = .ok (.ifCond .le 5, 3) := by decide +kernel
theorem dX5_run_37 : decode cX5_run 37 = .ok (.iconst 0, 1) := by decide +kernel
theorem dX5_run_38 : decode cX5_run 38 = .ok (.ireturn, 1) := by decide +kernel
theorem dX5_run_39 : decode cX5_run 39 = .ok (.iconst 0, 1) := by decide +kernel
theorem dX5_run_40 : decode cX5_run 40 = .ok (.istore_n 2, 1) := by decide +kernel
theorem dX5_run_41 : decode cX5_run 41 = .ok (.aload_n 0, 1) := by decide +kernel
theorem dX5_run_42 : decode cX5_run 42 = .ok (.invokevirtual 147, 3) := by decide +kernel
theorem dX5_run_45 : decode cX5_run 45 = .ok (.iload_n 2, 1) := by decide +kernel
theorem dX5_run_46 : decode cX5_run 46 = .ok (.iload_n 1, 1) := by decide +kernel
theorem dX5_run_47 : decode cX5_run 47 = .ok (.if_icmp .ge 28, 3) := by decide +kernel
theorem dX5_run_50 : decode cX5_run 50 = .ok (.aload_n 0, 1) := by decide +kernel
theorem dX5_run_51 : decode cX5_run 51 = .ok (.getfield 135, 3) := by decide +kernel
theorem dX5_run_54 : decode cX5_run 54 = .ok (.ifCond .le 21, 3) := by decide +kernel
theorem dX5_run_57 : decode cX5_run 57 = .ok (.aload_n 0, 1) := by decide +kernel
theorem dX5_run_58 : decode cX5_run 58 = .ok (.aload_n 0, 1) := by decide +kernel
theorem dX5_run_59 : decode cX5_run 59 = .ok (.invokevirtual 154, 3) := by decide +kernel
theorem dX5_run_62 : decode cX5_run 62 = .ok (.invokevirtual 158, 3) := by decide +kernel
theorem dX5_run_65 : decode cX5_run 65 = .ok (.iinc 2 1, 3) := by decide +kernel
theorem dX5_run_68 : decode cX5_run 68 = .ok (.aload_n 0, 1) := by decide +kernel
theorem dX5_run_69 : decode cX5_run 69 = .ok (.invokevirtual 147, 3) := by decide +kernel
theorem dX5_run_72 : decode cX5_run 72 = .ok (.goto (-27), 3) := by decide +kernel
theorem dX5_run_75 : decode cX5_run 75 = .ok (.iload_n 2, 1) := by decide +kernel
theorem dX5_run_76 : decode cX5_run 76 = .ok (.ireturn, 1) := by decide +kernel
theorem dJ13_bitCount_95d88_0 : decode cJ13_bitCount_95d88 0 = .ok (.lload_n 0, 1) := by decide +kernel
theorem dJ13_bitCount_95d88_1 : decode cJ13_bitCount_95d88 1 = .ok (.lload_n 0, 1) := by decide +kernel
theorem dJ13_bitCount_95d88_2 : decode cJ13_bitCount_95d88 2 = .ok (.iconst 1, 1) := by decide +kernel
theorem dJ13_bitCount_95d88_3 : decode cJ13_bitCount_95d88 3 = .ok (.lushr, 1) := by decide +kernel
theorem dJ13_bitCount_95d88_4 : decode cJ13_bitCount_95d88 4 = .ok (.ldc2_w 314, 3) := by decide +kernel
theorem dJ13_bitCount_95d88_7 : decode cJ13_bitCount_95d88 7 = .ok (.land, 1) := by decide +kernel
theorem dJ13_bitCount_95d88_8 : decode cJ13_bitCount_95d88 8 = .ok (.lsub, 1) := by decide +kernel
theorem dJ13_bitCount_95d88_9 : decode cJ13_bitCount_95d88 9 = .ok (.lstore_n 0, 1) := by decide +kernel
theorem dJ13_bitCount_95d88_10 : decode cJ13_bitCount_95d88 10 = .ok (.lload_n 0, 1) := by decide +kernel
theorem dJ13_bitCount_95d88_11 : decode cJ13_bitCount_95d88 11 = .ok (.ldc2_w 316, 3) := by decide +kernel
theorem dJ13_bitCount_95d88_14 : decode cJ13_bitCount_95d88 14 = .ok (.land, 1) := by decide +kernel
theorem dJ13_bitCount_95d88_15 : decode cJ13_bitCount_95d88 15 = .ok (.lload_n 0, 1) := by decide +kernel
theorem dJ13_bitCount_95d88_16 : decode cJ13_bitCount_95d88 16 = .ok (.iconst 2, 1) := by decide +kernel
theorem dJ13_bitCount_95d88_17 : decode cJ13_bitCount_95d88 17 = .ok (.lushr, 1) := by decide +kernel
theorem dJ13_bitCount_95d88_18 : decode cJ13_bitCount_95d88 18 = .ok (.ldc2_w 316, 3) := by decide +kernel
theorem dJ13_bitCount_95d88_21 : decode cJ13_bitCount_95d88 21 = .ok (.land, 1) := by decide +kernel
theorem dJ13_bitCount_95d88_22 : decode cJ13_bitCount_95d88 22 = .ok (.ladd, 1) := by decide +kernel
theorem dJ13_bitCount_95d88_23 : decode cJ13_bitCount_95d88 23 = .ok (.lstore_n 0, 1) := by decide +kernel
theorem dJ13_bitCount_95d88_24 : decode cJ13_bitCount_95d88 24 = .ok (.lload_n 0, 1) := by decide +kernel
theorem dJ13_bitCount_95d88_25 : decode cJ13_bitCount_95d88 25 = .ok (.lload_n 0, 1) := by decide +kernel
theorem dJ13_bitCount_95d88_26 : decode cJ13_bitCount_95d88 26 = .ok (.iconst 4, 1) := by decide +kernel
theorem dJ13_bitCount_95d88_27 : decode cJ13_bitCount_95d88 27 = .ok (.lushr, 1) := by decide +kernel
theorem dJ13_bitCount_95d88_28 : decode cJ13_bitCount_95d88 28 = .ok (.ladd, 1) := by decide +kernel
theorem dJ13_bitCount_95d88_29 : decode cJ13_bitCount_95d88 29 = .ok (.ldc2_w 318, 3) := by decide +kernel
theorem dJ13_bitCount_95d88_32 : decode cJ13_bitCount_95d88 32 = .ok (.land, 1) := by decide +kernel
theorem dJ13_bitCount_95d88_33 : decode cJ13_bitCount_95d88 33 = .ok (.lstore_n 0, 1) := by decide +kernel
theorem dJ13_bitCount_95d88_34 : decode cJ13_bitCount_95d88 34 = .ok (.lload_n 0, 1) := by decide +kernel
theorem dJ13_bitCount_95d88_35 : decode cJ13_bitCount_95d88 35 = .ok (.lload_n 0, 1) := by decide +kernel
theorem dJ13_bitCount_95d88_36 : decode cJ13_bitCount_95d88 36 = .ok (.bipush 8, 2) := by decide +kernel
theorem dJ13_bitCount_95d88_38 : decode cJ13_bitCount_95d88 38 = .ok (.lushr, 1) := by decide +kernel
theorem dJ13_bitCount_95d88_39 : decode cJ13_bitCount_95d88 39 = .ok (.ladd, 1) := by decide +kernel
theorem dJ13_bitCount_95d88_40 : decode cJ13_bitCount_95d88 40 = .ok (.lstore_n 0, 1) := by decide +kernel
theorem dJ13_bitCount_95d88_41 : decode cJ13_bitCount_95d88 41 = .ok (.lload_n 0, 1) := by decide +kernel
theorem dJ13_bitCount_95d88_42 : decode cJ13_bitCount_95d88 42 = .ok (.lload_n 0, 1) := by decide +kernel
theorem dJ13_bitCount_95d88_43 : decode cJ13_bitCount_95d88 43 = .ok (.bipush 16, 2) := by decide +kernel
theorem dJ13_bitCount_95d88_45 : decode cJ13_bitCount_95d88 45 = .ok (.lushr, 1) := by decide +kernel
theorem dJ13_bitCount_95d88_46 : decode cJ13_bitCount_95d88 46 = .ok (.ladd, 1) := by decide +kernel
theorem dJ13_bitCount_95d88_47 : decode cJ13_bitCount_95d88 47 = .ok (.lstore_n 0, 1) := by decide +kernel
theorem dJ13_bitCount_95d88_48 : decode cJ13_bitCount_95d88 48 = .ok (.lload_n 0, 1) := by decide +kernel
theorem dJ13_bitCount_95d88_49 : decode cJ13_bitCount_95d88 49 = .ok (.lload_n 0, 1) := by decide +kernel
theorem dJ13_bitCount_95d88_50 : decode cJ13_bitCount_95d88 50 = .ok (.bipush 32, 2) := by decide +kernel
theorem dJ13_bitCount_95d88_52 : decode cJ13_bitCount_95d88 52 = .ok (.lushr, 1) := by decide +kernel
theorem dJ13_bitCount_95d88_53 : decode cJ13_bitCount_95d88 53 = .ok (.ladd, 1) := by decide +kernel
theorem dJ13_bitCount_95d88_54 : decode cJ13_bitCount_95d88 54 = .ok (.lstore_n 0, 1) := by decide +kernel
theorem dJ13_bitCount_95d88_55 : decode cJ13_bitCount_95d88 55 = .ok (.lload_n 0, 1) := by decide +kernel
theorem dJ13_bitCount_95d88_56 : decode cJ13_bitCount_95d88 56 = .ok (.l2i, 1) := by decide +kernel
theorem dJ13_bitCount_95d88_57 : decode cJ13_bitCount_95d88 57 = .ok (.bipush 127, 2) := by decide +kernel
theorem dJ13_bitCount_95d88_59 : decode cJ13_bitCount_95d88 59 = .ok (.iand, 1) := by decide +kernel
theorem dJ13_bitCount_95d88_60 : decode cJ13_bitCount_95d88 60 = .ok (.ireturn, 1) := by decide +kernel
theorem dJ9_max_7cf53_0 : decode cJ9_max_7cf53 0 = .ok (.iload_n 0, 1) := by decide +kernel
theorem dJ9_max_7cf53_1 : decode cJ9_max_7cf53 1 = .ok (.iload_n 1, 1) := by decide +kernel
theorem dJ9_max_7cf53_2 : decode cJ9_max_7cf53 2 = .ok (.if_icmp .lt 7, 3) := by decide +kernel
theorem dJ9_max_7cf53_5 : decode cJ9_max_7cf53 5 = .ok (.iload_n 0, 1) := by decide +kernel
theorem dJ9_max_7cf53_6 : decode cJ9_max_7cf53 6 = .ok (.goto 4, 3) := by decide +kernel
theorem dJ9_max_7cf53_9 : decode cJ9_max_7cf53 9 = .ok (.iload_n 1, 1) := by decide +kernel
theorem dJ9_max_7cf53_10 : decode cJ9_max_7cf53 10 = .ok (.ireturn, 1) := by decide +kernel
theorem dJ9_min_7cf53_0 : decode cJ9_min_7cf53 0 = .ok (.iload_n 0, 1) := by decide +kernel
theorem dJ9_min_7cf53_1 : decode cJ9_min_7cf53 1 = .ok (.iload_n 1, 1) := by decide +kernel
theorem dJ9_min_7cf53_2 : decode cJ9_min_7cf53 2 = .ok (.if_icmp .gt 7, 3) := by decide +kernel
theorem dJ9_min_7cf53_5 : decode cJ9_min_7cf53 5 = .ok (.iload_n 0, 1) := by decide +kernel
theorem dJ9_min_7cf53_6 : decode cJ9_min_7cf53 6 = .ok (.goto 4, 3) := by decide +kernel
theorem dJ9_min_7cf53_9 : decode cJ9_min_7cf53 9 = .ok (.iload_n 1, 1) := by decide +kernel
theorem dJ9_min_7cf53_10 : decode cJ9_min_7cf53 10 = .ok (.ireturn, 1) := by decide +kernel
