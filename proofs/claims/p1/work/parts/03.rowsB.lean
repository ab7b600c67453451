theorem dX3_init_0 : decode cX3_init 0 = .ok (.aload_n 0, 1) := by decide +kernel
theorem dX3_init_1 : decode cX3_init 1 = .ok (.invokespecial 3, 3) := by decide +kernel
theorem dX3_init_4 : decode cX3_init 4 = .ok (.aload_n 0, 1) := by decide +kernel
theorem dX3_init_5 : decode cX3_init 5 = .ok (.aload_n 1, 1) := by decide +kernel
theorem dX3_init_6 : decode cX3_init 6 = .ok (.putfield 9, 3) := by decide +kernel
theorem dX3_init_9 : decode cX3_init 9 = .ok (.aload_n 0, 1) := by decide +kernel
theorem dX3_init_10 : decode cX3_init 10 = .ok (.iload_n 2, 1) := by decide +kernel
theorem dX3_init_11 : decode cX3_init 11 = .ok (.putfield 15, 3) := by decide +kernel
theorem dX3_init_14 : decode cX3_init 14 = .ok (.iconst 0, 1) := by decide +kernel
theorem dX3_init_15 : decode cX3_init 15 = .ok (.aload_n 1, 1) := by decide +kernel
theorem dX3_init_16 : decode cX3_init 16 = .ok (.getfield 19, 3) := by decide +kernel
theorem dX3_init_19 : decode cX3_init 19 = .ok (.bipush 64, 2) := by decide +kernel
theorem dX3_init_21 : decode cX3_init 21 = .ok (.invokestatic 24, 3) := by decide +kernel
theorem dX3_init_24 : decode cX3_init 24 = .ok (.invokestatic 30, 3) := by decide +kernel
theorem dX3_init_27 : decode cX3_init 27 = .ok (.istore_n 3, 1) := by decide +kernel
theorem dX3_init_28 : decode cX3_init 28 = .ok (.aload_n 0, 1) := by decide +kernel
theorem dX3_init_29 : decode cX3_init 29 = .ok (.iload_n 3, 1) := by decide +kernel
theorem dX3_init_30 : decode cX3_init 30 = .ok (.iload_n 3, 1) := by decide +kernel
theorem dX3_init_31 : decode cX3_init 31 = .ok (.imul, 1) := by decide +kernel
theorem dX3_init_32 : decode cX3_init 32 = .ok (.putfield 33, 3) := by decide +kernel
theorem dX3_init_35 : decode cX3_init 35 = .ok (.aload_n 0, 1) := by decide +kernel
theorem dX3_init_36 : decode cX3_init 36 = .ok (.iconst 2, 1) := by decide +kernel
theorem dX3_init_37 : decode cX3_init 37 = .ok (.aload_n 0, 1) := by decide +kernel
theorem dX3_init_38 : decode cX3_init 38 = .ok (.getfield 33, 3) := by decide +kernel
theorem dX3_init_41 : decode cX3_init 41 = .ok (.imul, 1) := by decide +kernel
theorem dX3_init_42 : decode cX3_init 42 = .ok (.newarray .long, 2) := by decide +kernel
theorem dX3_init_44 : decode cX3_init 44 = .ok (.putfield 36, 3) := by decide +kernel
theorem dX3_init_47 : decode cX3_init 47 = .ok (.aload_n 0, 1) := by decide +kernel
theorem dX3_init_48 : decode cX3_init 48 = .ok (.iconst 2, 1) := by decide +kernel
theorem dX3_init_49 : decode cX3_init 49 = .ok (.aload_n 0, 1) := by decide +kernel
theorem dX3_init_50 : decode cX3_init 50 = .ok (.getfield 33, 3) := by decide +kernel
theorem dX3_init_53 : decode cX3_init 53 = .ok (.imul, 1) := by decide +kernel
theorem dX3_init_54 : decode cX3_init 54 = .ok (.newarray .long, 2) := by decide +kernel
theorem dX3_init_56 : decode cX3_init 56 = .ok (.putfield 40, 3) := by decide +kernel
theorem dX3_init_59 : decode cX3_init 59 = .ok (.aload_n 0, 1) := by decide +kernel
theorem dX3_init_60 : decode cX3_init 60 = .ok (.iconst 2, 1) := by decide +kernel
theorem dX3_init_61 : decode cX3_init 61 = .ok (.aload_n 0, 1) := by decide +kernel
theorem dX3_init_62 : decode cX3_init 62 = .ok (.getfield 33, 3) := by decide +kernel
theorem dX3_init_65 : decode cX3_init 65 = .ok (.imul, 1) := by decide +kernel
theorem dX3_init_66 : decode cX3_init 66 = .ok (.newarray .long, 2) := by decide +kernel
theorem dX3_init_68 : decode cX3_init 68 = .ok (.putfield 43, 3) := by decide +kernel
theorem dX3_init_71 : decode cX3_init 71 = .ok (.aload_n 0, 1) := by decide +kernel
theorem dX3_init_72 : decode cX3_init 72 = .ok (.iconst 2, 1) := by decide +kernel
theorem dX3_init_73 : decode cX3_init 73 = .ok (.aload_n 0, 1) := by decide +kernel
theorem dX3_init_74 : decode cX3_init 74 = .ok (.getfield 33, 3) := by decide +kernel
theorem dX3_init_77 : decode cX3_init 77 = .ok (.imul, 1) := by decide +kernel
theorem dX3_init_78 : decode cX3_init 78 = .ok (.iconst 5, 1) := by decide +kernel
theorem dX3_init_79 : decode cX3_init 79 = .ok (.imul, 1) := by decide +kernel
theorem dX3_init_80 : decode cX3_init 80 = .ok (.newarray .long, 2) := by decide +kernel
theorem dX3_init_82 : decode cX3_init 82 = .ok (.putfield 46, 3) := by decide +kernel
theorem dX3_init_85 : decode cX3_init 85 = .ok (.aload_n 0, 1) := by decide +kernel
theorem dX3_init_86 : decode cX3_init 86 = .ok (.iconst (-1), 1) := by decide +kernel
theorem dX3_init_87 : decode cX3_init 87 = .ok (.putfield 49, 3) := by decide +kernel
theorem dX3_init_90 : decode cX3_init 90 = .ok (.aload_n 0, 1) := by decide +kernel
theorem dX3_init_91 : decode cX3_init 91 = .ok (.iconst 0, 1) := by decide +kernel
theorem dX3_init_92 : decode cX3_init 92 = .ok (.putfield 52, 3) := by decide +kernel
theorem dX3_init_95 : decode cX3_init 95 = .ok (.return_, 1) := by decide +kernel
theorem dX3_rowOf_0 : decode cX3_rowOf 0 = .ok (.iload_n 1, 1) := by decide +kernel
theorem dX3_rowOf_1 : decode cX3_rowOf 1 = .ok (.aload_n 0, 1) := by decide +kernel
theorem dX3_rowOf_2 : decode cX3_rowOf 2 = .ok (.getfield 33, 3) := by decide +kernel
theorem dX3_rowOf_5 : decode cX3_rowOf 5 = .ok (.imul, 1) := by decide +kernel
theorem dX3_rowOf_6 : decode cX3_rowOf 6 = .ok (.iload_n 2, 1) := by decide +kernel
theorem dX3_rowOf_7 : decode cX3_rowOf 7 = .ok (.aload_n 0, 1) := by decide +kernel
theorem dX3_rowOf_8 : decode cX3_rowOf 8 = .ok (.getfield 9, 3) := by decide +kernel
theorem dX3_rowOf_11 : decode cX3_rowOf 11 = .ok (.getfield 19, 3) := by decide +kernel
theorem dX3_rowOf_14 : decode cX3_rowOf 14 = .ok (.imul, 1) := by decide +kernel
theorem dX3_rowOf_15 : decode cX3_rowOf 15 = .ok (.iadd, 1) := by decide +kernel
theorem dX3_rowOf_16 : decode cX3_rowOf 16 = .ok (.iload_n 3, 1) := by decide +kernel
theorem dX3_rowOf_17 : decode cX3_rowOf 17 = .ok (.iadd, 1) := by decide +kernel
theorem dX3_rowOf_18 : decode cX3_rowOf 18 = .ok (.ireturn, 1) := by decide +kernel
theorem dX3_at_0 : decode cX3_at 0 = .ok (.iload_n 1, 1) := by decide +kernel
theorem dX3_at_1 : decode cX3_at 1 = .ok (.ifCond .lt 9, 3) := by decide +kernel
theorem dX3_at_4 : decode cX3_at 4 = .ok (.iload_n 1, 1) := by decide +kernel
theorem dX3_at_5 : decode cX3_at 5 = .ok (.aload_n 0, 1) := by decide +kernel
theorem dX3_at_6 : decode cX3_at 6 = .ok (.arraylength, 1) := by decide +kernel
theorem dX3_at_7 : decode cX3_at 7 = .ok (.if_icmp .lt 7, 3) := by decide +kernel
theorem dX3_at_10 : decode cX3_at 10 = .ok (.lconst 0, 1) := by decide +kernel
theorem dX3_at_11 : decode cX3_at 11 = .ok (.goto 6, 3) := by decide +kernel
theorem dX3_at_14 : decode cX3_at 14 = .ok (.aload_n 0, 1) := by decide +kernel
theorem dX3_at_15 : decode cX3_at 15 = .ok (.iload_n 1, 1) := by decide +kernel
theorem dX3_at_16 : decode cX3_at 16 = .ok (.laload, 1) := by decide +kernel
theorem dX3_at_17 : decode cX3_at 17 = .ok (.lreturn, 1) := by decide +kernel
theorem dX3_put_0 : decode cX3_put 0 = .ok (.iload_n 1, 1) := by decide +kernel
theorem dX3_put_1 : decode cX3_put 1 = .ok (.ifCond .lt 13, 3) := by decide +kernel
theorem dX3_put_4 : decode cX3_put 4 = .ok (.iload_n 1, 1) := by decide +kernel
theorem dX3_put_5 : decode cX3_put 5 = .ok (.aload_n 0, 1) := by decide +kernel
theorem dX3_put_6 : decode cX3_put 6 = .ok (.arraylength, 1) := by decide +kernel
theorem dX3_put_7 : decode cX3_put 7 = .ok (.if_icmp .ge 7, 3) := by decide +kernel
theorem dX3_put_10 : decode cX3_put 10 = .ok (.aload_n 0, 1) := by decide +kernel
theorem dX3_put_11 : decode cX3_put 11 = .ok (.iload_n 1, 1) := by decide +kernel
theorem dX3_put_12 : decode cX3_put 12 = .ok (.lload_n 2, 1) := by decide +kernel
theorem dX3_put_13 : decode cX3_put 13 = .ok (.lastore, 1) := by decide +kernel
theorem dX3_put_14 : decode cX3_put 14 = .ok (.return_, 1) := by decide +kernel
theorem dX3_add_0 : decode cX3_add 0 = .ok (.iload_n 1, 1) := by decide +kernel
theorem dX3_add_1 : decode cX3_add 1 = .ok (.ifCond .lt 16, 3) := by decide +kernel
theorem dX3_add_4 : decode cX3_add 4 = .ok (.iload_n 1, 1) := by decide +kernel
theorem dX3_add_5 : decode cX3_add 5 = .ok (.aload_n 0, 1) := by decide +kernel
theorem dX3_add_6 : decode cX3_add 6 = .ok (.arraylength, 1) := by decide +kernel
theorem dX3_add_7 : decode cX3_add 7 = .ok (.if_icmp .ge 10, 3) := by decide +kernel
theorem dX3_add_10 : decode cX3_add 10 = .ok (.aload_n 0, 1) := by decide +kernel
theorem dX3_add_11 : decode cX3_add 11 = .ok (.iload_n 1, 1) := by decide +kernel
theorem dX3_add_12 : decode cX3_add 12 = .ok (.dup2, 1) := by decide +kernel
theorem dX3_add_13 : decode cX3_add 13 = .ok (.laload, 1) := by decide +kernel
theorem dX3_add_14 : decode cX3_add 14 = .ok (.lload_n 2, 1) := by decide +kernel
theorem dX3_add_15 : decode cX3_add 15 = .ok (.lor, 1) := by decide +kernel
theorem dX3_add_16 : decode cX3_add 16 = .ok (.lastore, 1) := by decide +kernel
theorem dX3_add_17 : decode cX3_add 17 = .ok (.return_, 1) := by decide +kernel
set_option maxRecDepth 20000 in
theorem ggX3_plies_X3_rowOf : GoodIn wsX3_plies wsX3_rowOf := goodIn_r _ [8, 3, 9, 19, 20, 21, 22, 23, 24, 25, 26, 27, 28, 29, 30, 31, 32, 33, 34, 35] (by decide +kernel) (by decide +kernel)
set_option maxRecDepth 20000 in
theorem gX3_plies_X3_rowOf : GoodIn wsX3_plies (wsV RX3 56 RX3 yX3_rowOf wsX3_rowOf) := goodIn_app (goodIn_of _ (by decide +kernel)) ggX3_plies_X3_rowOf
set_option maxRecDepth 20000 in
theorem ggX3_plies_X3_at : GoodIn wsX3_plies wsX3_at := goodIn_r _ [12] (by decide +kernel) (by decide +kernel)
set_option maxRecDepth 20000 in
theorem gX3_plies_X3_at : GoodIn wsX3_plies (va_wsS RX3 60 yX3_at wsX3_at) := goodIn_app (goodIn_of _ (by decide +kernel)) ggX3_plies_X3_at
set_option maxRecDepth 20000 in
theorem ggX3_plies_X0_bit : GoodIn wsX3_plies wsX0_bit := goodIn_r _ [15] (by decide +kernel) (by decide +kernel)
set_option maxRecDepth 20000 in
theorem gX3_plies_X0_bit_n64 : GoodIn wsX3_plies (wsX0_bit) := ggX3_plies_X0_bit
set_option maxRecDepth 20000 in
theorem ggX3_plies_X3_pliesFor : GoodIn wsX3_plies wsX3_pliesFor := goodIn_r _ [18] (by decide +kernel) (by decide +kernel)
set_option maxRecDepth 20000 in
theorem gX3_plies_X3_pliesFor : GoodIn wsX3_plies (va_wsS RX3 68 yX3_pliesFor wsX3_pliesFor) := goodIn_app (goodIn_of _ (by decide +kernel)) ggX3_plies_X3_pliesFor
theorem dX3_plies_0 : decode cX3_plies 0 = .ok (.aload_n 0, 1) := by decide +kernel
theorem dX3_plies_1 : decode cX3_plies 1 = .ok (.iload_n 1, 1) := by decide +kernel
theorem dX3_plies_2 : decode cX3_plies 2 = .ok (.iload_n 2, 1) := by decide +kernel
theorem dX3_plies_3 : decode cX3_plies 3 = .ok (.iload_n 3, 1) := by decide +kernel
theorem dX3_plies_4 : decode cX3_plies 4 = .ok (.invokevirtual 56, 3) := by decide +kernel
theorem dX3_plies_7 : decode cX3_plies 7 = .ok (.istore 5, 2) := by decide +kernel
theorem dX3_plies_9 : decode cX3_plies 9 = .ok (.aload_n 0, 1) := by decide +kernel
theorem dX3_plies_10 : decode cX3_plies 10 = .ok (.getfield 40, 3) := by decide +kernel
theorem dX3_plies_13 : decode cX3_plies 13 = .ok (.iload 5, 2) := by decide +kernel
theorem dX3_plies_15 : decode cX3_plies 15 = .ok (.invokestatic 60, 3) := by decide +kernel
theorem dX3_plies_18 : decode cX3_plies 18 = .ok (.iload 4, 2) := by decide +kernel
theorem dX3_plies_20 : decode cX3_plies 20 = .ok (.invokestatic 64, 3) := by decide +kernel
theorem dX3_plies_23 : decode cX3_plies 23 = .ok (.land, 1) := by decide +kernel
theorem dX3_plies_24 : decode cX3_plies 24 = .ok (.lconst 0, 1) := by decide +kernel
theorem dX3_plies_25 : decode cX3_plies 25 = .ok (.lcmp, 1) := by decide +kernel
theorem dX3_plies_26 : decode cX3_plies 26 = .ok (.ifCond .ne 5, 3) := by decide +kernel
theorem dX3_plies_29 : decode cX3_plies 29 = .ok (.iconst (-1), 1) := by decide +kernel
theorem dX3_plies_30 : decode cX3_plies 30 = .ok (.ireturn, 1) := by decide +kernel
theorem dX3_plies_31 : decode cX3_plies 31 = .ok (.iconst 0, 1) := by decide +kernel
theorem dX3_plies_32 : decode cX3_plies 32 = .ok (.istore 6, 2) := by decide +kernel
theorem dX3_plies_34 : decode cX3_plies 34 = .ok (.iconst 0, 1) := by decide +kernel
theorem dX3_plies_35 : decode cX3_plies 35 = .ok (.istore 7, 2) := by decide +kernel
theorem dX3_plies_37 : decode cX3_plies 37 = .ok (.iload 7, 2) := by decide +kernel
theorem dX3_plies_39 : decode cX3_plies 39 = .ok (.iconst 5, 1) := by decide +kernel
theorem dX3_plies_40 : decode cX3_plies 40 = .ok (.if_icmp .ge 48, 3) := by decide +kernel
theorem dX3_plies_43 : decode cX3_plies 43 = .ok (.aload_n 0, 1) := by decide +kernel
theorem dX3_plies_44 : decode cX3_plies 44 = .ok (.getfield 46, 3) := by decide +kernel
theorem dX3_plies_47 : decode cX3_plies 47 = .ok (.iload 7, 2) := by decide +kernel
theorem dX3_plies_49 : decode cX3_plies 49 = .ok (.iconst 2, 1) := by decide +kernel
theorem dX3_plies_50 : decode cX3_plies 50 = .ok (.imul, 1) := by decide +kernel
theorem dX3_plies_51 : decode cX3_plies 51 = .ok (.aload_n 0, 1) := by decide +kernel
theorem dX3_plies_52 : decode cX3_plies 52 = .ok (.getfield 33, 3) := by decide +kernel
theorem dX3_plies_55 : decode cX3_plies 55 = .ok (.imul, 1) := by decide +kernel
theorem dX3_plies_56 : decode cX3_plies 56 = .ok (.iload 5, 2) := by decide +kernel
theorem dX3_plies_58 : decode cX3_plies 58 = .ok (.iadd, 1) := by decide +kernel
theorem dX3_plies_59 : decode cX3_plies 59 = .ok (.invokestatic 60, 3) := by decide +kernel
theorem dX3_plies_62 : decode cX3_plies 62 = .ok (.iload 4, 2) := by decide +kernel
theorem dX3_plies_64 : decode cX3_plies 64 = .ok (.invokestatic 64, 3) := by decide +kernel
theorem dX3_plies_67 : decode cX3_plies 67 = .ok (.land, 1) := by decide +kernel
theorem dX3_plies_68 : decode cX3_plies 68 = .ok (.lconst 0, 1) := by decide +kernel
theorem dX3_plies_69 : decode cX3_plies 69 = .ok (.lcmp, 1) := by decide +kernel
theorem dX3_plies_70 : decode cX3_plies 70 = .ok (.ifCond .eq 12, 3) := by decide +kernel
theorem dX3_plies_73 : decode cX3_plies 73 = .ok (.iload 6, 2) := by decide +kernel
theorem dX3_plies_75 : decode cX3_plies 75 = .ok (.iconst 1, 1) := by decide +kernel
theorem dX3_plies_76 : decode cX3_plies 76 = .ok (.iload 7, 2) := by decide +kernel
theorem dX3_plies_78 : decode cX3_plies 78 = .ok (.ishl, 1) := by decide +kernel
theorem dX3_plies_79 : decode cX3_plies 79 = .ok (.ior, 1) := by decide +kernel
theorem dX3_plies_80 : decode cX3_plies 80 = .ok (.istore 6, 2) := by decide +kernel
theorem dX3_plies_82 : decode cX3_plies 82 = .ok (.iinc 7 1, 3) := by decide +kernel
theorem dX3_plies_85 : decode cX3_plies 85 = .ok (.goto (-48), 3) := by decide +kernel
theorem dX3_plies_88 : decode cX3_plies 88 = .ok (.iload_n 1, 1) := by decide +kernel
theorem dX3_plies_89 : decode cX3_plies 89 = .ok (.iload 6, 2) := by decide +kernel
theorem dX3_plies_91 : decode cX3_plies 91 = .ok (.invokestatic 68, 3) := by decide +kernel
theorem dX3_plies_94 : decode cX3_plies 94 = .ok (.ireturn, 1) := by decide +kernel
theorem dX3_pliesFor_0 : decode cX3_pliesFor 0 = .ok (.iload_n 0, 1) := by decide +kernel
theorem dX3_pliesFor_1 : decode cX3_pliesFor 1 = .ok (.ifCond .ne 11, 3) := by decide +kernel
theorem dX3_pliesFor_4 : decode cX3_pliesFor 4 = .ok (.iconst 2, 1) := by decide +kernel
theorem dX3_pliesFor_5 : decode cX3_pliesFor 5 = .ok (.iload_n 1, 1) := by decide +kernel
theorem dX3_pliesFor_6 : decode cX3_pliesFor 6 = .ok (.imul, 1) := by decide +kernel
theorem dX3_pliesFor_7 : decode cX3_pliesFor 7 = .ok (.iconst 1, 1) := by decide +kernel
theorem dX3_pliesFor_8 : decode cX3_pliesFor 8 = .ok (.iadd, 1) := by decide +kernel
theorem dX3_pliesFor_9 : decode cX3_pliesFor 9 = .ok (.goto 6, 3) := by decide +kernel
theorem dX3_pliesFor_12 : decode cX3_pliesFor 12 = .ok (.iconst 2, 1) := by decide +kernel
theorem dX3_pliesFor_13 : decode cX3_pliesFor 13 = .ok (.iload_n 1, 1) := by decide +kernel
theorem dX3_pliesFor_14 : decode cX3_pliesFor 14 = .ok (.imul, 1) := by decide +kernel
theorem dX3_pliesFor_15 : decode cX3_pliesFor 15 = .ok (.ireturn, 1) := by decide +kernel
set_option maxRecDepth 20000 in
theorem ggX3_having_X3_at : GoodIn wsX3_having wsX3_at := goodIn_r _ [9] (by decide +kernel) (by decide +kernel)
set_option maxRecDepth 20000 in
theorem gX3_having_X3_at : GoodIn wsX3_having (va_wsS RX3 60 yX3_at wsX3_at) := goodIn_app (goodIn_of _ (by decide +kernel)) ggX3_having_X3_at
set_option maxRecDepth 20000 in
theorem ggX3_having_X3_pliesFor : GoodIn wsX3_having wsX3_pliesFor := goodIn_r _ [12] (by decide +kernel) (by decide +kernel)
set_option maxRecDepth 20000 in
theorem gX3_having_X3_pliesFor : GoodIn wsX3_having (va_wsS RX3 68 yX3_pliesFor wsX3_pliesFor) := goodIn_app (goodIn_of _ (by decide +kernel)) ggX3_having_X3_pliesFor
theorem dX3_having_0 : decode cX3_having 0 = .ok (.iload_n 3, 1) := by decide +kernel
theorem dX3_having_1 : decode cX3_having 1 = .ok (.iconst (-1), 1) := by decide +kernel
theorem dX3_having_2 : decode cX3_having 2 = .ok (.if_icmp .ne 25, 3) := by decide +kernel
theorem dX3_having_5 : decode cX3_having 5 = .ok (.aload_n 0, 1) := by decide +kernel
theorem dX3_having_6 : decode cX3_having 6 = .ok (.getfield 36, 3) := by decide +kernel
theorem dX3_having_9 : decode cX3_having 9 = .ok (.iload_n 2, 1) := by decide +kernel
theorem dX3_having_10 : decode cX3_having 10 = .ok (.invokestatic 60, 3) := by decide +kernel
theorem dX3_having_13 : decode cX3_having 13 = .ok (.aload_n 0, 1) := by decide +kernel
theorem dX3_having_14 : decode cX3_having 14 = .ok (.getfield 40, 3) := by decide +kernel
theorem dX3_having_17 : decode cX3_having 17 = .ok (.iload_n 2, 1) := by decide +kernel
theorem dX3_having_18 : decode cX3_having 18 = .ok (.invokestatic 60, 3) := by decide +kernel
theorem dX3_having_21 : decode cX3_having 21 = .ok (.ldc2_w 71, 3) := by decide +kernel
theorem dX3_having_24 : decode cX3_having 24 = .ok (.lxor, 1) := by decide +kernel
theorem dX3_having_25 : decode cX3_having 25 = .ok (.land, 1) := by decide +kernel
theorem dX3_having_26 : decode cX3_having 26 = .ok (.lreturn, 1) := by decide +kernel
theorem dX3_having_27 : decode cX3_having 27 = .ok (.iload_n 3, 1) := by decide +kernel
theorem dX3_having_28 : decode cX3_having 28 = .ok (.iconst 1, 1) := by decide +kernel
theorem dX3_having_29 : decode cX3_having 29 = .ok (.ishr, 1) := by decide +kernel
theorem dX3_having_30 : decode cX3_having 30 = .ok (.istore 4, 2) := by decide +kernel
theorem dX3_having_32 : decode cX3_having 32 = .ok (.iload_n 3, 1) := by decide +kernel
theorem dX3_having_33 : decode cX3_having 33 = .ok (.ifCond .lt 20, 3) := by decide +kernel
theorem dX3_having_36 : decode cX3_having 36 = .ok (.iload 4, 2) := by decide +kernel
theorem dX3_having_38 : decode cX3_having 38 = .ok (.bipush 32, 2) := by decide +kernel
theorem dX3_having_40 : decode cX3_having 40 = .ok (.if_icmp .ge 13, 3) := by decide +kernel
theorem dX3_having_43 : decode cX3_having 43 = .ok (.iload_n 1, 1) := by decide +kernel
theorem dX3_having_44 : decode cX3_having 44 = .ok (.iload 4, 2) := by decide +kernel
theorem dX3_having_46 : decode cX3_having 46 = .ok (.invokestatic 68, 3) := by decide +kernel
theorem dX3_having_49 : decode cX3_having 49 = .ok (.iload_n 3, 1) := by decide +kernel
theorem dX3_having_50 : decode cX3_having 50 = .ok (.if_icmp .eq 5, 3) := by decide +kernel
theorem dX3_having_53 : decode cX3_having 53 = .ok (.lconst 0, 1) := by decide +kernel
theorem dX3_having_54 : decode cX3_having 54 = .ok (.lreturn, 1) := by decide +kernel
theorem dX3_having_55 : decode cX3_having 55 = .ok (.aload_n 0, 1) := by decide +kernel
theorem dX3_having_56 : decode cX3_having 56 = .ok (.getfield 40, 3) := by decide +kernel
theorem dX3_having_59 : decode cX3_having 59 = .ok (.iload_n 2, 1) := by decide +kernel
theorem dX3_having_60 : decode cX3_having 60 = .ok (.invokestatic 60, 3) := by decide +kernel
theorem dX3_having_63 : decode cX3_having 63 = .ok (.lstore 5, 2) := by decide +kernel
theorem dX3_having_65 : decode cX3_having 65 = .ok (.iconst 0, 1) := by decide +kernel
theorem dX3_having_66 : decode cX3_having 66 = .ok (.istore 7, 2) := by decide +kernel
theorem dX3_having_68 : decode cX3_having 68 = .ok (.iload 7, 2) := by decide +kernel
theorem dX3_having_70 : decode cX3_having 70 = .ok (.iconst 5, 1) := by decide +kernel
theorem dX3_having_71 : decode cX3_having 71 = .ok (.if_icmp .ge 56, 3) := by decide +kernel
theorem dX3_having_74 : decode cX3_having 74 = .ok (.aload_n 0, 1) := by decide +kernel
theorem dX3_having_75 : decode cX3_having 75 = .ok (.getfield 46, 3) := by decide +kernel
theorem dX3_having_78 : decode cX3_having 78 = .ok (.iload 7, 2) := by decide +kernel
theorem dX3_having_80 : decode cX3_having 80 = .ok (.iconst 2, 1) := by decide +kernel
theorem dX3_having_81 : decode cX3_having 81 = .ok (.imul, 1) := by decide +kernel
theorem dX3_having_82 : decode cX3_having 82 = .ok (.aload_n 0, 1) := by decide +kernel
theorem dX3_having_83 : decode cX3_having 83 = .ok (.getfield 33, 3) := by decide +kernel
theorem dX3_having_86 : decode cX3_having 86 = .ok (.imul, 1) := by decide +kernel
theorem dX3_having_87 : decode cX3_having 87 = .ok (.iload_n 2, 1) := by decide +kernel
theorem dX3_having_88 : decode cX3_having 88 = .ok (.iadd, 1) := by decide +kernel
theorem dX3_having_89 : decode cX3_having 89 = .ok (.invokestatic 60, 3) := by decide +kernel
theorem dX3_having_92 : decode cX3_having 92 = .ok (.lstore 8, 2) := by decide +kernel
theorem dX3_having_94 : decode cX3_having 94 = .ok (.lload 5, 2) := by decide +kernel
theorem dX3_having_96 : decode cX3_having 96 = .ok (.iload 4, 2) := by decide +kernel
theorem dX3_having_98 : decode cX3_having 98 = .ok (.iload 7, 2) := by decide +kernel
theorem dX3_having_100 : decode cX3_having 100 = .ok (.ishr, 1) := by decide +kernel
theorem dX3_having_101 : decode cX3_having 101 = .ok (.iconst 1, 1) := by decide +kernel
theorem dX3_having_102 : decode cX3_having 102 = .ok (.iand, 1) := by decide +kernel
theorem dX3_having_103 : decode cX3_having 103 = .ok (.iconst 1, 1) := by decide +kernel
theorem dX3_having_104 : decode cX3_having 104 = .ok (.if_icmp .ne 8, 3) := by decide +kernel
theorem dX3_having_107 : decode cX3_having 107 = .ok (.lload 8, 2) := by decide +kernel
theorem dX3_having_109 : decode cX3_having 109 = .ok (.goto 9, 3) := by decide +kernel
theorem dX3_having_112 : decode cX3_having 112 = .ok (.lload 8, 2) := by decide +kernel
theorem dX3_having_114 : decode cX3_having 114 = .ok (.ldc2_w 71, 3) := by decide +kernel
theorem dX3_having_117 : decode cX3_having 117 = .ok (.lxor, 1) := by decide +kernel
theorem dX3_having_118 : decode cX3_having 118 = .ok (.land, 1) := by decide +kernel
theorem dX3_having_119 : decode cX3_having 119 = .ok (.lstore 5, 2) := by decide +kernel
theorem dX3_having_121 : decode cX3_having 121 = .ok (.iinc 7 1, 3) := by decide +kernel
theorem dX3_having_124 : decode cX3_having 124 = .ok (.goto (-56), 3) := by decide +kernel
theorem dX3_having_127 : decode cX3_having 127 = .ok (.lload 5, 2) := by decide +kernel
theorem dX3_having_129 : decode cX3_having 129 = .ok (.lreturn, 1) := by decide +kernel
set_option maxRecDepth 20000 in
theorem ggX3_amount_X3_having : GoodIn wsX3_amount wsX3_having := goodIn_r _ [6, 7, 8, 9, 10, 1, 11, 12, 5, 13, 14, 15, 16, 24, 25, 26, 27, 28, 29, 30, 31, 32] (by decide +kernel) (by decide +kernel)
set_option maxRecDepth 20000 in
theorem gX3_amount_X3_having : GoodIn wsX3_amount (wsV RX3 73 RX3 yX3_having wsX3_having) := goodIn_app (goodIn_of _ (by decide +kernel)) ggX3_amount_X3_having
set_option maxRecDepth 20000 in
theorem ggX3_amount_J13_bitCount_95d88 : GoodIn wsX3_amount wsJ13_bitCount_95d88 := goodIn_r _ [20, 21, 22, 23] (by decide +kernel) (by decide +kernel)
set_option maxRecDepth 20000 in
theorem gX3_amount_J13_bitCount_95d88 : GoodIn wsX3_amount (va_wsS RX3 77 yJ13_bitCount_95d88 wsJ13_bitCount_95d88) := goodIn_app (goodIn_of _ (by decide +kernel)) ggX3_amount_J13_bitCount_95d88
theorem dX3_amount_0 : decode cX3_amount 0 = .ok (.iconst 0, 1) := by decide +kernel
theorem dX3_amount_1 : decode cX3_amount 1 = .ok (.istore_n 3, 1) := by decide +kernel
theorem dX3_amount_2 : decode cX3_amount 2 = .ok (.iconst 0, 1) := by decide +kernel
theorem dX3_amount_3 : decode cX3_amount 3 = .ok (.istore 4, 2) := by decide +kernel
theorem dX3_amount_5 : decode cX3_amount 5 = .ok (.iload 4, 2) := by decide +kernel
theorem dX3_amount_7 : decode cX3_amount 7 = .ok (.aload_n 0, 1) := by decide +kernel
theorem dX3_amount_8 : decode cX3_amount 8 = .ok (.getfield 33, 3) := by decide +kernel
theorem dX3_amount_11 : decode cX3_amount 11 = .ok (.if_icmp .ge 30, 3) := by decide +kernel
theorem dX3_amount_14 : decode cX3_amount 14 = .ok (.iload_n 3, 1) := by decide +kernel
theorem dX3_amount_15 : decode cX3_amount 15 = .ok (.aload_n 0, 1) := by decide +kernel
theorem dX3_amount_16 : decode cX3_amount 16 = .ok (.iload_n 1, 1) := by decide +kernel
theorem dX3_amount_17 : decode cX3_amount 17 = .ok (.iload_n 1, 1) := by decide +kernel
theorem dX3_amount_18 : decode cX3_amount 18 = .ok (.aload_n 0, 1) := by decide +kernel
theorem dX3_amount_19 : decode cX3_amount 19 = .ok (.getfield 33, 3) := by decide +kernel
theorem dX3_amount_22 : decode cX3_amount 22 = .ok (.imul, 1) := by decide +kernel
theorem dX3_amount_23 : decode cX3_amount 23 = .ok (.iload 4, 2) := by decide +kernel
theorem dX3_amount_25 : decode cX3_amount 25 = .ok (.iadd, 1) := by decide +kernel
theorem dX3_amount_26 : decode cX3_amount 26 = .ok (.iload_n 2, 1) := by decide +kernel
theorem dX3_amount_27 : decode cX3_amount 27 = .ok (.invokevirtual 73, 3) := by decide +kernel
theorem dX3_amount_30 : decode cX3_amount 30 = .ok (.invokestatic 77, 3) := by decide +kernel
theorem dX3_amount_33 : decode cX3_amount 33 = .ok (.iadd, 1) := by decide +kernel
theorem dX3_amount_34 : decode cX3_amount 34 = .ok (.istore_n 3, 1) := by decide +kernel
theorem dX3_amount_35 : decode cX3_amount 35 = .ok (.iinc 4 1, 3) := by decide +kernel
theorem dX3_amount_38 : decode cX3_amount 38 = .ok (.goto (-33), 3) := by decide +kernel
theorem dX3_amount_41 : decode cX3_amount 41 = .ok (.iload_n 3, 1) := by decide +kernel
theorem dX3_amount_42 : decode cX3_amount 42 = .ok (.ireturn, 1) := by decide +kernel
set_option maxRecDepth 20000 in
theorem ggX3_pick_X3_rowOf : GoodIn wsX3_pick wsX3_rowOf := goodIn_r _ [6, 7, 1, 41, 42, 43, 44, 45, 46, 47, 48, 49, 50, 51, 52, 53, 54, 55, 56, 57] (by decide +kernel) (by decide +kernel)
set_option maxRecDepth 20000 in
theorem gX3_pick_X3_rowOf : GoodIn wsX3_pick (wsV RX3 56 RX3 yX3_rowOf wsX3_rowOf) := goodIn_app (goodIn_of _ (by decide +kernel)) ggX3_pick_X3_rowOf
set_option maxRecDepth 20000 in
theorem ggX3_pick_X3_having : GoodIn wsX3_pick wsX3_having := goodIn_r _ [11, 12, 13, 14, 15, 7, 16, 17, 5, 18, 19, 20, 21, 41, 42, 43, 44, 45, 46, 47, 48, 49] (by decide +kernel) (by decide +kernel)
set_option maxRecDepth 20000 in
theorem gX3_pick_X3_having : GoodIn wsX3_pick (wsV RX3 73 RX3 yX3_having wsX3_having) := goodIn_app (goodIn_of _ (by decide +kernel)) ggX3_pick_X3_having
set_option maxRecDepth 20000 in
theorem ggX3_pick_J13_bitCount_95d88 : GoodIn wsX3_pick wsJ13_bitCount_95d88 := goodIn_r _ [25, 26, 27, 28] (by decide +kernel) (by decide +kernel)
set_option maxRecDepth 20000 in
theorem gX3_pick_J13_bitCount_95d88 : GoodIn wsX3_pick (va_wsS RX3 77 yJ13_bitCount_95d88 wsJ13_bitCount_95d88) := goodIn_app (goodIn_of _ (by decide +kernel)) ggX3_pick_J13_bitCount_95d88
set_option maxRecDepth 20000 in
theorem ggX3_pick_X3_withoutLowest : GoodIn wsX3_pick wsX3_withoutLowest := goodIn_r _ [31] (by decide +kernel) (by decide +kernel)
set_option maxRecDepth 20000 in
theorem gX3_pick_X3_withoutLowest : GoodIn wsX3_pick (va_wsS RX3 83 yX3_withoutLowest wsX3_withoutLowest) := goodIn_app (goodIn_of _ (by decide +kernel)) ggX3_pick_X3_withoutLowest
set_option maxRecDepth 20000 in
theorem ggX3_pick_X3_lowest : GoodIn wsX3_pick wsX3_lowest := goodIn_r _ [34, 22, 23, 24, 25, 26, 27, 28] (by decide +kernel) (by decide +kernel)
set_option maxRecDepth 20000 in
theorem gX3_pick_X3_lowest : GoodIn wsX3_pick (va_wsS RX3 87 yX3_lowest wsX3_lowest) := goodIn_app (goodIn_of _ (by decide +kernel)) ggX3_pick_X3_lowest
set_option maxRecDepth 20000 in
theorem ggX3_pick_X0_squareOf : GoodIn wsX3_pick wsX0_squareOf := goodIn_r _ [38, 39, 40, 50, 51, 52, 53, 54, 55, 56, 57] (by decide +kernel) (by decide +kernel)
set_option maxRecDepth 20000 in
theorem gX3_pick_X0_squareOf_n90 : GoodIn wsX3_pick (wsX0_squareOf) := ggX3_pick_X0_squareOf
theorem dX3_pick_0 : decode cX3_pick 0 = .ok (.iload_n 3, 1) := by decide +kernel
theorem dX3_pick_1 : decode cX3_pick 1 = .ok (.istore 4, 2) := by decide +kernel
theorem dX3_pick_3 : decode cX3_pick 3 = .ok (.iconst 0, 1) := by decide +kernel
theorem dX3_pick_4 : decode cX3_pick 4 = .ok (.istore 5, 2) := by decide +kernel
theorem dX3_pick_6 : decode cX3_pick 6 = .ok (.iload 5, 2) := by decide +kernel
theorem dX3_pick_8 : decode cX3_pick 8 = .ok (.aload_n 0, 1) := by decide +kernel
theorem dX3_pick_9 : decode cX3_pick 9 = .ok (.getfield 9, 3) := by decide +kernel
theorem dX3_pick_12 : decode cX3_pick 12 = .ok (.getfield 19, 3) := by decide +kernel
theorem dX3_pick_15 : decode cX3_pick 15 = .ok (.if_icmp .ge 122, 3) := by decide +kernel
theorem dX3_pick_18 : decode cX3_pick 18 = .ok (.iload 4, 2) := by decide +kernel
theorem dX3_pick_20 : decode cX3_pick 20 = .ok (.ifCond .lt 117, 3) := by decide +kernel
theorem dX3_pick_23 : decode cX3_pick 23 = .ok (.iconst 0, 1) := by decide +kernel
theorem dX3_pick_24 : decode cX3_pick 24 = .ok (.istore 6, 2) := by decide +kernel
theorem dX3_pick_26 : decode cX3_pick 26 = .ok (.iload 6, 2) := by decide +kernel
theorem dX3_pick_28 : decode cX3_pick 28 = .ok (.aload_n 0, 1) := by decide +kernel
theorem dX3_pick_29 : decode cX3_pick 29 = .ok (.getfield 9, 3) := by decide +kernel
theorem dX3_pick_32 : decode cX3_pick 32 = .ok (.getfield 19, 3) := by decide +kernel
theorem dX3_pick_35 : decode cX3_pick 35 = .ok (.if_icmp .ge 96, 3) := by decide +kernel
theorem dX3_pick_38 : decode cX3_pick 38 = .ok (.aload_n 0, 1) := by decide +kernel
theorem dX3_pick_39 : decode cX3_pick 39 = .ok (.iload_n 1, 1) := by decide +kernel
theorem dX3_pick_40 : decode cX3_pick 40 = .ok (.aload_n 0, 1) := by decide +kernel
theorem dX3_pick_41 : decode cX3_pick 41 = .ok (.iload_n 1, 1) := by decide +kernel
theorem dX3_pick_42 : decode cX3_pick 42 = .ok (.iload 5, 2) := by decide +kernel
theorem dX3_pick_44 : decode cX3_pick 44 = .ok (.iload 6, 2) := by decide +kernel
theorem dX3_pick_46 : decode cX3_pick 46 = .ok (.invokevirtual 56, 3) := by decide +kernel
theorem dX3_pick_49 : decode cX3_pick 49 = .ok (.iload_n 2, 1) := by decide +kernel
theorem dX3_pick_50 : decode cX3_pick 50 = .ok (.invokevirtual 73, 3) := by decide +kernel
theorem dX3_pick_53 : decode cX3_pick 53 = .ok (.lstore 7, 2) := by decide +kernel
theorem dX3_pick_55 : decode cX3_pick 55 = .ok (.lload 7, 2) := by decide +kernel
theorem dX3_pick_57 : decode cX3_pick 57 = .ok (.invokestatic 77, 3) := by decide +kernel
theorem dX3_pick_60 : decode cX3_pick 60 = .ok (.istore 9, 2) := by decide +kernel
theorem dX3_pick_62 : decode cX3_pick 62 = .ok (.iload 4, 2) := by decide +kernel
theorem dX3_pick_64 : decode cX3_pick 64 = .ok (.iload 9, 2) := by decide +kernel
theorem dX3_pick_66 : decode cX3_pick 66 = .ok (.if_icmp .ge 52, 3) := by decide +kernel
theorem dX3_pick_69 : decode cX3_pick 69 = .ok (.lload 7, 2) := by decide +kernel
theorem dX3_pick_71 : decode cX3_pick 71 = .ok (.iload 4, 2) := by decide +kernel
theorem dX3_pick_73 : decode cX3_pick 73 = .ok (.invokestatic 83, 3) := by decide +kernel
theorem dX3_pick_76 : decode cX3_pick 76 = .ok (.invokestatic 87, 3) := by decide +kernel
theorem dX3_pick_79 : decode cX3_pick 79 = .ok (.istore 10, 2) := by decide +kernel
theorem dX3_pick_81 : decode cX3_pick 81 = .ok (.aload_n 0, 1) := by decide +kernel
theorem dX3_pick_82 : decode cX3_pick 82 = .ok (.getfield 9, 3) := by decide +kernel
theorem dX3_pick_85 : decode cX3_pick 85 = .ok (.iload 5, 2) := by decide +kernel
theorem dX3_pick_87 : decode cX3_pick 87 = .ok (.invokevirtual 90, 3) := by decide +kernel
theorem dX3_pick_90 : decode cX3_pick 90 = .ok (.bipush 64, 2) := by decide +kernel
theorem dX3_pick_92 : decode cX3_pick 92 = .ok (.aload_n 0, 1) := by decide +kernel
theorem dX3_pick_93 : decode cX3_pick 93 = .ok (.getfield 9, 3) := by decide +kernel
theorem dX3_pick_96 : decode cX3_pick 96 = .ok (.iload 6, 2) := by decide +kernel
theorem dX3_pick_98 : decode cX3_pick 98 = .ok (.invokevirtual 90, 3) := by decide +kernel
theorem dX3_pick_101 : decode cX3_pick 101 = .ok (.imul, 1) := by decide +kernel
theorem dX3_pick_102 : decode cX3_pick 102 = .ok (.iadd, 1) := by decide +kernel
theorem dX3_pick_103 : decode cX3_pick 103 = .ok (.sipush 4096, 3) := by decide +kernel
theorem dX3_pick_106 : decode cX3_pick 106 = .ok (.aload_n 0, 1) := by decide +kernel
theorem dX3_pick_107 : decode cX3_pick 107 = .ok (.getfield 9, 3) := by decide +kernel
theorem dX3_pick_110 : decode cX3_pick 110 = .ok (.iload 10, 2) := by decide +kernel
theorem dX3_pick_112 : decode cX3_pick 112 = .ok (.invokevirtual 90, 3) := by decide +kernel
theorem dX3_pick_115 : decode cX3_pick 115 = .ok (.imul, 1) := by decide +kernel
theorem dX3_pick_116 : decode cX3_pick 116 = .ok (.iadd, 1) := by decide +kernel
theorem dX3_pick_117 : decode cX3_pick 117 = .ok (.ireturn, 1) := by decide +kernel
theorem dX3_pick_118 : decode cX3_pick 118 = .ok (.iload 4, 2) := by decide +kernel
theorem dX3_pick_120 : decode cX3_pick 120 = .ok (.iload 9, 2) := by decide +kernel
theorem dX3_pick_122 : decode cX3_pick 122 = .ok (.isub, 1) := by decide +kernel
theorem dX3_pick_123 : decode cX3_pick 123 = .ok (.istore 4, 2) := by decide +kernel
theorem dX3_pick_125 : decode cX3_pick 125 = .ok (.iinc 6 1, 3) := by decide +kernel
theorem dX3_pick_128 : decode cX3_pick 128 = .ok (.goto (-102), 3) := by decide +kernel
theorem dX3_pick_131 : decode cX3_pick 131 = .ok (.iinc 5 1, 3) := by decide +kernel
theorem dX3_pick_134 : decode cX3_pick 134 = .ok (.goto (-128), 3) := by decide +kernel
theorem dX3_pick_137 : decode cX3_pick 137 = .ok (.iconst (-1), 1) := by decide +kernel
theorem dX3_pick_138 : decode cX3_pick 138 = .ok (.ireturn, 1) := by decide +kernel
set_option maxRecDepth 20000 in
theorem ggX3_lowest_J13_bitCount_95d88 : GoodIn wsX3_lowest wsJ13_bitCount_95d88 := goodIn_r _ [4, 5, 6, 7] (by decide +kernel) (by decide +kernel)
set_option maxRecDepth 20000 in
theorem gX3_lowest_J13_bitCount_95d88 : GoodIn wsX3_lowest (va_wsS RX3 77 yJ13_bitCount_95d88 wsJ13_bitCount_95d88) := goodIn_app (goodIn_of _ (by decide +kernel)) ggX3_lowest_J13_bitCount_95d88
theorem dX3_lowest_0 : decode cX3_lowest 0 = .ok (.lload_n 0, 1) := by decide +kernel
theorem dX3_lowest_1 : decode cX3_lowest 1 = .ok (.lload_n 0, 1) := by decide +kernel
theorem dX3_lowest_2 : decode cX3_lowest 2 = .ok (.lneg, 1) := by decide +kernel
theorem dX3_lowest_3 : decode cX3_lowest 3 = .ok (.land, 1) := by decide +kernel
theorem dX3_lowest_4 : decode cX3_lowest 4 = .ok (.lconst 1, 1) := by decide +kernel
theorem dX3_lowest_5 : decode cX3_lowest 5 = .ok (.lsub, 1) := by decide +kernel
theorem dX3_lowest_6 : decode cX3_lowest 6 = .ok (.invokestatic 77, 3) := by decide +kernel
theorem dX3_lowest_9 : decode cX3_lowest 9 = .ok (.ireturn, 1) := by decide +kernel
theorem dX3_withoutLowest_0 : decode cX3_withoutLowest 0 = .ok (.lload_n 0, 1) := by decide +kernel
theorem dX3_withoutLowest_1 : decode cX3_withoutLowest 1 = .ok (.lstore_n 3, 1) := by decide +kernel
theorem dX3_withoutLowest_2 : decode cX3_withoutLowest 2 = .ok (.iconst 0, 1) := by decide +kernel
theorem dX3_withoutLowest_3 : decode cX3_withoutLowest 3 = .ok (.istore 5, 2) := by decide +kernel
theorem dX3_withoutLowest_5 : decode cX3_withoutLowest 5 = .ok (.iload 5, 2) := by decide +kernel
theorem dX3_withoutLowest_7 : decode cX3_withoutLowest 7 = .ok (.iload_n 2, 1) := by decide +kernel
theorem dX3_withoutLowest_8 : decode cX3_withoutLowest 8 = .ok (.if_icmp .ge 15, 3) := by decide +kernel
theorem dX3_withoutLowest_11 : decode cX3_withoutLowest 11 = .ok (.lload_n 3, 1) := by decide +kernel
theorem dX3_withoutLowest_12 : decode cX3_withoutLowest 12 = .ok (.lload_n 3, 1) := by decide +kernel
theorem dX3_withoutLowest_13 : decode cX3_withoutLowest 13 = .ok (.lconst 1, 1) := by decide +kernel
theorem dX3_withoutLowest_14 : decode cX3_withoutLowest 14 = .ok (.lsub, 1) := by decide +kernel
theorem dX3_withoutLowest_15 : decode cX3_withoutLowest 15 = .ok (.land, 1) := by decide +kernel
theorem dX3_withoutLowest_16 : decode cX3_withoutLowest 16 = .ok (.lstore_n 3, 1) := by decide +kernel
theorem dX3_withoutLowest_17 : decode cX3_withoutLowest 17 = .ok (.iinc 5 1, 3) := by decide +kernel
theorem dX3_withoutLowest_20 : decode cX3_withoutLowest 20 = .ok (.goto (-15), 3) := by decide +kernel
theorem dX3_withoutLowest_23 : decode cX3_withoutLowest 23 = .ok (.lload_n 3, 1) := by decide +kernel
theorem dX3_withoutLowest_24 : decode cX3_withoutLowest 24 = .ok (.lreturn, 1) := by decide +kernel
set_option maxRecDepth 20000 in
theorem ggX3_solve_X3_fillValid : GoodIn wsX3_solve wsX3_fillValid := goodIn_r _ [6, 7, 8, 9, 10, 11, 12, 13, 14, 15, 16, 17, 18, 19, 20, 21, 22, 23, 24, 25, 26, 27, 28, 29, 30, 31, 32, 33, 34, 35, 36, 37, 38, 39, 40, 41, 42, 43, 44, 45, 46, 47, 48, 49, 50, 51, 52, 53, 54, 55, 56, 57, 58, 59, 60, 61, 62, 63, 64, 65, 5, 66, 67, 68, 69, 70, 140, 141, 142, 143, 144, 145, 146, 147, 148, 149, 150, 151, 152, 153, 154, 155, 156] (by decide +kernel) (by decide +kernel)
set_option maxRecDepth 20000 in
theorem gX3_solve_X3_fillValid : GoodIn wsX3_solve (wsV RX3 94 RX3 yX3_fillValid wsX3_fillValid) := goodIn_app (goodIn_of _ (by decide +kernel)) ggX3_solve_X3_fillValid
set_option maxRecDepth 20000 in
theorem ggX3_solve_X3_findBlack : GoodIn wsX3_solve wsX3_findBlack := goodIn_r _ [74, 7, 75, 67, 63, 64, 65, 5, 66, 76, 77, 78, 79, 80, 81, 82, 9, 83, 10, 37, 12, 38, 33, 34, 35, 36, 39, 40, 41, 42, 43, 16, 44, 45, 15, 68, 69, 70, 84, 85, 86, 87, 88, 89, 90, 91, 92, 93, 94, 95, 96, 97, 98, 99, 140, 141, 142, 143, 144, 145, 146, 147, 148, 149, 150, 151, 152, 153, 154, 155, 156] (by decide +kernel) (by decide +kernel)
set_option maxRecDepth 20000 in
theorem gX3_solve_X3_findBlack : GoodIn wsX3_solve (wsV RX3 97 RX3 yX3_findBlack wsX3_findBlack) := goodIn_app (goodIn_of _ (by decide +kernel)) ggX3_solve_X3_findBlack
set_option maxRecDepth 20000 in
theorem ggX3_solve_X3_findWhite : GoodIn wsX3_solve wsX3_findWhite := goodIn_r _ [103, 7, 75, 8, 63, 64, 65, 5, 66, 67, 76, 77, 78, 104, 105, 106, 107, 108, 109, 110, 111, 10, 33, 12, 34, 35, 36, 37, 38, 39, 40, 41, 42, 43, 16, 44, 45, 15, 112, 113, 114, 115, 9, 83, 94, 95, 96, 116, 117, 118, 119, 50, 51, 52, 21, 53, 24, 25, 26, 27, 28, 29, 30, 31, 120, 121, 122, 123, 46, 47, 48, 49, 54, 55, 56, 57, 58, 59, 60, 61, 62, 124, 125, 126, 127, 128, 129, 130, 131, 132, 133, 134, 135, 88, 97, 98, 99, 136, 137, 138, 139, 84, 85, 86, 87, 89, 90, 91, 92, 93, 140, 141, 142, 143, 144, 145, 146, 147, 148, 149, 150, 151, 152, 153, 154, 155, 156] (by decide +kernel) (by decide +kernel)
set_option maxRecDepth 20000 in
theorem gX3_solve_X3_findWhite : GoodIn wsX3_solve (wsV RX3 101 RX3 yX3_findWhite wsX3_findWhite) := goodIn_app (goodIn_of _ (by decide +kernel)) ggX3_solve_X3_findWhite
theorem dX3_solve_0 : decode cX3_solve 0 = .ok (.aload_n 0, 1) := by decide +kernel
theorem dX3_solve_1 : decode cX3_solve 1 = .ok (.invokevirtual 94, 3) := by decide +kernel
theorem dX3_solve_4 : decode cX3_solve 4 = .ok (.iconst 0, 1) := by decide +kernel
theorem dX3_solve_5 : decode cX3_solve 5 = .ok (.istore_n 2, 1) := by decide +kernel
theorem dX3_solve_6 : decode cX3_solve 6 = .ok (.iload_n 2, 1) := by decide +kernel
theorem dX3_solve_7 : decode cX3_solve 7 = .ok (.bipush 32, 2) := by decide +kernel
theorem dX3_solve_9 : decode cX3_solve 9 = .ok (.if_icmp .ge 20, 3) := by decide +kernel
theorem dX3_solve_12 : decode cX3_solve 12 = .ok (.aload_n 0, 1) := by decide +kernel
theorem dX3_solve_13 : decode cX3_solve 13 = .ok (.iload_n 2, 1) := by decide +kernel
theorem dX3_solve_14 : decode cX3_solve 14 = .ok (.invokevirtual 97, 3) := by decide +kernel
theorem dX3_solve_17 : decode cX3_solve 17 = .ok (.aload_n 0, 1) := by decide +kernel
theorem dX3_solve_18 : decode cX3_solve 18 = .ok (.iload_n 2, 1) := by decide +kernel
theorem dX3_solve_19 : decode cX3_solve 19 = .ok (.aload_n 1, 1) := by decide +kernel
theorem dX3_solve_20 : decode cX3_solve 20 = .ok (.invokevirtual 101, 3) := by decide +kernel
theorem dX3_solve_23 : decode cX3_solve 23 = .ok (.iinc 2 1, 3) := by decide +kernel
theorem dX3_solve_26 : decode cX3_solve 26 = .ok (.goto (-20), 3) := by decide +kernel
theorem dX3_solve_29 : decode cX3_solve 29 = .ok (.aload_n 0, 1) := by decide +kernel
theorem dX3_solve_30 : decode cX3_solve 30 = .ok (.iconst 1, 1) := by decide +kernel
theorem dX3_solve_31 : decode cX3_solve 31 = .ok (.putfield 52, 3) := by decide +kernel
theorem dX3_solve_34 : decode cX3_solve 34 = .ok (.return_, 1) := by decide +kernel
set_option maxRecDepth 20000 in
theorem ggX3_fillValid_X0_roomForBlack : GoodIn wsX3_fillValid wsX0_roomForBlack := goodIn_r _ [8, 9, 10, 11, 12, 13, 6, 14, 15, 16, 17, 18, 19, 20, 21, 22, 23, 24, 25, 26, 27, 28, 29, 30, 31, 32, 33, 34, 35, 36, 37, 38, 39, 75, 76, 77, 78, 79, 80, 81, 82] (by decide +kernel) (by decide +kernel)
set_option maxRecDepth 20000 in
theorem gX3_fillValid_X0_roomForBlack_n105 : GoodIn wsX3_fillValid (wsX0_roomForBlack) := ggX3_fillValid_X0_roomForBlack
set_option maxRecDepth 20000 in
theorem ggX3_fillValid_X0_bit : GoodIn wsX3_fillValid wsX0_bit := goodIn_r _ [32] (by decide +kernel) (by decide +kernel)
set_option maxRecDepth 20000 in
theorem gX3_fillValid_X0_bit_n64 : GoodIn wsX3_fillValid (wsX0_bit) := ggX3_fillValid_X0_bit
set_option maxRecDepth 20000 in
theorem ggX3_fillValid_X0_attacked : GoodIn wsX3_fillValid wsX0_attacked := goodIn_r _ [42, 43, 44, 45, 6, 46, 15, 47, 30, 31, 32, 48, 49, 50, 51, 52, 53, 54, 55, 56, 75, 76, 77, 78, 79, 80, 81, 82] (by decide +kernel) (by decide +kernel)
set_option maxRecDepth 20000 in
theorem gX3_fillValid_X0_attacked_n108 : GoodIn wsX3_fillValid (wsX0_attacked) := ggX3_fillValid_X0_attacked
set_option maxRecDepth 20000 in
theorem ggX3_fillValid_X3_rowOf : GoodIn wsX3_fillValid wsX3_rowOf := goodIn_r _ [61, 62, 1, 66, 67, 68, 69, 70, 71, 72, 73, 74, 75, 76, 77, 78, 79, 80, 81, 82] (by decide +kernel) (by decide +kernel)
set_option maxRecDepth 20000 in
theorem gX3_fillValid_X3_rowOf : GoodIn wsX3_fillValid (wsV RX3 56 RX3 yX3_rowOf wsX3_rowOf) := goodIn_app (goodIn_of _ (by decide +kernel)) ggX3_fillValid_X3_rowOf
set_option maxRecDepth 20000 in
theorem ggX3_fillValid_X3_put : GoodIn wsX3_fillValid wsX3_put := goodIn_r _ [65] (by decide +kernel) (by decide +kernel)
set_option maxRecDepth 20000 in
theorem gX3_fillValid_X3_put : GoodIn wsX3_fillValid (va_wsS RX3 112 yX3_put wsX3_put) := goodIn_app (goodIn_of _ (by decide +kernel)) ggX3_fillValid_X3_put
theorem dX3_fillValid_0 : decode cX3_fillValid 0 = .ok (.iconst 0, 1) := by decide +kernel
theorem dX3_fillValid_1 : decode cX3_fillValid 1 = .ok (.istore_n 1, 1) := by decide +kernel
theorem dX3_fillValid_2 : decode cX3_fillValid 2 = .ok (.iload_n 1, 1) := by decide +kernel
theorem dX3_fillValid_3 : decode cX3_fillValid 3 = .ok (.aload_n 0, 1) := by decide +kernel
theorem dX3_fillValid_4 : decode cX3_fillValid 4 = .ok (.getfield 9, 3) := by decide +kernel
theorem dX3_fillValid_7 : decode cX3_fillValid 7 = .ok (.getfield 19, 3) := by decide +kernel
theorem dX3_fillValid_10 : decode cX3_fillValid 10 = .ok (.if_icmp .ge 97, 3) := by decide +kernel
theorem dX3_fillValid_13 : decode cX3_fillValid 13 = .ok (.iconst 0, 1) := by decide +kernel
theorem dX3_fillValid_14 : decode cX3_fillValid 14 = .ok (.istore_n 2, 1) := by decide +kernel
theorem dX3_fillValid_15 : decode cX3_fillValid 15 = .ok (.iload_n 2, 1) := by decide +kernel
theorem dX3_fillValid_16 : decode cX3_fillValid 16 = .ok (.aload_n 0, 1) := by decide +kernel
theorem dX3_fillValid_17 : decode cX3_fillValid 17 = .ok (.getfield 9, 3) := by decide +kernel
theorem dX3_fillValid_20 : decode cX3_fillValid 20 = .ok (.getfield 19, 3) := by decide +kernel
theorem dX3_fillValid_23 : decode cX3_fillValid 23 = .ok (.if_icmp .ge 78, 3) := by decide +kernel
theorem dX3_fillValid_26 : decode cX3_fillValid 26 = .ok (.aload_n 0, 1) := by decide +kernel
theorem dX3_fillValid_27 : decode cX3_fillValid 27 = .ok (.getfield 9, 3) := by decide +kernel
theorem dX3_fillValid_30 : decode cX3_fillValid 30 = .ok (.aload_n 0, 1) := by decide +kernel
theorem dX3_fillValid_31 : decode cX3_fillValid 31 = .ok (.getfield 15, 3) := by decide +kernel
theorem dX3_fillValid_34 : decode cX3_fillValid 34 = .ok (.iload_n 1, 1) := by decide +kernel
theorem dX3_fillValid_35 : decode cX3_fillValid 35 = .ok (.iload_n 2, 1) := by decide +kernel
theorem dX3_fillValid_36 : decode cX3_fillValid 36 = .ok (.invokevirtual 105, 3) := by decide +kernel
theorem dX3_fillValid_39 : decode cX3_fillValid 39 = .ok (.lstore_n 3, 1) := by decide +kernel
theorem dX3_fillValid_40 : decode cX3_fillValid 40 = .ok (.aload_n 0, 1) := by decide +kernel
theorem dX3_fillValid_41 : decode cX3_fillValid 41 = .ok (.getfield 9, 3) := by decide +kernel
theorem dX3_fillValid_44 : decode cX3_fillValid 44 = .ok (.aload_n 0, 1) := by decide +kernel
theorem dX3_fillValid_45 : decode cX3_fillValid 45 = .ok (.getfield 15, 3) := by decide +kernel
theorem dX3_fillValid_48 : decode cX3_fillValid 48 = .ok (.iload_n 2, 1) := by decide +kernel
theorem dX3_fillValid_49 : decode cX3_fillValid 49 = .ok (.iload_n 1, 1) := by decide +kernel
theorem dX3_fillValid_50 : decode cX3_fillValid 50 = .ok (.invokestatic 64, 3) := by decide +kernel
theorem dX3_fillValid_53 : decode cX3_fillValid 53 = .ok (.invokevirtual 108, 3) := by decide +kernel
theorem dX3_fillValid_56 : decode cX3_fillValid 56 = .ok (.lstore 5, 2) := by decide +kernel
theorem dX3_fillValid_58 : decode cX3_fillValid 58 = .ok (.aload_n 0, 1) := by decide +kernel
theorem dX3_fillValid_59 : decode cX3_fillValid 59 = .ok (.getfield 36, 3) := by decide +kernel
theorem dX3_fillValid_62 : decode cX3_fillValid 62 = .ok (.aload_n 0, 1) := by decide +kernel
theorem dX3_fillValid_63 : decode cX3_fillValid 63 = .ok (.iconst 1, 1) := by decide +kernel
theorem dX3_fillValid_64 : decode cX3_fillValid 64 = .ok (.iload_n 1, 1) := by decide +kernel
theorem dX3_fillValid_65 : decode cX3_fillValid 65 = .ok (.iload_n 2, 1) := by decide +kernel
theorem dX3_fillValid_66 : decode cX3_fillValid 66 = .ok (.invokevirtual 56, 3) := by decide +kernel
theorem dX3_fillValid_69 : decode cX3_fillValid 69 = .ok (.lload_n 3, 1) := by decide +kernel
theorem dX3_fillValid_70 : decode cX3_fillValid 70 = .ok (.invokestatic 112, 3) := by decide +kernel
theorem dX3_fillValid_73 : decode cX3_fillValid 73 = .ok (.aload_n 0, 1) := by decide +kernel
theorem dX3_fillValid_74 : decode cX3_fillValid 74 = .ok (.getfield 36, 3) := by decide +kernel
theorem dX3_fillValid_77 : decode cX3_fillValid 77 = .ok (.aload_n 0, 1) := by decide +kernel
theorem dX3_fillValid_78 : decode cX3_fillValid 78 = .ok (.iconst 0, 1) := by decide +kernel
theorem dX3_fillValid_79 : decode cX3_fillValid 79 = .ok (.iload_n 1, 1) := by decide +kernel
theorem dX3_fillValid_80 : decode cX3_fillValid 80 = .ok (.iload_n 2, 1) := by decide +kernel
theorem dX3_fillValid_81 : decode cX3_fillValid 81 = .ok (.invokevirtual 56, 3) := by decide +kernel
theorem dX3_fillValid_84 : decode cX3_fillValid 84 = .ok (.lload_n 3, 1) := by decide +kernel
theorem dX3_fillValid_85 : decode cX3_fillValid 85 = .ok (.lload 5, 2) := by decide +kernel
theorem dX3_fillValid_87 : decode cX3_fillValid 87 = .ok (.ldc2_w 71, 3) := by decide +kernel
theorem dX3_fillValid_90 : decode cX3_fillValid 90 = .ok (.lxor, 1) := by decide +kernel
theorem dX3_fillValid_91 : decode cX3_fillValid 91 = .ok (.land, 1) := by decide +kernel
theorem dX3_fillValid_92 : decode cX3_fillValid 92 = .ok (.invokestatic 112, 3) := by decide +kernel
theorem dX3_fillValid_95 : decode cX3_fillValid 95 = .ok (.iinc 2 1, 3) := by decide +kernel
theorem dX3_fillValid_98 : decode cX3_fillValid 98 = .ok (.goto (-83), 3) := by decide +kernel
theorem dX3_fillValid_101 : decode cX3_fillValid 101 = .ok (.iinc 1 1, 3) := by decide +kernel
theorem dX3_fillValid_104 : decode cX3_fillValid 104 = .ok (.goto (-102), 3) := by decide +kernel
theorem dX3_fillValid_107 : decode cX3_fillValid 107 = .ok (.return_, 1) := by decide +kernel
set_option maxRecDepth 20000 in
theorem ggX3_findBlack_X3_rowOf : GoodIn wsX3_findBlack wsX3_rowOf := goodIn_r _ [8, 3, 1, 54, 55, 56, 57, 58, 59, 60, 61, 62, 63, 64, 65, 66, 67, 68, 69, 70] (by decide +kernel) (by decide +kernel)
set_option maxRecDepth 20000 in
theorem gX3_findBlack_X3_rowOf : GoodIn wsX3_findBlack (wsV RX3 56 RX3 yX3_rowOf wsX3_rowOf) := goodIn_app (goodIn_of _ (by decide +kernel)) ggX3_findBlack_X3_rowOf
set_option maxRecDepth 20000 in
theorem ggX3_findBlack_X3_at : GoodIn wsX3_findBlack wsX3_at := goodIn_r _ [11] (by decide +kernel) (by decide +kernel)
set_option maxRecDepth 20000 in
theorem gX3_findBlack_X3_at : GoodIn wsX3_findBlack (va_wsS RX3 60 yX3_at wsX3_at) := goodIn_app (goodIn_of _ (by decide +kernel)) ggX3_findBlack_X3_at
set_option maxRecDepth 20000 in
theorem ggX3_findBlack_X3_lostIn : GoodIn wsX3_findBlack wsX3_lostIn := goodIn_r _ [15, 16, 3, 17, 18, 1, 4, 5, 6, 7, 8, 9, 10, 11, 19, 20, 21, 22, 23, 24, 25, 26, 27, 28, 29, 30, 31, 32, 33, 34, 54, 55, 56, 57, 58, 59, 60, 61, 62, 63, 64, 65, 66, 67, 68, 69, 70] (by decide +kernel) (by decide +kernel)
set_option maxRecDepth 20000 in
theorem gX3_findBlack_X3_lostIn : GoodIn wsX3_findBlack (wsV RX3 116 RX3 yX3_lostIn wsX3_lostIn) := goodIn_app (goodIn_of _ (by decide +kernel)) ggX3_findBlack_X3_lostIn
set_option maxRecDepth 20000 in
theorem ggX3_findBlack_X3_put : GoodIn wsX3_findBlack wsX3_put := goodIn_r _ [37] (by decide +kernel) (by decide +kernel)
set_option maxRecDepth 20000 in
theorem gX3_findBlack_X3_put : GoodIn wsX3_findBlack (va_wsS RX3 112 yX3_put wsX3_put) := goodIn_app (goodIn_of _ (by decide +kernel)) ggX3_findBlack_X3_put
set_option maxRecDepth 20000 in
theorem ggX3_findBlack_X3_keep : GoodIn wsX3_findBlack wsX3_keep := goodIn_r _ [41, 17, 42, 3, 43, 44, 45, 46, 47, 48, 49, 7, 50, 51, 52, 53, 54, 55, 56, 57, 58, 59, 60, 61, 62] (by decide +kernel) (by decide +kernel)
set_option maxRecDepth 20000 in
theorem gX3_findBlack_X3_keep : GoodIn wsX3_findBlack (wsV RX3 120 RX3 yX3_keep wsX3_keep) := goodIn_app (goodIn_of _ (by decide +kernel)) ggX3_findBlack_X3_keep
theorem dX3_findBlack_0 : decode cX3_findBlack 0 = .ok (.iconst 0, 1) := by decide +kernel
theorem dX3_findBlack_1 : decode cX3_findBlack 1 = .ok (.istore_n 2, 1) := by decide +kernel
theorem dX3_findBlack_2 : decode cX3_findBlack 2 = .ok (.iload_n 2, 1) := by decide +kernel
theorem dX3_findBlack_3 : decode cX3_findBlack 3 = .ok (.aload_n 0, 1) := by decide +kernel
theorem dX3_findBlack_4 : decode cX3_findBlack 4 = .ok (.getfield 9, 3) := by decide +kernel
theorem dX3_findBlack_7 : decode cX3_findBlack 7 = .ok (.getfield 19, 3) := by decide +kernel
theorem dX3_findBlack_10 : decode cX3_findBlack 10 = .ok (.if_icmp .ge 120, 3) := by decide +kernel
theorem dX3_findBlack_13 : decode cX3_findBlack 13 = .ok (.iconst 0, 1) := by decide +kernel
theorem dX3_findBlack_14 : decode cX3_findBlack 14 = .ok (.istore_n 3, 1) := by decide +kernel
theorem dX3_findBlack_15 : decode cX3_findBlack 15 = .ok (.iload_n 3, 1) := by decide +kernel
theorem dX3_findBlack_16 : decode cX3_findBlack 16 = .ok (.aload_n 0, 1) := by decide +kernel
theorem dX3_findBlack_17 : decode cX3_findBlack 17 = .ok (.getfield 9, 3) := by decide +kernel
theorem dX3_findBlack_20 : decode cX3_findBlack 20 = .ok (.getfield 19, 3) := by decide +kernel
theorem dX3_findBlack_23 : decode cX3_findBlack 23 = .ok (.if_icmp .ge 101, 3) := by decide +kernel
theorem dX3_findBlack_26 : decode cX3_findBlack 26 = .ok (.aload_n 0, 1) := by decide +kernel
theorem dX3_findBlack_27 : decode cX3_findBlack 27 = .ok (.iconst 0, 1) := by decide +kernel
theorem dX3_findBlack_28 : decode cX3_findBlack 28 = .ok (.iload_n 2, 1) := by decide +kernel
theorem dX3_findBlack_29 : decode cX3_findBlack 29 = .ok (.iload_n 3, 1) := by decide +kernel
theorem dX3_findBlack_30 : decode cX3_findBlack 30 = .ok (.invokevirtual 56, 3) := by decide +kernel
theorem dX3_findBlack_33 : decode cX3_findBlack 33 = .ok (.istore 4, 2) := by decide +kernel
theorem dX3_findBlack_35 : decode cX3_findBlack 35 = .ok (.iload_n 1, 1) := by decide +kernel
theorem dX3_findBlack_36 : decode cX3_findBlack 36 = .ok (.ifCond .eq 17, 3) := by decide +kernel
theorem dX3_findBlack_39 : decode cX3_findBlack 39 = .ok (.aload_n 0, 1) := by decide +kernel
theorem dX3_findBlack_40 : decode cX3_findBlack 40 = .ok (.getfield 43, 3) := by decide +kernel
theorem dX3_findBlack_43 : decode cX3_findBlack 43 = .ok (.iload 4, 2) := by decide +kernel
theorem dX3_findBlack_45 : decode cX3_findBlack 45 = .ok (.invokestatic 60, 3) := by decide +kernel
theorem dX3_findBlack_48 : decode cX3_findBlack 48 = .ok (.lconst 0, 1) := by decide +kernel
theorem dX3_findBlack_49 : decode cX3_findBlack 49 = .ok (.lcmp, 1) := by decide +kernel
theorem dX3_findBlack_50 : decode cX3_findBlack 50 = .ok (.ifCond .eq 7, 3) := by decide +kernel
theorem dX3_findBlack_53 : decode cX3_findBlack 53 = .ok (.iconst 1, 1) := by decide +kernel
theorem dX3_findBlack_54 : decode cX3_findBlack 54 = .ok (.goto 4, 3) := by decide +kernel
theorem dX3_findBlack_57 : decode cX3_findBlack 57 = .ok (.iconst 0, 1) := by decide +kernel
theorem dX3_findBlack_58 : decode cX3_findBlack 58 = .ok (.istore 5, 2) := by decide +kernel
theorem dX3_findBlack_60 : decode cX3_findBlack 60 = .ok (.iload 5, 2) := by decide +kernel
theorem dX3_findBlack_62 : decode cX3_findBlack 62 = .ok (.ifCond .eq 12, 3) := by decide +kernel
theorem dX3_findBlack_65 : decode cX3_findBlack 65 = .ok (.aload_n 0, 1) := by decide +kernel
theorem dX3_findBlack_66 : decode cX3_findBlack 66 = .ok (.iload_n 2, 1) := by decide +kernel
theorem dX3_findBlack_67 : decode cX3_findBlack 67 = .ok (.iload_n 3, 1) := by decide +kernel
theorem dX3_findBlack_68 : decode cX3_findBlack 68 = .ok (.invokevirtual 116, 3) := by decide +kernel
theorem dX3_findBlack_71 : decode cX3_findBlack 71 = .ok (.goto 4, 3) := by decide +kernel
theorem dX3_findBlack_74 : decode cX3_findBlack 74 = .ok (.lconst 0, 1) := by decide +kernel
theorem dX3_findBlack_75 : decode cX3_findBlack 75 = .ok (.lstore 6, 2) := by decide +kernel
theorem dX3_findBlack_77 : decode cX3_findBlack 77 = .ok (.aload_n 0, 1) := by decide +kernel
theorem dX3_findBlack_78 : decode cX3_findBlack 78 = .ok (.getfield 43, 3) := by decide +kernel
theorem dX3_findBlack_81 : decode cX3_findBlack 81 = .ok (.iload 4, 2) := by decide +kernel
theorem dX3_findBlack_83 : decode cX3_findBlack 83 = .ok (.lconst 0, 1) := by decide +kernel
theorem dX3_findBlack_84 : decode cX3_findBlack 84 = .ok (.invokestatic 112, 3) := by decide +kernel
theorem dX3_findBlack_87 : decode cX3_findBlack 87 = .ok (.aload_n 0, 1) := by decide +kernel
theorem dX3_findBlack_88 : decode cX3_findBlack 88 = .ok (.getfield 43, 3) := by decide +kernel
theorem dX3_findBlack_91 : decode cX3_findBlack 91 = .ok (.aload_n 0, 1) := by decide +kernel
theorem dX3_findBlack_92 : decode cX3_findBlack 92 = .ok (.getfield 33, 3) := by decide +kernel
theorem dX3_findBlack_95 : decode cX3_findBlack 95 = .ok (.iload 4, 2) := by decide +kernel
theorem dX3_findBlack_97 : decode cX3_findBlack 97 = .ok (.iadd, 1) := by decide +kernel
theorem dX3_findBlack_98 : decode cX3_findBlack 98 = .ok (.lload 6, 2) := by decide +kernel
theorem dX3_findBlack_100 : decode cX3_findBlack 100 = .ok (.invokestatic 112, 3) := by decide +kernel
theorem dX3_findBlack_103 : decode cX3_findBlack 103 = .ok (.aload_n 0, 1) := by decide +kernel
theorem dX3_findBlack_104 : decode cX3_findBlack 104 = .ok (.iconst 1, 1) := by decide +kernel
theorem dX3_findBlack_105 : decode cX3_findBlack 105 = .ok (.aload_n 0, 1) := by decide +kernel
theorem dX3_findBlack_106 : decode cX3_findBlack 106 = .ok (.getfield 33, 3) := by decide +kernel
theorem dX3_findBlack_109 : decode cX3_findBlack 109 = .ok (.iload 4, 2) := by decide +kernel
theorem dX3_findBlack_111 : decode cX3_findBlack 111 = .ok (.iadd, 1) := by decide +kernel
theorem dX3_findBlack_112 : decode cX3_findBlack 112 = .ok (.iload_n 1, 1) := by decide +kernel
theorem dX3_findBlack_113 : decode cX3_findBlack 113 = .ok (.lload 6, 2) := by decide +kernel
theorem dX3_findBlack_115 : decode cX3_findBlack 115 = .ok (.invokevirtual 120, 3) := by decide +kernel
theorem dX3_findBlack_118 : decode cX3_findBlack 118 = .ok (.iinc 3 1, 3) := by decide +kernel
theorem dX3_findBlack_121 : decode cX3_findBlack 121 = .ok (.goto (-106), 3) := by decide +kernel
theorem dX3_findBlack_124 : decode cX3_findBlack 124 = .ok (.iinc 2 1, 3) := by decide +kernel
theorem dX3_findBlack_127 : decode cX3_findBlack 127 = .ok (.goto (-125), 3) := by decide +kernel
theorem dX3_findBlack_130 : decode cX3_findBlack 130 = .ok (.return_, 1) := by decide +kernel
set_option maxRecDepth 20000 in
theorem ggX3_lostIn_X3_rowOf : GoodIn wsX3_lostIn wsX3_rowOf := goodIn_r _ [10, 2, 5, 30, 31, 32, 33, 34, 35, 36, 37, 38, 39, 40, 41, 42, 43, 44, 45, 46] (by decide +kernel) (by decide +kernel)
set_option maxRecDepth 20000 in
theorem gX3_lostIn_X3_rowOf : GoodIn wsX3_lostIn (wsV RX3 56 RX3 yX3_rowOf wsX3_rowOf) := goodIn_app (goodIn_of _ (by decide +kernel)) ggX3_lostIn_X3_rowOf
set_option maxRecDepth 20000 in
theorem ggX3_lostIn_X3_at : GoodIn wsX3_lostIn wsX3_at := goodIn_r _ [13] (by decide +kernel) (by decide +kernel)
set_option maxRecDepth 20000 in
theorem gX3_lostIn_X3_at : GoodIn wsX3_lostIn (va_wsS RX3 60 yX3_at wsX3_at) := goodIn_app (goodIn_of _ (by decide +kernel)) ggX3_lostIn_X3_at
set_option maxRecDepth 20000 in
theorem ggX3_lostIn_X0_bit : GoodIn wsX3_lostIn wsX0_bit := goodIn_r _ [16] (by decide +kernel) (by decide +kernel)
set_option maxRecDepth 20000 in
theorem gX3_lostIn_X0_bit_n64 : GoodIn wsX3_lostIn (wsX0_bit) := ggX3_lostIn_X0_bit
set_option maxRecDepth 20000 in
theorem ggX3_lostIn_X0_around : GoodIn wsX3_lostIn wsX0_around := goodIn_r _ [19, 20, 14, 15, 16, 21, 22, 23, 24, 25, 26, 27, 28, 29, 39, 40, 41, 42, 43, 44, 45, 46] (by decide +kernel) (by decide +kernel)
set_option maxRecDepth 20000 in
theorem gX3_lostIn_X0_around_n124 : GoodIn wsX3_lostIn (wsX0_around) := ggX3_lostIn_X0_around
set_option maxRecDepth 20000 in
theorem ggX3_lostIn_X0_nextTo : GoodIn wsX3_lostIn wsX0_nextTo := goodIn_r _ [24, 25, 26, 27, 28, 29, 39, 40, 41, 42, 43, 44, 45, 46] (by decide +kernel) (by decide +kernel)
set_option maxRecDepth 20000 in
theorem gX3_lostIn_X0_nextTo_n127 : GoodIn wsX3_lostIn (wsX0_nextTo) := ggX3_lostIn_X0_nextTo
theorem dX3_lostIn_0 : decode cX3_lostIn 0 = .ok (.aload_n 0, 1) := by decide +kernel
theorem dX3_lostIn_1 : decode cX3_lostIn 1 = .ok (.iconst 0, 1) := by decide +kernel
theorem dX3_lostIn_2 : decode cX3_lostIn 2 = .ok (.iload_n 1, 1) := by decide +kernel
theorem dX3_lostIn_3 : decode cX3_lostIn 3 = .ok (.iload_n 2, 1) := by decide +kernel
theorem dX3_lostIn_4 : decode cX3_lostIn 4 = .ok (.invokevirtual 56, 3) := by decide +kernel
theorem dX3_lostIn_7 : decode cX3_lostIn 7 = .ok (.istore_n 3, 1) := by decide +kernel
theorem dX3_lostIn_8 : decode cX3_lostIn 8 = .ok (.aload_n 0, 1) := by decide +kernel
theorem dX3_lostIn_9 : decode cX3_lostIn 9 = .ok (.getfield 36, 3) := by decide +kernel
theorem dX3_lostIn_12 : decode cX3_lostIn 12 = .ok (.aload_n 0, 1) := by decide +kernel
theorem dX3_lostIn_13 : decode cX3_lostIn 13 = .ok (.getfield 33, 3) := by decide +kernel
theorem dX3_lostIn_16 : decode cX3_lostIn 16 = .ok (.iload_n 3, 1) := by decide +kernel
theorem dX3_lostIn_17 : decode cX3_lostIn 17 = .ok (.iadd, 1) := by decide +kernel
theorem dX3_lostIn_18 : decode cX3_lostIn 18 = .ok (.invokestatic 60, 3) := by decide +kernel
theorem dX3_lostIn_21 : decode cX3_lostIn 21 = .ok (.aload_n 0, 1) := by decide +kernel
theorem dX3_lostIn_22 : decode cX3_lostIn 22 = .ok (.getfield 40, 3) := by decide +kernel
theorem dX3_lostIn_25 : decode cX3_lostIn 25 = .ok (.aload_n 0, 1) := by decide +kernel
theorem dX3_lostIn_26 : decode cX3_lostIn 26 = .ok (.getfield 33, 3) := by decide +kernel
theorem dX3_lostIn_29 : decode cX3_lostIn 29 = .ok (.iload_n 3, 1) := by decide +kernel
theorem dX3_lostIn_30 : decode cX3_lostIn 30 = .ok (.iadd, 1) := by decide +kernel
theorem dX3_lostIn_31 : decode cX3_lostIn 31 = .ok (.invokestatic 60, 3) := by decide +kernel
theorem dX3_lostIn_34 : decode cX3_lostIn 34 = .ok (.ldc2_w 71, 3) := by decide +kernel
theorem dX3_lostIn_37 : decode cX3_lostIn 37 = .ok (.lxor, 1) := by decide +kernel
theorem dX3_lostIn_38 : decode cX3_lostIn 38 = .ok (.land, 1) := by decide +kernel
theorem dX3_lostIn_39 : decode cX3_lostIn 39 = .ok (.lstore 4, 2) := by decide +kernel
theorem dX3_lostIn_41 : decode cX3_lostIn 41 = .ok (.aload_n 0, 1) := by decide +kernel
theorem dX3_lostIn_42 : decode cX3_lostIn 42 = .ok (.getfield 36, 3) := by decide +kernel
theorem dX3_lostIn_45 : decode cX3_lostIn 45 = .ok (.aload_n 0, 1) := by decide +kernel
theorem dX3_lostIn_46 : decode cX3_lostIn 46 = .ok (.getfield 33, 3) := by decide +kernel
theorem dX3_lostIn_49 : decode cX3_lostIn 49 = .ok (.iload_n 3, 1) := by decide +kernel
theorem dX3_lostIn_50 : decode cX3_lostIn 50 = .ok (.iadd, 1) := by decide +kernel
theorem dX3_lostIn_51 : decode cX3_lostIn 51 = .ok (.invokestatic 60, 3) := by decide +kernel
theorem dX3_lostIn_54 : decode cX3_lostIn 54 = .ok (.aload_n 0, 1) := by decide +kernel
theorem dX3_lostIn_55 : decode cX3_lostIn 55 = .ok (.getfield 36, 3) := by decide +kernel
theorem dX3_lostIn_58 : decode cX3_lostIn 58 = .ok (.iload_n 3, 1) := by decide +kernel
theorem dX3_lostIn_59 : decode cX3_lostIn 59 = .ok (.invokestatic 60, 3) := by decide +kernel
theorem dX3_lostIn_62 : decode cX3_lostIn 62 = .ok (.ldc2_w 71, 3) := by decide +kernel
theorem dX3_lostIn_65 : decode cX3_lostIn 65 = .ok (.lxor, 1) := by decide +kernel
theorem dX3_lostIn_66 : decode cX3_lostIn 66 = .ok (.land, 1) := by decide +kernel
theorem dX3_lostIn_67 : decode cX3_lostIn 67 = .ok (.lstore 6, 2) := by decide +kernel
theorem dX3_lostIn_69 : decode cX3_lostIn 69 = .ok (.iload_n 2, 1) := by decide +kernel
theorem dX3_lostIn_70 : decode cX3_lostIn 70 = .ok (.invokestatic 64, 3) := by decide +kernel
theorem dX3_lostIn_73 : decode cX3_lostIn 73 = .ok (.aload_n 0, 1) := by decide +kernel
theorem dX3_lostIn_74 : decode cX3_lostIn 74 = .ok (.getfield 9, 3) := by decide +kernel
theorem dX3_lostIn_77 : decode cX3_lostIn 77 = .ok (.iload_n 1, 1) := by decide +kernel
theorem dX3_lostIn_78 : decode cX3_lostIn 78 = .ok (.invokevirtual 124, 3) := by decide +kernel
theorem dX3_lostIn_81 : decode cX3_lostIn 81 = .ok (.ldc2_w 71, 3) := by decide +kernel
theorem dX3_lostIn_84 : decode cX3_lostIn 84 = .ok (.lxor, 1) := by decide +kernel
theorem dX3_lostIn_85 : decode cX3_lostIn 85 = .ok (.land, 1) := by decide +kernel
theorem dX3_lostIn_86 : decode cX3_lostIn 86 = .ok (.lstore 8, 2) := by decide +kernel
theorem dX3_lostIn_88 : decode cX3_lostIn 88 = .ok (.aload_n 0, 1) := by decide +kernel
theorem dX3_lostIn_89 : decode cX3_lostIn 89 = .ok (.getfield 36, 3) := by decide +kernel
theorem dX3_lostIn_92 : decode cX3_lostIn 92 = .ok (.iload_n 3, 1) := by decide +kernel
theorem dX3_lostIn_93 : decode cX3_lostIn 93 = .ok (.invokestatic 60, 3) := by decide +kernel
theorem dX3_lostIn_96 : decode cX3_lostIn 96 = .ok (.lload 8, 2) := by decide +kernel
theorem dX3_lostIn_98 : decode cX3_lostIn 98 = .ok (.lor, 1) := by decide +kernel
theorem dX3_lostIn_99 : decode cX3_lostIn 99 = .ok (.lstore 10, 2) := by decide +kernel
theorem dX3_lostIn_101 : decode cX3_lostIn 101 = .ok (.lload 10, 2) := by decide +kernel
theorem dX3_lostIn_103 : decode cX3_lostIn 103 = .ok (.aload_n 0, 1) := by decide +kernel
theorem dX3_lostIn_104 : decode cX3_lostIn 104 = .ok (.getfield 40, 3) := by decide +kernel
theorem dX3_lostIn_107 : decode cX3_lostIn 107 = .ok (.iload_n 3, 1) := by decide +kernel
theorem dX3_lostIn_108 : decode cX3_lostIn 108 = .ok (.invokestatic 60, 3) := by decide +kernel
theorem dX3_lostIn_111 : decode cX3_lostIn 111 = .ok (.ldc2_w 71, 3) := by decide +kernel
theorem dX3_lostIn_114 : decode cX3_lostIn 114 = .ok (.lxor, 1) := by decide +kernel
theorem dX3_lostIn_115 : decode cX3_lostIn 115 = .ok (.land, 1) := by decide +kernel
theorem dX3_lostIn_116 : decode cX3_lostIn 116 = .ok (.lstore 12, 2) := by decide +kernel
theorem dX3_lostIn_118 : decode cX3_lostIn 118 = .ok (.lload 4, 2) := by decide +kernel
theorem dX3_lostIn_120 : decode cX3_lostIn 120 = .ok (.aload_n 0, 1) := by decide +kernel
theorem dX3_lostIn_121 : decode cX3_lostIn 121 = .ok (.getfield 9, 3) := by decide +kernel
theorem dX3_lostIn_124 : decode cX3_lostIn 124 = .ok (.lload 12, 2) := by decide +kernel
theorem dX3_lostIn_126 : decode cX3_lostIn 126 = .ok (.invokevirtual 127, 3) := by decide +kernel
theorem dX3_lostIn_129 : decode cX3_lostIn 129 = .ok (.ldc2_w 71, 3) := by decide +kernel
theorem dX3_lostIn_132 : decode cX3_lostIn 132 = .ok (.lxor, 1) := by decide +kernel
theorem dX3_lostIn_133 : decode cX3_lostIn 133 = .ok (.land, 1) := by decide +kernel
theorem dX3_lostIn_134 : decode cX3_lostIn 134 = .ok (.lload 6, 2) := by decide +kernel
theorem dX3_lostIn_136 : decode cX3_lostIn 136 = .ok (.aload_n 0, 1) := by decide +kernel
theorem dX3_lostIn_137 : decode cX3_lostIn 137 = .ok (.getfield 9, 3) := by decide +kernel
theorem dX3_lostIn_140 : decode cX3_lostIn 140 = .ok (.lload 10, 2) := by decide +kernel
theorem dX3_lostIn_142 : decode cX3_lostIn 142 = .ok (.invokevirtual 127, 3) := by decide +kernel
theorem dX3_lostIn_145 : decode cX3_lostIn 145 = .ok (.lor, 1) := by decide +kernel
theorem dX3_lostIn_146 : decode cX3_lostIn 146 = .ok (.land, 1) := by decide +kernel
theorem dX3_lostIn_147 : decode cX3_lostIn 147 = .ok (.lreturn, 1) := by decide +kernel
set_option maxRecDepth 20000 in
theorem ggX3_findWhite_X3_rowOf : GoodIn wsX3_findWhite wsX3_rowOf := goodIn_r _ [8, 9, 1, 110, 111, 112, 113, 114, 115, 116, 117, 118, 119, 120, 121, 122, 123, 124, 125, 126] (by decide +kernel) (by decide +kernel)
set_option maxRecDepth 20000 in
theorem gX3_findWhite_X3_rowOf : GoodIn wsX3_findWhite (wsV RX3 56 RX3 yX3_rowOf wsX3_rowOf) := goodIn_app (goodIn_of _ (by decide +kernel)) ggX3_findWhite_X3_rowOf
set_option maxRecDepth 20000 in
theorem ggX3_findWhite_X3_at : GoodIn wsX3_findWhite wsX3_at := goodIn_r _ [12] (by decide +kernel) (by decide +kernel)
set_option maxRecDepth 20000 in
theorem gX3_findWhite_X3_at : GoodIn wsX3_findWhite (va_wsS RX3 60 yX3_at wsX3_at) := goodIn_app (goodIn_of _ (by decide +kernel)) ggX3_findWhite_X3_at
set_option maxRecDepth 20000 in
theorem ggX3_findWhite_X3_goBack : GoodIn wsX3_findWhite wsX3_goBack := goodIn_r _ [16, 3, 17, 18, 19, 7, 20, 1, 21, 22, 23, 24, 25, 26, 27, 28, 29, 30, 31, 32, 33, 34, 35, 36, 37, 38, 39, 40, 41, 2, 42, 43, 4, 5, 6, 8, 9, 10, 11, 12, 44, 45, 46, 47, 48, 49, 50, 51, 52, 53, 54, 55, 56, 57, 58, 59, 60, 61, 62, 63, 64, 65, 66, 67, 68, 69, 70, 71, 72, 73, 74, 75, 76, 77, 78, 79, 80, 110, 111, 112, 113, 114, 115, 116, 117, 118, 119, 120, 121, 122, 123, 124, 125, 126] (by decide +kernel) (by decide +kernel)
set_option maxRecDepth 20000 in
theorem gX3_findWhite_X3_goBack : GoodIn wsX3_findWhite (wsV RX3 131 RX3 yX3_goBack wsX3_goBack) := goodIn_app (goodIn_of _ (by decide +kernel)) ggX3_findWhite_X3_goBack
set_option maxRecDepth 20000 in
theorem ggX3_findWhite_X3_findPromotions : GoodIn wsX3_findWhite wsX3_findPromotions := goodIn_r _ [84, 1, 51, 23, 52, 53, 54, 55, 56, 57, 58, 59, 60, 61, 62, 63, 85, 86, 87, 7, 88, 4, 5, 6, 8, 9, 89, 90, 91, 92, 42, 43, 21, 93, 10, 11, 12, 94, 95, 96, 38, 39, 40, 41, 2, 44, 45, 46, 110, 111, 112, 113, 114, 115, 116, 117, 118, 119, 120, 121, 122, 123, 124, 125, 126] (by decide +kernel) (by decide +kernel)
set_option maxRecDepth 20000 in
theorem gX3_findWhite_X3_findPromotions : GoodIn wsX3_findWhite (wsV RX3 135 RX3 yX3_findPromotions wsX3_findPromotions) := goodIn_app (goodIn_of _ (by decide +kernel)) ggX3_findWhite_X3_findPromotions
set_option maxRecDepth 20000 in
theorem ggX3_findWhite_X3_keepFresh : GoodIn wsX3_findWhite wsX3_keepFresh := goodIn_r _ [100, 9, 2, 10, 11, 7, 12, 101, 102, 103, 104, 43, 93, 105, 106, 107, 108, 109, 44, 45, 46, 94, 95, 96, 110, 111, 112, 113, 114, 115, 116, 117, 118] (by decide +kernel) (by decide +kernel)
set_option maxRecDepth 20000 in
theorem gX3_findWhite_X3_keepFresh : GoodIn wsX3_findWhite (wsV RX3 138 RX3 yX3_keepFresh wsX3_keepFresh) := goodIn_app (goodIn_of _ (by decide +kernel)) ggX3_findWhite_X3_keepFresh
theorem dX3_findWhite_0 : decode cX3_findWhite 0 = .ok (.iconst 0, 1) := by decide +kernel
theorem dX3_findWhite_1 : decode cX3_findWhite 1 = .ok (.istore_n 3, 1) := by decide +kernel
theorem dX3_findWhite_2 : decode cX3_findWhite 2 = .ok (.iload_n 3, 1) := by decide +kernel
theorem dX3_findWhite_3 : decode cX3_findWhite 3 = .ok (.aload_n 0, 1) := by decide +kernel
theorem dX3_findWhite_4 : decode cX3_findWhite 4 = .ok (.getfield 9, 3) := by decide +kernel
theorem dX3_findWhite_7 : decode cX3_findWhite 7 = .ok (.getfield 19, 3) := by decide +kernel
theorem dX3_findWhite_10 : decode cX3_findWhite 10 = .ok (.if_icmp .ge 63, 3) := by decide +kernel
theorem dX3_findWhite_13 : decode cX3_findWhite 13 = .ok (.iconst 0, 1) := by decide +kernel
theorem dX3_findWhite_14 : decode cX3_findWhite 14 = .ok (.istore 4, 2) := by decide +kernel
theorem dX3_findWhite_16 : decode cX3_findWhite 16 = .ok (.iload 4, 2) := by decide +kernel
theorem dX3_findWhite_18 : decode cX3_findWhite 18 = .ok (.aload_n 0, 1) := by decide +kernel
theorem dX3_findWhite_19 : decode cX3_findWhite 19 = .ok (.getfield 9, 3) := by decide +kernel
theorem dX3_findWhite_22 : decode cX3_findWhite 22 = .ok (.getfield 19, 3) := by decide +kernel
theorem dX3_findWhite_25 : decode cX3_findWhite 25 = .ok (.if_icmp .ge 42, 3) := by decide +kernel
theorem dX3_findWhite_28 : decode cX3_findWhite 28 = .ok (.aload_n 0, 1) := by decide +kernel
theorem dX3_findWhite_29 : decode cX3_findWhite 29 = .ok (.getfield 43, 3) := by decide +kernel
theorem dX3_findWhite_32 : decode cX3_findWhite 32 = .ok (.aload_n 0, 1) := by decide +kernel
theorem dX3_findWhite_33 : decode cX3_findWhite 33 = .ok (.iconst 1, 1) := by decide +kernel
theorem dX3_findWhite_34 : decode cX3_findWhite 34 = .ok (.iload_n 3, 1) := by decide +kernel
theorem dX3_findWhite_35 : decode cX3_findWhite 35 = .ok (.iload 4, 2) := by decide +kernel
theorem dX3_findWhite_37 : decode cX3_findWhite 37 = .ok (.invokevirtual 56, 3) := by decide +kernel
theorem dX3_findWhite_40 : decode cX3_findWhite 40 = .ok (.invokestatic 60, 3) := by decide +kernel
theorem dX3_findWhite_43 : decode cX3_findWhite 43 = .ok (.lstore 5, 2) := by decide +kernel
theorem dX3_findWhite_45 : decode cX3_findWhite 45 = .ok (.lload 5, 2) := by decide +kernel
theorem dX3_findWhite_47 : decode cX3_findWhite 47 = .ok (.lconst 0, 1) := by decide +kernel
theorem dX3_findWhite_48 : decode cX3_findWhite 48 = .ok (.lcmp, 1) := by decide +kernel
theorem dX3_findWhite_49 : decode cX3_findWhite 49 = .ok (.ifCond .eq 12, 3) := by decide +kernel
theorem dX3_findWhite_52 : decode cX3_findWhite 52 = .ok (.aload_n 0, 1) := by decide +kernel
theorem dX3_findWhite_53 : decode cX3_findWhite 53 = .ok (.iload_n 3, 1) := by decide +kernel
theorem dX3_findWhite_54 : decode cX3_findWhite 54 = .ok (.iload 4, 2) := by decide +kernel
theorem dX3_findWhite_56 : decode cX3_findWhite 56 = .ok (.lload 5, 2) := by decide +kernel
theorem dX3_findWhite_58 : decode cX3_findWhite 58 = .ok (.invokevirtual 131, 3) := by decide +kernel
theorem dX3_findWhite_61 : decode cX3_findWhite 61 = .ok (.iinc 4 1, 3) := by decide +kernel
theorem dX3_findWhite_64 : decode cX3_findWhite 64 = .ok (.goto (-48), 3) := by decide +kernel
theorem dX3_findWhite_67 : decode cX3_findWhite 67 = .ok (.iinc 3 1, 3) := by decide +kernel
theorem dX3_findWhite_70 : decode cX3_findWhite 70 = .ok (.goto (-68), 3) := by decide +kernel
theorem dX3_findWhite_73 : decode cX3_findWhite 73 = .ok (.aload_n 0, 1) := by decide +kernel
theorem dX3_findWhite_74 : decode cX3_findWhite 74 = .ok (.getfield 15, 3) := by decide +kernel
theorem dX3_findWhite_77 : decode cX3_findWhite 77 = .ok (.iconst 1, 1) := by decide +kernel
theorem dX3_findWhite_78 : decode cX3_findWhite 78 = .ok (.if_icmp .ne 9, 3) := by decide +kernel
theorem dX3_findWhite_81 : decode cX3_findWhite 81 = .ok (.aload_n 0, 1) := by decide +kernel
theorem dX3_findWhite_82 : decode cX3_findWhite 82 = .ok (.iload_n 1, 1) := by decide +kernel
theorem dX3_findWhite_83 : decode cX3_findWhite 83 = .ok (.aload_n 2, 1) := by decide +kernel
theorem dX3_findWhite_84 : decode cX3_findWhite 84 = .ok (.invokevirtual 135, 3) := by decide +kernel
theorem dX3_findWhite_87 : decode cX3_findWhite 87 = .ok (.aload_n 0, 1) := by decide +kernel
theorem dX3_findWhite_88 : decode cX3_findWhite 88 = .ok (.iload_n 1, 1) := by decide +kernel
theorem dX3_findWhite_89 : decode cX3_findWhite 89 = .ok (.invokevirtual 138, 3) := by decide +kernel
theorem dX3_findWhite_92 : decode cX3_findWhite 92 = .ok (.return_, 1) := by decide +kernel
set_option maxRecDepth 20000 in
theorem ggX3_goBack_X3_goBackKing : GoodIn wsX3_goBack wsX3_goBackKing := goodIn_r _ [6, 7, 8, 9, 10, 11, 12, 13, 14, 15, 16, 17, 18, 19, 20, 21, 22, 23, 24, 25, 26, 27, 5, 28, 29, 30, 31, 32, 33, 34, 35, 36, 37, 38, 39, 40, 41, 42, 77, 78, 79, 80, 81, 82, 83, 84, 85, 86, 87, 88, 89, 90, 91, 92, 93] (by decide +kernel) (by decide +kernel)
set_option maxRecDepth 20000 in
theorem gX3_goBack_X3_goBackKing : GoodIn wsX3_goBack (wsV RX3 141 RX3 yX3_goBackKing wsX3_goBackKing) := goodIn_app (goodIn_of _ (by decide +kernel)) ggX3_goBack_X3_goBackKing
set_option maxRecDepth 20000 in
theorem ggX3_goBack_X3_goBackPawn : GoodIn wsX3_goBack wsX3_goBackPawn := goodIn_r _ [46, 7, 8, 47, 10, 48, 49, 50, 51, 25, 26, 27, 5, 28, 29, 30, 31, 32, 33, 34, 35, 36, 37, 38, 39, 40, 41, 42, 52, 53, 54, 55, 56, 57, 58, 59, 14, 15, 77, 78, 79, 80, 81, 82, 83, 84, 85, 86, 87, 88, 89, 90, 91, 92, 93] (by decide +kernel) (by decide +kernel)
set_option maxRecDepth 20000 in
theorem gX3_goBack_X3_goBackPawn : GoodIn wsX3_goBack (wsV RX3 144 RX3 yX3_goBackPawn wsX3_goBackPawn) := goodIn_app (goodIn_of _ (by decide +kernel)) ggX3_goBack_X3_goBackPawn
set_option maxRecDepth 20000 in
theorem ggX3_goBack_X3_goBackMan : GoodIn wsX3_goBack wsX3_goBackMan := goodIn_r _ [63, 7, 1, 8, 14, 10, 15, 64, 65, 66, 67, 47, 48, 49, 50, 51, 13, 68, 69, 70, 71, 72, 73, 74, 75, 76, 25, 26, 27, 5, 28, 29, 30, 31, 32, 33, 34, 35, 36, 37, 38, 39, 40, 41, 42, 77, 78, 79, 80, 81, 82, 83, 84, 85, 86, 87, 88, 89, 90, 91, 92, 93] (by decide +kernel) (by decide +kernel)
set_option maxRecDepth 20000 in
theorem gX3_goBack_X3_goBackMan : GoodIn wsX3_goBack (wsV RX3 147 RX3 yX3_goBackMan wsX3_goBackMan) := goodIn_app (goodIn_of _ (by decide +kernel)) ggX3_goBack_X3_goBackMan
theorem dX3_goBack_0 : decode cX3_goBack 0 = .ok (.aload_n 0, 1) := by decide +kernel
theorem dX3_goBack_1 : decode cX3_goBack 1 = .ok (.iload_n 1, 1) := by decide +kernel
theorem dX3_goBack_2 : decode cX3_goBack 2 = .ok (.iload_n 2, 1) := by decide +kernel
theorem dX3_goBack_3 : decode cX3_goBack 3 = .ok (.lload_n 3, 1) := by decide +kernel
theorem dX3_goBack_4 : decode cX3_goBack 4 = .ok (.invokevirtual 141, 3) := by decide +kernel
theorem dX3_goBack_7 : decode cX3_goBack 7 = .ok (.aload_n 0, 1) := by decide +kernel
theorem dX3_goBack_8 : decode cX3_goBack 8 = .ok (.getfield 15, 3) := by decide +kernel
theorem dX3_goBack_11 : decode cX3_goBack 11 = .ok (.iconst 1, 1) := by decide +kernel
theorem dX3_goBack_12 : decode cX3_goBack 12 = .ok (.if_icmp .ne 13, 3) := by decide +kernel
theorem dX3_goBack_15 : decode cX3_goBack 15 = .ok (.aload_n 0, 1) := by decide +kernel
theorem dX3_goBack_16 : decode cX3_goBack 16 = .ok (.iload_n 1, 1) := by decide +kernel
theorem dX3_goBack_17 : decode cX3_goBack 17 = .ok (.iload_n 2, 1) := by decide +kernel
theorem dX3_goBack_18 : decode cX3_goBack 18 = .ok (.lload_n 3, 1) := by decide +kernel
theorem dX3_goBack_19 : decode cX3_goBack 19 = .ok (.invokevirtual 144, 3) := by decide +kernel
theorem dX3_goBack_22 : decode cX3_goBack 22 = .ok (.goto 10, 3) := by decide +kernel
theorem dX3_goBack_25 : decode cX3_goBack 25 = .ok (.aload_n 0, 1) := by decide +kernel
theorem dX3_goBack_26 : decode cX3_goBack 26 = .ok (.iload_n 1, 1) := by decide +kernel
theorem dX3_goBack_27 : decode cX3_goBack 27 = .ok (.iload_n 2, 1) := by decide +kernel
theorem dX3_goBack_28 : decode cX3_goBack 28 = .ok (.lload_n 3, 1) := by decide +kernel
theorem dX3_goBack_29 : decode cX3_goBack 29 = .ok (.invokevirtual 147, 3) := by decide +kernel
theorem dX3_goBack_32 : decode cX3_goBack 32 = .ok (.return_, 1) := by decide +kernel
set_option maxRecDepth 20000 in
theorem ggX3_keepFresh_X3_at : GoodIn wsX3_keepFresh wsX3_at := goodIn_r _ [6] (by decide +kernel) (by decide +kernel)
set_option maxRecDepth 20000 in
theorem gX3_keepFresh_X3_at : GoodIn wsX3_keepFresh (va_wsS RX3 60 yX3_at wsX3_at) := goodIn_app (goodIn_of _ (by decide +kernel)) ggX3_keepFresh_X3_at
set_option maxRecDepth 20000 in
theorem ggX3_keepFresh_X3_keep : GoodIn wsX3_keepFresh wsX3_keep := goodIn_r _ [10, 11, 12, 1, 13, 14, 15, 16, 17, 18, 19, 5, 20, 21, 22, 23, 24, 25, 26, 27, 28, 29, 30, 31, 32] (by decide +kernel) (by decide +kernel)
set_option maxRecDepth 20000 in
theorem gX3_keepFresh_X3_keep : GoodIn wsX3_keepFresh (wsV RX3 120 RX3 yX3_keep wsX3_keep) := goodIn_app (goodIn_of _ (by decide +kernel)) ggX3_keepFresh_X3_keep
theorem dX3_keepFresh_0 : decode cX3_keepFresh 0 = .ok (.iconst 0, 1) := by decide +kernel
theorem dX3_keepFresh_1 : decode cX3_keepFresh 1 = .ok (.istore_n 2, 1) := by decide +kernel
theorem dX3_keepFresh_2 : decode cX3_keepFresh 2 = .ok (.iload_n 2, 1) := by decide +kernel
theorem dX3_keepFresh_3 : decode cX3_keepFresh 3 = .ok (.aload_n 0, 1) := by decide +kernel
theorem dX3_keepFresh_4 : decode cX3_keepFresh 4 = .ok (.getfield 33, 3) := by decide +kernel
theorem dX3_keepFresh_7 : decode cX3_keepFresh 7 = .ok (.if_icmp .ge 24, 3) := by decide +kernel
theorem dX3_keepFresh_10 : decode cX3_keepFresh 10 = .ok (.aload_n 0, 1) := by decide +kernel
theorem dX3_keepFresh_11 : decode cX3_keepFresh 11 = .ok (.iconst 0, 1) := by decide +kernel
theorem dX3_keepFresh_12 : decode cX3_keepFresh 12 = .ok (.iload_n 2, 1) := by decide +kernel
theorem dX3_keepFresh_13 : decode cX3_keepFresh 13 = .ok (.iload_n 1, 1) := by decide +kernel
theorem dX3_keepFresh_14 : decode cX3_keepFresh 14 = .ok (.aload_n 0, 1) := by decide +kernel
theorem dX3_keepFresh_15 : decode cX3_keepFresh 15 = .ok (.getfield 43, 3) := by decide +kernel
theorem dX3_keepFresh_18 : decode cX3_keepFresh 18 = .ok (.iload_n 2, 1) := by decide +kernel
theorem dX3_keepFresh_19 : decode cX3_keepFresh 19 = .ok (.invokestatic 60, 3) := by decide +kernel
theorem dX3_keepFresh_22 : decode cX3_keepFresh 22 = .ok (.invokevirtual 120, 3) := by decide +kernel
theorem dX3_keepFresh_25 : decode cX3_keepFresh 25 = .ok (.iinc 2 1, 3) := by decide +kernel
theorem dX3_keepFresh_28 : decode cX3_keepFresh 28 = .ok (.goto (-26), 3) := by decide +kernel
theorem dX3_keepFresh_31 : decode cX3_keepFresh 31 = .ok (.return_, 1) := by decide +kernel
set_option maxRecDepth 20000 in
theorem ggX3_keep_X3_add : GoodIn wsX3_keep wsX3_add := goodIn_r _ [12] (by decide +kernel) (by decide +kernel)
set_option maxRecDepth 20000 in
theorem gX3_keep_X3_add : GoodIn wsX3_keep (va_wsS RX3 150 yX3_add wsX3_add) := goodIn_app (goodIn_of _ (by decide +kernel)) ggX3_keep_X3_add
set_option maxRecDepth 20000 in
theorem ggX3_keep_X3_pliesFor : GoodIn wsX3_keep wsX3_pliesFor := goodIn_r _ [15] (by decide +kernel) (by decide +kernel)
set_option maxRecDepth 20000 in
theorem gX3_keep_X3_pliesFor : GoodIn wsX3_keep (va_wsS RX3 68 yX3_pliesFor wsX3_pliesFor) := goodIn_app (goodIn_of _ (by decide +kernel)) ggX3_keep_X3_pliesFor
theorem dX3_keep_0 : decode cX3_keep 0 = .ok (.lload 4, 2) := by decide +kernel
theorem dX3_keep_2 : decode cX3_keep 2 = .ok (.lconst 0, 1) := by decide +kernel
theorem dX3_keep_3 : decode cX3_keep 3 = .ok (.lcmp, 1) := by decide +kernel
theorem dX3_keep_4 : decode cX3_keep 4 = .ok (.ifCond .ne 4, 3) := by decide +kernel
theorem dX3_keep_7 : decode cX3_keep 7 = .ok (.return_, 1) := by decide +kernel
theorem dX3_keep_8 : decode cX3_keep 8 = .ok (.aload_n 0, 1) := by decide +kernel
theorem dX3_keep_9 : decode cX3_keep 9 = .ok (.getfield 40, 3) := by decide +kernel
theorem dX3_keep_12 : decode cX3_keep 12 = .ok (.iload_n 2, 1) := by decide +kernel
theorem dX3_keep_13 : decode cX3_keep 13 = .ok (.lload 4, 2) := by decide +kernel
theorem dX3_keep_15 : decode cX3_keep 15 = .ok (.invokestatic 150, 3) := by decide +kernel
theorem dX3_keep_18 : decode cX3_keep 18 = .ok (.iconst 0, 1) := by decide +kernel
theorem dX3_keep_19 : decode cX3_keep 19 = .ok (.istore 6, 2) := by decide +kernel
theorem dX3_keep_21 : decode cX3_keep 21 = .ok (.iload 6, 2) := by decide +kernel
theorem dX3_keep_23 : decode cX3_keep 23 = .ok (.iconst 5, 1) := by decide +kernel
theorem dX3_keep_24 : decode cX3_keep 24 = .ok (.if_icmp .ge 39, 3) := by decide +kernel
theorem dX3_keep_27 : decode cX3_keep 27 = .ok (.iload_n 3, 1) := by decide +kernel
theorem dX3_keep_28 : decode cX3_keep 28 = .ok (.iload 6, 2) := by decide +kernel
theorem dX3_keep_30 : decode cX3_keep 30 = .ok (.ishr, 1) := by decide +kernel
theorem dX3_keep_31 : decode cX3_keep 31 = .ok (.iconst 1, 1) := by decide +kernel
theorem dX3_keep_32 : decode cX3_keep 32 = .ok (.iand, 1) := by decide +kernel
theorem dX3_keep_33 : decode cX3_keep 33 = .ok (.iconst 1, 1) := by decide +kernel
theorem dX3_keep_34 : decode cX3_keep 34 = .ok (.if_icmp .ne 23, 3) := by decide +kernel
theorem dX3_keep_37 : decode cX3_keep 37 = .ok (.aload_n 0, 1) := by decide +kernel
theorem dX3_keep_38 : decode cX3_keep 38 = .ok (.getfield 46, 3) := by decide +kernel
theorem dX3_keep_41 : decode cX3_keep 41 = .ok (.iload 6, 2) := by decide +kernel
theorem dX3_keep_43 : decode cX3_keep 43 = .ok (.iconst 2, 1) := by decide +kernel
theorem dX3_keep_44 : decode cX3_keep 44 = .ok (.imul, 1) := by decide +kernel
theorem dX3_keep_45 : decode cX3_keep 45 = .ok (.aload_n 0, 1) := by decide +kernel
theorem dX3_keep_46 : decode cX3_keep 46 = .ok (.getfield 33, 3) := by decide +kernel
theorem dX3_keep_49 : decode cX3_keep 49 = .ok (.imul, 1) := by decide +kernel
theorem dX3_keep_50 : decode cX3_keep 50 = .ok (.iload_n 2, 1) := by decide +kernel
theorem dX3_keep_51 : decode cX3_keep 51 = .ok (.iadd, 1) := by decide +kernel
theorem dX3_keep_52 : decode cX3_keep 52 = .ok (.lload 4, 2) := by decide +kernel
theorem dX3_keep_54 : decode cX3_keep 54 = .ok (.invokestatic 150, 3) := by decide +kernel
theorem dX3_keep_57 : decode cX3_keep 57 = .ok (.iinc 6 1, 3) := by decide +kernel
theorem dX3_keep_60 : decode cX3_keep 60 = .ok (.goto (-39), 3) := by decide +kernel
theorem dX3_keep_63 : decode cX3_keep 63 = .ok (.aload_n 0, 1) := by decide +kernel
theorem dX3_keep_64 : decode cX3_keep 64 = .ok (.aload_n 0, 1) := by decide +kernel
theorem dX3_keep_65 : decode cX3_keep 65 = .ok (.getfield 49, 3) := by decide +kernel
theorem dX3_keep_68 : decode cX3_keep 68 = .ok (.iload_n 1, 1) := by decide +kernel
theorem dX3_keep_69 : decode cX3_keep 69 = .ok (.iload_n 3, 1) := by decide +kernel
theorem dX3_keep_70 : decode cX3_keep 70 = .ok (.invokestatic 68, 3) := by decide +kernel
theorem dX3_keep_73 : decode cX3_keep 73 = .ok (.invokestatic 30, 3) := by decide +kernel
theorem dX3_keep_76 : decode cX3_keep 76 = .ok (.putfield 49, 3) := by decide +kernel
theorem dX3_keep_79 : decode cX3_keep 79 = .ok (.return_, 1) := by decide +kernel
set_option maxRecDepth 20000 in
theorem ggX3_win_X3_rowOf : GoodIn wsX3_win wsX3_rowOf := goodIn_r _ [9, 10, 11, 18, 19, 20, 21, 22, 23, 24, 25, 26, 27, 28, 29, 30, 31, 32, 33, 34] (by decide +kernel) (by decide +kernel)
set_option maxRecDepth 20000 in
theorem gX3_win_X3_rowOf : GoodIn wsX3_win (wsV RX3 56 RX3 yX3_rowOf wsX3_rowOf) := goodIn_app (goodIn_of _ (by decide +kernel)) ggX3_win_X3_rowOf
set_option maxRecDepth 20000 in
theorem ggX3_win_X3_at : GoodIn wsX3_win wsX3_at := goodIn_r _ [14] (by decide +kernel) (by decide +kernel)
set_option maxRecDepth 20000 in
theorem gX3_win_X3_at : GoodIn wsX3_win (va_wsS RX3 60 yX3_at wsX3_at) := goodIn_app (goodIn_of _ (by decide +kernel)) ggX3_win_X3_at
set_option maxRecDepth 20000 in
theorem ggX3_win_X3_add : GoodIn wsX3_win wsX3_add := goodIn_r _ [17] (by decide +kernel) (by decide +kernel)
set_option maxRecDepth 20000 in
theorem gX3_win_X3_add : GoodIn wsX3_win (va_wsS RX3 150 yX3_add wsX3_add) := goodIn_app (goodIn_of _ (by decide +kernel)) ggX3_win_X3_add
theorem dX3_win_0 : decode cX3_win 0 = .ok (.aload_n 0, 1) := by decide +kernel
theorem dX3_win_1 : decode cX3_win 1 = .ok (.iconst 0, 1) := by decide +kernel
theorem dX3_win_2 : decode cX3_win 2 = .ok (.iload_n 1, 1) := by decide +kernel
theorem dX3_win_3 : decode cX3_win 3 = .ok (.iload_n 2, 1) := by decide +kernel
theorem dX3_win_4 : decode cX3_win 4 = .ok (.invokevirtual 56, 3) := by decide +kernel
theorem dX3_win_7 : decode cX3_win 7 = .ok (.istore 5, 2) := by decide +kernel
theorem dX3_win_9 : decode cX3_win 9 = .ok (.aload_n 0, 1) := by decide +kernel
theorem dX3_win_10 : decode cX3_win 10 = .ok (.getfield 43, 3) := by decide +kernel
theorem dX3_win_13 : decode cX3_win 13 = .ok (.iload 5, 2) := by decide +kernel
theorem dX3_win_15 : decode cX3_win 15 = .ok (.lload_n 3, 1) := by decide +kernel
theorem dX3_win_16 : decode cX3_win 16 = .ok (.aload_n 0, 1) := by decide +kernel
theorem dX3_win_17 : decode cX3_win 17 = .ok (.getfield 36, 3) := by decide +kernel
theorem dX3_win_20 : decode cX3_win 20 = .ok (.iload 5, 2) := by decide +kernel
theorem dX3_win_22 : decode cX3_win 22 = .ok (.invokestatic 60, 3) := by decide +kernel
theorem dX3_win_25 : decode cX3_win 25 = .ok (.land, 1) := by decide +kernel
theorem dX3_win_26 : decode cX3_win 26 = .ok (.aload_n 0, 1) := by decide +kernel
theorem dX3_win_27 : decode cX3_win 27 = .ok (.getfield 40, 3) := by decide +kernel
theorem dX3_win_30 : decode cX3_win 30 = .ok (.iload 5, 2) := by decide +kernel
theorem dX3_win_32 : decode cX3_win 32 = .ok (.invokestatic 60, 3) := by decide +kernel
theorem dX3_win_35 : decode cX3_win 35 = .ok (.ldc2_w 71, 3) := by decide +kernel
theorem dX3_win_38 : decode cX3_win 38 = .ok (.lxor, 1) := by decide +kernel
theorem dX3_win_39 : decode cX3_win 39 = .ok (.land, 1) := by decide +kernel
theorem dX3_win_40 : decode cX3_win 40 = .ok (.invokestatic 150, 3) := by decide +kernel
theorem dX3_win_43 : decode cX3_win 43 = .ok (.return_, 1) := by decide +kernel
set_option maxRecDepth 20000 in
theorem ggX3_goBackKing_X0_around : GoodIn wsX3_goBackKing wsX0_around := goodIn_r _ [6, 7, 8, 4, 9, 10, 11, 12, 13, 14, 15, 16, 17, 18, 47, 48, 49, 50, 51, 52, 53, 54] (by decide +kernel) (by decide +kernel)
set_option maxRecDepth 20000 in
theorem gX3_goBackKing_X0_around_n124 : GoodIn wsX3_goBackKing (wsX0_around) := ggX3_goBackKing_X0_around
set_option maxRecDepth 20000 in
theorem ggX3_goBackKing_X0_bit : GoodIn wsX3_goBackKing wsX0_bit := goodIn_r _ [9] (by decide +kernel) (by decide +kernel)
set_option maxRecDepth 20000 in
theorem gX3_goBackKing_X0_bit_n64 : GoodIn wsX3_goBackKing (wsX0_bit) := ggX3_goBackKing_X0_bit
set_option maxRecDepth 20000 in
theorem ggX3_goBackKing_X3_win : GoodIn wsX3_goBackKing wsX3_win := goodIn_r _ [23, 24, 25, 26, 2, 27, 28, 29, 22, 30, 31, 1, 32, 33, 34, 35, 36, 37, 38, 39, 40, 41, 42, 43, 44, 45, 46, 47, 48, 49, 50, 51, 52, 53, 54] (by decide +kernel) (by decide +kernel)
set_option maxRecDepth 20000 in
theorem gX3_goBackKing_X3_win : GoodIn wsX3_goBackKing (wsV RX3 153 RX3 yX3_win wsX3_win) := goodIn_app (goodIn_of _ (by decide +kernel)) ggX3_goBackKing_X3_win
theorem dX3_goBackKing_0 : decode cX3_goBackKing 0 = .ok (.aload_n 0, 1) := by decide +kernel
theorem dX3_goBackKing_1 : decode cX3_goBackKing 1 = .ok (.getfield 9, 3) := by decide +kernel
theorem dX3_goBackKing_4 : decode cX3_goBackKing 4 = .ok (.iload_n 1, 1) := by decide +kernel
theorem dX3_goBackKing_5 : decode cX3_goBackKing 5 = .ok (.invokevirtual 124, 3) := by decide +kernel
theorem dX3_goBackKing_8 : decode cX3_goBackKing 8 = .ok (.iload_n 2, 1) := by decide +kernel
theorem dX3_goBackKing_9 : decode cX3_goBackKing 9 = .ok (.invokestatic 64, 3) := by decide +kernel
theorem dX3_goBackKing_12 : decode cX3_goBackKing 12 = .ok (.ldc2_w 71, 3) := by decide +kernel
theorem dX3_goBackKing_15 : decode cX3_goBackKing 15 = .ok (.lxor, 1) := by decide +kernel
theorem dX3_goBackKing_16 : decode cX3_goBackKing 16 = .ok (.land, 1) := by decide +kernel
theorem dX3_goBackKing_17 : decode cX3_goBackKing 17 = .ok (.lstore 5, 2) := by decide +kernel
theorem dX3_goBackKing_19 : decode cX3_goBackKing 19 = .ok (.iconst 0, 1) := by decide +kernel
theorem dX3_goBackKing_20 : decode cX3_goBackKing 20 = .ok (.istore 7, 2) := by decide +kernel
theorem dX3_goBackKing_22 : decode cX3_goBackKing 22 = .ok (.iload 7, 2) := by decide +kernel
theorem dX3_goBackKing_24 : decode cX3_goBackKing 24 = .ok (.aload_n 0, 1) := by decide +kernel
theorem dX3_goBackKing_25 : decode cX3_goBackKing 25 = .ok (.getfield 9, 3) := by decide +kernel
theorem dX3_goBackKing_28 : decode cX3_goBackKing 28 = .ok (.getfield 19, 3) := by decide +kernel
theorem dX3_goBackKing_31 : decode cX3_goBackKing 31 = .ok (.if_icmp .ge 30, 3) := by decide +kernel
theorem dX3_goBackKing_34 : decode cX3_goBackKing 34 = .ok (.lload 5, 2) := by decide +kernel
theorem dX3_goBackKing_36 : decode cX3_goBackKing 36 = .ok (.iload 7, 2) := by decide +kernel
theorem dX3_goBackKing_38 : decode cX3_goBackKing 38 = .ok (.invokestatic 64, 3) := by decide +kernel
theorem dX3_goBackKing_41 : decode cX3_goBackKing 41 = .ok (.land, 1) := by decide +kernel
theorem dX3_goBackKing_42 : decode cX3_goBackKing 42 = .ok (.lconst 0, 1) := by decide +kernel
theorem dX3_goBackKing_43 : decode cX3_goBackKing 43 = .ok (.lcmp, 1) := by decide +kernel
theorem dX3_goBackKing_44 : decode cX3_goBackKing 44 = .ok (.ifCond .eq 11, 3) := by decide +kernel
theorem dX3_goBackKing_47 : decode cX3_goBackKing 47 = .ok (.aload_n 0, 1) := by decide +kernel
theorem dX3_goBackKing_48 : decode cX3_goBackKing 48 = .ok (.iload 7, 2) := by decide +kernel
theorem dX3_goBackKing_50 : decode cX3_goBackKing 50 = .ok (.iload_n 2, 1) := by decide +kernel
theorem dX3_goBackKing_51 : decode cX3_goBackKing 51 = .ok (.lload_n 3, 1) := by decide +kernel
theorem dX3_goBackKing_52 : decode cX3_goBackKing 52 = .ok (.invokevirtual 153, 3) := by decide +kernel
theorem dX3_goBackKing_55 : decode cX3_goBackKing 55 = .ok (.iinc 7 1, 3) := by decide +kernel
theorem dX3_goBackKing_58 : decode cX3_goBackKing 58 = .ok (.goto (-36), 3) := by decide +kernel
theorem dX3_goBackKing_61 : decode cX3_goBackKing 61 = .ok (.return_, 1) := by decide +kernel
set_option maxRecDepth 20000 in
theorem ggX3_goBackMan_X0_bit : GoodIn wsX3_goBackMan wsX0_bit := goodIn_r _ [6] (by decide +kernel) (by decide +kernel)
set_option maxRecDepth 20000 in
theorem gX3_goBackMan_X0_bit_n64 : GoodIn wsX3_goBackMan (wsX0_bit) := ggX3_goBackMan_X0_bit
set_option maxRecDepth 20000 in
theorem ggX3_goBackMan_X0_attacked : GoodIn wsX3_goBackMan wsX0_attacked := goodIn_r _ [9, 10, 11, 12, 5, 13, 14, 15, 16, 4, 6, 17, 18, 19, 20, 21, 22, 23, 24, 25, 54, 55, 56, 57, 58, 59, 60, 61] (by decide +kernel) (by decide +kernel)
set_option maxRecDepth 20000 in
theorem gX3_goBackMan_X0_attacked_n108 : GoodIn wsX3_goBackMan (wsX0_attacked) := ggX3_goBackMan_X0_attacked
set_option maxRecDepth 20000 in
theorem ggX3_goBackMan_X3_win : GoodIn wsX3_goBackMan wsX3_win := goodIn_r _ [30, 31, 32, 33, 3, 34, 35, 36, 29, 37, 38, 1, 39, 40, 41, 42, 43, 44, 45, 46, 47, 48, 49, 50, 51, 52, 53, 54, 55, 56, 57, 58, 59, 60, 61] (by decide +kernel) (by decide +kernel)
set_option maxRecDepth 20000 in
theorem gX3_goBackMan_X3_win : GoodIn wsX3_goBackMan (wsV RX3 153 RX3 yX3_win wsX3_win) := goodIn_app (goodIn_of _ (by decide +kernel)) ggX3_goBackMan_X3_win
theorem dX3_goBackMan_0 : decode cX3_goBackMan 0 = .ok (.aload_n 0, 1) := by decide +kernel
theorem dX3_goBackMan_1 : decode cX3_goBackMan 1 = .ok (.getfield 9, 3) := by decide +kernel
theorem dX3_goBackMan_4 : decode cX3_goBackMan 4 = .ok (.aload_n 0, 1) := by decide +kernel
theorem dX3_goBackMan_5 : decode cX3_goBackMan 5 = .ok (.getfield 15, 3) := by decide +kernel
theorem dX3_goBackMan_8 : decode cX3_goBackMan 8 = .ok (.iload_n 2, 1) := by decide +kernel
theorem dX3_goBackMan_9 : decode cX3_goBackMan 9 = .ok (.iload_n 1, 1) := by decide +kernel
theorem dX3_goBackMan_10 : decode cX3_goBackMan 10 = .ok (.invokestatic 64, 3) := by decide +kernel
theorem dX3_goBackMan_13 : decode cX3_goBackMan 13 = .ok (.invokevirtual 108, 3) := by decide +kernel
theorem dX3_goBackMan_16 : decode cX3_goBackMan 16 = .ok (.iload_n 1, 1) := by decide +kernel
theorem dX3_goBackMan_17 : decode cX3_goBackMan 17 = .ok (.invokestatic 64, 3) := by decide +kernel
theorem dX3_goBackMan_20 : decode cX3_goBackMan 20 = .ok (.ldc2_w 71, 3) := by decide +kernel
theorem dX3_goBackMan_23 : decode cX3_goBackMan 23 = .ok (.lxor, 1) := by decide +kernel
theorem dX3_goBackMan_24 : decode cX3_goBackMan 24 = .ok (.land, 1) := by decide +kernel
theorem dX3_goBackMan_25 : decode cX3_goBackMan 25 = .ok (.lstore 5, 2) := by decide +kernel
theorem dX3_goBackMan_27 : decode cX3_goBackMan 27 = .ok (.iconst 0, 1) := by decide +kernel
theorem dX3_goBackMan_28 : decode cX3_goBackMan 28 = .ok (.istore 7, 2) := by decide +kernel
theorem dX3_goBackMan_30 : decode cX3_goBackMan 30 = .ok (.iload 7, 2) := by decide +kernel
theorem dX3_goBackMan_32 : decode cX3_goBackMan 32 = .ok (.aload_n 0, 1) := by decide +kernel
theorem dX3_goBackMan_33 : decode cX3_goBackMan 33 = .ok (.getfield 9, 3) := by decide +kernel
theorem dX3_goBackMan_36 : decode cX3_goBackMan 36 = .ok (.getfield 19, 3) := by decide +kernel
theorem dX3_goBackMan_39 : decode cX3_goBackMan 39 = .ok (.if_icmp .ge 30, 3) := by decide +kernel
theorem dX3_goBackMan_42 : decode cX3_goBackMan 42 = .ok (.lload 5, 2) := by decide +kernel
theorem dX3_goBackMan_44 : decode cX3_goBackMan 44 = .ok (.iload 7, 2) := by decide +kernel
theorem dX3_goBackMan_46 : decode cX3_goBackMan 46 = .ok (.invokestatic 64, 3) := by decide +kernel
theorem dX3_goBackMan_49 : decode cX3_goBackMan 49 = .ok (.land, 1) := by decide +kernel
theorem dX3_goBackMan_50 : decode cX3_goBackMan 50 = .ok (.lconst 0, 1) := by decide +kernel
theorem dX3_goBackMan_51 : decode cX3_goBackMan 51 = .ok (.lcmp, 1) := by decide +kernel
theorem dX3_goBackMan_52 : decode cX3_goBackMan 52 = .ok (.ifCond .eq 11, 3) := by decide +kernel
theorem dX3_goBackMan_55 : decode cX3_goBackMan 55 = .ok (.aload_n 0, 1) := by decide +kernel
theorem dX3_goBackMan_56 : decode cX3_goBackMan 56 = .ok (.iload_n 1, 1) := by decide +kernel
theorem dX3_goBackMan_57 : decode cX3_goBackMan 57 = .ok (.iload 7, 2) := by decide +kernel
theorem dX3_goBackMan_59 : decode cX3_goBackMan 59 = .ok (.lload_n 3, 1) := by decide +kernel
theorem dX3_goBackMan_60 : decode cX3_goBackMan 60 = .ok (.invokevirtual 153, 3) := by decide +kernel
theorem dX3_goBackMan_63 : decode cX3_goBackMan 63 = .ok (.iinc 7 1, 3) := by decide +kernel
theorem dX3_goBackMan_66 : decode cX3_goBackMan 66 = .ok (.goto (-36), 3) := by decide +kernel
theorem dX3_goBackMan_69 : decode cX3_goBackMan 69 = .ok (.return_, 1) := by decide +kernel
set_option maxRecDepth 20000 in
theorem ggX3_goBackPawn_X0_step : GoodIn wsX3_goBackPawn wsX0_step := goodIn_r _ [6, 7, 8, 47, 48, 49, 50, 51, 52, 53, 54] (by decide +kernel) (by decide +kernel)
set_option maxRecDepth 20000 in
theorem gX3_goBackPawn_X0_step_n156 : GoodIn wsX3_goBackPawn (wsX0_step) := ggX3_goBackPawn_X0_step
set_option maxRecDepth 20000 in
theorem ggX3_goBackPawn_X3_win : GoodIn wsX3_goBackPawn wsX3_win := goodIn_r _ [13, 14, 15, 16, 2, 17, 18, 19, 12, 20, 21, 1, 22, 23, 24, 25, 26, 27, 38, 39, 40, 41, 42, 43, 44, 45, 46, 47, 48, 49, 50, 51, 52, 53, 54] (by decide +kernel) (by decide +kernel)
set_option maxRecDepth 20000 in
theorem gX3_goBackPawn_X3_win : GoodIn wsX3_goBackPawn (wsV RX3 153 RX3 yX3_win wsX3_win) := goodIn_app (goodIn_of _ (by decide +kernel)) ggX3_goBackPawn_X3_win
set_option maxRecDepth 20000 in
theorem ggX3_goBackPawn_X0_rankOf : GoodIn wsX3_goBackPawn wsX0_rankOf := goodIn_r _ [30, 31, 32, 33, 4, 34, 7, 35, 47, 48, 49, 50, 51, 52, 53, 54] (by decide +kernel) (by decide +kernel)
set_option maxRecDepth 20000 in
theorem gX3_goBackPawn_X0_rankOf_n159 : GoodIn wsX3_goBackPawn (wsX0_rankOf) := ggX3_goBackPawn_X0_rankOf
set_option maxRecDepth 20000 in
theorem ggX3_goBackPawn_X0_bit : GoodIn wsX3_goBackPawn wsX0_bit := goodIn_r _ [37] (by decide +kernel) (by decide +kernel)
set_option maxRecDepth 20000 in
theorem gX3_goBackPawn_X0_bit_n64 : GoodIn wsX3_goBackPawn (wsX0_bit) := ggX3_goBackPawn_X0_bit
theorem dX3_goBackPawn_0 : decode cX3_goBackPawn 0 = .ok (.aload_n 0, 1) := by decide +kernel
theorem dX3_goBackPawn_1 : decode cX3_goBackPawn 1 = .ok (.getfield 9, 3) := by decide +kernel
theorem dX3_goBackPawn_4 : decode cX3_goBackPawn 4 = .ok (.iload_n 2, 1) := by decide +kernel
theorem dX3_goBackPawn_5 : decode cX3_goBackPawn 5 = .ok (.iconst 0, 1) := by decide +kernel
theorem dX3_goBackPawn_6 : decode cX3_goBackPawn 6 = .ok (.invokevirtual 156, 3) := by decide +kernel
theorem dX3_goBackPawn_9 : decode cX3_goBackPawn 9 = .ok (.istore 5, 2) := by decide +kernel
theorem dX3_goBackPawn_11 : decode cX3_goBackPawn 11 = .ok (.iload 5, 2) := by decide +kernel
theorem dX3_goBackPawn_13 : decode cX3_goBackPawn 13 = .ok (.iconst (-1), 1) := by decide +kernel
theorem dX3_goBackPawn_14 : decode cX3_goBackPawn 14 = .ok (.if_icmp .eq 9, 3) := by decide +kernel
theorem dX3_goBackPawn_17 : decode cX3_goBackPawn 17 = .ok (.iload 5, 2) := by decide +kernel
theorem dX3_goBackPawn_19 : decode cX3_goBackPawn 19 = .ok (.iload_n 1, 1) := by decide +kernel
theorem dX3_goBackPawn_20 : decode cX3_goBackPawn 20 = .ok (.if_icmp .ne 4, 3) := by decide +kernel
theorem dX3_goBackPawn_23 : decode cX3_goBackPawn 23 = .ok (.return_, 1) := by decide +kernel
theorem dX3_goBackPawn_24 : decode cX3_goBackPawn 24 = .ok (.aload_n 0, 1) := by decide +kernel
theorem dX3_goBackPawn_25 : decode cX3_goBackPawn 25 = .ok (.iload_n 1, 1) := by decide +kernel
theorem dX3_goBackPawn_26 : decode cX3_goBackPawn 26 = .ok (.iload 5, 2) := by decide +kernel
theorem dX3_goBackPawn_28 : decode cX3_goBackPawn 28 = .ok (.lload_n 3, 1) := by decide +kernel
theorem dX3_goBackPawn_29 : decode cX3_goBackPawn 29 = .ok (.invokevirtual 153, 3) := by decide +kernel
theorem dX3_goBackPawn_32 : decode cX3_goBackPawn 32 = .ok (.aload_n 0, 1) := by decide +kernel
theorem dX3_goBackPawn_33 : decode cX3_goBackPawn 33 = .ok (.getfield 9, 3) := by decide +kernel
theorem dX3_goBackPawn_36 : decode cX3_goBackPawn 36 = .ok (.iload 5, 2) := by decide +kernel
theorem dX3_goBackPawn_38 : decode cX3_goBackPawn 38 = .ok (.iconst 0, 1) := by decide +kernel
theorem dX3_goBackPawn_39 : decode cX3_goBackPawn 39 = .ok (.invokevirtual 156, 3) := by decide +kernel
theorem dX3_goBackPawn_42 : decode cX3_goBackPawn 42 = .ok (.istore 6, 2) := by decide +kernel
theorem dX3_goBackPawn_44 : decode cX3_goBackPawn 44 = .ok (.iload 6, 2) := by decide +kernel
theorem dX3_goBackPawn_46 : decode cX3_goBackPawn 46 = .ok (.iconst (-1), 1) := by decide +kernel
theorem dX3_goBackPawn_47 : decode cX3_goBackPawn 47 = .ok (.if_icmp .eq 34, 3) := by decide +kernel
theorem dX3_goBackPawn_50 : decode cX3_goBackPawn 50 = .ok (.aload_n 0, 1) := by decide +kernel
theorem dX3_goBackPawn_51 : decode cX3_goBackPawn 51 = .ok (.getfield 9, 3) := by decide +kernel
theorem dX3_goBackPawn_54 : decode cX3_goBackPawn 54 = .ok (.iload 6, 2) := by decide +kernel
theorem dX3_goBackPawn_56 : decode cX3_goBackPawn 56 = .ok (.invokevirtual 159, 3) := by decide +kernel
theorem dX3_goBackPawn_59 : decode cX3_goBackPawn 59 = .ok (.iconst 1, 1) := by decide +kernel
theorem dX3_goBackPawn_60 : decode cX3_goBackPawn 60 = .ok (.if_icmp .ne 21, 3) := by decide +kernel
theorem dX3_goBackPawn_63 : decode cX3_goBackPawn 63 = .ok (.aload_n 0, 1) := by decide +kernel
theorem dX3_goBackPawn_64 : decode cX3_goBackPawn 64 = .ok (.iload_n 1, 1) := by decide +kernel
theorem dX3_goBackPawn_65 : decode cX3_goBackPawn 65 = .ok (.iload 6, 2) := by decide +kernel
theorem dX3_goBackPawn_67 : decode cX3_goBackPawn 67 = .ok (.lload_n 3, 1) := by decide +kernel
theorem dX3_goBackPawn_68 : decode cX3_goBackPawn 68 = .ok (.iload 5, 2) := by decide +kernel
theorem dX3_goBackPawn_70 : decode cX3_goBackPawn 70 = .ok (.invokestatic 64, 3) := by decide +kernel
theorem dX3_goBackPawn_73 : decode cX3_goBackPawn 73 = .ok (.ldc2_w 71, 3) := by decide +kernel
theorem dX3_goBackPawn_76 : decode cX3_goBackPawn 76 = .ok (.lxor, 1) := by decide +kernel
theorem dX3_goBackPawn_77 : decode cX3_goBackPawn 77 = .ok (.land, 1) := by decide +kernel
theorem dX3_goBackPawn_78 : decode cX3_goBackPawn 78 = .ok (.invokevirtual 153, 3) := by decide +kernel
theorem dX3_goBackPawn_81 : decode cX3_goBackPawn 81 = .ok (.return_, 1) := by decide +kernel
set_option maxRecDepth 20000 in
theorem ggX3_findPromotions_X0_step : GoodIn wsX3_findPromotions wsX0_step := goodIn_r _ [5, 6, 7, 57, 58, 59, 60, 61, 62, 63, 64] (by decide +kernel) (by decide +kernel)
set_option maxRecDepth 20000 in
theorem gX3_findPromotions_X0_step_n156 : GoodIn wsX3_findPromotions (wsX0_step) := ggX3_findPromotions_X0_step
set_option maxRecDepth 20000 in
theorem ggX3_findPromotions_X0_rankOf : GoodIn wsX3_findPromotions wsX0_rankOf := goodIn_r _ [10, 11, 12, 13, 3, 14, 6, 15, 57, 58, 59, 60, 61, 62, 63, 64] (by decide +kernel) (by decide +kernel)
set_option maxRecDepth 20000 in
theorem gX3_findPromotions_X0_rankOf_n159 : GoodIn wsX3_findPromotions (wsX0_rankOf) := ggX3_findPromotions_X0_rankOf
set_option maxRecDepth 20000 in
theorem ggX3_findPromotions_X3_promoted : GoodIn wsX3_findPromotions wsX3_promoted := goodIn_r _ [20, 21, 22, 23, 19, 24, 25, 1, 26, 27, 28, 29, 30, 31, 32, 33, 34, 35, 36, 37, 38, 39, 48, 49, 50, 51, 52, 53, 54, 55, 56, 57, 58, 59, 60, 61, 62, 63, 64] (by decide +kernel) (by decide +kernel)
set_option maxRecDepth 20000 in
theorem gX3_findPromotions_X3_promoted : GoodIn wsX3_findPromotions (wsV RX3 165 RX3 yX3_promoted wsX3_promoted) := goodIn_app (goodIn_of _ (by decide +kernel)) ggX3_findPromotions_X3_promoted
set_option maxRecDepth 20000 in
theorem ggX3_findPromotions_X3_win : GoodIn wsX3_findPromotions wsX3_win := goodIn_r _ [43, 44, 30, 31, 32, 21, 22, 23, 19, 24, 25, 1, 34, 35, 36, 45, 46, 47, 48, 49, 50, 51, 52, 53, 54, 55, 56, 57, 58, 59, 60, 61, 62, 63, 64] (by decide +kernel) (by decide +kernel)
set_option maxRecDepth 20000 in
theorem gX3_findPromotions_X3_win : GoodIn wsX3_findPromotions (wsV RX3 153 RX3 yX3_win wsX3_win) := goodIn_app (goodIn_of _ (by decide +kernel)) ggX3_findPromotions_X3_win
theorem dX3_findPromotions_0 : decode cX3_findPromotions 0 = .ok (.iconst 0, 1) := by decide +kernel
theorem dX3_findPromotions_1 : decode cX3_findPromotions 1 = .ok (.istore_n 3, 1) := by decide +kernel
theorem dX3_findPromotions_2 : decode cX3_findPromotions 2 = .ok (.iload_n 3, 1) := by decide +kernel
theorem dX3_findPromotions_3 : decode cX3_findPromotions 3 = .ok (.aload_n 0, 1) := by decide +kernel
theorem dX3_findPromotions_4 : decode cX3_findPromotions 4 = .ok (.getfield 9, 3) := by decide +kernel
theorem dX3_findPromotions_7 : decode cX3_findPromotions 7 = .ok (.getfield 19, 3) := by decide +kernel
theorem dX3_findPromotions_10 : decode cX3_findPromotions 10 = .ok (.if_icmp .ge 85, 3) := by decide +kernel
theorem dX3_findPromotions_13 : decode cX3_findPromotions 13 = .ok (.iconst 0, 1) := by decide +kernel
theorem dX3_findPromotions_14 : decode cX3_findPromotions 14 = .ok (.istore 4, 2) := by decide +kernel
theorem dX3_findPromotions_16 : decode cX3_findPromotions 16 = .ok (.iload 4, 2) := by decide +kernel
theorem dX3_findPromotions_18 : decode cX3_findPromotions 18 = .ok (.aload_n 0, 1) := by decide +kernel
theorem dX3_findPromotions_19 : decode cX3_findPromotions 19 = .ok (.getfield 9, 3) := by decide +kernel
theorem dX3_findPromotions_22 : decode cX3_findPromotions 22 = .ok (.getfield 19, 3) := by decide +kernel
theorem dX3_findPromotions_25 : decode cX3_findPromotions 25 = .ok (.if_icmp .ge 64, 3) := by decide +kernel
theorem dX3_findPromotions_28 : decode cX3_findPromotions 28 = .ok (.aload_n 0, 1) := by decide +kernel
theorem dX3_findPromotions_29 : decode cX3_findPromotions 29 = .ok (.getfield 9, 3) := by decide +kernel
theorem dX3_findPromotions_32 : decode cX3_findPromotions 32 = .ok (.iload 4, 2) := by decide +kernel
theorem dX3_findPromotions_34 : decode cX3_findPromotions 34 = .ok (.iconst 3, 1) := by decide +kernel
theorem dX3_findPromotions_35 : decode cX3_findPromotions 35 = .ok (.invokevirtual 156, 3) := by decide +kernel
theorem dX3_findPromotions_38 : decode cX3_findPromotions 38 = .ok (.istore 5, 2) := by decide +kernel
theorem dX3_findPromotions_40 : decode cX3_findPromotions 40 = .ok (.iload 5, 2) := by decide +kernel
theorem dX3_findPromotions_42 : decode cX3_findPromotions 42 = .ok (.iconst (-1), 1) := by decide +kernel
theorem dX3_findPromotions_43 : decode cX3_findPromotions 43 = .ok (.if_icmp .eq 40, 3) := by decide +kernel
theorem dX3_findPromotions_46 : decode cX3_findPromotions 46 = .ok (.aload_n 0, 1) := by decide +kernel
theorem dX3_findPromotions_47 : decode cX3_findPromotions 47 = .ok (.getfield 9, 3) := by decide +kernel
theorem dX3_findPromotions_50 : decode cX3_findPromotions 50 = .ok (.iload 5, 2) := by decide +kernel
theorem dX3_findPromotions_52 : decode cX3_findPromotions 52 = .ok (.invokevirtual 159, 3) := by decide +kernel
theorem dX3_findPromotions_55 : decode cX3_findPromotions 55 = .ok (.aload_n 0, 1) := by decide +kernel
theorem dX3_findPromotions_56 : decode cX3_findPromotions 56 = .ok (.getfield 9, 3) := by decide +kernel
theorem dX3_findPromotions_59 : decode cX3_findPromotions 59 = .ok (.getfield 162, 3) := by decide +kernel
theorem dX3_findPromotions_62 : decode cX3_findPromotions 62 = .ok (.iconst 1, 1) := by decide +kernel
theorem dX3_findPromotions_63 : decode cX3_findPromotions 63 = .ok (.isub, 1) := by decide +kernel
theorem dX3_findPromotions_64 : decode cX3_findPromotions 64 = .ok (.if_icmp .ne 19, 3) := by decide +kernel
theorem dX3_findPromotions_67 : decode cX3_findPromotions 67 = .ok (.aload_n 0, 1) := by decide +kernel
theorem dX3_findPromotions_68 : decode cX3_findPromotions 68 = .ok (.iload_n 3, 1) := by decide +kernel
theorem dX3_findPromotions_69 : decode cX3_findPromotions 69 = .ok (.iload 4, 2) := by decide +kernel
theorem dX3_findPromotions_71 : decode cX3_findPromotions 71 = .ok (.aload_n 0, 1) := by decide +kernel
theorem dX3_findPromotions_72 : decode cX3_findPromotions 72 = .ok (.iload_n 1, 1) := by decide +kernel
theorem dX3_findPromotions_73 : decode cX3_findPromotions 73 = .ok (.iload_n 3, 1) := by decide +kernel
theorem dX3_findPromotions_74 : decode cX3_findPromotions 74 = .ok (.iload 5, 2) := by decide +kernel
theorem dX3_findPromotions_76 : decode cX3_findPromotions 76 = .ok (.aload_n 2, 1) := by decide +kernel
theorem dX3_findPromotions_77 : decode cX3_findPromotions 77 = .ok (.invokevirtual 165, 3) := by decide +kernel
theorem dX3_findPromotions_80 : decode cX3_findPromotions 80 = .ok (.invokevirtual 153, 3) := by decide +kernel
theorem dX3_findPromotions_83 : decode cX3_findPromotions 83 = .ok (.iinc 4 1, 3) := by decide +kernel
theorem dX3_findPromotions_86 : decode cX3_findPromotions 86 = .ok (.goto (-70), 3) := by decide +kernel
theorem dX3_findPromotions_89 : decode cX3_findPromotions 89 = .ok (.iinc 3 1, 3) := by decide +kernel
theorem dX3_findPromotions_92 : decode cX3_findPromotions 92 = .ok (.goto (-90), 3) := by decide +kernel
theorem dX3_findPromotions_95 : decode cX3_findPromotions 95 = .ok (.return_, 1) := by decide +kernel
set_option maxRecDepth 20000 in
theorem ggX3_promoted_X3_rowOf : GoodIn wsX3_promoted wsX3_rowOf := goodIn_r _ [5, 6, 7, 22, 23, 24, 25, 26, 27, 28, 29, 30, 31, 32, 33, 34, 35, 36, 37, 38] (by decide +kernel) (by decide +kernel)
set_option maxRecDepth 20000 in
theorem gX3_promoted_X3_rowOf : GoodIn wsX3_promoted (wsV RX3 56 RX3 yX3_rowOf wsX3_rowOf) := goodIn_app (goodIn_of _ (by decide +kernel)) ggX3_promoted_X3_rowOf
set_option maxRecDepth 20000 in
theorem ggX3_promoted_X3_having : GoodIn wsX3_promoted wsX3_having := goodIn_r _ [11, 12, 13, 14, 15, 6, 16, 17, 4, 18, 19, 20, 21, 22, 23, 24, 25, 26, 27, 28, 29, 30] (by decide +kernel) (by decide +kernel)
set_option maxRecDepth 20000 in
theorem gX3_promoted_X3_having : GoodIn wsX3_promoted (wsV RX3 73 RX3 yX3_having wsX3_having) := goodIn_app (goodIn_of _ (by decide +kernel)) ggX3_promoted_X3_having
theorem dX3_promoted_0 : decode cX3_promoted 0 = .ok (.lconst 0, 1) := by decide +kernel
theorem dX3_promoted_1 : decode cX3_promoted 1 = .ok (.lstore 5, 2) := by decide +kernel
theorem dX3_promoted_3 : decode cX3_promoted 3 = .ok (.aload_n 0, 1) := by decide +kernel
theorem dX3_promoted_4 : decode cX3_promoted 4 = .ok (.iconst 1, 1) := by decide +kernel
theorem dX3_promoted_5 : decode cX3_promoted 5 = .ok (.iload_n 2, 1) := by decide +kernel
theorem dX3_promoted_6 : decode cX3_promoted 6 = .ok (.iload_n 3, 1) := by decide +kernel
theorem dX3_promoted_7 : decode cX3_promoted 7 = .ok (.invokevirtual 56, 3) := by decide +kernel
theorem dX3_promoted_10 : decode cX3_promoted 10 = .ok (.istore 7, 2) := by decide +kernel
theorem dX3_promoted_12 : decode cX3_promoted 12 = .ok (.iconst 2, 1) := by decide +kernel
theorem dX3_promoted_13 : decode cX3_promoted 13 = .ok (.istore 8, 2) := by decide +kernel
theorem dX3_promoted_15 : decode cX3_promoted 15 = .ok (.iload 8, 2) := by decide +kernel
theorem dX3_promoted_17 : decode cX3_promoted 17 = .ok (.iconst 5, 1) := by decide +kernel
theorem dX3_promoted_18 : decode cX3_promoted 18 = .ok (.if_icmp .gt 44, 3) := by decide +kernel
theorem dX3_promoted_21 : decode cX3_promoted 21 = .ok (.iload 8, 2) := by decide +kernel
theorem dX3_promoted_23 : decode cX3_promoted 23 = .ok (.aload 4, 2) := by decide +kernel
theorem dX3_promoted_25 : decode cX3_promoted 25 = .ok (.arraylength, 1) := by decide +kernel
theorem dX3_promoted_26 : decode cX3_promoted 26 = .ok (.if_icmp .ge 30, 3) := by decide +kernel
theorem dX3_promoted_29 : decode cX3_promoted 29 = .ok (.aload 4, 2) := by decide +kernel
theorem dX3_promoted_31 : decode cX3_promoted 31 = .ok (.iload 8, 2) := by decide +kernel
theorem dX3_promoted_33 : decode cX3_promoted 33 = .ok (.aaload, 1) := by decide +kernel
theorem dX3_promoted_34 : decode cX3_promoted 34 = .ok (.ifnull 22, 3) := by decide +kernel
theorem dX3_promoted_37 : decode cX3_promoted 37 = .ok (.lload 5, 2) := by decide +kernel
theorem dX3_promoted_39 : decode cX3_promoted 39 = .ok (.aload 4, 2) := by decide +kernel
theorem dX3_promoted_41 : decode cX3_promoted 41 = .ok (.iload 8, 2) := by decide +kernel
theorem dX3_promoted_43 : decode cX3_promoted 43 = .ok (.aaload, 1) := by decide +kernel
theorem dX3_promoted_44 : decode cX3_promoted 44 = .ok (.iconst 1, 1) := by decide +kernel
theorem dX3_promoted_45 : decode cX3_promoted 45 = .ok (.iload 7, 2) := by decide +kernel
theorem dX3_promoted_47 : decode cX3_promoted 47 = .ok (.iconst 2, 1) := by decide +kernel
theorem dX3_promoted_48 : decode cX3_promoted 48 = .ok (.iload_n 1, 1) := by decide +kernel
theorem dX3_promoted_49 : decode cX3_promoted 49 = .ok (.imul, 1) := by decide +kernel
theorem dX3_promoted_50 : decode cX3_promoted 50 = .ok (.invokevirtual 73, 3) := by decide +kernel
theorem dX3_promoted_53 : decode cX3_promoted 53 = .ok (.lor, 1) := by decide +kernel
theorem dX3_promoted_54 : decode cX3_promoted 54 = .ok (.lstore 5, 2) := by decide +kernel
theorem dX3_promoted_56 : decode cX3_promoted 56 = .ok (.iinc 8 1, 3) := by decide +kernel
theorem dX3_promoted_59 : decode cX3_promoted 59 = .ok (.goto (-44), 3) := by decide +kernel
theorem dX3_promoted_62 : decode cX3_promoted 62 = .ok (.lload 5, 2) := by decide +kernel
theorem dX3_promoted_64 : decode cX3_promoted 64 = .ok (.lreturn, 1) := by decide +kernel
set_option maxRecDepth 20000 in
theorem ggX4_init_X0_init : GoodIn wsX4_init wsX0_init := goodIn_r _ [23, 24, 2, 3, 25, 26, 27, 28, 29, 30, 31, 32, 33, 34, 35, 36, 6, 37, 38, 39, 40, 41, 42, 43, 44, 45, 46, 47, 48, 49, 50, 79, 80, 81, 82, 83, 84, 85, 86] (by decide +kernel) (by decide +kernel)
set_option maxRecDepth 20000 in
theorem gX4_init_X0_init_n9 : GoodIn wsX4_init (wsX0_init) := ggX4_init_X0_init
set_option maxRecDepth 20000 in
theorem ggX4_init_X3_init : GoodIn wsX4_init wsX3_init := goodIn_r _ [52, 53, 2, 3, 54, 55, 56, 57, 58, 59, 60, 61, 62, 63, 64, 65, 66, 67, 68, 69, 70, 93, 94, 95, 96, 97, 98, 99, 100, 101, 79, 80, 81, 82, 83, 84, 85, 86] (by decide +kernel) (by decide +kernel)
set_option maxRecDepth 20000 in
theorem gX4_init_X3_init_n24 : GoodIn wsX4_init (wsX3_init) := ggX4_init_X3_init
set_option maxRecDepth 20000 in
theorem ggX4_init_X2_init : GoodIn wsX4_init wsX2_init := goodIn_r _ [72, 73, 2, 3] (by decide +kernel) (by decide +kernel)
set_option maxRecDepth 20000 in
theorem gX4_init_X2_init_n29 : GoodIn wsX4_init (wsX2_init) := ggX4_init_X2_init
set_option maxRecDepth 20000 in
theorem ggX4_init_X1_init : GoodIn wsX4_init wsX1_init := goodIn_r _ [75, 76, 2, 3, 28, 77, 78, 107, 108] (by decide +kernel) (by decide +kernel)
set_option maxRecDepth 20000 in
theorem gX4_init_X1_init_n39 : GoodIn wsX4_init (wsX1_init) := ggX4_init_X1_init
theorem dX4_init_0 : decode cX4_init 0 = .ok (.aload_n 0, 1) := by decide +kernel
theorem dX4_init_1 : decode cX4_init 1 = .ok (.invokespecial 1, 3) := by decide +kernel
theorem dX4_init_4 : decode cX4_init 4 = .ok (.aload_n 0, 1) := by decide +kernel
theorem dX4_init_5 : decode cX4_init 5 = .ok (.new 7, 3) := by decide +kernel
theorem dX4_init_8 : decode cX4_init 8 = .ok (.dup, 1) := by decide +kernel
theorem dX4_init_9 : decode cX4_init 9 = .ok (.iload_n 1, 1) := by decide +kernel
theorem dX4_init_10 : decode cX4_init 10 = .ok (.iload_n 2, 1) := by decide +kernel
theorem dX4_init_11 : decode cX4_init 11 = .ok (.invokespecial 9, 3) := by decide +kernel
theorem dX4_init_14 : decode cX4_init 14 = .ok (.putfield 12, 3) := by decide +kernel
theorem dX4_init_17 : decode cX4_init 17 = .ok (.aload_n 0, 1) := by decide +kernel
theorem dX4_init_18 : decode cX4_init 18 = .ok (.bipush 6, 2) := by decide +kernel
theorem dX4_init_20 : decode cX4_init 20 = .ok (.anewarray 18, 3) := by decide +kernel
theorem dX4_init_23 : decode cX4_init 23 = .ok (.putfield 20, 3) := by decide +kernel
theorem dX4_init_26 : decode cX4_init 26 = .ok (.aload_n 0, 1) := by decide +kernel
theorem dX4_init_27 : decode cX4_init 27 = .ok (.getfield 20, 3) := by decide +kernel
theorem dX4_init_30 : decode cX4_init 30 = .ok (.iconst 1, 1) := by decide +kernel
theorem dX4_init_31 : decode cX4_init 31 = .ok (.new 18, 3) := by decide +kernel
theorem dX4_init_34 : decode cX4_init 34 = .ok (.dup, 1) := by decide +kernel
theorem dX4_init_35 : decode cX4_init 35 = .ok (.aload_n 0, 1) := by decide +kernel
theorem dX4_init_36 : decode cX4_init 36 = .ok (.getfield 12, 3) := by decide +kernel
theorem dX4_init_39 : decode cX4_init 39 = .ok (.iconst 1, 1) := by decide +kernel
theorem dX4_init_40 : decode cX4_init 40 = .ok (.invokespecial 24, 3) := by decide +kernel
theorem dX4_init_43 : decode cX4_init 43 = .ok (.aastore, 1) := by decide +kernel
theorem dX4_init_44 : decode cX4_init 44 = .ok (.aload_n 0, 1) := by decide +kernel
theorem dX4_init_45 : decode cX4_init 45 = .ok (.getfield 20, 3) := by decide +kernel
theorem dX4_init_48 : decode cX4_init 48 = .ok (.iconst 2, 1) := by decide +kernel
theorem dX4_init_49 : decode cX4_init 49 = .ok (.new 18, 3) := by decide +kernel
theorem dX4_init_52 : decode cX4_init 52 = .ok (.dup, 1) := by decide +kernel
theorem dX4_init_53 : decode cX4_init 53 = .ok (.aload_n 0, 1) := by decide +kernel
theorem dX4_init_54 : decode cX4_init 54 = .ok (.getfield 12, 3) := by decide +kernel
theorem dX4_init_57 : decode cX4_init 57 = .ok (.iconst 2, 1) := by decide +kernel
theorem dX4_init_58 : decode cX4_init 58 = .ok (.invokespecial 24, 3) := by decide +kernel
theorem dX4_init_61 : decode cX4_init 61 = .ok (.aastore, 1) := by decide +kernel
theorem dX4_init_62 : decode cX4_init 62 = .ok (.aload_n 0, 1) := by decide +kernel
theorem dX4_init_63 : decode cX4_init 63 = .ok (.getfield 20, 3) := by decide +kernel
theorem dX4_init_66 : decode cX4_init 66 = .ok (.iconst 3, 1) := by decide +kernel
theorem dX4_init_67 : decode cX4_init 67 = .ok (.new 18, 3) := by decide +kernel
theorem dX4_init_70 : decode cX4_init 70 = .ok (.dup, 1) := by decide +kernel
theorem dX4_init_71 : decode cX4_init 71 = .ok (.aload_n 0, 1) := by decide +kernel
theorem dX4_init_72 : decode cX4_init 72 = .ok (.getfield 12, 3) := by decide +kernel
theorem dX4_init_75 : decode cX4_init 75 = .ok (.iconst 3, 1) := by decide +kernel
theorem dX4_init_76 : decode cX4_init 76 = .ok (.invokespecial 24, 3) := by decide +kernel
theorem dX4_init_79 : decode cX4_init 79 = .ok (.aastore, 1) := by decide +kernel
theorem dX4_init_80 : decode cX4_init 80 = .ok (.aload_n 0, 1) := by decide +kernel
theorem dX4_init_81 : decode cX4_init 81 = .ok (.getfield 20, 3) := by decide +kernel
theorem dX4_init_84 : decode cX4_init 84 = .ok (.iconst 4, 1) := by decide +kernel
theorem dX4_init_85 : decode cX4_init 85 = .ok (.new 18, 3) := by decide +kernel
theorem dX4_init_88 : decode cX4_init 88 = .ok (.dup, 1) := by decide +kernel
theorem dX4_init_89 : decode cX4_init 89 = .ok (.aload_n 0, 1) := by decide +kernel
theorem dX4_init_90 : decode cX4_init 90 = .ok (.getfield 12, 3) := by decide +kernel
theorem dX4_init_93 : decode cX4_init 93 = .ok (.iconst 4, 1) := by decide +kernel
theorem dX4_init_94 : decode cX4_init 94 = .ok (.invokespecial 24, 3) := by decide +kernel
theorem dX4_init_97 : decode cX4_init 97 = .ok (.aastore, 1) := by decide +kernel
theorem dX4_init_98 : decode cX4_init 98 = .ok (.aload_n 0, 1) := by decide +kernel
theorem dX4_init_99 : decode cX4_init 99 = .ok (.getfield 20, 3) := by decide +kernel
theorem dX4_init_102 : decode cX4_init 102 = .ok (.iconst 5, 1) := by decide +kernel
theorem dX4_init_103 : decode cX4_init 103 = .ok (.new 18, 3) := by decide +kernel
theorem dX4_init_106 : decode cX4_init 106 = .ok (.dup, 1) := by decide +kernel
theorem dX4_init_107 : decode cX4_init 107 = .ok (.aload_n 0, 1) := by decide +kernel
theorem dX4_init_108 : decode cX4_init 108 = .ok (.getfield 12, 3) := by decide +kernel
theorem dX4_init_111 : decode cX4_init 111 = .ok (.iconst 5, 1) := by decide +kernel
theorem dX4_init_112 : decode cX4_init 112 = .ok (.invokespecial 24, 3) := by decide +kernel
theorem dX4_init_115 : decode cX4_init 115 = .ok (.aastore, 1) := by decide +kernel
theorem dX4_init_116 : decode cX4_init 116 = .ok (.aload_n 0, 1) := by decide +kernel
theorem dX4_init_117 : decode cX4_init 117 = .ok (.new 27, 3) := by decide +kernel
theorem dX4_init_120 : decode cX4_init 120 = .ok (.dup, 1) := by decide +kernel
theorem dX4_init_121 : decode cX4_init 121 = .ok (.invokespecial 29, 3) := by decide +kernel
theorem dX4_init_124 : decode cX4_init 124 = .ok (.putfield 30, 3) := by decide +kernel
theorem dX4_init_127 : decode cX4_init 127 = .ok (.aload_n 0, 1) := by decide +kernel
theorem dX4_init_128 : decode cX4_init 128 = .ok (.new 27, 3) := by decide +kernel
theorem dX4_init_131 : decode cX4_init 131 = .ok (.dup, 1) := by decide +kernel
theorem dX4_init_132 : decode cX4_init 132 = .ok (.invokespecial 29, 3) := by decide +kernel
theorem dX4_init_135 : decode cX4_init 135 = .ok (.putfield 34, 3) := by decide +kernel
theorem dX4_init_138 : decode cX4_init 138 = .ok (.aload_n 0, 1) := by decide +kernel
theorem dX4_init_139 : decode cX4_init 139 = .ok (.new 37, 3) := by decide +kernel
theorem dX4_init_142 : decode cX4_init 142 = .ok (.dup, 1) := by decide +kernel
theorem dX4_init_143 : decode cX4_init 143 = .ok (.invokespecial 39, 3) := by decide +kernel
theorem dX4_init_146 : decode cX4_init 146 = .ok (.putfield 40, 3) := by decide +kernel
theorem dX4_init_149 : decode cX4_init 149 = .ok (.aload_n 0, 1) := by decide +kernel
theorem dX4_init_150 : decode cX4_init 150 = .ok (.iconst 0, 1) := by decide +kernel
theorem dX4_init_151 : decode cX4_init 151 = .ok (.putfield 44, 3) := by decide +kernel
theorem dX4_init_154 : decode cX4_init 154 = .ok (.return_, 1) := by decide +kernel
theorem dX4_size_0 : decode cX4_size 0 = .ok (.iload_n 1, 1) := by decide +kernel
theorem dX4_size_1 : decode cX4_size 1 = .ok (.ifCond .eq 13, 3) := by decide +kernel
theorem dX4_size_4 : decode cX4_size 4 = .ok (.aload_n 0, 1) := by decide +kernel
theorem dX4_size_5 : decode cX4_size 5 = .ok (.getfield 12, 3) := by decide +kernel
theorem dX4_size_8 : decode cX4_size 8 = .ok (.getfield 48, 3) := by decide +kernel
theorem dX4_size_11 : decode cX4_size 11 = .ok (.goto 10, 3) := by decide +kernel
theorem dX4_size_14 : decode cX4_size 14 = .ok (.aload_n 0, 1) := by decide +kernel
theorem dX4_size_15 : decode cX4_size 15 = .ok (.getfield 12, 3) := by decide +kernel
theorem dX4_size_18 : decode cX4_size 18 = .ok (.getfield 52, 3) := by decide +kernel
theorem dX4_size_21 : decode cX4_size 21 = .ok (.ireturn, 1) := by decide +kernel
set_option maxRecDepth 20000 in
theorem ggX4_distance_X4_isMan : GoodIn wsX4_distance wsX4_isMan := goodIn_r _ [7] (by decide +kernel) (by decide +kernel)
set_option maxRecDepth 20000 in
theorem gX4_distance_X4_isMan : GoodIn wsX4_distance (va_wsS RX4 55 yX4_isMan wsX4_isMan) := goodIn_app (goodIn_of _ (by decide +kernel)) ggX4_distance_X4_isMan
set_option maxRecDepth 20000 in
theorem ggX4_distance_X4_lookAt : GoodIn wsX4_distance wsX4_lookAt := goodIn_r _ [11, 3, 12, 13, 14, 15, 16, 17, 18, 19, 20, 21, 22, 23, 24, 25, 5, 6, 7, 26, 27, 28, 29, 30, 31, 32, 33, 34, 35, 36, 37, 38, 39, 40, 41, 42, 43, 44, 45, 46, 47, 48, 49, 50, 51, 52, 53, 54, 55, 56, 57, 58, 59, 60, 61, 62, 63, 64, 65, 66, 67, 68, 69, 70, 71, 72, 73, 74, 75, 76, 77, 78, 79, 80, 81, 82, 189, 190, 191, 192, 193, 194, 195, 196, 197, 198, 199, 200, 201, 202, 203, 204, 205, 206, 207] (by decide +kernel) (by decide +kernel)
set_option maxRecDepth 20000 in
theorem gX4_distance_X4_lookAt : GoodIn wsX4_distance (wsV RX4 59 RX4 yX4_lookAt wsX4_lookAt) := goodIn_app (goodIn_of _ (by decide +kernel)) ggX4_distance_X4_lookAt
set_option maxRecDepth 20000 in
theorem ggX4_distance_X4_prepare : GoodIn wsX4_distance wsX4_prepare := goodIn_r _ [86, 87, 88, 89, 90, 6, 91, 92, 93, 94, 95, 96, 97, 98, 99, 100, 101, 102, 103, 104, 29, 14, 30, 31, 32, 33, 34, 35, 36, 37, 38, 22, 39, 40, 41, 42, 43, 44, 45, 46, 47, 48, 49, 50, 51, 52, 53, 54, 55, 56, 57, 58, 59, 60, 21, 66, 67, 68, 69, 70, 71, 72, 73, 74, 75, 76, 77, 78, 79, 80, 81, 82, 105, 106, 107, 108, 109, 110, 111, 112, 113, 114, 115, 116, 117, 118, 119, 120, 121, 122, 123, 124, 125, 126, 127, 128, 129, 130, 131, 132, 133, 134, 135, 136, 137, 138, 139, 140, 141, 142, 143, 144, 145, 146, 147, 148, 149, 150, 151, 152, 153, 154, 155, 156, 157, 158, 159, 160, 161, 162, 163, 164, 165, 166, 167, 168, 169, 170, 171, 172, 173, 174, 175, 176, 177, 178, 179, 180, 181, 208, 209, 210, 211, 212, 213, 214, 215, 216, 189, 190, 191, 192, 193, 194, 200, 201, 202, 203, 204, 205, 206, 207] (by decide +kernel) (by decide +kernel)
set_option maxRecDepth 20000 in
theorem gX4_distance_X4_prepare : GoodIn wsX4_distance (wsV RX4 70 RX4 yX4_prepare wsX4_prepare) := goodIn_app (goodIn_of _ (by decide +kernel)) ggX4_distance_X4_prepare
set_option maxRecDepth 20000 in
theorem ggX4_distance_X4_pliesOf : GoodIn wsX4_distance wsX4_pliesOf := goodIn_r _ [185, 88, 89, 90, 6, 91, 87, 186, 93, 187, 188, 125, 130, 109, 105, 106, 107, 108, 101, 118, 119, 120, 53, 14, 54, 139, 140, 141, 195, 196, 197, 198, 199, 189, 190, 191, 192, 193, 194, 208, 209, 210, 211, 212, 213, 214, 215, 216, 200, 201, 202, 203, 204, 205, 206, 207] (by decide +kernel) (by decide +kernel)
set_option maxRecDepth 20000 in
theorem gX4_distance_X4_pliesOf : GoodIn wsX4_distance (wsV RX4 74 RX4 yX4_pliesOf wsX4_pliesOf) := goodIn_app (goodIn_of _ (by decide +kernel)) ggX4_distance_X4_pliesOf
theorem dX4_distance_0 : decode cX4_distance 0 = .ok (.iload_n 1, 1) := by decide +kernel
theorem dX4_distance_1 : decode cX4_distance 1 = .ok (.invokestatic 55, 3) := by decide +kernel
theorem dX4_distance_4 : decode cX4_distance 4 = .ok (.ifCond .eq 17, 3) := by decide +kernel
theorem dX4_distance_7 : decode cX4_distance 7 = .ok (.aload_n 0, 1) := by decide +kernel
theorem dX4_distance_8 : decode cX4_distance 8 = .ok (.iload_n 1, 1) := by decide +kernel
theorem dX4_distance_9 : decode cX4_distance 9 = .ok (.iload_n 2, 1) := by decide +kernel
theorem dX4_distance_10 : decode cX4_distance 10 = .ok (.iload_n 3, 1) := by decide +kernel
theorem dX4_distance_11 : decode cX4_distance 11 = .ok (.iload 4, 2) := by decide +kernel
theorem dX4_distance_13 : decode cX4_distance 13 = .ok (.iload 5, 2) := by decide +kernel
theorem dX4_distance_15 : decode cX4_distance 15 = .ok (.invokevirtual 59, 3) := by decide +kernel
theorem dX4_distance_18 : decode cX4_distance 18 = .ok (.ifCond .ne 13, 3) := by decide +kernel
theorem dX4_distance_21 : decode cX4_distance 21 = .ok (.new 63, 3) := by decide +kernel
theorem dX4_distance_24 : decode cX4_distance 24 = .ok (.dup, 1) := by decide +kernel
theorem dX4_distance_25 : decode cX4_distance 25 = .ok (.ldc 65, 2) := by decide +kernel
theorem dX4_distance_27 : decode cX4_distance 27 = .ok (.invokespecial 67, 3) := by decide +kernel
theorem dX4_distance_30 : decode cX4_distance 30 = .ok (.athrow, 1) := by decide +kernel
theorem dX4_distance_31 : decode cX4_distance 31 = .ok (.aload_n 0, 1) := by decide +kernel
theorem dX4_distance_32 : decode cX4_distance 32 = .ok (.iload_n 1, 1) := by decide +kernel
theorem dX4_distance_33 : decode cX4_distance 33 = .ok (.invokevirtual 70, 3) := by decide +kernel
theorem dX4_distance_36 : decode cX4_distance 36 = .ok (.pop, 1) := by decide +kernel
theorem dX4_distance_37 : decode cX4_distance 37 = .ok (.aload_n 0, 1) := by decide +kernel
theorem dX4_distance_38 : decode cX4_distance 38 = .ok (.aload_n 0, 1) := by decide +kernel
theorem dX4_distance_39 : decode cX4_distance 39 = .ok (.getfield 34, 3) := by decide +kernel
theorem dX4_distance_42 : decode cX4_distance 42 = .ok (.invokevirtual 74, 3) := by decide +kernel
theorem dX4_distance_45 : decode cX4_distance 45 = .ok (.ireturn, 1) := by decide +kernel
set_option maxRecDepth 20000 in
theorem ggX4_count_X4_checkKindAndSide : GoodIn wsX4_count wsX4_checkKindAndSide := goodIn_ca (goodIn_r _ [4, 5, 6, 7, 8, 3, 9, 10, 11, 12] (by decide +kernel) (by decide +kernel)) (goodIn_sub (fun _ h => List.mem_cons_of_mem _ (List.mem_append_right _ h)) (by decide +kernel))
set_option maxRecDepth 20000 in
theorem gX4_count_X4_checkKindAndSide : GoodIn wsX4_count (va_wsS RX4 78 yX4_checkKindAndSide wsX4_checkKindAndSide) := goodIn_app (goodIn_of _ (by decide +kernel)) ggX4_count_X4_checkKindAndSide
set_option maxRecDepth 20000 in
theorem ggX4_count_X4_prepare : GoodIn wsX4_count wsX4_prepare := goodIn_r _ [16, 17, 18, 19, 20, 3, 21, 22, 23, 24, 25, 26, 27, 28, 29, 30, 31, 32, 33, 34, 35, 36, 37, 38, 39, 40, 41, 42, 43, 44, 45, 46, 47, 48, 49, 50, 51, 52, 53, 54, 55, 56, 57, 58, 59, 60, 61, 62, 63, 64, 65, 66, 67, 68, 69, 70, 71, 72, 73, 74, 75, 76, 77, 78, 79, 80, 81, 82, 83, 84, 85, 86, 87, 88, 89, 90, 91, 92, 93, 94, 95, 96, 97, 98, 99, 100, 101, 102, 103, 104, 105, 106, 107, 108, 109, 110, 111, 112, 113, 114, 115, 116, 117, 118, 119, 120, 121, 122, 123, 124, 125, 126, 127, 128, 129, 130, 131, 132, 133, 134, 135, 136, 137, 138, 139, 140, 141, 142, 143, 144, 145, 146, 147, 148, 149, 150, 151, 152, 153, 154, 155, 156, 157, 158, 159, 160, 161, 162, 163, 174, 175, 176, 177, 178, 179, 180, 181, 182, 183, 184, 185, 186, 187, 188, 189, 190, 191, 192, 193, 194, 195, 196] (by decide +kernel) (by decide +kernel)
set_option maxRecDepth 20000 in
theorem gX4_count_X4_prepare : GoodIn wsX4_count (wsV RX4 70 RX4 yX4_prepare wsX4_prepare) := goodIn_app (goodIn_of _ (by decide +kernel)) ggX4_count_X4_prepare
set_option maxRecDepth 20000 in
theorem ggX4_count_X3_amount : GoodIn wsX4_count wsX3_amount := goodIn_r _ [166, 91, 156, 157, 158, 23, 159, 33, 107, 34, 112, 100, 101, 102, 121, 122, 123, 167, 168, 169, 170, 171, 172, 173, 174, 175, 176, 177, 178, 179, 180, 181, 182] (by decide +kernel) (by decide +kernel)
set_option maxRecDepth 20000 in
theorem gX4_count_X3_amount_n81 : GoodIn wsX4_count (wsX3_amount) := ggX4_count_X3_amount
theorem dX4_count_0 : decode cX4_count 0 = .ok (.iload_n 1, 1) := by decide +kernel
theorem dX4_count_1 : decode cX4_count 1 = .ok (.iload_n 2, 1) := by decide +kernel
theorem dX4_count_2 : decode cX4_count 2 = .ok (.invokestatic 78, 3) := by decide +kernel
theorem dX4_count_5 : decode cX4_count 5 = .ok (.aload_n 0, 1) := by decide +kernel
theorem dX4_count_6 : decode cX4_count 6 = .ok (.iload_n 1, 1) := by decide +kernel
theorem dX4_count_7 : decode cX4_count 7 = .ok (.invokevirtual 70, 3) := by decide +kernel
theorem dX4_count_10 : decode cX4_count 10 = .ok (.astore 4, 2) := by decide +kernel
theorem dX4_count_12 : decode cX4_count 12 = .ok (.aload 4, 2) := by decide +kernel
theorem dX4_count_14 : decode cX4_count 14 = .ok (.ifnonnull 7, 3) := by decide +kernel
theorem dX4_count_17 : decode cX4_count 17 = .ok (.iconst 0, 1) := by decide +kernel
theorem dX4_count_18 : decode cX4_count 18 = .ok (.goto 10, 3) := by decide +kernel
theorem dX4_count_21 : decode cX4_count 21 = .ok (.aload 4, 2) := by decide +kernel
theorem dX4_count_23 : decode cX4_count 23 = .ok (.iload_n 2, 1) := by decide +kernel
theorem dX4_count_24 : decode cX4_count 24 = .ok (.iload_n 3, 1) := by decide +kernel
theorem dX4_count_25 : decode cX4_count 25 = .ok (.invokevirtual 81, 3) := by decide +kernel
theorem dX4_count_28 : decode cX4_count 28 = .ok (.ireturn, 1) := by decide +kernel
set_option maxRecDepth 20000 in
theorem ggX4_find_X4_checkKindAndSide : GoodIn wsX4_find wsX4_checkKindAndSide := goodIn_ca (goodIn_r _ [6, 7, 8, 9, 10, 5, 11, 12, 13, 14] (by decide +kernel) (by decide +kernel)) (goodIn_sub (fun _ h => List.mem_cons_of_mem _ (List.mem_append_right _ h)) (by decide +kernel))
set_option maxRecDepth 20000 in
theorem gX4_find_X4_checkKindAndSide : GoodIn wsX4_find (va_wsS RX4 78 yX4_checkKindAndSide wsX4_checkKindAndSide) := goodIn_app (goodIn_of _ (by decide +kernel)) ggX4_find_X4_checkKindAndSide
set_option maxRecDepth 20000 in
theorem ggX4_find_X4_prepare : GoodIn wsX4_find wsX4_prepare := goodIn_r _ [18, 19, 20, 21, 22, 5, 23, 24, 25, 26, 27, 28, 29, 30, 31, 32, 33, 34, 35, 36, 37, 38, 39, 40, 41, 42, 43, 44, 45, 46, 47, 48, 49, 50, 51, 52, 53, 54, 55, 56, 57, 58, 59, 60, 61, 62, 63, 64, 65, 66, 67, 68, 69, 70, 71, 72, 73, 74, 75, 76, 77, 78, 79, 80, 81, 82, 83, 84, 85, 86, 87, 88, 89, 90, 91, 92, 93, 94, 95, 96, 97, 98, 99, 100, 101, 102, 103, 104, 105, 106, 107, 108, 109, 110, 111, 112, 113, 114, 115, 116, 117, 118, 119, 120, 121, 122, 123, 124, 125, 126, 127, 128, 129, 130, 131, 132, 133, 134, 135, 136, 137, 138, 139, 140, 141, 142, 143, 144, 145, 146, 147, 148, 149, 150, 151, 152, 153, 154, 155, 156, 157, 158, 159, 160, 161, 162, 163, 164, 165, 182, 183, 184, 185, 186, 187, 188, 189, 190, 191, 192, 193, 194, 195, 196, 197, 198, 199, 200, 201, 202, 203, 204] (by decide +kernel) (by decide +kernel)
set_option maxRecDepth 20000 in
theorem gX4_find_X4_prepare : GoodIn wsX4_find (wsV RX4 70 RX4 yX4_prepare wsX4_prepare) := goodIn_app (goodIn_of _ (by decide +kernel)) ggX4_find_X4_prepare
set_option maxRecDepth 20000 in
theorem ggX4_find_X3_pick : GoodIn wsX4_find wsX3_pick := goodIn_r _ [168, 33, 89, 90, 91, 25, 92, 93, 158, 159, 160, 161, 35, 109, 36, 114, 102, 103, 104, 123, 124, 125, 169, 170, 171, 172, 173, 174, 175, 176, 177, 178, 179, 180, 181, 54, 38, 55, 56, 47, 57, 182, 183, 184, 185, 186, 187, 188, 189, 190, 197, 198, 199, 200, 201, 202, 203, 204] (by decide +kernel) (by decide +kernel)
set_option maxRecDepth 20000 in
theorem gX4_find_X3_pick_n85 : GoodIn wsX4_find (wsX3_pick) := ggX4_find_X3_pick
theorem dX4_find_0 : decode cX4_find 0 = .ok (.iload_n 1, 1) := by decide +kernel
theorem dX4_find_1 : decode cX4_find 1 = .ok (.iload_n 2, 1) := by decide +kernel
theorem dX4_find_2 : decode cX4_find 2 = .ok (.invokestatic 78, 3) := by decide +kernel
theorem dX4_find_5 : decode cX4_find 5 = .ok (.aload_n 0, 1) := by decide +kernel
theorem dX4_find_6 : decode cX4_find 6 = .ok (.iload_n 1, 1) := by decide +kernel
theorem dX4_find_7 : decode cX4_find 7 = .ok (.invokevirtual 70, 3) := by decide +kernel
theorem dX4_find_10 : decode cX4_find 10 = .ok (.astore 5, 2) := by decide +kernel
theorem dX4_find_12 : decode cX4_find 12 = .ok (.aload 5, 2) := by decide +kernel
theorem dX4_find_14 : decode cX4_find 14 = .ok (.ifnonnull 7, 3) := by decide +kernel
theorem dX4_find_17 : decode cX4_find 17 = .ok (.iconst (-1), 1) := by decide +kernel
theorem dX4_find_18 : decode cX4_find 18 = .ok (.goto 12, 3) := by decide +kernel
theorem dX4_find_21 : decode cX4_find 21 = .ok (.aload 5, 2) := by decide +kernel
theorem dX4_find_23 : decode cX4_find 23 = .ok (.iload_n 2, 1) := by decide +kernel
theorem dX4_find_24 : decode cX4_find 24 = .ok (.iload_n 3, 1) := by decide +kernel
theorem dX4_find_25 : decode cX4_find 25 = .ok (.iload 4, 2) := by decide +kernel
theorem dX4_find_27 : decode cX4_find 27 = .ok (.invokevirtual 85, 3) := by decide +kernel
theorem dX4_find_30 : decode cX4_find 30 = .ok (.istore 6, 2) := by decide +kernel
theorem dX4_find_32 : decode cX4_find 32 = .ok (.iload 6, 2) := by decide +kernel
theorem dX4_find_34 : decode cX4_find 34 = .ok (.ifCond .ge 13, 3) := by decide +kernel
theorem dX4_find_37 : decode cX4_find 37 = .ok (.new 89, 3) := by decide +kernel
theorem dX4_find_40 : decode cX4_find 40 = .ok (.dup, 1) := by decide +kernel
theorem dX4_find_41 : decode cX4_find 41 = .ok (.ldc 91, 2) := by decide +kernel
theorem dX4_find_43 : decode cX4_find 43 = .ok (.invokespecial 93, 3) := by decide +kernel
theorem dX4_find_46 : decode cX4_find 46 = .ok (.athrow, 1) := by decide +kernel
theorem dX4_find_47 : decode cX4_find 47 = .ok (.iload 6, 2) := by decide +kernel
theorem dX4_find_49 : decode cX4_find 49 = .ok (.ireturn, 1) := by decide +kernel
set_option maxRecDepth 20000 in
theorem ggX4_longest_X4_isMan : GoodIn wsX4_longest wsX4_isMan := goodIn_r _ [6] (by decide +kernel) (by decide +kernel)
set_option maxRecDepth 20000 in
theorem gX4_longest_X4_isMan : GoodIn wsX4_longest (va_wsS RX4 55 yX4_isMan wsX4_isMan) := goodIn_app (goodIn_of _ (by decide +kernel)) ggX4_longest_X4_isMan
set_option maxRecDepth 20000 in
theorem ggX4_longest_X4_prepare : GoodIn wsX4_longest wsX4_prepare := goodIn_r _ [10, 11, 12, 13, 14, 5, 15, 16, 17, 18, 19, 20, 21, 22, 23, 24, 25, 26, 27, 28, 29, 30, 31, 32, 33, 34, 35, 36, 37, 38, 39, 40, 41, 42, 43, 44, 45, 46, 47, 48, 49, 50, 51, 52, 53, 54, 55, 56, 57, 58, 59, 60, 61, 62, 63, 64, 65, 66, 67, 68, 69, 70, 71, 72, 73, 74, 75, 76, 77, 78, 79, 80, 81, 82, 83, 84, 85, 86, 87, 88, 89, 90, 91, 92, 93, 94, 95, 96, 97, 98, 99, 100, 101, 102, 103, 104, 105, 106, 107, 108, 109, 110, 111, 112, 113, 114, 115, 116, 117, 118, 119, 120, 121, 122, 123, 124, 125, 126, 127, 128, 129, 130, 131, 132, 133, 134, 135, 136, 137, 138, 139, 140, 141, 142, 143, 144, 145, 146, 147, 148, 149, 150, 151, 152, 153, 154, 155, 156, 157, 158, 159, 160, 161, 162, 163, 164, 165, 166, 167, 168, 169, 170, 171, 172, 173, 174, 175, 176, 177, 178, 179, 180] (by decide +kernel) (by decide +kernel)
set_option maxRecDepth 20000 in
theorem gX4_longest_X4_prepare : GoodIn wsX4_longest (wsV RX4 70 RX4 yX4_prepare wsX4_prepare) := goodIn_app (goodIn_of _ (by decide +kernel)) ggX4_longest_X4_prepare
theorem dX4_longest_0 : decode cX4_longest 0 = .ok (.iload_n 1, 1) := by decide +kernel
theorem dX4_longest_1 : decode cX4_longest 1 = .ok (.invokestatic 55, 3) := by decide +kernel
theorem dX4_longest_4 : decode cX4_longest 4 = .ok (.ifCond .ne 13, 3) := by decide +kernel
theorem dX4_longest_7 : decode cX4_longest 7 = .ok (.new 63, 3) := by decide +kernel
theorem dX4_longest_10 : decode cX4_longest 10 = .ok (.dup, 1) := by decide +kernel
theorem dX4_longest_11 : decode cX4_longest 11 = .ok (.ldc 94, 2) := by decide +kernel
theorem dX4_longest_13 : decode cX4_longest 13 = .ok (.invokespecial 67, 3) := by decide +kernel
theorem dX4_longest_16 : decode cX4_longest 16 = .ok (.athrow, 1) := by decide +kernel
theorem dX4_longest_17 : decode cX4_longest 17 = .ok (.aload_n 0, 1) := by decide +kernel
theorem dX4_longest_18 : decode cX4_longest 18 = .ok (.iload_n 1, 1) := by decide +kernel
theorem dX4_longest_19 : decode cX4_longest 19 = .ok (.invokevirtual 70, 3) := by decide +kernel
theorem dX4_longest_22 : decode cX4_longest 22 = .ok (.astore_n 2, 1) := by decide +kernel
theorem dX4_longest_23 : decode cX4_longest 23 = .ok (.aload_n 2, 1) := by decide +kernel
theorem dX4_longest_24 : decode cX4_longest 24 = .ok (.ifnonnull 7, 3) := by decide +kernel
theorem dX4_longest_27 : decode cX4_longest 27 = .ok (.iconst (-1), 1) := by decide +kernel
theorem dX4_longest_28 : decode cX4_longest 28 = .ok (.goto 7, 3) := by decide +kernel
theorem dX4_longest_31 : decode cX4_longest 31 = .ok (.aload_n 2, 1) := by decide +kernel
theorem dX4_longest_32 : decode cX4_longest 32 = .ok (.getfield 96, 3) := by decide +kernel
theorem dX4_longest_35 : decode cX4_longest 35 = .ok (.ireturn, 1) := by decide +kernel
set_option maxRecDepth 20000 in
theorem ggX4_set_X4_lookAt : GoodIn wsX4_set wsX4_lookAt := goodIn_r _ [10, 2, 5, 11, 12, 13, 14, 15, 16, 17, 18, 19, 20, 21, 22, 23, 24, 9, 25, 26, 27, 28, 29, 30, 31, 32, 33, 34, 35, 36, 37, 38, 39, 40, 41, 42, 43, 44, 45, 46, 47, 48, 49, 50, 51, 52, 53, 54, 55, 56, 57, 58, 59, 60, 61, 62, 63, 64, 65, 66, 67, 68, 69, 70, 71, 72, 73, 74, 75, 76, 77, 78, 79, 80, 81, 82, 115, 116, 117, 118, 119, 120, 121, 122, 123, 124, 125, 126, 127, 128, 129, 130, 131, 132, 133] (by decide +kernel) (by decide +kernel)
set_option maxRecDepth 20000 in
theorem gX4_set_X4_lookAt : GoodIn wsX4_set (wsV RX4 59 RX4 yX4_lookAt wsX4_lookAt) := goodIn_app (goodIn_of _ (by decide +kernel)) ggX4_set_X4_lookAt
set_option maxRecDepth 20000 in
theorem ggX4_set_X2_copy : GoodIn wsX4_set wsX2_copy := goodIn_r _ [86, 87, 88, 89, 90, 91, 121, 122, 123, 124, 125] (by decide +kernel) (by decide +kernel)
set_option maxRecDepth 20000 in
theorem gX4_set_X2_copy_n99 : GoodIn wsX4_set (wsX2_copy) := ggX4_set_X2_copy
set_option maxRecDepth 20000 in
theorem ggX4_set_X1_fill : GoodIn wsX4_set wsX1_fill := goodIn_r _ [95, 96, 97, 49, 12, 50, 51, 52, 53, 54, 55, 56, 57, 58, 59, 33, 60, 19, 32, 66, 67, 68, 69, 70, 71, 72, 38, 73, 74, 75, 76, 77, 78, 79, 80, 81, 82, 98, 99, 100, 93, 101, 102, 103, 104, 105, 106, 44, 45, 46, 47, 107, 108, 109, 110, 111, 112, 113, 114, 40, 41, 42, 43, 134, 135, 121, 122, 123, 124, 125, 126, 127, 128, 129, 130, 131, 132, 133] (by decide +kernel) (by decide +kernel)
set_option maxRecDepth 20000 in
theorem gX4_set_X1_fill_n103 : GoodIn wsX4_set (wsX1_fill) := ggX4_set_X1_fill
theorem dX4_set_0 : decode cX4_set 0 = .ok (.aload_n 0, 1) := by decide +kernel
theorem dX4_set_1 : decode cX4_set 1 = .ok (.iload_n 1, 1) := by decide +kernel
theorem dX4_set_2 : decode cX4_set 2 = .ok (.iload_n 2, 1) := by decide +kernel
theorem dX4_set_3 : decode cX4_set 3 = .ok (.iload_n 3, 1) := by decide +kernel
theorem dX4_set_4 : decode cX4_set 4 = .ok (.iload 4, 2) := by decide +kernel
theorem dX4_set_6 : decode cX4_set 6 = .ok (.iload 5, 2) := by decide +kernel
theorem dX4_set_8 : decode cX4_set 8 = .ok (.invokevirtual 59, 3) := by decide +kernel
theorem dX4_set_11 : decode cX4_set 11 = .ok (.ifCond .ne 5, 3) := by decide +kernel
theorem dX4_set_14 : decode cX4_set 14 = .ok (.iconst 0, 1) := by decide +kernel
theorem dX4_set_15 : decode cX4_set 15 = .ok (.ireturn, 1) := by decide +kernel
theorem dX4_set_16 : decode cX4_set 16 = .ok (.aload_n 0, 1) := by decide +kernel
theorem dX4_set_17 : decode cX4_set 17 = .ok (.getfield 30, 3) := by decide +kernel
theorem dX4_set_20 : decode cX4_set 20 = .ok (.aload_n 0, 1) := by decide +kernel
theorem dX4_set_21 : decode cX4_set 21 = .ok (.getfield 34, 3) := by decide +kernel
theorem dX4_set_24 : decode cX4_set 24 = .ok (.invokevirtual 99, 3) := by decide +kernel
theorem dX4_set_27 : decode cX4_set 27 = .ok (.aload_n 0, 1) := by decide +kernel
theorem dX4_set_28 : decode cX4_set 28 = .ok (.iconst 1, 1) := by decide +kernel
theorem dX4_set_29 : decode cX4_set 29 = .ok (.putfield 44, 3) := by decide +kernel
theorem dX4_set_32 : decode cX4_set 32 = .ok (.aload_n 0, 1) := by decide +kernel
theorem dX4_set_33 : decode cX4_set 33 = .ok (.getfield 40, 3) := by decide +kernel
theorem dX4_set_36 : decode cX4_set 36 = .ok (.aload_n 0, 1) := by decide +kernel
theorem dX4_set_37 : decode cX4_set 37 = .ok (.getfield 12, 3) := by decide +kernel
theorem dX4_set_40 : decode cX4_set 40 = .ok (.aload_n 0, 1) := by decide +kernel
theorem dX4_set_41 : decode cX4_set 41 = .ok (.getfield 30, 3) := by decide +kernel
theorem dX4_set_44 : decode cX4_set 44 = .ok (.invokevirtual 103, 3) := by decide +kernel
theorem dX4_set_47 : decode cX4_set 47 = .ok (.iconst 1, 1) := by decide +kernel
theorem dX4_set_48 : decode cX4_set 48 = .ok (.ireturn, 1) := by decide +kernel
set_option maxRecDepth 20000 in
theorem ggX4_about_X4_checkPlaced : GoodIn wsX4_about wsX4_checkPlaced := goodIn_ca (goodIn_r _ [9, 10, 11, 12, 43, 44, 45, 46, 47, 48] (by decide +kernel) (by decide +kernel)) (goodIn_sub (fun _ h => List.mem_cons_of_mem _ (List.mem_append_right _ h)) (by decide +kernel))
set_option maxRecDepth 20000 in
theorem gX4_about_X4_checkPlaced : GoodIn wsX4_about (wsV RX4 107 RX4 yX4_checkPlaced wsX4_checkPlaced) := goodIn_app (goodIn_of _ (by decide +kernel)) ggX4_about_X4_checkPlaced
set_option maxRecDepth 20000 in
theorem ggX4_about_X0_squareOf : GoodIn wsX4_about wsX0_squareOf := goodIn_r _ [16, 17, 18, 54, 55, 56, 57, 58, 59, 60, 61] (by decide +kernel) (by decide +kernel)
set_option maxRecDepth 20000 in
theorem gX4_about_X0_squareOf_n116 : GoodIn wsX4_about (wsX0_squareOf) := ggX4_about_X0_squareOf
set_option maxRecDepth 20000 in
theorem ggX4_about_X0_inCheck : GoodIn wsX4_about wsX0_inCheck := goodIn_r _ [21, 22, 23, 14, 24, 25, 26, 27, 28, 29, 30, 31, 32, 17, 33, 34, 35, 36, 37, 38, 39, 40, 41, 42, 49, 50, 51, 52, 53, 54, 55, 56, 57, 58, 59, 60, 61] (by decide +kernel) (by decide +kernel)
set_option maxRecDepth 20000 in
theorem gX4_about_X0_inCheck_n129 : GoodIn wsX4_about (wsX0_inCheck) := ggX4_about_X0_inCheck
theorem dX4_about_0 : decode cX4_about 0 = .ok (.aload_n 0, 1) := by decide +kernel
theorem dX4_about_1 : decode cX4_about 1 = .ok (.invokevirtual 107, 3) := by decide +kernel
theorem dX4_about_4 : decode cX4_about 4 = .ok (.iload_n 1, 1) := by decide +kernel
theorem dX4_about_5 : decode cX4_about 5 = .ok (.tableswitch 134 0 5 #[39, 47, 62, 91, 106, 114], 39) := by decide +kernel
theorem dX4_about_44 : decode cX4_about 44 = .ok (.aload_n 0, 1) := by decide +kernel
theorem dX4_about_45 : decode cX4_about 45 = .ok (.getfield 30, 3) := by decide +kernel
theorem dX4_about_48 : decode cX4_about 48 = .ok (.getfield 110, 3) := by decide +kernel
theorem dX4_about_51 : decode cX4_about 51 = .ok (.ireturn, 1) := by decide +kernel
theorem dX4_about_52 : decode cX4_about 52 = .ok (.aload_n 0, 1) := by decide +kernel
theorem dX4_about_53 : decode cX4_about 53 = .ok (.getfield 12, 3) := by decide +kernel
theorem dX4_about_56 : decode cX4_about 56 = .ok (.aload_n 0, 1) := by decide +kernel
theorem dX4_about_57 : decode cX4_about 57 = .ok (.getfield 30, 3) := by decide +kernel
theorem dX4_about_60 : decode cX4_about 60 = .ok (.getfield 113, 3) := by decide +kernel
theorem dX4_about_63 : decode cX4_about 63 = .ok (.invokevirtual 116, 3) := by decide +kernel
theorem dX4_about_66 : decode cX4_about 66 = .ok (.ireturn, 1) := by decide +kernel
theorem dX4_about_67 : decode cX4_about 67 = .ok (.aload_n 0, 1) := by decide +kernel
theorem dX4_about_68 : decode cX4_about 68 = .ok (.getfield 30, 3) := by decide +kernel
theorem dX4_about_71 : decode cX4_about 71 = .ok (.getfield 110, 3) := by decide +kernel
theorem dX4_about_74 : decode cX4_about 74 = .ok (.ifCond .ne 7, 3) := by decide +kernel
theorem dX4_about_77 : decode cX4_about 77 = .ok (.iconst 0, 1) := by decide +kernel
theorem dX4_about_78 : decode cX4_about 78 = .ok (.goto 17, 3) := by decide +kernel
theorem dX4_about_81 : decode cX4_about 81 = .ok (.aload_n 0, 1) := by decide +kernel
theorem dX4_about_82 : decode cX4_about 82 = .ok (.getfield 12, 3) := by decide +kernel
theorem dX4_about_85 : decode cX4_about 85 = .ok (.aload_n 0, 1) := by decide +kernel
theorem dX4_about_86 : decode cX4_about 86 = .ok (.getfield 30, 3) := by decide +kernel
theorem dX4_about_89 : decode cX4_about 89 = .ok (.getfield 120, 3) := by decide +kernel
theorem dX4_about_92 : decode cX4_about 92 = .ok (.invokevirtual 116, 3) := by decide +kernel
theorem dX4_about_95 : decode cX4_about 95 = .ok (.ireturn, 1) := by decide +kernel
theorem dX4_about_96 : decode cX4_about 96 = .ok (.aload_n 0, 1) := by decide +kernel
theorem dX4_about_97 : decode cX4_about 97 = .ok (.getfield 12, 3) := by decide +kernel
theorem dX4_about_100 : decode cX4_about 100 = .ok (.aload_n 0, 1) := by decide +kernel
theorem dX4_about_101 : decode cX4_about 101 = .ok (.getfield 30, 3) := by decide +kernel
theorem dX4_about_104 : decode cX4_about 104 = .ok (.getfield 123, 3) := by decide +kernel
theorem dX4_about_107 : decode cX4_about 107 = .ok (.invokevirtual 116, 3) := by decide +kernel
theorem dX4_about_110 : decode cX4_about 110 = .ok (.ireturn, 1) := by decide +kernel
theorem dX4_about_111 : decode cX4_about 111 = .ok (.aload_n 0, 1) := by decide +kernel
theorem dX4_about_112 : decode cX4_about 112 = .ok (.getfield 30, 3) := by decide +kernel
theorem dX4_about_115 : decode cX4_about 115 = .ok (.getfield 126, 3) := by decide +kernel
theorem dX4_about_118 : decode cX4_about 118 = .ok (.ireturn, 1) := by decide +kernel
theorem dX4_about_119 : decode cX4_about 119 = .ok (.aload_n 0, 1) := by decide +kernel
theorem dX4_about_120 : decode cX4_about 120 = .ok (.getfield 12, 3) := by decide +kernel
theorem dX4_about_123 : decode cX4_about 123 = .ok (.aload_n 0, 1) := by decide +kernel
theorem dX4_about_124 : decode cX4_about 124 = .ok (.getfield 30, 3) := by decide +kernel
theorem dX4_about_127 : decode cX4_about 127 = .ok (.invokevirtual 129, 3) := by decide +kernel
theorem dX4_about_130 : decode cX4_about 130 = .ok (.ifCond .eq 7, 3) := by decide +kernel
theorem dX4_about_133 : decode cX4_about 133 = .ok (.iconst 1, 1) := by decide +kernel
theorem dX4_about_134 : decode cX4_about 134 = .ok (.goto 4, 3) := by decide +kernel
theorem dX4_about_137 : decode cX4_about 137 = .ok (.iconst 0, 1) := by decide +kernel
theorem dX4_about_138 : decode cX4_about 138 = .ok (.ireturn, 1) := by decide +kernel
theorem dX4_about_139 : decode cX4_about 139 = .ok (.new 89, 3) := by decide +kernel
theorem dX4_about_142 : decode cX4_about 142 = .ok (.dup, 1) := by decide +kernel
theorem dX4_about_143 : decode cX4_about 143 = .ok (.ldc 133, 2) := by decide +kernel
theorem dX4_about_145 : decode cX4_about 145 = .ok (.invokespecial 93, 3) := by decide +kernel
theorem dX4_about_148 : decode cX4_about 148 = .ok (.athrow, 1) := by decide +kernel
set_option maxRecDepth 20000 in
theorem ggX4_left_X4_checkPlaced : GoodIn wsX4_left wsX4_checkPlaced := goodIn_ca (goodIn_r _ [6, 7, 8, 9, 168, 169, 170, 171, 172, 173] (by decide +kernel) (by decide +kernel)) (goodIn_sub (fun _ h => List.mem_cons_of_mem _ (List.mem_append_right _ h)) (by decide +kernel))
set_option maxRecDepth 20000 in
theorem gX4_left_X4_checkPlaced : GoodIn wsX4_left (wsV RX4 107 RX4 yX4_checkPlaced wsX4_checkPlaced) := goodIn_app (goodIn_of _ (by decide +kernel)) ggX4_left_X4_checkPlaced
set_option maxRecDepth 20000 in
theorem ggX4_left_X4_prepare : GoodIn wsX4_left wsX4_prepare := goodIn_r _ [13, 14, 15, 16, 17, 5, 18, 19, 20, 21, 22, 23, 24, 25, 26, 27, 28, 29, 30, 31, 32, 33, 34, 35, 36, 37, 38, 39, 40, 41, 42, 43, 44, 45, 46, 47, 48, 49, 50, 51, 52, 53, 54, 55, 56, 57, 58, 59, 60, 61, 62, 63, 64, 65, 66, 67, 68, 69, 70, 71, 72, 73, 74, 75, 76, 77, 78, 79, 80, 81, 82, 83, 84, 85, 86, 87, 88, 89, 90, 91, 92, 93, 94, 95, 96, 97, 98, 99, 100, 101, 102, 103, 104, 105, 106, 107, 108, 109, 110, 111, 112, 113, 114, 115, 116, 117, 118, 119, 120, 121, 122, 123, 124, 125, 126, 127, 128, 129, 130, 131, 132, 133, 134, 135, 136, 137, 138, 139, 140, 141, 142, 143, 144, 145, 146, 147, 148, 149, 150, 151, 152, 153, 154, 155, 156, 157, 158, 159, 160, 179, 180, 181, 182, 183, 184, 185, 186, 187, 168, 169, 170, 171, 172, 173, 188, 189, 190, 191, 192, 193, 194, 195] (by decide +kernel) (by decide +kernel)
set_option maxRecDepth 20000 in
theorem gX4_left_X4_prepare : GoodIn wsX4_left (wsV RX4 70 RX4 yX4_prepare wsX4_prepare) := goodIn_app (goodIn_of _ (by decide +kernel)) ggX4_left_X4_prepare
set_option maxRecDepth 20000 in
theorem ggX4_left_X4_pliesOf : GoodIn wsX4_left wsX4_pliesOf := goodIn_r _ [164, 15, 16, 17, 5, 18, 14, 165, 20, 166, 167, 104, 109, 88, 84, 85, 86, 87, 28, 97, 98, 99, 58, 33, 59, 118, 119, 120, 174, 175, 176, 177, 178, 168, 169, 170, 171, 172, 173, 179, 180, 181, 182, 183, 184, 185, 186, 187, 188, 189, 190, 191, 192, 193, 194, 195] (by decide +kernel) (by decide +kernel)
set_option maxRecDepth 20000 in
theorem gX4_left_X4_pliesOf : GoodIn wsX4_left (wsV RX4 74 RX4 yX4_pliesOf wsX4_pliesOf) := goodIn_app (goodIn_of _ (by decide +kernel)) ggX4_left_X4_pliesOf
theorem dX4_left_0 : decode cX4_left 0 = .ok (.aload_n 0, 1) := by decide +kernel
theorem dX4_left_1 : decode cX4_left 1 = .ok (.invokevirtual 107, 3) := by decide +kernel
theorem dX4_left_4 : decode cX4_left 4 = .ok (.aload_n 0, 1) := by decide +kernel
theorem dX4_left_5 : decode cX4_left 5 = .ok (.aload_n 0, 1) := by decide +kernel
theorem dX4_left_6 : decode cX4_left 6 = .ok (.getfield 30, 3) := by decide +kernel
theorem dX4_left_9 : decode cX4_left 9 = .ok (.getfield 110, 3) := by decide +kernel
theorem dX4_left_12 : decode cX4_left 12 = .ok (.invokevirtual 70, 3) := by decide +kernel
theorem dX4_left_15 : decode cX4_left 15 = .ok (.pop, 1) := by decide +kernel
theorem dX4_left_16 : decode cX4_left 16 = .ok (.aload_n 0, 1) := by decide +kernel
theorem dX4_left_17 : decode cX4_left 17 = .ok (.aload_n 0, 1) := by decide +kernel
theorem dX4_left_18 : decode cX4_left 18 = .ok (.getfield 30, 3) := by decide +kernel
theorem dX4_left_21 : decode cX4_left 21 = .ok (.invokevirtual 74, 3) := by decide +kernel
theorem dX4_left_24 : decode cX4_left 24 = .ok (.ireturn, 1) := by decide +kernel
set_option maxRecDepth 20000 in
theorem ggX4_moves_X4_checkPlaced : GoodIn wsX4_moves wsX4_checkPlaced := goodIn_ca (goodIn_r _ [6, 7, 8, 9, 10, 11, 12, 13, 14, 15] (by decide +kernel) (by decide +kernel)) (goodIn_sub (fun _ h => List.mem_cons_of_mem _ (List.mem_append_right _ h)) (by decide +kernel))
set_option maxRecDepth 20000 in
theorem gX4_moves_X4_checkPlaced : GoodIn wsX4_moves (wsV RX4 107 RX4 yX4_checkPlaced wsX4_checkPlaced) := goodIn_app (goodIn_of _ (by decide +kernel)) ggX4_moves_X4_checkPlaced
theorem dX4_moves_0 : decode cX4_moves 0 = .ok (.aload_n 0, 1) := by decide +kernel
theorem dX4_moves_1 : decode cX4_moves 1 = .ok (.invokevirtual 107, 3) := by decide +kernel
theorem dX4_moves_4 : decode cX4_moves 4 = .ok (.aload_n 0, 1) := by decide +kernel
theorem dX4_moves_5 : decode cX4_moves 5 = .ok (.getfield 40, 3) := by decide +kernel
theorem dX4_moves_8 : decode cX4_moves 8 = .ok (.getfield 135, 3) := by decide +kernel
theorem dX4_moves_11 : decode cX4_moves 11 = .ok (.ireturn, 1) := by decide +kernel
set_option maxRecDepth 20000 in
theorem ggX4_move_X4_checkPlaced : GoodIn wsX4_move wsX4_checkPlaced := goodIn_ca (goodIn_r _ [8, 9, 10, 11, 17, 18, 19, 20, 21, 22] (by decide +kernel) (by decide +kernel)) (goodIn_sub (fun _ h => List.mem_cons_of_mem _ (List.mem_append_right _ h)) (by decide +kernel))
set_option maxRecDepth 20000 in
theorem gX4_move_X4_checkPlaced : GoodIn wsX4_move (wsV RX4 107 RX4 yX4_checkPlaced wsX4_checkPlaced) := goodIn_app (goodIn_of _ (by decide +kernel)) ggX4_move_X4_checkPlaced
set_option maxRecDepth 20000 in
theorem ggX4_move_X1_toldAt : GoodIn wsX4_move wsX1_toldAt := goodIn_r _ [15, 16, 23, 24] (by decide +kernel) (by decide +kernel)
set_option maxRecDepth 20000 in
theorem gX4_move_X1_toldAt_n140 : GoodIn wsX4_move (wsX1_toldAt) := ggX4_move_X1_toldAt
theorem dX4_move_0 : decode cX4_move 0 = .ok (.aload_n 0, 1) := by decide +kernel
theorem dX4_move_1 : decode cX4_move 1 = .ok (.invokevirtual 107, 3) := by decide +kernel
theorem dX4_move_4 : decode cX4_move 4 = .ok (.iload_n 1, 1) := by decide +kernel
theorem dX4_move_5 : decode cX4_move 5 = .ok (.ifCond .lt 14, 3) := by decide +kernel
theorem dX4_move_8 : decode cX4_move 8 = .ok (.iload_n 1, 1) := by decide +kernel
theorem dX4_move_9 : decode cX4_move 9 = .ok (.aload_n 0, 1) := by decide +kernel
theorem dX4_move_10 : decode cX4_move 10 = .ok (.getfield 40, 3) := by decide +kernel
theorem dX4_move_13 : decode cX4_move 13 = .ok (.getfield 135, 3) := by decide +kernel
theorem dX4_move_16 : decode cX4_move 16 = .ok (.if_icmp .lt 13, 3) := by decide +kernel
theorem dX4_move_19 : decode cX4_move 19 = .ok (.new 89, 3) := by decide +kernel
theorem dX4_move_22 : decode cX4_move 22 = .ok (.dup, 1) := by decide +kernel
theorem dX4_move_23 : decode cX4_move 23 = .ok (.ldc 138, 2) := by decide +kernel
theorem dX4_move_25 : decode cX4_move 25 = .ok (.invokespecial 93, 3) := by decide +kernel
theorem dX4_move_28 : decode cX4_move 28 = .ok (.athrow, 1) := by decide +kernel
theorem dX4_move_29 : decode cX4_move 29 = .ok (.aload_n 0, 1) := by decide +kernel
theorem dX4_move_30 : decode cX4_move 30 = .ok (.getfield 40, 3) := by decide +kernel
theorem dX4_move_33 : decode cX4_move 33 = .ok (.iload_n 1, 1) := by decide +kernel
theorem dX4_move_34 : decode cX4_move 34 = .ok (.invokevirtual 140, 3) := by decide +kernel
theorem dX4_move_37 : decode cX4_move 37 = .ok (.ireturn, 1) := by decide +kernel
set_option maxRecDepth 20000 in
theorem ggX4_best_X4_checkPlaced : GoodIn wsX4_best wsX4_checkPlaced := goodIn_ca (goodIn_r _ [9, 1, 2, 10, 210, 211, 212, 213, 214, 215] (by decide +kernel) (by decide +kernel)) (goodIn_sub (fun _ h => List.mem_cons_of_mem _ (List.mem_append_right _ h)) (by decide +kernel))
set_option maxRecDepth 20000 in
theorem gX4_best_X4_checkPlaced : GoodIn wsX4_best (wsV RX4 107 RX4 yX4_checkPlaced wsX4_checkPlaced) := goodIn_app (goodIn_of _ (by decide +kernel)) ggX4_best_X4_checkPlaced
set_option maxRecDepth 20000 in
theorem ggX4_best_X4_prepare : GoodIn wsX4_best wsX4_prepare := goodIn_r _ [14, 15, 16, 17, 18, 8, 19, 20, 21, 22, 23, 24, 25, 26, 27, 28, 29, 30, 31, 32, 33, 34, 35, 36, 37, 38, 39, 40, 41, 42, 43, 44, 45, 46, 47, 48, 49, 50, 51, 52, 53, 54, 55, 56, 57, 58, 59, 60, 61, 62, 63, 64, 65, 66, 67, 68, 69, 70, 71, 72, 73, 74, 75, 76, 77, 78, 79, 80, 81, 82, 83, 84, 85, 86, 87, 88, 89, 90, 91, 92, 93, 94, 95, 96, 97, 98, 99, 100, 101, 102, 103, 104, 105, 106, 107, 108, 109, 110, 111, 112, 113, 114, 115, 116, 117, 118, 119, 120, 121, 122, 123, 124, 125, 126, 127, 128, 129, 130, 131, 132, 133, 134, 135, 136, 137, 138, 139, 140, 141, 142, 143, 144, 145, 146, 147, 148, 149, 150, 151, 152, 153, 154, 155, 156, 157, 158, 159, 160, 161, 223, 224, 225, 226, 227, 228, 229, 230, 231, 210, 211, 212, 213, 214, 215, 232, 233, 234, 235, 236, 237, 238, 239] (by decide +kernel) (by decide +kernel)
set_option maxRecDepth 20000 in
theorem gX4_best_X4_prepare : GoodIn wsX4_best (wsV RX4 70 RX4 yX4_prepare wsX4_prepare) := goodIn_app (goodIn_of _ (by decide +kernel)) ggX4_best_X4_prepare
set_option maxRecDepth 20000 in
theorem ggX4_best_X4_bestMove : GoodIn wsX4_best wsX4_bestMove := goodIn_r _ [165, 3, 4, 166, 167, 168, 169, 170, 171, 172, 173, 8, 174, 175, 176, 177, 178, 179, 180, 181, 182, 183, 184, 185, 186, 187, 188, 189, 34, 190, 191, 192, 193, 194, 195, 67, 44, 196, 197, 198, 199, 200, 201, 202, 203, 16, 17, 18, 19, 15, 204, 21, 205, 206, 105, 110, 89, 85, 86, 87, 88, 29, 98, 99, 100, 59, 60, 119, 120, 121, 207, 208, 209, 210, 211, 212, 213, 214, 215, 216, 217, 218, 219, 220, 221, 222, 232, 233, 234, 235, 236, 237, 238, 239, 223, 224, 225, 226, 227, 228, 229, 230, 231] (by decide +kernel) (by decide +kernel)
set_option maxRecDepth 20000 in
theorem gX4_best_X4_bestMove : GoodIn wsX4_best (wsV RX4 148 RX4 yX4_bestMove wsX4_bestMove) := goodIn_app (goodIn_of _ (by decide +kernel)) ggX4_best_X4_bestMove
theorem dX4_best_0 : decode cX4_best 0 = .ok (.aload_n 0, 1) := by decide +kernel
theorem dX4_best_1 : decode cX4_best 1 = .ok (.invokevirtual 107, 3) := by decide +kernel
theorem dX4_best_4 : decode cX4_best 4 = .ok (.aload_n 0, 1) := by decide +kernel
theorem dX4_best_5 : decode cX4_best 5 = .ok (.getfield 40, 3) := by decide +kernel
theorem dX4_best_8 : decode cX4_best 8 = .ok (.getfield 135, 3) := by decide +kernel
theorem dX4_best_11 : decode cX4_best 11 = .ok (.ifCond .ne 13, 3) := by decide +kernel
theorem dX4_best_14 : decode cX4_best 14 = .ok (.new 143, 3) := by decide +kernel
theorem dX4_best_17 : decode cX4_best 17 = .ok (.dup, 1) := by decide +kernel
theorem dX4_best_18 : decode cX4_best 18 = .ok (.ldc 145, 2) := by decide +kernel
theorem dX4_best_20 : decode cX4_best 20 = .ok (.invokespecial 147, 3) := by decide +kernel
theorem dX4_best_23 : decode cX4_best 23 = .ok (.athrow, 1) := by decide +kernel
theorem dX4_best_24 : decode cX4_best 24 = .ok (.aload_n 0, 1) := by decide +kernel
theorem dX4_best_25 : decode cX4_best 25 = .ok (.aload_n 0, 1) := by decide +kernel
theorem dX4_best_26 : decode cX4_best 26 = .ok (.getfield 30, 3) := by decide +kernel
theorem dX4_best_29 : decode cX4_best 29 = .ok (.getfield 110, 3) := by decide +kernel
theorem dX4_best_32 : decode cX4_best 32 = .ok (.invokevirtual 70, 3) := by decide +kernel
theorem dX4_best_35 : decode cX4_best 35 = .ok (.pop, 1) := by decide +kernel
theorem dX4_best_36 : decode cX4_best 36 = .ok (.aload_n 0, 1) := by decide +kernel
theorem dX4_best_37 : decode cX4_best 37 = .ok (.invokevirtual 148, 3) := by decide +kernel
theorem dX4_best_40 : decode cX4_best 40 = .ok (.ireturn, 1) := by decide +kernel
set_option maxRecDepth 20000 in
theorem ggX4_play_X4_checkPlaced : GoodIn wsX4_play wsX4_checkPlaced := goodIn_ca (goodIn_r _ [9, 10, 11, 12, 226, 227, 228, 229, 230, 231] (by decide +kernel) (by decide +kernel)) (goodIn_sub (fun _ h => List.mem_cons_of_mem _ (List.mem_append_right _ h)) (by decide +kernel))
set_option maxRecDepth 20000 in
theorem gX4_play_X4_checkPlaced : GoodIn wsX4_play (wsV RX4 107 RX4 yX4_checkPlaced wsX4_checkPlaced) := goodIn_app (goodIn_of _ (by decide +kernel)) ggX4_play_X4_checkPlaced
set_option maxRecDepth 20000 in
theorem ggX4_play_X1_holds : GoodIn wsX4_play wsX1_holds := goodIn_r _ [16, 17, 18, 19, 20, 14, 21, 22, 237, 238] (by decide +kernel) (by decide +kernel)
set_option maxRecDepth 20000 in
theorem gX4_play_X1_holds_n152 : GoodIn wsX4_play (wsX1_holds) := ggX4_play_X1_holds
set_option maxRecDepth 20000 in
theorem ggX4_play_X4_prepare : GoodIn wsX4_play wsX4_prepare := goodIn_r _ [26, 27, 28, 29, 30, 8, 31, 32, 33, 34, 35, 36, 37, 38, 39, 40, 41, 42, 43, 44, 45, 46, 47, 48, 49, 50, 51, 52, 53, 54, 55, 56, 57, 58, 59, 60, 61, 62, 63, 64, 65, 66, 67, 68, 69, 70, 71, 72, 73, 74, 75, 76, 77, 78, 79, 80, 81, 82, 83, 84, 85, 86, 87, 88, 89, 90, 91, 92, 93, 94, 95, 96, 97, 98, 99, 100, 101, 102, 103, 104, 105, 106, 107, 108, 109, 110, 111, 112, 113, 114, 115, 116, 117, 118, 119, 120, 121, 122, 123, 124, 125, 126, 127, 128, 129, 130, 131, 132, 133, 134, 135, 136, 137, 138, 139, 140, 141, 142, 143, 144, 145, 146, 147, 148, 149, 150, 151, 152, 153, 154, 155, 156, 157, 158, 159, 160, 161, 162, 163, 164, 165, 166, 167, 168, 169, 170, 171, 172, 173, 239, 240, 241, 242, 243, 244, 245, 246, 247, 226, 227, 228, 229, 230, 231, 248, 249, 250, 251, 252, 253, 254, 255] (by decide +kernel) (by decide +kernel)
set_option maxRecDepth 20000 in
theorem gX4_play_X4_prepare : GoodIn wsX4_play (wsV RX4 70 RX4 yX4_prepare wsX4_prepare) := goodIn_app (goodIn_of _ (by decide +kernel)) ggX4_play_X4_prepare
set_option maxRecDepth 20000 in
theorem ggX4_play_X4_make : GoodIn wsX4_play wsX4_make := goodIn_r _ [177, 4, 178, 3, 179, 180, 181, 182, 183, 184, 185, 186, 187, 46, 188, 189, 190, 191, 192, 193, 79, 56, 194, 195, 196, 197, 198, 199, 14, 200, 201, 17, 202, 67, 68, 69, 70, 71, 72, 73, 74, 75, 76, 77, 50, 78, 49, 80, 81, 82, 83, 84, 85, 86, 55, 87, 88, 89, 90, 91, 92, 93, 94, 95, 96, 203, 204, 205, 206, 207, 208, 209, 210, 22, 62, 63, 64, 65, 211, 212, 213, 214, 215, 216, 217, 218, 58, 59, 60, 61, 226, 227, 228, 229, 230, 231, 232, 233, 234, 235, 236, 248, 249, 250, 251, 252, 253, 254, 255, 237, 238] (by decide +kernel) (by decide +kernel)
set_option maxRecDepth 20000 in
theorem gX4_play_X4_make : GoodIn wsX4_play (wsV RX4 157 RX4 yX4_make wsX4_make) := goodIn_app (goodIn_of _ (by decide +kernel)) ggX4_play_X4_make
set_option maxRecDepth 20000 in
theorem ggX4_play_X4_pliesOf : GoodIn wsX4_play wsX4_pliesOf := goodIn_r _ [222, 28, 29, 30, 8, 31, 27, 223, 33, 224, 225, 117, 122, 101, 97, 98, 99, 100, 41, 110, 111, 112, 71, 46, 72, 131, 132, 133, 232, 233, 234, 235, 236, 226, 227, 228, 229, 230, 231, 239, 240, 241, 242, 243, 244, 245, 246, 247, 248, 249, 250, 251, 252, 253, 254, 255] (by decide +kernel) (by decide +kernel)
set_option maxRecDepth 20000 in
theorem gX4_play_X4_pliesOf : GoodIn wsX4_play (wsV RX4 74 RX4 yX4_pliesOf wsX4_pliesOf) := goodIn_app (goodIn_of _ (by decide +kernel)) ggX4_play_X4_pliesOf
theorem dX4_play_0 : decode cX4_play 0 = .ok (.aload_n 0, 1) := by decide +kernel
theorem dX4_play_1 : decode cX4_play 1 = .ok (.invokevirtual 107, 3) := by decide +kernel
theorem dX4_play_4 : decode cX4_play 4 = .ok (.aload_n 0, 1) := by decide +kernel
theorem dX4_play_5 : decode cX4_play 5 = .ok (.getfield 40, 3) := by decide +kernel
theorem dX4_play_8 : decode cX4_play 8 = .ok (.iload_n 1, 1) := by decide +kernel
theorem dX4_play_9 : decode cX4_play 9 = .ok (.invokevirtual 152, 3) := by decide +kernel
theorem dX4_play_12 : decode cX4_play 12 = .ok (.ifCond .ne 13, 3) := by decide +kernel
theorem dX4_play_15 : decode cX4_play 15 = .ok (.new 63, 3) := by decide +kernel
theorem dX4_play_18 : decode cX4_play 18 = .ok (.dup, 1) := by decide +kernel
theorem dX4_play_19 : decode cX4_play 19 = .ok (.ldc 155, 2) := by decide +kernel
theorem dX4_play_21 : decode cX4_play 21 = .ok (.invokespecial 67, 3) := by decide +kernel
theorem dX4_play_24 : decode cX4_play 24 = .ok (.athrow, 1) := by decide +kernel
theorem dX4_play_25 : decode cX4_play 25 = .ok (.aload_n 0, 1) := by decide +kernel
theorem dX4_play_26 : decode cX4_play 26 = .ok (.aload_n 0, 1) := by decide +kernel
theorem dX4_play_27 : decode cX4_play 27 = .ok (.getfield 30, 3) := by decide +kernel
theorem dX4_play_30 : decode cX4_play 30 = .ok (.getfield 110, 3) := by decide +kernel
theorem dX4_play_33 : decode cX4_play 33 = .ok (.invokevirtual 70, 3) := by decide +kernel
theorem dX4_play_36 : decode cX4_play 36 = .ok (.pop, 1) := by decide +kernel
theorem dX4_play_37 : decode cX4_play 37 = .ok (.aload_n 0, 1) := by decide +kernel
theorem dX4_play_38 : decode cX4_play 38 = .ok (.iload_n 1, 1) := by decide +kernel
theorem dX4_play_39 : decode cX4_play 39 = .ok (.invokevirtual 157, 3) := by decide +kernel
theorem dX4_play_42 : decode cX4_play 42 = .ok (.aload_n 0, 1) := by decide +kernel
theorem dX4_play_43 : decode cX4_play 43 = .ok (.aload_n 0, 1) := by decide +kernel
theorem dX4_play_44 : decode cX4_play 44 = .ok (.getfield 30, 3) := by decide +kernel
theorem dX4_play_47 : decode cX4_play 47 = .ok (.invokevirtual 74, 3) := by decide +kernel
theorem dX4_play_50 : decode cX4_play 50 = .ok (.ireturn, 1) := by decide +kernel
set_option maxRecDepth 20000 in
theorem ggX4_run_X4_checkPlaced : GoodIn wsX4_run wsX4_checkPlaced := goodIn_ca (goodIn_r _ [9, 10, 11, 12, 237, 238, 239, 240, 241, 242] (by decide +kernel) (by decide +kernel)) (goodIn_sub (fun _ h => List.mem_cons_of_mem _ (List.mem_append_right _ h)) (by decide +kernel))
set_option maxRecDepth 20000 in
theorem gX4_run_X4_checkPlaced : GoodIn wsX4_run (wsV RX4 107 RX4 yX4_checkPlaced wsX4_checkPlaced) := goodIn_app (goodIn_of _ (by decide +kernel)) ggX4_run_X4_checkPlaced
set_option maxRecDepth 20000 in
theorem ggX4_run_X4_prepare : GoodIn wsX4_run wsX4_prepare := goodIn_r _ [16, 17, 18, 19, 20, 8, 21, 22, 23, 24, 25, 26, 27, 28, 29, 30, 31, 32, 33, 34, 35, 36, 37, 38, 39, 40, 41, 42, 43, 44, 45, 46, 47, 48, 49, 50, 51, 52, 53, 54, 55, 56, 57, 58, 59, 60, 61, 62, 63, 64, 65, 66, 67, 68, 69, 70, 71, 72, 73, 74, 75, 76, 77, 78, 79, 80, 81, 82, 83, 84, 85, 86, 87, 88, 89, 90, 91, 92, 93, 94, 95, 96, 97, 98, 99, 100, 101, 102, 103, 104, 105, 106, 107, 108, 109, 110, 111, 112, 113, 114, 115, 116, 117, 118, 119, 120, 121, 122, 123, 124, 125, 126, 127, 128, 129, 130, 131, 132, 133, 134, 135, 136, 137, 138, 139, 140, 141, 142, 143, 144, 145, 146, 147, 148, 149, 150, 151, 152, 153, 154, 155, 156, 157, 158, 159, 160, 161, 162, 163, 250, 251, 252, 253, 254, 255, 256, 257, 258, 237, 238, 239, 240, 241, 242, 259, 260, 261, 262, 263, 264, 265, 266] (by decide +kernel) (by decide +kernel)
set_option maxRecDepth 20000 in
theorem gX4_run_X4_prepare : GoodIn wsX4_run (wsV RX4 70 RX4 yX4_prepare wsX4_prepare) := goodIn_app (goodIn_of _ (by decide +kernel)) ggX4_run_X4_prepare
set_option maxRecDepth 20000 in
theorem ggX4_run_X4_bestMove : GoodIn wsX4_run wsX4_bestMove := goodIn_r _ [167, 4, 3, 168, 169, 170, 171, 172, 173, 174, 175, 8, 176, 177, 178, 179, 180, 181, 182, 183, 184, 185, 186, 187, 188, 189, 190, 191, 36, 192, 193, 194, 195, 196, 197, 69, 46, 198, 199, 200, 201, 202, 203, 204, 205, 18, 19, 20, 21, 17, 206, 23, 207, 208, 107, 112, 91, 87, 88, 89, 90, 31, 100, 101, 102, 61, 62, 121, 122, 123, 209, 210, 211, 237, 238, 239, 240, 241, 242, 248, 249, 243, 244, 245, 246, 247, 259, 260, 261, 262, 263, 264, 265, 266, 250, 251, 252, 253, 254, 255, 256, 257, 258] (by decide +kernel) (by decide +kernel)
set_option maxRecDepth 20000 in
theorem gX4_run_X4_bestMove : GoodIn wsX4_run (wsV RX4 148 RX4 yX4_bestMove wsX4_bestMove) := goodIn_app (goodIn_of _ (by decide +kernel)) ggX4_run_X4_bestMove
set_option maxRecDepth 20000 in
theorem ggX4_run_X4_make : GoodIn wsX4_run wsX4_make := goodIn_r _ [215, 3, 178, 4, 188, 180, 189, 190, 187, 184, 185, 183, 191, 36, 192, 193, 194, 195, 196, 197, 69, 46, 198, 199, 200, 201, 186, 216, 169, 217, 218, 219, 220, 57, 58, 59, 60, 61, 62, 63, 64, 65, 66, 67, 40, 68, 39, 70, 71, 72, 73, 74, 75, 76, 45, 77, 78, 79, 80, 81, 82, 83, 84, 85, 86, 221, 222, 223, 224, 225, 226, 227, 228, 172, 52, 53, 54, 55, 229, 230, 231, 232, 233, 234, 235, 236, 48, 49, 50, 51, 237, 238, 239, 240, 241, 242, 243, 244, 245, 246, 247, 259, 260, 261, 262, 263, 264, 265, 266, 248, 249] (by decide +kernel) (by decide +kernel)
set_option maxRecDepth 20000 in
theorem gX4_run_X4_make : GoodIn wsX4_run (wsV RX4 157 RX4 yX4_make wsX4_make) := goodIn_app (goodIn_of _ (by decide +kernel)) ggX4_run_X4_make
theorem dX4_run_0 : decode cX4_run 0 = .ok (.aload_n 0, 1) := by decide +kernel
theorem dX4_run_1 : decode cX4_run 1 = .ok (.invokevirtual 107, 3) := by decide +kernel
theorem dX4_run_4 : decode cX4_run 4 = .ok (.iload_n 1, 1) := by decide +kernel
theorem dX4_run_5 : decode cX4_run 5 = .ok (.ifCond .lt 9, 3) := by decide +kernel
theorem dX4_run_8 : decode cX4_run 8 = .ok (.iload_n 1, 1) := by decide +kernel
theorem dX4_run_9 : decode cX4_run 9 = .ok (.bipush 100, 2) := by decide +kernel
theorem dX4_run_11 : decode cX4_run 11 = .ok (.if_icmp .le 13, 3) := by decide +kernel
theorem dX4_run_14 : decode cX4_run 14 = .ok (.new 63, 3) := by decide +kernel
theorem dX4_run_17 : decode cX4_run 17 = .ok (.dup, 1) := by decide +kernel
theorem dX4_run_18 : decode cX4_run 18 = .ok (.ldc 161, 2) := by decide +kernel
theorem dX4_run_20 : decode cX4_run 20 = .ok (.invokespecial 67, 3) := by decide +kernel
theorem dX4_run_23 : decode cX4_run 23 = .ok (.athrow, 1) := by decide +kernel
theorem dX4_run_24 : decode cX4_run 24 = .ok (.aload_n 0, 1) := by decide +kernel
theorem dX4_run_25 : decode cX4_run 25 = .ok (.aload_n 0, 1) := by decide +kernel
theorem dX4_run_26 : decode cX4_run 26 = .ok (.getfield 30, 3) := by decide +kernel
theorem dX4_run_29 : decode cX4_run 29 = .ok (.getfield 110, 3) := by decide +kernel
theorem dX4_run_32 : decode cX4_run 32 = .ok (.invokevirtual 70, 3) := by decide +kernel
theorem dX4_run_35 : decode cX4_run 35 = .ok (.pop, 1) := by decide +kernel
theorem dX4_run_36 : decode cX4_run 36 = .ok (.iconst 0, 1) := by decide +kernel
theorem dX4_run_37 : decode cX4_run 37 = .ok (.istore_n 2, 1) := by decide +kernel
theorem dX4_run_38 : decode cX4_run 38 = .ok (.iload_n 2, 1) := by decide +kernel
theorem dX4_run_39 : decode cX4_run 39 = .ok (.iload_n 1, 1) := by decide +kernel
theorem dX4_run_40 : decode cX4_run 40 = .ok (.if_icmp .ge 29, 3) := by decide +kernel
theorem dX4_run_43 : decode cX4_run 43 = .ok (.aload_n 0, 1) := by decide +kernel
theorem dX4_run_44 : decode cX4_run 44 = .ok (.getfield 40, 3) := by decide +kernel
theorem dX4_run_47 : decode cX4_run 47 = .ok (.getfield 135, 3) := by decide +kernel
theorem dX4_run_50 : decode cX4_run 50 = .ok (.ifCond .ne 5, 3) := by decide +kernel
theorem dX4_run_53 : decode cX4_run 53 = .ok (.iload_n 2, 1) := by decide +kernel
theorem dX4_run_54 : decode cX4_run 54 = .ok (.ireturn, 1) := by decide +kernel
theorem dX4_run_55 : decode cX4_run 55 = .ok (.aload_n 0, 1) := by decide +kernel
theorem dX4_run_56 : decode cX4_run 56 = .ok (.aload_n 0, 1) := by decide +kernel
theorem dX4_run_57 : decode cX4_run 57 = .ok (.invokevirtual 148, 3) := by decide +kernel
theorem dX4_run_60 : decode cX4_run 60 = .ok (.invokevirtual 157, 3) := by decide +kernel
theorem dX4_run_63 : decode cX4_run 63 = .ok (.iinc 2 1, 3) := by decide +kernel
theorem dX4_run_66 : decode cX4_run 66 = .ok (.goto (-28), 3) := by decide +kernel
theorem dX4_run_69 : decode cX4_run 69 = .ok (.iload_n 1, 1) := by decide +kernel
theorem dX4_run_70 : decode cX4_run 70 = .ok (.ireturn, 1) := by decide +kernel
theorem dX4_checkPlaced_0 : decode cX4_checkPlaced 0 = .ok (.aload_n 0, 1) := by decide +kernel
theorem dX4_checkPlaced_1 : decode cX4_checkPlaced 1 = .ok (.getfield 44, 3) := by decide +kernel
theorem dX4_checkPlaced_4 : decode cX4_checkPlaced 4 = .ok (.ifCond .ne 13, 3) := by decide +kernel
theorem dX4_checkPlaced_7 : decode cX4_checkPlaced 7 = .ok (.new 143, 3) := by decide +kernel
theorem dX4_checkPlaced_10 : decode cX4_checkPlaced 10 = .ok (.dup, 1) := by decide +kernel
theorem dX4_checkPlaced_11 : decode cX4_checkPlaced 11 = .ok (.ldc 163, 2) := by decide +kernel
theorem dX4_checkPlaced_13 : decode cX4_checkPlaced 13 = .ok (.invokespecial 147, 3) := by decide +kernel
theorem dX4_checkPlaced_16 : decode cX4_checkPlaced 16 = .ok (.athrow, 1) := by decide +kernel
theorem dX4_checkPlaced_17 : decode cX4_checkPlaced 17 = .ok (.return_, 1) := by decide +kernel
set_option maxRecDepth 20000 in
theorem ggX4_checkKindAndSide_X4_isMan : GoodIn wsX4_checkKindAndSide wsX4_isMan := goodIn_r _ [6] (by decide +kernel) (by decide +kernel)
set_option maxRecDepth 20000 in
theorem gX4_checkKindAndSide_X4_isMan : GoodIn wsX4_checkKindAndSide (va_wsS RX4 55 yX4_isMan wsX4_isMan) := goodIn_app (goodIn_of _ (by decide +kernel)) ggX4_checkKindAndSide_X4_isMan
set_option maxRecDepth 20000 in
theorem ggX4_checkKindAndSide_X4_isSide : GoodIn wsX4_checkKindAndSide wsX4_isSide := goodIn_r _ [9] (by decide +kernel) (by decide +kernel)
set_option maxRecDepth 20000 in
theorem gX4_checkKindAndSide_X4_isSide : GoodIn wsX4_checkKindAndSide (va_wsS RX4 165 yX4_isSide wsX4_isSide) := goodIn_app (goodIn_of _ (by decide +kernel)) ggX4_checkKindAndSide_X4_isSide
theorem dX4_checkKindAndSide_0 : decode cX4_checkKindAndSide 0 = .ok (.iload_n 0, 1) := by decide +kernel
theorem dX4_checkKindAndSide_1 : decode cX4_checkKindAndSide 1 = .ok (.invokestatic 55, 3) := by decide +kernel
theorem dX4_checkKindAndSide_4 : decode cX4_checkKindAndSide 4 = .ok (.ifCond .eq 10, 3) := by decide +kernel
theorem dX4_checkKindAndSide_7 : decode cX4_checkKindAndSide 7 = .ok (.iload_n 1, 1) := by decide +kernel
theorem dX4_checkKindAndSide_8 : decode cX4_checkKindAndSide 8 = .ok (.invokestatic 165, 3) := by decide +kernel
theorem dX4_checkKindAndSide_11 : decode cX4_checkKindAndSide 11 = .ok (.ifCond .ne 13, 3) := by decide +kernel
theorem dX4_checkKindAndSide_14 : decode cX4_checkKindAndSide 14 = .ok (.new 63, 3) := by decide +kernel
theorem dX4_checkKindAndSide_17 : decode cX4_checkKindAndSide 17 = .ok (.dup, 1) := by decide +kernel
theorem dX4_checkKindAndSide_18 : decode cX4_checkKindAndSide 18 = .ok (.ldc 168, 2) := by decide +kernel
theorem dX4_checkKindAndSide_20 : decode cX4_checkKindAndSide 20 = .ok (.invokespecial 67, 3) := by decide +kernel
theorem dX4_checkKindAndSide_23 : decode cX4_checkKindAndSide 23 = .ok (.athrow, 1) := by decide +kernel
theorem dX4_checkKindAndSide_24 : decode cX4_checkKindAndSide 24 = .ok (.return_, 1) := by decide +kernel
theorem dX4_isMan_0 : decode cX4_isMan 0 = .ok (.iload_n 0, 1) := by decide +kernel
theorem dX4_isMan_1 : decode cX4_isMan 1 = .ok (.iconst 1, 1) := by decide +kernel
theorem dX4_isMan_2 : decode cX4_isMan 2 = .ok (.if_icmp .lt 12, 3) := by decide +kernel
theorem dX4_isMan_5 : decode cX4_isMan 5 = .ok (.iload_n 0, 1) := by decide +kernel
theorem dX4_isMan_6 : decode cX4_isMan 6 = .ok (.iconst 5, 1) := by decide +kernel
theorem dX4_isMan_7 : decode cX4_isMan 7 = .ok (.if_icmp .gt 7, 3) := by decide +kernel
theorem dX4_isMan_10 : decode cX4_isMan 10 = .ok (.iconst 1, 1) := by decide +kernel
theorem dX4_isMan_11 : decode cX4_isMan 11 = .ok (.goto 4, 3) := by decide +kernel
theorem dX4_isMan_14 : decode cX4_isMan 14 = .ok (.iconst 0, 1) := by decide +kernel
theorem dX4_isMan_15 : decode cX4_isMan 15 = .ok (.ireturn, 1) := by decide +kernel
theorem dX4_isSide_0 : decode cX4_isSide 0 = .ok (.iload_n 0, 1) := by decide +kernel
theorem dX4_isSide_1 : decode cX4_isSide 1 = .ok (.ifCond .eq 8, 3) := by decide +kernel
theorem dX4_isSide_4 : decode cX4_isSide 4 = .ok (.iload_n 0, 1) := by decide +kernel
theorem dX4_isSide_5 : decode cX4_isSide 5 = .ok (.iconst 1, 1) := by decide +kernel
theorem dX4_isSide_6 : decode cX4_isSide 6 = .ok (.if_icmp .ne 7, 3) := by decide +kernel
theorem dX4_isSide_9 : decode cX4_isSide 9 = .ok (.iconst 1, 1) := by decide +kernel
theorem dX4_isSide_10 : decode cX4_isSide 10 = .ok (.goto 4, 3) := by decide +kernel
theorem dX4_isSide_13 : decode cX4_isSide 13 = .ok (.iconst 0, 1) := by decide +kernel
theorem dX4_isSide_14 : decode cX4_isSide 14 = .ok (.ireturn, 1) := by decide +kernel
set_option maxRecDepth 20000 in
theorem ggX4_lookAt_X0_cellOf : GoodIn wsX4_lookAt wsX0_cellOf := goodIn_r _ [6, 7, 8, 9, 4, 10, 11, 12, 87, 88, 89, 90, 91, 92, 93, 94] (by decide +kernel) (by decide +kernel)
set_option maxRecDepth 20000 in
theorem gX4_lookAt_X0_cellOf_n170 : GoodIn wsX4_lookAt (wsX0_cellOf) := ggX4_lookAt_X0_cellOf
set_option maxRecDepth 20000 in
theorem ggX4_lookAt_X0_isPosition : GoodIn wsX4_lookAt wsX0_isPosition := goodIn_r _ [15, 16, 17, 18, 19, 20, 21, 22, 23, 4, 24, 25, 26, 27, 28, 29, 30, 31, 12, 32, 33, 34, 35, 36, 37, 38, 39, 40, 41, 42, 43, 44, 45, 46, 47, 48, 49, 50, 51, 52, 53, 11, 54, 55, 56, 57, 58, 59, 60, 61, 62, 63, 64, 65, 66, 67, 68, 69, 70, 71, 72, 73, 74, 75, 82, 83, 84, 85, 86, 87, 88, 89, 90, 91, 92, 93, 94] (by decide +kernel) (by decide +kernel)
set_option maxRecDepth 20000 in
theorem gX4_lookAt_X0_isPosition_n173 : GoodIn wsX4_lookAt (wsX0_isPosition) := ggX4_lookAt_X0_isPosition
theorem dX4_lookAt_0 : decode cX4_lookAt 0 = .ok (.iload_n 1, 1) := by decide +kernel
theorem dX4_lookAt_1 : decode cX4_lookAt 1 = .ok (.ifCond .ne 9, 3) := by decide +kernel
theorem dX4_lookAt_4 : decode cX4_lookAt 4 = .ok (.iload_n 3, 1) := by decide +kernel
theorem dX4_lookAt_5 : decode cX4_lookAt 5 = .ok (.ifCond .eq 5, 3) := by decide +kernel
theorem dX4_lookAt_8 : decode cX4_lookAt 8 = .ok (.iconst 0, 1) := by decide +kernel
theorem dX4_lookAt_9 : decode cX4_lookAt 9 = .ok (.ireturn, 1) := by decide +kernel
theorem dX4_lookAt_10 : decode cX4_lookAt 10 = .ok (.aload_n 0, 1) := by decide +kernel
theorem dX4_lookAt_11 : decode cX4_lookAt 11 = .ok (.getfield 34, 3) := by decide +kernel
theorem dX4_lookAt_14 : decode cX4_lookAt 14 = .ok (.iload_n 1, 1) := by decide +kernel
theorem dX4_lookAt_15 : decode cX4_lookAt 15 = .ok (.putfield 110, 3) := by decide +kernel
theorem dX4_lookAt_18 : decode cX4_lookAt 18 = .ok (.aload_n 0, 1) := by decide +kernel
theorem dX4_lookAt_19 : decode cX4_lookAt 19 = .ok (.getfield 34, 3) := by decide +kernel
theorem dX4_lookAt_22 : decode cX4_lookAt 22 = .ok (.aload_n 0, 1) := by decide +kernel
theorem dX4_lookAt_23 : decode cX4_lookAt 23 = .ok (.getfield 12, 3) := by decide +kernel
theorem dX4_lookAt_26 : decode cX4_lookAt 26 = .ok (.iload_n 2, 1) := by decide +kernel
theorem dX4_lookAt_27 : decode cX4_lookAt 27 = .ok (.invokevirtual 170, 3) := by decide +kernel
theorem dX4_lookAt_30 : decode cX4_lookAt 30 = .ok (.putfield 113, 3) := by decide +kernel
theorem dX4_lookAt_33 : decode cX4_lookAt 33 = .ok (.aload_n 0, 1) := by decide +kernel
theorem dX4_lookAt_34 : decode cX4_lookAt 34 = .ok (.getfield 34, 3) := by decide +kernel
theorem dX4_lookAt_37 : decode cX4_lookAt 37 = .ok (.iload_n 1, 1) := by decide +kernel
theorem dX4_lookAt_38 : decode cX4_lookAt 38 = .ok (.ifCond .ne 7, 3) := by decide +kernel
theorem dX4_lookAt_41 : decode cX4_lookAt 41 = .ok (.iconst (-1), 1) := by decide +kernel
theorem dX4_lookAt_42 : decode cX4_lookAt 42 = .ok (.goto 11, 3) := by decide +kernel
theorem dX4_lookAt_45 : decode cX4_lookAt 45 = .ok (.aload_n 0, 1) := by decide +kernel
theorem dX4_lookAt_46 : decode cX4_lookAt 46 = .ok (.getfield 12, 3) := by decide +kernel
theorem dX4_lookAt_49 : decode cX4_lookAt 49 = .ok (.iload_n 3, 1) := by decide +kernel
theorem dX4_lookAt_50 : decode cX4_lookAt 50 = .ok (.invokevirtual 170, 3) := by decide +kernel
theorem dX4_lookAt_53 : decode cX4_lookAt 53 = .ok (.putfield 120, 3) := by decide +kernel
theorem dX4_lookAt_56 : decode cX4_lookAt 56 = .ok (.aload_n 0, 1) := by decide +kernel
theorem dX4_lookAt_57 : decode cX4_lookAt 57 = .ok (.getfield 34, 3) := by decide +kernel
theorem dX4_lookAt_60 : decode cX4_lookAt 60 = .ok (.aload_n 0, 1) := by decide +kernel
theorem dX4_lookAt_61 : decode cX4_lookAt 61 = .ok (.getfield 12, 3) := by decide +kernel
theorem dX4_lookAt_64 : decode cX4_lookAt 64 = .ok (.iload 4, 2) := by decide +kernel
theorem dX4_lookAt_66 : decode cX4_lookAt 66 = .ok (.invokevirtual 170, 3) := by decide +kernel
theorem dX4_lookAt_69 : decode cX4_lookAt 69 = .ok (.putfield 123, 3) := by decide +kernel
theorem dX4_lookAt_72 : decode cX4_lookAt 72 = .ok (.aload_n 0, 1) := by decide +kernel
theorem dX4_lookAt_73 : decode cX4_lookAt 73 = .ok (.getfield 34, 3) := by decide +kernel
theorem dX4_lookAt_76 : decode cX4_lookAt 76 = .ok (.iload 5, 2) := by decide +kernel
theorem dX4_lookAt_78 : decode cX4_lookAt 78 = .ok (.putfield 126, 3) := by decide +kernel
theorem dX4_lookAt_81 : decode cX4_lookAt 81 = .ok (.aload_n 0, 1) := by decide +kernel
theorem dX4_lookAt_82 : decode cX4_lookAt 82 = .ok (.getfield 12, 3) := by decide +kernel
theorem dX4_lookAt_85 : decode cX4_lookAt 85 = .ok (.aload_n 0, 1) := by decide +kernel
theorem dX4_lookAt_86 : decode cX4_lookAt 86 = .ok (.getfield 34, 3) := by decide +kernel
theorem dX4_lookAt_89 : decode cX4_lookAt 89 = .ok (.invokevirtual 173, 3) := by decide +kernel
theorem dX4_lookAt_92 : decode cX4_lookAt 92 = .ok (.ireturn, 1) := by decide +kernel
set_option maxRecDepth 20000 in
theorem ggX4_prepare_X4_tableOf : GoodIn wsX4_prepare wsX4_tableOf := goodIn_r _ [6, 1, 158, 159, 160, 161, 162, 163] (by decide +kernel) (by decide +kernel)
set_option maxRecDepth 20000 in
theorem gX4_prepare_X4_tableOf : GoodIn wsX4_prepare (wsV RX4 176 RX4 yX4_tableOf wsX4_tableOf) := goodIn_app (goodIn_of _ (by decide +kernel)) ggX4_prepare_X4_tableOf
set_option maxRecDepth 20000 in
theorem ggX4_prepare_X3_solve : GoodIn wsX4_prepare wsX3_solve := goodIn_r _ [10, 11, 12, 13, 14, 8, 15, 16, 17, 18, 19, 20, 21, 22, 23, 24, 25, 26, 27, 28, 29, 30, 31, 32, 33, 34, 35, 36, 37, 38, 39, 40, 41, 42, 43, 44, 45, 46, 47, 48, 49, 50, 51, 52, 53, 54, 55, 56, 57, 58, 59, 60, 61, 62, 63, 64, 65, 66, 67, 68, 69, 70, 71, 72, 73, 74, 75, 76, 77, 78, 79, 80, 81, 82, 83, 84, 85, 86, 87, 88, 89, 90, 91, 92, 93, 94, 95, 96, 97, 98, 99, 100, 101, 102, 103, 104, 105, 106, 107, 108, 109, 110, 111, 112, 113, 114, 115, 116, 117, 118, 119, 120, 121, 122, 123, 124, 125, 126, 127, 128, 129, 130, 131, 132, 133, 134, 135, 136, 137, 138, 139, 140, 141, 142, 143, 144, 145, 146, 147, 148, 149, 150, 151, 152, 153, 154, 155, 156, 157, 164, 165, 166, 167, 168, 169, 170, 171] (by decide +kernel) (by decide +kernel)
set_option maxRecDepth 20000 in
theorem gX4_prepare_X3_solve_n182 : GoodIn wsX4_prepare (wsX3_solve) := ggX4_prepare_X3_solve
theorem dX4_prepare_0 : decode cX4_prepare 0 = .ok (.iconst 5, 1) := by decide +kernel
theorem dX4_prepare_1 : decode cX4_prepare 1 = .ok (.istore_n 2, 1) := by decide +kernel
theorem dX4_prepare_2 : decode cX4_prepare 2 = .ok (.iload_n 2, 1) := by decide +kernel
theorem dX4_prepare_3 : decode cX4_prepare 3 = .ok (.iconst 1, 1) := by decide +kernel
theorem dX4_prepare_4 : decode cX4_prepare 4 = .ok (.if_icmp .lt 56, 3) := by decide +kernel
theorem dX4_prepare_7 : decode cX4_prepare 7 = .ok (.aload_n 0, 1) := by decide +kernel
theorem dX4_prepare_8 : decode cX4_prepare 8 = .ok (.iload_n 2, 1) := by decide +kernel
theorem dX4_prepare_9 : decode cX4_prepare 9 = .ok (.invokevirtual 176, 3) := by decide +kernel
theorem dX4_prepare_12 : decode cX4_prepare 12 = .ok (.astore_n 3, 1) := by decide +kernel
theorem dX4_prepare_13 : decode cX4_prepare 13 = .ok (.iload_n 2, 1) := by decide +kernel
theorem dX4_prepare_14 : decode cX4_prepare 14 = .ok (.iload_n 1, 1) := by decide +kernel
theorem dX4_prepare_15 : decode cX4_prepare 15 = .ok (.if_icmp .eq 8, 3) := by decide +kernel
theorem dX4_prepare_18 : decode cX4_prepare 18 = .ok (.iload_n 1, 1) := by decide +kernel
theorem dX4_prepare_19 : decode cX4_prepare 19 = .ok (.iconst 1, 1) := by decide +kernel
theorem dX4_prepare_20 : decode cX4_prepare 20 = .ok (.if_icmp .ne 7, 3) := by decide +kernel
theorem dX4_prepare_23 : decode cX4_prepare 23 = .ok (.iconst 1, 1) := by decide +kernel
theorem dX4_prepare_24 : decode cX4_prepare 24 = .ok (.goto 4, 3) := by decide +kernel
theorem dX4_prepare_27 : decode cX4_prepare 27 = .ok (.iconst 0, 1) := by decide +kernel
theorem dX4_prepare_28 : decode cX4_prepare 28 = .ok (.istore 4, 2) := by decide +kernel
theorem dX4_prepare_30 : decode cX4_prepare 30 = .ok (.iload 4, 2) := by decide +kernel
theorem dX4_prepare_32 : decode cX4_prepare 32 = .ok (.ifCond .eq 22, 3) := by decide +kernel
theorem dX4_prepare_35 : decode cX4_prepare 35 = .ok (.aload_n 3, 1) := by decide +kernel
theorem dX4_prepare_36 : decode cX4_prepare 36 = .ok (.ifnull 18, 3) := by decide +kernel
theorem dX4_prepare_39 : decode cX4_prepare 39 = .ok (.aload_n 3, 1) := by decide +kernel
theorem dX4_prepare_40 : decode cX4_prepare 40 = .ok (.getfield 179, 3) := by decide +kernel
theorem dX4_prepare_43 : decode cX4_prepare 43 = .ok (.ifCond .ne 11, 3) := by decide +kernel
theorem dX4_prepare_46 : decode cX4_prepare 46 = .ok (.aload_n 3, 1) := by decide +kernel
theorem dX4_prepare_47 : decode cX4_prepare 47 = .ok (.aload_n 0, 1) := by decide +kernel
theorem dX4_prepare_48 : decode cX4_prepare 48 = .ok (.getfield 20, 3) := by decide +kernel
theorem dX4_prepare_51 : decode cX4_prepare 51 = .ok (.invokevirtual 182, 3) := by decide +kernel
theorem dX4_prepare_54 : decode cX4_prepare 54 = .ok (.iinc 2 (-1), 3) := by decide +kernel
theorem dX4_prepare_57 : decode cX4_prepare 57 = .ok (.goto (-55), 3) := by decide +kernel
theorem dX4_prepare_60 : decode cX4_prepare 60 = .ok (.aload_n 0, 1) := by decide +kernel
theorem dX4_prepare_61 : decode cX4_prepare 61 = .ok (.iload_n 1, 1) := by decide +kernel
theorem dX4_prepare_62 : decode cX4_prepare 62 = .ok (.invokevirtual 176, 3) := by decide +kernel
theorem dX4_prepare_65 : decode cX4_prepare 65 = .ok (.areturn, 1) := by decide +kernel
theorem dX4_tableOf_0 : decode cX4_tableOf 0 = .ok (.iload_n 1, 1) := by decide +kernel
theorem dX4_tableOf_1 : decode cX4_tableOf 1 = .ok (.ifCond .lt 21, 3) := by decide +kernel
theorem dX4_tableOf_4 : decode cX4_tableOf 4 = .ok (.iload_n 1, 1) := by decide +kernel
theorem dX4_tableOf_5 : decode cX4_tableOf 5 = .ok (.aload_n 0, 1) := by decide +kernel
theorem dX4_tableOf_6 : decode cX4_tableOf 6 = .ok (.getfield 20, 3) := by decide +kernel
theorem dX4_tableOf_9 : decode cX4_tableOf 9 = .ok (.arraylength, 1) := by decide +kernel
theorem dX4_tableOf_10 : decode cX4_tableOf 10 = .ok (.if_icmp .ge 12, 3) := by decide +kernel
theorem dX4_tableOf_13 : decode cX4_tableOf 13 = .ok (.aload_n 0, 1) := by decide +kernel
theorem dX4_tableOf_14 : decode cX4_tableOf 14 = .ok (.getfield 20, 3) := by decide +kernel
theorem dX4_tableOf_17 : decode cX4_tableOf 17 = .ok (.iload_n 1, 1) := by decide +kernel
theorem dX4_tableOf_18 : decode cX4_tableOf 18 = .ok (.aaload, 1) := by decide +kernel
theorem dX4_tableOf_19 : decode cX4_tableOf 19 = .ok (.goto 4, 3) := by decide +kernel
theorem dX4_tableOf_22 : decode cX4_tableOf 22 = .ok (.aconst_null, 1) := by decide +kernel
theorem dX4_tableOf_23 : decode cX4_tableOf 23 = .ok (.areturn, 1) := by decide +kernel
set_option maxRecDepth 20000 in
theorem ggX4_pliesOf_X4_tableOf : GoodIn wsX4_pliesOf wsX4_tableOf := goodIn_r _ [5, 6, 33, 34, 35, 36, 37, 38] (by decide +kernel) (by decide +kernel)
set_option maxRecDepth 20000 in
theorem gX4_pliesOf_X4_tableOf : GoodIn wsX4_pliesOf (wsV RX4 176 RX4 yX4_tableOf wsX4_tableOf) := goodIn_app (goodIn_of _ (by decide +kernel)) ggX4_pliesOf_X4_tableOf
set_option maxRecDepth 20000 in
theorem ggX4_pliesOf_X3_plies : GoodIn wsX4_pliesOf wsX3_plies := goodIn_r _ [10, 11, 12, 13, 14, 15, 16, 8, 17, 18, 19, 20, 21, 22, 23, 24, 25, 26, 27, 39, 40, 41, 42, 43, 44, 45, 46, 47, 48, 49, 50, 51, 52, 53, 54, 55] (by decide +kernel) (by decide +kernel)
set_option maxRecDepth 20000 in
theorem gX4_pliesOf_X3_plies_n186 : GoodIn wsX4_pliesOf (wsX3_plies) := ggX4_pliesOf_X3_plies
theorem dX4_pliesOf_0 : decode cX4_pliesOf 0 = .ok (.aload_n 0, 1) := by decide +kernel
theorem dX4_pliesOf_1 : decode cX4_pliesOf 1 = .ok (.aload_n 1, 1) := by decide +kernel
theorem dX4_pliesOf_2 : decode cX4_pliesOf 2 = .ok (.getfield 110, 3) := by decide +kernel
theorem dX4_pliesOf_5 : decode cX4_pliesOf 5 = .ok (.invokevirtual 176, 3) := by decide +kernel
theorem dX4_pliesOf_8 : decode cX4_pliesOf 8 = .ok (.astore_n 2, 1) := by decide +kernel
theorem dX4_pliesOf_9 : decode cX4_pliesOf 9 = .ok (.aload_n 2, 1) := by decide +kernel
theorem dX4_pliesOf_10 : decode cX4_pliesOf 10 = .ok (.ifnonnull 5, 3) := by decide +kernel
theorem dX4_pliesOf_13 : decode cX4_pliesOf 13 = .ok (.iconst (-1), 1) := by decide +kernel
theorem dX4_pliesOf_14 : decode cX4_pliesOf 14 = .ok (.ireturn, 1) := by decide +kernel
theorem dX4_pliesOf_15 : decode cX4_pliesOf 15 = .ok (.aload_n 2, 1) := by decide +kernel
theorem dX4_pliesOf_16 : decode cX4_pliesOf 16 = .ok (.aload_n 1, 1) := by decide +kernel
theorem dX4_pliesOf_17 : decode cX4_pliesOf 17 = .ok (.getfield 126, 3) := by decide +kernel
theorem dX4_pliesOf_20 : decode cX4_pliesOf 20 = .ok (.aload_n 1, 1) := by decide +kernel
theorem dX4_pliesOf_21 : decode cX4_pliesOf 21 = .ok (.getfield 113, 3) := by decide +kernel
theorem dX4_pliesOf_24 : decode cX4_pliesOf 24 = .ok (.aload_n 1, 1) := by decide +kernel
theorem dX4_pliesOf_25 : decode cX4_pliesOf 25 = .ok (.getfield 120, 3) := by decide +kernel
theorem dX4_pliesOf_28 : decode cX4_pliesOf 28 = .ok (.aload_n 1, 1) := by decide +kernel
theorem dX4_pliesOf_29 : decode cX4_pliesOf 29 = .ok (.getfield 123, 3) := by decide +kernel
theorem dX4_pliesOf_32 : decode cX4_pliesOf 32 = .ok (.invokevirtual 186, 3) := by decide +kernel
theorem dX4_pliesOf_35 : decode cX4_pliesOf 35 = .ok (.ireturn, 1) := by decide +kernel
set_option maxRecDepth 20000 in
theorem ggX4_pliesBehind_X2_copy : GoodIn wsX4_pliesBehind wsX2_copy := goodIn_r _ [7, 8, 9, 10, 11, 12, 66, 67, 68, 69, 70] (by decide +kernel) (by decide +kernel)
set_option maxRecDepth 20000 in
theorem gX4_pliesBehind_X2_copy_n99 : GoodIn wsX4_pliesBehind (wsX2_copy) := ggX4_pliesBehind_X2_copy
set_option maxRecDepth 20000 in
theorem ggX4_pliesBehind_X2_go : GoodIn wsX4_pliesBehind wsX2_go := goodIn_r _ [15, 12, 9, 10, 8, 16, 17, 18, 19, 20, 21, 22, 23, 24, 25, 26, 27, 28, 5, 29, 11, 66, 67, 68, 69, 70, 71, 72, 73, 74, 75, 76, 77, 78] (by decide +kernel) (by decide +kernel)
set_option maxRecDepth 20000 in
theorem gX4_pliesBehind_X2_go_n190 : GoodIn wsX4_pliesBehind (wsX2_go) := ggX4_pliesBehind_X2_go
set_option maxRecDepth 20000 in
theorem ggX4_pliesBehind_X4_pliesOf : GoodIn wsX4_pliesBehind wsX4_pliesOf := goodIn_r _ [34, 35, 36, 37, 33, 38, 39, 40, 41, 42, 43, 44, 45, 46, 47, 48, 49, 50, 51, 52, 53, 54, 55, 17, 56, 57, 58, 59, 66, 67, 68, 69, 70, 60, 61, 62, 63, 64, 65, 79, 80, 81, 82, 83, 84, 85, 86, 87, 71, 72, 73, 74, 75, 76, 77, 78] (by decide +kernel) (by decide +kernel)
set_option maxRecDepth 20000 in
theorem gX4_pliesBehind_X4_pliesOf : GoodIn wsX4_pliesBehind (wsV RX4 74 RX4 yX4_pliesOf wsX4_pliesOf) := goodIn_app (goodIn_of _ (by decide +kernel)) ggX4_pliesBehind_X4_pliesOf
theorem dX4_pliesBehind_0 : decode cX4_pliesBehind 0 = .ok (.aload_n 0, 1) := by decide +kernel
theorem dX4_pliesBehind_1 : decode cX4_pliesBehind 1 = .ok (.getfield 34, 3) := by decide +kernel
theorem dX4_pliesBehind_4 : decode cX4_pliesBehind 4 = .ok (.aload_n 0, 1) := by decide +kernel
theorem dX4_pliesBehind_5 : decode cX4_pliesBehind 5 = .ok (.getfield 30, 3) := by decide +kernel
theorem dX4_pliesBehind_8 : decode cX4_pliesBehind 8 = .ok (.invokevirtual 99, 3) := by decide +kernel
theorem dX4_pliesBehind_11 : decode cX4_pliesBehind 11 = .ok (.aload_n 0, 1) := by decide +kernel
theorem dX4_pliesBehind_12 : decode cX4_pliesBehind 12 = .ok (.getfield 34, 3) := by decide +kernel
theorem dX4_pliesBehind_15 : decode cX4_pliesBehind 15 = .ok (.aload_n 0, 1) := by decide +kernel
theorem dX4_pliesBehind_16 : decode cX4_pliesBehind 16 = .ok (.getfield 12, 3) := by decide +kernel
theorem dX4_pliesBehind_19 : decode cX4_pliesBehind 19 = .ok (.iload_n 1, 1) := by decide +kernel
theorem dX4_pliesBehind_20 : decode cX4_pliesBehind 20 = .ok (.invokevirtual 190, 3) := by decide +kernel
theorem dX4_pliesBehind_23 : decode cX4_pliesBehind 23 = .ok (.aload_n 0, 1) := by decide +kernel
theorem dX4_pliesBehind_24 : decode cX4_pliesBehind 24 = .ok (.aload_n 0, 1) := by decide +kernel
theorem dX4_pliesBehind_25 : decode cX4_pliesBehind 25 = .ok (.getfield 34, 3) := by decide +kernel
theorem dX4_pliesBehind_28 : decode cX4_pliesBehind 28 = .ok (.invokevirtual 74, 3) := by decide +kernel
theorem dX4_pliesBehind_31 : decode cX4_pliesBehind 31 = .ok (.ireturn, 1) := by decide +kernel
set_option maxRecDepth 20000 in
theorem ggX4_make_X2_go : GoodIn wsX4_make wsX2_go := goodIn_r _ [7, 8, 9, 10, 11, 12, 13, 14, 15, 16, 17, 18, 19, 20, 21, 22, 23, 24, 5, 25, 26, 96, 97, 98, 99, 100, 101, 102, 103, 104, 105, 106, 107, 108] (by decide +kernel) (by decide +kernel)
set_option maxRecDepth 20000 in
theorem gX4_make_X2_go_n190 : GoodIn wsX4_make (wsX2_go) := ggX4_make_X2_go
set_option maxRecDepth 20000 in
theorem ggX4_make_X1_fill : GoodIn wsX4_make wsX1_fill := goodIn_r _ [30, 31, 32, 33, 13, 34, 35, 36, 37, 38, 39, 40, 41, 42, 43, 44, 45, 20, 46, 47, 48, 49, 50, 51, 52, 53, 54, 55, 56, 57, 58, 59, 60, 61, 62, 63, 64, 65, 66, 67, 28, 68, 69, 70, 71, 72, 73, 74, 75, 76, 77, 78, 79, 80, 81, 82, 83, 84, 85, 86, 87, 88, 89, 109, 110, 96, 97, 98, 99, 100, 101, 102, 103, 104, 105, 106, 107, 108] (by decide +kernel) (by decide +kernel)
set_option maxRecDepth 20000 in
theorem gX4_make_X1_fill_n103 : GoodIn wsX4_make (wsX1_fill) := ggX4_make_X1_fill
theorem dX4_make_0 : decode cX4_make 0 = .ok (.aload_n 0, 1) := by decide +kernel
theorem dX4_make_1 : decode cX4_make 1 = .ok (.getfield 30, 3) := by decide +kernel
theorem dX4_make_4 : decode cX4_make 4 = .ok (.aload_n 0, 1) := by decide +kernel
theorem dX4_make_5 : decode cX4_make 5 = .ok (.getfield 12, 3) := by decide +kernel
theorem dX4_make_8 : decode cX4_make 8 = .ok (.iload_n 1, 1) := by decide +kernel
theorem dX4_make_9 : decode cX4_make 9 = .ok (.invokevirtual 190, 3) := by decide +kernel
theorem dX4_make_12 : decode cX4_make 12 = .ok (.aload_n 0, 1) := by decide +kernel
theorem dX4_make_13 : decode cX4_make 13 = .ok (.getfield 40, 3) := by decide +kernel
theorem dX4_make_16 : decode cX4_make 16 = .ok (.aload_n 0, 1) := by decide +kernel
theorem dX4_make_17 : decode cX4_make 17 = .ok (.getfield 12, 3) := by decide +kernel
theorem dX4_make_20 : decode cX4_make 20 = .ok (.aload_n 0, 1) := by decide +kernel
theorem dX4_make_21 : decode cX4_make 21 = .ok (.getfield 30, 3) := by decide +kernel
theorem dX4_make_24 : decode cX4_make 24 = .ok (.invokevirtual 103, 3) := by decide +kernel
theorem dX4_make_27 : decode cX4_make 27 = .ok (.return_, 1) := by decide +kernel
set_option maxRecDepth 20000 in
theorem ggX4_bestMove_X1_toldAt : GoodIn wsX4_bestMove wsX1_toldAt := goodIn_r _ [6, 7, 79, 80] (by decide +kernel) (by decide +kernel)
set_option maxRecDepth 20000 in
theorem gX4_bestMove_X1_toldAt_n140 : GoodIn wsX4_bestMove (wsX1_toldAt) := ggX4_bestMove_X1_toldAt
set_option maxRecDepth 20000 in
theorem ggX4_bestMove_X4_pliesBehind : GoodIn wsX4_bestMove wsX4_pliesBehind := goodIn_r _ [12, 13, 2, 14, 15, 16, 17, 18, 19, 20, 21, 22, 23, 24, 25, 26, 27, 28, 29, 30, 31, 32, 33, 34, 35, 36, 37, 38, 39, 40, 41, 42, 43, 11, 44, 45, 46, 47, 48, 49, 50, 51, 52, 53, 54, 55, 56, 57, 58, 59, 60, 61, 62, 63, 64, 65, 66, 67, 68, 69, 73, 74, 75, 76, 77, 78, 81, 82, 83, 84, 85, 86, 87, 88, 89, 90, 91, 92, 93, 94, 95, 96, 97, 98, 99, 100, 101, 102] (by decide +kernel) (by decide +kernel)
set_option maxRecDepth 20000 in
theorem gX4_bestMove_X4_pliesBehind : GoodIn wsX4_bestMove (wsV RX4 193 RX4 yX4_pliesBehind wsX4_pliesBehind) := goodIn_app (goodIn_of _ (by decide +kernel)) ggX4_bestMove_X4_pliesBehind
set_option maxRecDepth 20000 in
theorem ggX4_bestMove_X4_isBetter : GoodIn wsX4_bestMove wsX4_isBetter := goodIn_r _ [72] (by decide +kernel) (by decide +kernel)
set_option maxRecDepth 20000 in
theorem gX4_bestMove_X4_isBetter : GoodIn wsX4_bestMove (va_wsS RX4 196 yX4_isBetter wsX4_isBetter) := goodIn_app (goodIn_of _ (by decide +kernel)) ggX4_bestMove_X4_isBetter
theorem dX4_bestMove_0 : decode cX4_bestMove 0 = .ok (.aload_n 0, 1) := by decide +kernel
theorem dX4_bestMove_1 : decode cX4_bestMove 1 = .ok (.getfield 40, 3) := by decide +kernel
theorem dX4_bestMove_4 : decode cX4_bestMove 4 = .ok (.iconst 0, 1) := by decide +kernel
theorem dX4_bestMove_5 : decode cX4_bestMove 5 = .ok (.invokevirtual 140, 3) := by decide +kernel
theorem dX4_bestMove_8 : decode cX4_bestMove 8 = .ok (.istore_n 1, 1) := by decide +kernel
theorem dX4_bestMove_9 : decode cX4_bestMove 9 = .ok (.aload_n 0, 1) := by decide +kernel
theorem dX4_bestMove_10 : decode cX4_bestMove 10 = .ok (.iload_n 1, 1) := by decide +kernel
theorem dX4_bestMove_11 : decode cX4_bestMove 11 = .ok (.invokevirtual 193, 3) := by decide +kernel
theorem dX4_bestMove_14 : decode cX4_bestMove 14 = .ok (.istore_n 2, 1) := by decide +kernel
theorem dX4_bestMove_15 : decode cX4_bestMove 15 = .ok (.iconst 1, 1) := by decide +kernel
theorem dX4_bestMove_16 : decode cX4_bestMove 16 = .ok (.istore_n 3, 1) := by decide +kernel
theorem dX4_bestMove_17 : decode cX4_bestMove 17 = .ok (.iload_n 3, 1) := by decide +kernel
theorem dX4_bestMove_18 : decode cX4_bestMove 18 = .ok (.aload_n 0, 1) := by decide +kernel
theorem dX4_bestMove_19 : decode cX4_bestMove 19 = .ok (.getfield 40, 3) := by decide +kernel
theorem dX4_bestMove_22 : decode cX4_bestMove 22 = .ok (.getfield 135, 3) := by decide +kernel
theorem dX4_bestMove_25 : decode cX4_bestMove 25 = .ok (.if_icmp .ge 49, 3) := by decide +kernel
theorem dX4_bestMove_28 : decode cX4_bestMove 28 = .ok (.aload_n 0, 1) := by decide +kernel
theorem dX4_bestMove_29 : decode cX4_bestMove 29 = .ok (.getfield 40, 3) := by decide +kernel
theorem dX4_bestMove_32 : decode cX4_bestMove 32 = .ok (.iload_n 3, 1) := by decide +kernel
theorem dX4_bestMove_33 : decode cX4_bestMove 33 = .ok (.invokevirtual 140, 3) := by decide +kernel
theorem dX4_bestMove_36 : decode cX4_bestMove 36 = .ok (.istore 4, 2) := by decide +kernel
theorem dX4_bestMove_38 : decode cX4_bestMove 38 = .ok (.aload_n 0, 1) := by decide +kernel
theorem dX4_bestMove_39 : decode cX4_bestMove 39 = .ok (.iload 4, 2) := by decide +kernel
theorem dX4_bestMove_41 : decode cX4_bestMove 41 = .ok (.invokevirtual 193, 3) := by decide +kernel
theorem dX4_bestMove_44 : decode cX4_bestMove 44 = .ok (.istore 5, 2) := by decide +kernel
theorem dX4_bestMove_46 : decode cX4_bestMove 46 = .ok (.aload_n 0, 1) := by decide +kernel
theorem dX4_bestMove_47 : decode cX4_bestMove 47 = .ok (.getfield 30, 3) := by decide +kernel
theorem dX4_bestMove_50 : decode cX4_bestMove 50 = .ok (.getfield 126, 3) := by decide +kernel
theorem dX4_bestMove_53 : decode cX4_bestMove 53 = .ok (.iload 5, 2) := by decide +kernel
theorem dX4_bestMove_55 : decode cX4_bestMove 55 = .ok (.iload_n 2, 1) := by decide +kernel
theorem dX4_bestMove_56 : decode cX4_bestMove 56 = .ok (.invokestatic 196, 3) := by decide +kernel
theorem dX4_bestMove_59 : decode cX4_bestMove 59 = .ok (.ifCond .eq 9, 3) := by decide +kernel
theorem dX4_bestMove_62 : decode cX4_bestMove 62 = .ok (.iload 4, 2) := by decide +kernel
theorem dX4_bestMove_64 : decode cX4_bestMove 64 = .ok (.istore_n 1, 1) := by decide +kernel
theorem dX4_bestMove_65 : decode cX4_bestMove 65 = .ok (.iload 5, 2) := by decide +kernel
theorem dX4_bestMove_67 : decode cX4_bestMove 67 = .ok (.istore_n 2, 1) := by decide +kernel
theorem dX4_bestMove_68 : decode cX4_bestMove 68 = .ok (.iinc 3 1, 3) := by decide +kernel
theorem dX4_bestMove_71 : decode cX4_bestMove 71 = .ok (.goto (-54), 3) := by decide +kernel
theorem dX4_bestMove_74 : decode cX4_bestMove 74 = .ok (.iload_n 1, 1) := by decide +kernel
theorem dX4_bestMove_75 : decode cX4_bestMove 75 = .ok (.ireturn, 1) := by decide +kernel
theorem dX4_isBetter_0 : decode cX4_isBetter 0 = .ok (.iload_n 1, 1) := by decide +kernel
theorem dX4_isBetter_1 : decode cX4_isBetter 1 = .ok (.iconst (-1), 1) := by decide +kernel
theorem dX4_isBetter_2 : decode cX4_isBetter 2 = .ok (.if_icmp .eq 8, 3) := by decide +kernel
theorem dX4_isBetter_5 : decode cX4_isBetter 5 = .ok (.iload_n 2, 1) := by decide +kernel
theorem dX4_isBetter_6 : decode cX4_isBetter 6 = .ok (.iconst (-1), 1) := by decide +kernel
theorem dX4_isBetter_7 : decode cX4_isBetter 7 = .ok (.if_icmp .ne 37, 3) := by decide +kernel
theorem dX4_isBetter_10 : decode cX4_isBetter 10 = .ok (.iload_n 1, 1) := by decide +kernel
theorem dX4_isBetter_11 : decode cX4_isBetter 11 = .ok (.iload_n 2, 1) := by decide +kernel
theorem dX4_isBetter_12 : decode cX4_isBetter 12 = .ok (.if_icmp .eq 30, 3) := by decide +kernel
theorem dX4_isBetter_15 : decode cX4_isBetter 15 = .ok (.iload_n 0, 1) := by decide +kernel
theorem dX4_isBetter_16 : decode cX4_isBetter 16 = .ok (.iconst 1, 1) := by decide +kernel
theorem dX4_isBetter_17 : decode cX4_isBetter 17 = .ok (.if_icmp .ne 7, 3) := by decide +kernel
theorem dX4_isBetter_20 : decode cX4_isBetter 20 = .ok (.iconst 1, 1) := by decide +kernel
theorem dX4_isBetter_21 : decode cX4_isBetter 21 = .ok (.goto 4, 3) := by decide +kernel
theorem dX4_isBetter_24 : decode cX4_isBetter 24 = .ok (.iconst 0, 1) := by decide +kernel
theorem dX4_isBetter_25 : decode cX4_isBetter 25 = .ok (.iload_n 1, 1) := by decide +kernel
theorem dX4_isBetter_26 : decode cX4_isBetter 26 = .ok (.iconst (-1), 1) := by decide +kernel
theorem dX4_isBetter_27 : decode cX4_isBetter 27 = .ok (.if_icmp .ne 7, 3) := by decide +kernel
theorem dX4_isBetter_30 : decode cX4_isBetter 30 = .ok (.iconst 1, 1) := by decide +kernel
theorem dX4_isBetter_31 : decode cX4_isBetter 31 = .ok (.goto 4, 3) := by decide +kernel
theorem dX4_isBetter_34 : decode cX4_isBetter 34 = .ok (.iconst 0, 1) := by decide +kernel
theorem dX4_isBetter_35 : decode cX4_isBetter 35 = .ok (.if_icmp .ne 7, 3) := by decide +kernel
theorem dX4_isBetter_38 : decode cX4_isBetter 38 = .ok (.iconst 1, 1) := by decide +kernel
theorem dX4_isBetter_39 : decode cX4_isBetter 39 = .ok (.goto 4, 3) := by decide +kernel
theorem dX4_isBetter_42 : decode cX4_isBetter 42 = .ok (.iconst 0, 1) := by decide +kernel
theorem dX4_isBetter_43 : decode cX4_isBetter 43 = .ok (.ireturn, 1) := by decide +kernel
theorem dX4_isBetter_44 : decode cX4_isBetter 44 = .ok (.iload_n 0, 1) := by decide +kernel
theorem dX4_isBetter_45 : decode cX4_isBetter 45 = .ok (.iconst 1, 1) := by decide +kernel
theorem dX4_isBetter_46 : decode cX4_isBetter 46 = .ok (.if_icmp .ne 16, 3) := by decide +kernel
theorem dX4_isBetter_49 : decode cX4_isBetter 49 = .ok (.iload_n 1, 1) := by decide +kernel
theorem dX4_isBetter_50 : decode cX4_isBetter 50 = .ok (.iload_n 2, 1) := by decide +kernel
theorem dX4_isBetter_51 : decode cX4_isBetter 51 = .ok (.if_icmp .le 7, 3) := by decide +kernel
theorem dX4_isBetter_54 : decode cX4_isBetter 54 = .ok (.iconst 1, 1) := by decide +kernel
theorem dX4_isBetter_55 : decode cX4_isBetter 55 = .ok (.goto 17, 3) := by decide +kernel
theorem dX4_isBetter_58 : decode cX4_isBetter 58 = .ok (.iconst 0, 1) := by decide +kernel
theorem dX4_isBetter_59 : decode cX4_isBetter 59 = .ok (.goto 13, 3) := by decide +kernel
theorem dX4_isBetter_62 : decode cX4_isBetter 62 = .ok (.iload_n 1, 1) := by decide +kernel
theorem dX4_isBetter_63 : decode cX4_isBetter 63 = .ok (.iload_n 2, 1) := by decide +kernel
theorem dX4_isBetter_64 : decode cX4_isBetter 64 = .ok (.if_icmp .ge 7, 3) := by decide +kernel
theorem dX4_isBetter_67 : decode cX4_isBetter 67 = .ok (.iconst 1, 1) := by decide +kernel
theorem dX4_isBetter_68 : decode cX4_isBetter 68 = .ok (.goto 4, 3) := by decide +kernel
theorem dX4_isBetter_71 : decode cX4_isBetter 71 = .ok (.iconst 0, 1) := by decide +kernel
theorem dX4_isBetter_72 : decode cX4_isBetter 72 = .ok (.ireturn, 1) := by decide +kernel
