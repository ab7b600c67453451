theorem dX5_init_0 : decode cX5_init 0 = .ok (.aload_n 0, 1) := by decide +kernel
theorem dX5_init_1 : decode cX5_init 1 = .ok (.invokespecial 1, 3) := by decide +kernel
theorem dX5_init_4 : decode cX5_init 4 = .ok (.aload_n 0, 1) := by decide +kernel
theorem dX5_init_5 : decode cX5_init 5 = .ok (.ldc 7, 2) := by decide +kernel
theorem dX5_init_7 : decode cX5_init 7 = .ok (.newarray .long, 2) := by decide +kernel
theorem dX5_init_9 : decode cX5_init 9 = .ok (.putfield 8, 3) := by decide +kernel
theorem dX5_init_12 : decode cX5_init 12 = .ok (.aload_n 0, 1) := by decide +kernel
theorem dX5_init_13 : decode cX5_init 13 = .ok (.bipush 6, 2) := by decide +kernel
theorem dX5_init_15 : decode cX5_init 15 = .ok (.newarray .boolean, 2) := by decide +kernel
theorem dX5_init_17 : decode cX5_init 17 = .ok (.putfield 14, 3) := by decide +kernel
theorem dX5_init_20 : decode cX5_init 20 = .ok (.aload_n 0, 1) := by decide +kernel
theorem dX5_init_21 : decode cX5_init 21 = .ok (.bipush 6, 2) := by decide +kernel
theorem dX5_init_23 : decode cX5_init 23 = .ok (.newarray .int, 2) := by decide +kernel
theorem dX5_init_25 : decode cX5_init 25 = .ok (.putfield 18, 3) := by decide +kernel
theorem dX5_init_28 : decode cX5_init 28 = .ok (.aload_n 0, 1) := by decide +kernel
theorem dX5_init_29 : decode cX5_init 29 = .ok (.bipush 64, 2) := by decide +kernel
theorem dX5_init_31 : decode cX5_init 31 = .ok (.newarray .int, 2) := by decide +kernel
theorem dX5_init_33 : decode cX5_init 33 = .ok (.putfield 22, 3) := by decide +kernel
theorem dX5_init_36 : decode cX5_init 36 = .ok (.aload_n 0, 1) := by decide +kernel
theorem dX5_init_37 : decode cX5_init 37 = .ok (.iload_n 1, 1) := by decide +kernel
theorem dX5_init_38 : decode cX5_init 38 = .ok (.iconst 3, 1) := by decide +kernel
theorem dX5_init_39 : decode cX5_init 39 = .ok (.if_icmp .lt 9, 3) := by decide +kernel
theorem dX5_init_42 : decode cX5_init 42 = .ok (.iload_n 1, 1) := by decide +kernel
theorem dX5_init_43 : decode cX5_init 43 = .ok (.bipush 8, 2) := by decide +kernel
theorem dX5_init_45 : decode cX5_init 45 = .ok (.if_icmp .le 8, 3) := by decide +kernel
theorem dX5_init_48 : decode cX5_init 48 = .ok (.bipush 8, 2) := by decide +kernel
theorem dX5_init_50 : decode cX5_init 50 = .ok (.goto 4, 3) := by decide +kernel
theorem dX5_init_53 : decode cX5_init 53 = .ok (.iload_n 1, 1) := by decide +kernel
theorem dX5_init_54 : decode cX5_init 54 = .ok (.putfield 25, 3) := by decide +kernel
theorem dX5_init_57 : decode cX5_init 57 = .ok (.aload_n 0, 1) := by decide +kernel
theorem dX5_init_58 : decode cX5_init 58 = .ok (.iload_n 2, 1) := by decide +kernel
theorem dX5_init_59 : decode cX5_init 59 = .ok (.iconst 3, 1) := by decide +kernel
theorem dX5_init_60 : decode cX5_init 60 = .ok (.if_icmp .lt 9, 3) := by decide +kernel
theorem dX5_init_63 : decode cX5_init 63 = .ok (.iload_n 2, 1) := by decide +kernel
theorem dX5_init_64 : decode cX5_init 64 = .ok (.bipush 8, 2) := by decide +kernel
theorem dX5_init_66 : decode cX5_init 66 = .ok (.if_icmp .le 8, 3) := by decide +kernel
theorem dX5_init_69 : decode cX5_init 69 = .ok (.bipush 8, 2) := by decide +kernel
theorem dX5_init_71 : decode cX5_init 71 = .ok (.goto 4, 3) := by decide +kernel
theorem dX5_init_74 : decode cX5_init 74 = .ok (.iload_n 2, 1) := by decide +kernel
theorem dX5_init_75 : decode cX5_init 75 = .ok (.putfield 29, 3) := by decide +kernel
theorem dX5_init_78 : decode cX5_init 78 = .ok (.return_, 1) := by decide +kernel
theorem dX5_thrown_0 : decode cX5_thrown 0 = .ok (.aload_n 0, 1) := by decide +kernel
theorem dX5_thrown_1 : decode cX5_thrown 1 = .ok (.getfield 32, 3) := by decide +kernel
theorem dX5_thrown_4 : decode cX5_thrown 4 = .ok (.ireturn, 1) := by decide +kernel
theorem dX5_isSquare_0 : decode cX5_isSquare 0 = .ok (.iload_n 1, 1) := by decide +kernel
theorem dX5_isSquare_1 : decode cX5_isSquare 1 = .ok (.ifCond .lt 35, 3) := by decide +kernel
theorem dX5_isSquare_4 : decode cX5_isSquare 4 = .ok (.iload_n 1, 1) := by decide +kernel
theorem dX5_isSquare_5 : decode cX5_isSquare 5 = .ok (.bipush 64, 2) := by decide +kernel
theorem dX5_isSquare_7 : decode cX5_isSquare 7 = .ok (.if_icmp .ge 29, 3) := by decide +kernel
theorem dX5_isSquare_10 : decode cX5_isSquare 10 = .ok (.iload_n 1, 1) := by decide +kernel
theorem dX5_isSquare_11 : decode cX5_isSquare 11 = .ok (.bipush 8, 2) := by decide +kernel
theorem dX5_isSquare_13 : decode cX5_isSquare 13 = .ok (.irem, 1) := by decide +kernel
theorem dX5_isSquare_14 : decode cX5_isSquare 14 = .ok (.aload_n 0, 1) := by decide +kernel
theorem dX5_isSquare_15 : decode cX5_isSquare 15 = .ok (.getfield 25, 3) := by decide +kernel
theorem dX5_isSquare_18 : decode cX5_isSquare 18 = .ok (.if_icmp .ge 18, 3) := by decide +kernel
theorem dX5_isSquare_21 : decode cX5_isSquare 21 = .ok (.iload_n 1, 1) := by decide +kernel
theorem dX5_isSquare_22 : decode cX5_isSquare 22 = .ok (.bipush 8, 2) := by decide +kernel
theorem dX5_isSquare_24 : decode cX5_isSquare 24 = .ok (.idiv, 1) := by decide +kernel
theorem dX5_isSquare_25 : decode cX5_isSquare 25 = .ok (.aload_n 0, 1) := by decide +kernel
theorem dX5_isSquare_26 : decode cX5_isSquare 26 = .ok (.getfield 29, 3) := by decide +kernel
theorem dX5_isSquare_29 : decode cX5_isSquare 29 = .ok (.if_icmp .ge 7, 3) := by decide +kernel
theorem dX5_isSquare_32 : decode cX5_isSquare 32 = .ok (.iconst 1, 1) := by decide +kernel
theorem dX5_isSquare_33 : decode cX5_isSquare 33 = .ok (.goto 4, 3) := by decide +kernel
theorem dX5_isSquare_36 : decode cX5_isSquare 36 = .ok (.iconst 0, 1) := by decide +kernel
theorem dX5_isSquare_37 : decode cX5_isSquare 37 = .ok (.ireturn, 1) := by decide +kernel
theorem dX5_step_0 : decode cX5_step 0 = .ok (.iload_n 1, 1) := by decide +kernel
theorem dX5_step_1 : decode cX5_step 1 = .ok (.bipush 8, 2) := by decide +kernel
theorem dX5_step_3 : decode cX5_step 3 = .ok (.irem, 1) := by decide +kernel
theorem dX5_step_4 : decode cX5_step 4 = .ok (.iload_n 2, 1) := by decide +kernel
theorem dX5_step_5 : decode cX5_step 5 = .ok (.iadd, 1) := by decide +kernel
theorem dX5_step_6 : decode cX5_step 6 = .ok (.istore 4, 2) := by decide +kernel
theorem dX5_step_8 : decode cX5_step 8 = .ok (.iload_n 1, 1) := by decide +kernel
theorem dX5_step_9 : decode cX5_step 9 = .ok (.bipush 8, 2) := by decide +kernel
theorem dX5_step_11 : decode cX5_step 11 = .ok (.idiv, 1) := by decide +kernel
theorem dX5_step_12 : decode cX5_step 12 = .ok (.iload_n 3, 1) := by decide +kernel
theorem dX5_step_13 : decode cX5_step 13 = .ok (.iadd, 1) := by decide +kernel
theorem dX5_step_14 : decode cX5_step 14 = .ok (.istore 5, 2) := by decide +kernel
theorem dX5_step_16 : decode cX5_step 16 = .ok (.iload 4, 2) := by decide +kernel
theorem dX5_step_18 : decode cX5_step 18 = .ok (.ifCond .lt 37, 3) := by decide +kernel
theorem dX5_step_21 : decode cX5_step 21 = .ok (.iload 4, 2) := by decide +kernel
theorem dX5_step_23 : decode cX5_step 23 = .ok (.aload_n 0, 1) := by decide +kernel
theorem dX5_step_24 : decode cX5_step 24 = .ok (.getfield 25, 3) := by decide +kernel
theorem dX5_step_27 : decode cX5_step 27 = .ok (.if_icmp .ge 28, 3) := by decide +kernel
theorem dX5_step_30 : decode cX5_step 30 = .ok (.iload 5, 2) := by decide +kernel
theorem dX5_step_32 : decode cX5_step 32 = .ok (.ifCond .lt 23, 3) := by decide +kernel
theorem dX5_step_35 : decode cX5_step 35 = .ok (.iload 5, 2) := by decide +kernel
theorem dX5_step_37 : decode cX5_step 37 = .ok (.aload_n 0, 1) := by decide +kernel
theorem dX5_step_38 : decode cX5_step 38 = .ok (.getfield 29, 3) := by decide +kernel
theorem dX5_step_41 : decode cX5_step 41 = .ok (.if_icmp .ge 14, 3) := by decide +kernel
theorem dX5_step_44 : decode cX5_step 44 = .ok (.bipush 8, 2) := by decide +kernel
theorem dX5_step_46 : decode cX5_step 46 = .ok (.iload 5, 2) := by decide +kernel
theorem dX5_step_48 : decode cX5_step 48 = .ok (.imul, 1) := by decide +kernel
theorem dX5_step_49 : decode cX5_step 49 = .ok (.iload 4, 2) := by decide +kernel
theorem dX5_step_51 : decode cX5_step 51 = .ok (.iadd, 1) := by decide +kernel
theorem dX5_step_52 : decode cX5_step 52 = .ok (.goto 4, 3) := by decide +kernel
theorem dX5_step_55 : decode cX5_step 55 = .ok (.iconst (-1), 1) := by decide +kernel
theorem dX5_step_56 : decode cX5_step 56 = .ok (.ireturn, 1) := by decide +kernel
theorem dX5_apart_0 : decode cX5_apart 0 = .ok (.iload_n 0, 1) := by decide +kernel
theorem dX5_apart_1 : decode cX5_apart 1 = .ok (.iload_n 1, 1) := by decide +kernel
theorem dX5_apart_2 : decode cX5_apart 2 = .ok (.if_icmp .le 9, 3) := by decide +kernel
theorem dX5_apart_5 : decode cX5_apart 5 = .ok (.iload_n 0, 1) := by decide +kernel
theorem dX5_apart_6 : decode cX5_apart 6 = .ok (.iload_n 1, 1) := by decide +kernel
theorem dX5_apart_7 : decode cX5_apart 7 = .ok (.isub, 1) := by decide +kernel
theorem dX5_apart_8 : decode cX5_apart 8 = .ok (.goto 6, 3) := by decide +kernel
theorem dX5_apart_11 : decode cX5_apart 11 = .ok (.iload_n 1, 1) := by decide +kernel
theorem dX5_apart_12 : decode cX5_apart 12 = .ok (.iload_n 0, 1) := by decide +kernel
theorem dX5_apart_13 : decode cX5_apart 13 = .ok (.isub, 1) := by decide +kernel
theorem dX5_apart_14 : decode cX5_apart 14 = .ok (.ireturn, 1) := by decide +kernel
set_option maxRecDepth 20000 in
theorem ggX5_isNext_X5_apart : GoodIn wsX5_isNext wsX5_apart := goodIn_r _ [4] (by decide +kernel) (by decide +kernel)
set_option maxRecDepth 20000 in
theorem gX5_isNext_X5_apart : GoodIn wsX5_isNext (va_wsS RX5 35 yX5_apart wsX5_apart) := goodIn_app (goodIn_of _ (by decide +kernel)) ggX5_isNext_X5_apart
theorem dX5_isNext_0 : decode cX5_isNext 0 = .ok (.iload_n 0, 1) := by decide +kernel
theorem dX5_isNext_1 : decode cX5_isNext 1 = .ok (.bipush 8, 2) := by decide +kernel
theorem dX5_isNext_3 : decode cX5_isNext 3 = .ok (.irem, 1) := by decide +kernel
theorem dX5_isNext_4 : decode cX5_isNext 4 = .ok (.iload_n 1, 1) := by decide +kernel
theorem dX5_isNext_5 : decode cX5_isNext 5 = .ok (.bipush 8, 2) := by decide +kernel
theorem dX5_isNext_7 : decode cX5_isNext 7 = .ok (.irem, 1) := by decide +kernel
theorem dX5_isNext_8 : decode cX5_isNext 8 = .ok (.invokestatic 35, 3) := by decide +kernel
theorem dX5_isNext_11 : decode cX5_isNext 11 = .ok (.iconst 2, 1) := by decide +kernel
theorem dX5_isNext_12 : decode cX5_isNext 12 = .ok (.if_icmp .ge 27, 3) := by decide +kernel
theorem dX5_isNext_15 : decode cX5_isNext 15 = .ok (.iload_n 0, 1) := by decide +kernel
theorem dX5_isNext_16 : decode cX5_isNext 16 = .ok (.bipush 8, 2) := by decide +kernel
theorem dX5_isNext_18 : decode cX5_isNext 18 = .ok (.idiv, 1) := by decide +kernel
theorem dX5_isNext_19 : decode cX5_isNext 19 = .ok (.iload_n 1, 1) := by decide +kernel
theorem dX5_isNext_20 : decode cX5_isNext 20 = .ok (.bipush 8, 2) := by decide +kernel
theorem dX5_isNext_22 : decode cX5_isNext 22 = .ok (.idiv, 1) := by decide +kernel
theorem dX5_isNext_23 : decode cX5_isNext 23 = .ok (.invokestatic 35, 3) := by decide +kernel
theorem dX5_isNext_26 : decode cX5_isNext 26 = .ok (.iconst 2, 1) := by decide +kernel
theorem dX5_isNext_27 : decode cX5_isNext 27 = .ok (.if_icmp .ge 12, 3) := by decide +kernel
theorem dX5_isNext_30 : decode cX5_isNext 30 = .ok (.iload_n 0, 1) := by decide +kernel
theorem dX5_isNext_31 : decode cX5_isNext 31 = .ok (.iload_n 1, 1) := by decide +kernel
theorem dX5_isNext_32 : decode cX5_isNext 32 = .ok (.if_icmp .eq 7, 3) := by decide +kernel
theorem dX5_isNext_35 : decode cX5_isNext 35 = .ok (.iconst 1, 1) := by decide +kernel
theorem dX5_isNext_36 : decode cX5_isNext 36 = .ok (.goto 4, 3) := by decide +kernel
theorem dX5_isNext_39 : decode cX5_isNext 39 = .ok (.iconst 0, 1) := by decide +kernel
theorem dX5_isNext_40 : decode cX5_isNext 40 = .ok (.ireturn, 1) := by decide +kernel
theorem dX5_goesAlong_0 : decode cX5_goesAlong 0 = .ok (.iload_n 1, 1) := by decide +kernel
theorem dX5_goesAlong_1 : decode cX5_goesAlong 1 = .ok (.iload_n 1, 1) := by decide +kernel
theorem dX5_goesAlong_2 : decode cX5_goesAlong 2 = .ok (.imul, 1) := by decide +kernel
theorem dX5_goesAlong_3 : decode cX5_goesAlong 3 = .ok (.iload_n 2, 1) := by decide +kernel
theorem dX5_goesAlong_4 : decode cX5_goesAlong 4 = .ok (.iload_n 2, 1) := by decide +kernel
theorem dX5_goesAlong_5 : decode cX5_goesAlong 5 = .ok (.imul, 1) := by decide +kernel
theorem dX5_goesAlong_6 : decode cX5_goesAlong 6 = .ok (.iadd, 1) := by decide +kernel
theorem dX5_goesAlong_7 : decode cX5_goesAlong 7 = .ok (.istore_n 3, 1) := by decide +kernel
theorem dX5_goesAlong_8 : decode cX5_goesAlong 8 = .ok (.iload_n 3, 1) := by decide +kernel
theorem dX5_goesAlong_9 : decode cX5_goesAlong 9 = .ok (.iconst 1, 1) := by decide +kernel
theorem dX5_goesAlong_10 : decode cX5_goesAlong 10 = .ok (.if_icmp .ne 13, 3) := by decide +kernel
theorem dX5_goesAlong_13 : decode cX5_goesAlong 13 = .ok (.iload_n 0, 1) := by decide +kernel
theorem dX5_goesAlong_14 : decode cX5_goesAlong 14 = .ok (.iconst 4, 1) := by decide +kernel
theorem dX5_goesAlong_15 : decode cX5_goesAlong 15 = .ok (.if_icmp .eq 23, 3) := by decide +kernel
theorem dX5_goesAlong_18 : decode cX5_goesAlong 18 = .ok (.iload_n 0, 1) := by decide +kernel
theorem dX5_goesAlong_19 : decode cX5_goesAlong 19 = .ok (.iconst 5, 1) := by decide +kernel
theorem dX5_goesAlong_20 : decode cX5_goesAlong 20 = .ok (.if_icmp .eq 18, 3) := by decide +kernel
theorem dX5_goesAlong_23 : decode cX5_goesAlong 23 = .ok (.iload_n 3, 1) := by decide +kernel
theorem dX5_goesAlong_24 : decode cX5_goesAlong 24 = .ok (.iconst 2, 1) := by decide +kernel
theorem dX5_goesAlong_25 : decode cX5_goesAlong 25 = .ok (.if_icmp .ne 17, 3) := by decide +kernel
theorem dX5_goesAlong_28 : decode cX5_goesAlong 28 = .ok (.iload_n 0, 1) := by decide +kernel
theorem dX5_goesAlong_29 : decode cX5_goesAlong 29 = .ok (.iconst 3, 1) := by decide +kernel
theorem dX5_goesAlong_30 : decode cX5_goesAlong 30 = .ok (.if_icmp .eq 8, 3) := by decide +kernel
theorem dX5_goesAlong_33 : decode cX5_goesAlong 33 = .ok (.iload_n 0, 1) := by decide +kernel
theorem dX5_goesAlong_34 : decode cX5_goesAlong 34 = .ok (.iconst 5, 1) := by decide +kernel
theorem dX5_goesAlong_35 : decode cX5_goesAlong 35 = .ok (.if_icmp .ne 7, 3) := by decide +kernel
theorem dX5_goesAlong_38 : decode cX5_goesAlong 38 = .ok (.iconst 1, 1) := by decide +kernel
theorem dX5_goesAlong_39 : decode cX5_goesAlong 39 = .ok (.goto 4, 3) := by decide +kernel
theorem dX5_goesAlong_42 : decode cX5_goesAlong 42 = .ok (.iconst 0, 1) := by decide +kernel
theorem dX5_goesAlong_43 : decode cX5_goesAlong 43 = .ok (.ireturn, 1) := by decide +kernel
set_option maxRecDepth 20000 in
theorem ggX5_attacks_X5_goesAlong : GoodIn wsX5_attacks wsX5_goesAlong := goodIn_r _ [4] (by decide +kernel) (by decide +kernel)
set_option maxRecDepth 20000 in
theorem gX5_attacks_X5_goesAlong : GoodIn wsX5_attacks (va_wsS RX5 39 yX5_goesAlong wsX5_goesAlong) := goodIn_app (goodIn_of _ (by decide +kernel)) ggX5_attacks_X5_goesAlong
set_option maxRecDepth 20000 in
theorem ggX5_attacks_X5_step : GoodIn wsX5_attacks wsX5_step := goodIn_r _ [8, 9, 10, 11, 12, 13, 14, 15, 16, 17, 18, 19, 20, 21, 22, 23, 24] (by decide +kernel) (by decide +kernel)
set_option maxRecDepth 20000 in
theorem gX5_attacks_X5_step : GoodIn wsX5_attacks (wsV RX5 43 RX5 yX5_step wsX5_step) := goodIn_app (goodIn_of _ (by decide +kernel)) ggX5_attacks_X5_step
theorem dX5_attacks_0 : decode cX5_attacks 0 = .ok (.iload_n 3, 1) := by decide +kernel
theorem dX5_attacks_1 : decode cX5_attacks 1 = .ok (.bipush 8, 2) := by decide +kernel
theorem dX5_attacks_3 : decode cX5_attacks 3 = .ok (.irem, 1) := by decide +kernel
theorem dX5_attacks_4 : decode cX5_attacks 4 = .ok (.iload_n 2, 1) := by decide +kernel
theorem dX5_attacks_5 : decode cX5_attacks 5 = .ok (.bipush 8, 2) := by decide +kernel
theorem dX5_attacks_7 : decode cX5_attacks 7 = .ok (.irem, 1) := by decide +kernel
theorem dX5_attacks_8 : decode cX5_attacks 8 = .ok (.isub, 1) := by decide +kernel
theorem dX5_attacks_9 : decode cX5_attacks 9 = .ok (.istore 6, 2) := by decide +kernel
theorem dX5_attacks_11 : decode cX5_attacks 11 = .ok (.iload_n 3, 1) := by decide +kernel
theorem dX5_attacks_12 : decode cX5_attacks 12 = .ok (.bipush 8, 2) := by decide +kernel
theorem dX5_attacks_14 : decode cX5_attacks 14 = .ok (.idiv, 1) := by decide +kernel
theorem dX5_attacks_15 : decode cX5_attacks 15 = .ok (.iload_n 2, 1) := by decide +kernel
theorem dX5_attacks_16 : decode cX5_attacks 16 = .ok (.bipush 8, 2) := by decide +kernel
theorem dX5_attacks_18 : decode cX5_attacks 18 = .ok (.idiv, 1) := by decide +kernel
theorem dX5_attacks_19 : decode cX5_attacks 19 = .ok (.isub, 1) := by decide +kernel
theorem dX5_attacks_20 : decode cX5_attacks 20 = .ok (.istore 7, 2) := by decide +kernel
theorem dX5_attacks_22 : decode cX5_attacks 22 = .ok (.iload_n 1, 1) := by decide +kernel
theorem dX5_attacks_23 : decode cX5_attacks 23 = .ok (.iconst 1, 1) := by decide +kernel
theorem dX5_attacks_24 : decode cX5_attacks 24 = .ok (.if_icmp .ne 27, 3) := by decide +kernel
theorem dX5_attacks_27 : decode cX5_attacks 27 = .ok (.iload 7, 2) := by decide +kernel
theorem dX5_attacks_29 : decode cX5_attacks 29 = .ok (.iconst 1, 1) := by decide +kernel
theorem dX5_attacks_30 : decode cX5_attacks 30 = .ok (.if_icmp .ne 19, 3) := by decide +kernel
theorem dX5_attacks_33 : decode cX5_attacks 33 = .ok (.iload 6, 2) := by decide +kernel
theorem dX5_attacks_35 : decode cX5_attacks 35 = .ok (.iconst 1, 1) := by decide +kernel
theorem dX5_attacks_36 : decode cX5_attacks 36 = .ok (.if_icmp .eq 9, 3) := by decide +kernel
theorem dX5_attacks_39 : decode cX5_attacks 39 = .ok (.iload 6, 2) := by decide +kernel
theorem dX5_attacks_41 : decode cX5_attacks 41 = .ok (.iconst (-1), 1) := by decide +kernel
theorem dX5_attacks_42 : decode cX5_attacks 42 = .ok (.if_icmp .ne 7, 3) := by decide +kernel
theorem dX5_attacks_45 : decode cX5_attacks 45 = .ok (.iconst 1, 1) := by decide +kernel
theorem dX5_attacks_46 : decode cX5_attacks 46 = .ok (.goto 4, 3) := by decide +kernel
theorem dX5_attacks_49 : decode cX5_attacks 49 = .ok (.iconst 0, 1) := by decide +kernel
theorem dX5_attacks_50 : decode cX5_attacks 50 = .ok (.ireturn, 1) := by decide +kernel
theorem dX5_attacks_51 : decode cX5_attacks 51 = .ok (.iload_n 1, 1) := by decide +kernel
theorem dX5_attacks_52 : decode cX5_attacks 52 = .ok (.iconst 2, 1) := by decide +kernel
theorem dX5_attacks_53 : decode cX5_attacks 53 = .ok (.if_icmp .ne 24, 3) := by decide +kernel
theorem dX5_attacks_56 : decode cX5_attacks 56 = .ok (.iload 6, 2) := by decide +kernel
theorem dX5_attacks_58 : decode cX5_attacks 58 = .ok (.iload 6, 2) := by decide +kernel
theorem dX5_attacks_60 : decode cX5_attacks 60 = .ok (.imul, 1) := by decide +kernel
theorem dX5_attacks_61 : decode cX5_attacks 61 = .ok (.iload 7, 2) := by decide +kernel
theorem dX5_attacks_63 : decode cX5_attacks 63 = .ok (.iload 7, 2) := by decide +kernel
theorem dX5_attacks_65 : decode cX5_attacks 65 = .ok (.imul, 1) := by decide +kernel
theorem dX5_attacks_66 : decode cX5_attacks 66 = .ok (.iadd, 1) := by decide +kernel
theorem dX5_attacks_67 : decode cX5_attacks 67 = .ok (.iconst 5, 1) := by decide +kernel
theorem dX5_attacks_68 : decode cX5_attacks 68 = .ok (.if_icmp .ne 7, 3) := by decide +kernel
theorem dX5_attacks_71 : decode cX5_attacks 71 = .ok (.iconst 1, 1) := by decide +kernel
theorem dX5_attacks_72 : decode cX5_attacks 72 = .ok (.goto 4, 3) := by decide +kernel
theorem dX5_attacks_75 : decode cX5_attacks 75 = .ok (.iconst 0, 1) := by decide +kernel
theorem dX5_attacks_76 : decode cX5_attacks 76 = .ok (.ireturn, 1) := by decide +kernel
theorem dX5_attacks_77 : decode cX5_attacks 77 = .ok (.iload 6, 2) := by decide +kernel
theorem dX5_attacks_79 : decode cX5_attacks 79 = .ok (.ifCond .ne 8, 3) := by decide +kernel
theorem dX5_attacks_82 : decode cX5_attacks 82 = .ok (.iload 7, 2) := by decide +kernel
theorem dX5_attacks_84 : decode cX5_attacks 84 = .ok (.ifCond .eq 7, 3) := by decide +kernel
theorem dX5_attacks_87 : decode cX5_attacks 87 = .ok (.iload_n 1, 1) := by decide +kernel
theorem dX5_attacks_88 : decode cX5_attacks 88 = .ok (.ifCond .ne 5, 3) := by decide +kernel
theorem dX5_attacks_91 : decode cX5_attacks 91 = .ok (.iconst 0, 1) := by decide +kernel
theorem dX5_attacks_92 : decode cX5_attacks 92 = .ok (.ireturn, 1) := by decide +kernel
theorem dX5_attacks_93 : decode cX5_attacks 93 = .ok (.iload 6, 2) := by decide +kernel
theorem dX5_attacks_95 : decode cX5_attacks 95 = .ok (.ifCond .eq 25, 3) := by decide +kernel
theorem dX5_attacks_98 : decode cX5_attacks 98 = .ok (.iload 7, 2) := by decide +kernel
theorem dX5_attacks_100 : decode cX5_attacks 100 = .ok (.ifCond .eq 20, 3) := by decide +kernel
theorem dX5_attacks_103 : decode cX5_attacks 103 = .ok (.iload 6, 2) := by decide +kernel
theorem dX5_attacks_105 : decode cX5_attacks 105 = .ok (.iload 7, 2) := by decide +kernel
theorem dX5_attacks_107 : decode cX5_attacks 107 = .ok (.if_icmp .eq 13, 3) := by decide +kernel
theorem dX5_attacks_110 : decode cX5_attacks 110 = .ok (.iload 6, 2) := by decide +kernel
theorem dX5_attacks_112 : decode cX5_attacks 112 = .ok (.iload 7, 2) := by decide +kernel
theorem dX5_attacks_114 : decode cX5_attacks 114 = .ok (.ineg, 1) := by decide +kernel
theorem dX5_attacks_115 : decode cX5_attacks 115 = .ok (.if_icmp .eq 5, 3) := by decide +kernel
theorem dX5_attacks_118 : decode cX5_attacks 118 = .ok (.iconst 0, 1) := by decide +kernel
theorem dX5_attacks_119 : decode cX5_attacks 119 = .ok (.ireturn, 1) := by decide +kernel
theorem dX5_attacks_120 : decode cX5_attacks 120 = .ok (.iload 6, 2) := by decide +kernel
theorem dX5_attacks_122 : decode cX5_attacks 122 = .ok (.ifCond .le 7, 3) := by decide +kernel
theorem dX5_attacks_125 : decode cX5_attacks 125 = .ok (.iconst 1, 1) := by decide +kernel
theorem dX5_attacks_126 : decode cX5_attacks 126 = .ok (.goto 13, 3) := by decide +kernel
theorem dX5_attacks_129 : decode cX5_attacks 129 = .ok (.iload 6, 2) := by decide +kernel
theorem dX5_attacks_131 : decode cX5_attacks 131 = .ok (.ifCond .ge 7, 3) := by decide +kernel
theorem dX5_attacks_134 : decode cX5_attacks 134 = .ok (.iconst (-1), 1) := by decide +kernel
theorem dX5_attacks_135 : decode cX5_attacks 135 = .ok (.goto 4, 3) := by decide +kernel
theorem dX5_attacks_138 : decode cX5_attacks 138 = .ok (.iconst 0, 1) := by decide +kernel
theorem dX5_attacks_139 : decode cX5_attacks 139 = .ok (.istore 8, 2) := by decide +kernel
theorem dX5_attacks_141 : decode cX5_attacks 141 = .ok (.iload 7, 2) := by decide +kernel
theorem dX5_attacks_143 : decode cX5_attacks 143 = .ok (.ifCond .le 7, 3) := by decide +kernel
theorem dX5_attacks_146 : decode cX5_attacks 146 = .ok (.iconst 1, 1) := by decide +kernel
theorem dX5_attacks_147 : decode cX5_attacks 147 = .ok (.goto 13, 3) := by decide +kernel
theorem dX5_attacks_150 : decode cX5_attacks 150 = .ok (.iload 7, 2) := by decide +kernel
theorem dX5_attacks_152 : decode cX5_attacks 152 = .ok (.ifCond .ge 7, 3) := by decide +kernel
theorem dX5_attacks_155 : decode cX5_attacks 155 = .ok (.iconst (-1), 1) := by decide +kernel
theorem dX5_attacks_156 : decode cX5_attacks 156 = .ok (.goto 4, 3) := by decide +kernel
theorem dX5_attacks_159 : decode cX5_attacks 159 = .ok (.iconst 0, 1) := by decide +kernel
theorem dX5_attacks_160 : decode cX5_attacks 160 = .ok (.istore 9, 2) := by decide +kernel
theorem dX5_attacks_162 : decode cX5_attacks 162 = .ok (.iload_n 1, 1) := by decide +kernel
theorem dX5_attacks_163 : decode cX5_attacks 163 = .ok (.iload 8, 2) := by decide +kernel
theorem dX5_attacks_165 : decode cX5_attacks 165 = .ok (.iload 9, 2) := by decide +kernel
theorem dX5_attacks_167 : decode cX5_attacks 167 = .ok (.invokestatic 39, 3) := by decide +kernel
theorem dX5_attacks_170 : decode cX5_attacks 170 = .ok (.ifCond .ne 5, 3) := by decide +kernel
theorem dX5_attacks_173 : decode cX5_attacks 173 = .ok (.iconst 0, 1) := by decide +kernel
theorem dX5_attacks_174 : decode cX5_attacks 174 = .ok (.ireturn, 1) := by decide +kernel
theorem dX5_attacks_175 : decode cX5_attacks 175 = .ok (.aload_n 0, 1) := by decide +kernel
theorem dX5_attacks_176 : decode cX5_attacks 176 = .ok (.iload_n 2, 1) := by decide +kernel
theorem dX5_attacks_177 : decode cX5_attacks 177 = .ok (.iload 8, 2) := by decide +kernel
theorem dX5_attacks_179 : decode cX5_attacks 179 = .ok (.iload 9, 2) := by decide +kernel
theorem dX5_attacks_181 : decode cX5_attacks 181 = .ok (.invokevirtual 43, 3) := by decide +kernel
theorem dX5_attacks_184 : decode cX5_attacks 184 = .ok (.istore 10, 2) := by decide +kernel
theorem dX5_attacks_186 : decode cX5_attacks 186 = .ok (.iload 10, 2) := by decide +kernel
theorem dX5_attacks_188 : decode cX5_attacks 188 = .ok (.iload_n 3, 1) := by decide +kernel
theorem dX5_attacks_189 : decode cX5_attacks 189 = .ok (.if_icmp .eq 32, 3) := by decide +kernel
theorem dX5_attacks_192 : decode cX5_attacks 192 = .ok (.iload 10, 2) := by decide +kernel
theorem dX5_attacks_194 : decode cX5_attacks 194 = .ok (.iload 4, 2) := by decide +kernel
theorem dX5_attacks_196 : decode cX5_attacks 196 = .ok (.if_icmp .eq 25, 3) := by decide +kernel
theorem dX5_attacks_199 : decode cX5_attacks 199 = .ok (.iload 10, 2) := by decide +kernel
theorem dX5_attacks_201 : decode cX5_attacks 201 = .ok (.iload 5, 2) := by decide +kernel
theorem dX5_attacks_203 : decode cX5_attacks 203 = .ok (.if_icmp .eq 18, 3) := by decide +kernel
theorem dX5_attacks_206 : decode cX5_attacks 206 = .ok (.aload_n 0, 1) := by decide +kernel
theorem dX5_attacks_207 : decode cX5_attacks 207 = .ok (.iload 10, 2) := by decide +kernel
theorem dX5_attacks_209 : decode cX5_attacks 209 = .ok (.iload 8, 2) := by decide +kernel
theorem dX5_attacks_211 : decode cX5_attacks 211 = .ok (.iload 9, 2) := by decide +kernel
theorem dX5_attacks_213 : decode cX5_attacks 213 = .ok (.invokevirtual 43, 3) := by decide +kernel
theorem dX5_attacks_216 : decode cX5_attacks 216 = .ok (.istore 10, 2) := by decide +kernel
theorem dX5_attacks_218 : decode cX5_attacks 218 = .ok (.goto (-32), 3) := by decide +kernel
theorem dX5_attacks_221 : decode cX5_attacks 221 = .ok (.iload 10, 2) := by decide +kernel
theorem dX5_attacks_223 : decode cX5_attacks 223 = .ok (.iload_n 3, 1) := by decide +kernel
theorem dX5_attacks_224 : decode cX5_attacks 224 = .ok (.if_icmp .ne 7, 3) := by decide +kernel
theorem dX5_attacks_227 : decode cX5_attacks 227 = .ok (.iconst 1, 1) := by decide +kernel
theorem dX5_attacks_228 : decode cX5_attacks 228 = .ok (.goto 4, 3) := by decide +kernel
theorem dX5_attacks_231 : decode cX5_attacks 231 = .ok (.iconst 0, 1) := by decide +kernel
theorem dX5_attacks_232 : decode cX5_attacks 232 = .ok (.ireturn, 1) := by decide +kernel
set_option maxRecDepth 20000 in
theorem ggX5_isPosition_X5_isSquare : GoodIn wsX5_isPosition wsX5_isSquare := goodIn_r _ [6, 7, 1, 25, 26, 27, 28, 29, 30, 31, 32, 33, 34, 35, 36, 37, 38] (by decide +kernel) (by decide +kernel)
set_option maxRecDepth 20000 in
theorem gX5_isPosition_X5_isSquare : GoodIn wsX5_isPosition (wsV RX5 47 RX5 yX5_isSquare wsX5_isSquare) := goodIn_app (goodIn_of _ (by decide +kernel)) ggX5_isPosition_X5_isSquare
set_option maxRecDepth 20000 in
theorem ggX5_isPosition_X5_isNext : GoodIn wsX5_isPosition wsX5_isNext := goodIn_r _ [10, 11, 12, 5, 13] (by decide +kernel) (by decide +kernel)
set_option maxRecDepth 20000 in
theorem gX5_isPosition_X5_isNext : GoodIn wsX5_isPosition (va_wsS RX5 51 yX5_isNext wsX5_isNext) := goodIn_app (goodIn_of _ (by decide +kernel)) ggX5_isPosition_X5_isNext
set_option maxRecDepth 20000 in
theorem ggX5_isPosition_X5_attacks : GoodIn wsX5_isPosition wsX5_attacks := goodIn_r _ [17, 18, 19, 5, 20, 21, 22, 23, 24, 7, 1, 25, 26, 27, 28, 29, 30, 31, 32, 33, 34, 35, 36, 37, 38] (by decide +kernel) (by decide +kernel)
set_option maxRecDepth 20000 in
theorem gX5_isPosition_X5_attacks : GoodIn wsX5_isPosition (wsV RX5 55 RX5 yX5_attacks wsX5_attacks) := goodIn_app (goodIn_of _ (by decide +kernel)) ggX5_isPosition_X5_attacks
theorem dX5_isPosition_0 : decode cX5_isPosition 0 = .ok (.iload_n 1, 1) := by decide +kernel
theorem dX5_isPosition_1 : decode cX5_isPosition 1 = .ok (.ifCond .lt 51, 3) := by decide +kernel
theorem dX5_isPosition_4 : decode cX5_isPosition 4 = .ok (.iload_n 1, 1) := by decide +kernel
theorem dX5_isPosition_5 : decode cX5_isPosition 5 = .ok (.iconst 5, 1) := by decide +kernel
theorem dX5_isPosition_6 : decode cX5_isPosition 6 = .ok (.if_icmp .gt 46, 3) := by decide +kernel
theorem dX5_isPosition_9 : decode cX5_isPosition 9 = .ok (.iload 5, 2) := by decide +kernel
theorem dX5_isPosition_11 : decode cX5_isPosition 11 = .ok (.ifCond .lt 41, 3) := by decide +kernel
theorem dX5_isPosition_14 : decode cX5_isPosition 14 = .ok (.iload 5, 2) := by decide +kernel
theorem dX5_isPosition_16 : decode cX5_isPosition 16 = .ok (.iconst 1, 1) := by decide +kernel
theorem dX5_isPosition_17 : decode cX5_isPosition 17 = .ok (.if_icmp .gt 35, 3) := by decide +kernel
theorem dX5_isPosition_20 : decode cX5_isPosition 20 = .ok (.aload_n 0, 1) := by decide +kernel
theorem dX5_isPosition_21 : decode cX5_isPosition 21 = .ok (.iload_n 2, 1) := by decide +kernel
theorem dX5_isPosition_22 : decode cX5_isPosition 22 = .ok (.invokevirtual 47, 3) := by decide +kernel
theorem dX5_isPosition_25 : decode cX5_isPosition 25 = .ok (.ifCond .eq 27, 3) := by decide +kernel
theorem dX5_isPosition_28 : decode cX5_isPosition 28 = .ok (.aload_n 0, 1) := by decide +kernel
theorem dX5_isPosition_29 : decode cX5_isPosition 29 = .ok (.iload 4, 2) := by decide +kernel
theorem dX5_isPosition_31 : decode cX5_isPosition 31 = .ok (.invokevirtual 47, 3) := by decide +kernel
theorem dX5_isPosition_34 : decode cX5_isPosition 34 = .ok (.ifCond .eq 18, 3) := by decide +kernel
theorem dX5_isPosition_37 : decode cX5_isPosition 37 = .ok (.iload_n 2, 1) := by decide +kernel
theorem dX5_isPosition_38 : decode cX5_isPosition 38 = .ok (.iload 4, 2) := by decide +kernel
theorem dX5_isPosition_40 : decode cX5_isPosition 40 = .ok (.if_icmp .eq 12, 3) := by decide +kernel
theorem dX5_isPosition_43 : decode cX5_isPosition 43 = .ok (.iload_n 2, 1) := by decide +kernel
theorem dX5_isPosition_44 : decode cX5_isPosition 44 = .ok (.iload 4, 2) := by decide +kernel
theorem dX5_isPosition_46 : decode cX5_isPosition 46 = .ok (.invokestatic 51, 3) := by decide +kernel
theorem dX5_isPosition_49 : decode cX5_isPosition 49 = .ok (.ifCond .eq 5, 3) := by decide +kernel
theorem dX5_isPosition_52 : decode cX5_isPosition 52 = .ok (.iconst 0, 1) := by decide +kernel
theorem dX5_isPosition_53 : decode cX5_isPosition 53 = .ok (.ireturn, 1) := by decide +kernel
theorem dX5_isPosition_54 : decode cX5_isPosition 54 = .ok (.iload_n 1, 1) := by decide +kernel
theorem dX5_isPosition_55 : decode cX5_isPosition 55 = .ok (.ifCond .ne 13, 3) := by decide +kernel
theorem dX5_isPosition_58 : decode cX5_isPosition 58 = .ok (.iload_n 3, 1) := by decide +kernel
theorem dX5_isPosition_59 : decode cX5_isPosition 59 = .ok (.ifCond .ne 7, 3) := by decide +kernel
theorem dX5_isPosition_62 : decode cX5_isPosition 62 = .ok (.iconst 1, 1) := by decide +kernel
theorem dX5_isPosition_63 : decode cX5_isPosition 63 = .ok (.goto 4, 3) := by decide +kernel
theorem dX5_isPosition_66 : decode cX5_isPosition 66 = .ok (.iconst 0, 1) := by decide +kernel
theorem dX5_isPosition_67 : decode cX5_isPosition 67 = .ok (.ireturn, 1) := by decide +kernel
theorem dX5_isPosition_68 : decode cX5_isPosition 68 = .ok (.aload_n 0, 1) := by decide +kernel
theorem dX5_isPosition_69 : decode cX5_isPosition 69 = .ok (.iload_n 3, 1) := by decide +kernel
theorem dX5_isPosition_70 : decode cX5_isPosition 70 = .ok (.invokevirtual 47, 3) := by decide +kernel
theorem dX5_isPosition_73 : decode cX5_isPosition 73 = .ok (.ifCond .eq 39, 3) := by decide +kernel
theorem dX5_isPosition_76 : decode cX5_isPosition 76 = .ok (.iload_n 3, 1) := by decide +kernel
theorem dX5_isPosition_77 : decode cX5_isPosition 77 = .ok (.iload_n 2, 1) := by decide +kernel
theorem dX5_isPosition_78 : decode cX5_isPosition 78 = .ok (.if_icmp .eq 34, 3) := by decide +kernel
theorem dX5_isPosition_81 : decode cX5_isPosition 81 = .ok (.iload_n 3, 1) := by decide +kernel
theorem dX5_isPosition_82 : decode cX5_isPosition 82 = .ok (.iload 4, 2) := by decide +kernel
theorem dX5_isPosition_84 : decode cX5_isPosition 84 = .ok (.if_icmp .eq 28, 3) := by decide +kernel
theorem dX5_isPosition_87 : decode cX5_isPosition 87 = .ok (.iload_n 1, 1) := by decide +kernel
theorem dX5_isPosition_88 : decode cX5_isPosition 88 = .ok (.iconst 1, 1) := by decide +kernel
theorem dX5_isPosition_89 : decode cX5_isPosition 89 = .ok (.if_icmp .ne 25, 3) := by decide +kernel
theorem dX5_isPosition_92 : decode cX5_isPosition 92 = .ok (.iload_n 3, 1) := by decide +kernel
theorem dX5_isPosition_93 : decode cX5_isPosition 93 = .ok (.bipush 8, 2) := by decide +kernel
theorem dX5_isPosition_95 : decode cX5_isPosition 95 = .ok (.idiv, 1) := by decide +kernel
theorem dX5_isPosition_96 : decode cX5_isPosition 96 = .ok (.ifCond .eq 16, 3) := by decide +kernel
theorem dX5_isPosition_99 : decode cX5_isPosition 99 = .ok (.iload_n 3, 1) := by decide +kernel
theorem dX5_isPosition_100 : decode cX5_isPosition 100 = .ok (.bipush 8, 2) := by decide +kernel
theorem dX5_isPosition_102 : decode cX5_isPosition 102 = .ok (.idiv, 1) := by decide +kernel
theorem dX5_isPosition_103 : decode cX5_isPosition 103 = .ok (.aload_n 0, 1) := by decide +kernel
theorem dX5_isPosition_104 : decode cX5_isPosition 104 = .ok (.getfield 29, 3) := by decide +kernel
theorem dX5_isPosition_107 : decode cX5_isPosition 107 = .ok (.iconst 1, 1) := by decide +kernel
theorem dX5_isPosition_108 : decode cX5_isPosition 108 = .ok (.isub, 1) := by decide +kernel
theorem dX5_isPosition_109 : decode cX5_isPosition 109 = .ok (.if_icmp .ne 5, 3) := by decide +kernel
theorem dX5_isPosition_112 : decode cX5_isPosition 112 = .ok (.iconst 0, 1) := by decide +kernel
theorem dX5_isPosition_113 : decode cX5_isPosition 113 = .ok (.ireturn, 1) := by decide +kernel
theorem dX5_isPosition_114 : decode cX5_isPosition 114 = .ok (.iload 5, 2) := by decide +kernel
theorem dX5_isPosition_116 : decode cX5_isPosition 116 = .ok (.iconst 1, 1) := by decide +kernel
theorem dX5_isPosition_117 : decode cX5_isPosition 117 = .ok (.if_icmp .eq 16, 3) := by decide +kernel
theorem dX5_isPosition_120 : decode cX5_isPosition 120 = .ok (.aload_n 0, 1) := by decide +kernel
theorem dX5_isPosition_121 : decode cX5_isPosition 121 = .ok (.iload_n 1, 1) := by decide +kernel
theorem dX5_isPosition_122 : decode cX5_isPosition 122 = .ok (.iload_n 3, 1) := by decide +kernel
theorem dX5_isPosition_123 : decode cX5_isPosition 123 = .ok (.iload 4, 2) := by decide +kernel
theorem dX5_isPosition_125 : decode cX5_isPosition 125 = .ok (.iload_n 2, 1) := by decide +kernel
theorem dX5_isPosition_126 : decode cX5_isPosition 126 = .ok (.iconst (-1), 1) := by decide +kernel
theorem dX5_isPosition_127 : decode cX5_isPosition 127 = .ok (.invokevirtual 55, 3) := by decide +kernel
theorem dX5_isPosition_130 : decode cX5_isPosition 130 = .ok (.ifCond .ne 7, 3) := by decide +kernel
theorem dX5_isPosition_133 : decode cX5_isPosition 133 = .ok (.iconst 1, 1) := by decide +kernel
theorem dX5_isPosition_134 : decode cX5_isPosition 134 = .ok (.goto 4, 3) := by decide +kernel
theorem dX5_isPosition_137 : decode cX5_isPosition 137 = .ok (.iconst 0, 1) := by decide +kernel
theorem dX5_isPosition_138 : decode cX5_isPosition 138 = .ok (.ireturn, 1) := by decide +kernel
theorem dX5_cell_0 : decode cX5_cell 0 = .ok (.iconst 2, 1) := by decide +kernel
theorem dX5_cell_1 : decode cX5_cell 1 = .ok (.iload_n 0, 1) := by decide +kernel
theorem dX5_cell_2 : decode cX5_cell 2 = .ok (.iconst 1, 1) := by decide +kernel
theorem dX5_cell_3 : decode cX5_cell 3 = .ok (.isub, 1) := by decide +kernel
theorem dX5_cell_4 : decode cX5_cell 4 = .ok (.imul, 1) := by decide +kernel
theorem dX5_cell_5 : decode cX5_cell 5 = .ok (.iload_n 1, 1) := by decide +kernel
theorem dX5_cell_6 : decode cX5_cell 6 = .ok (.iadd, 1) := by decide +kernel
theorem dX5_cell_7 : decode cX5_cell 7 = .ok (.ldc 59, 2) := by decide +kernel
theorem dX5_cell_9 : decode cX5_cell 9 = .ok (.imul, 1) := by decide +kernel
theorem dX5_cell_10 : decode cX5_cell 10 = .ok (.iload_n 2, 1) := by decide +kernel
theorem dX5_cell_11 : decode cX5_cell 11 = .ok (.bipush 64, 2) := by decide +kernel
theorem dX5_cell_13 : decode cX5_cell 13 = .ok (.imul, 1) := by decide +kernel
theorem dX5_cell_14 : decode cX5_cell 14 = .ok (.iload_n 3, 1) := by decide +kernel
theorem dX5_cell_15 : decode cX5_cell 15 = .ok (.iadd, 1) := by decide +kernel
theorem dX5_cell_16 : decode cX5_cell 16 = .ok (.bipush 64, 2) := by decide +kernel
theorem dX5_cell_18 : decode cX5_cell 18 = .ok (.imul, 1) := by decide +kernel
theorem dX5_cell_19 : decode cX5_cell 19 = .ok (.iadd, 1) := by decide +kernel
theorem dX5_cell_20 : decode cX5_cell 20 = .ok (.iload 4, 2) := by decide +kernel
theorem dX5_cell_22 : decode cX5_cell 22 = .ok (.iadd, 1) := by decide +kernel
theorem dX5_cell_23 : decode cX5_cell 23 = .ok (.ireturn, 1) := by decide +kernel
set_option maxRecDepth 20000 in
theorem ggX5_known_X5_cell : GoodIn wsX5_known wsX5_cell := goodIn_r _ [6, 7] (by decide +kernel) (by decide +kernel)
set_option maxRecDepth 20000 in
theorem gX5_known_X5_cell : GoodIn wsX5_known (va_wsS RX5 60 yX5_cell wsX5_cell) := goodIn_app (goodIn_of _ (by decide +kernel)) ggX5_known_X5_cell
theorem dX5_known_0 : decode cX5_known 0 = .ok (.iload_n 1, 1) := by decide +kernel
theorem dX5_known_1 : decode cX5_known 1 = .ok (.iload_n 2, 1) := by decide +kernel
theorem dX5_known_2 : decode cX5_known 2 = .ok (.iload_n 3, 1) := by decide +kernel
theorem dX5_known_3 : decode cX5_known 3 = .ok (.iload 4, 2) := by decide +kernel
theorem dX5_known_5 : decode cX5_known 5 = .ok (.iload 5, 2) := by decide +kernel
theorem dX5_known_7 : decode cX5_known 7 = .ok (.invokestatic 60, 3) := by decide +kernel
theorem dX5_known_10 : decode cX5_known 10 = .ok (.istore 6, 2) := by decide +kernel
theorem dX5_known_12 : decode cX5_known 12 = .ok (.aload_n 0, 1) := by decide +kernel
theorem dX5_known_13 : decode cX5_known 13 = .ok (.getfield 8, 3) := by decide +kernel
theorem dX5_known_16 : decode cX5_known 16 = .ok (.iload 6, 2) := by decide +kernel
theorem dX5_known_18 : decode cX5_known 18 = .ok (.iconst 3, 1) := by decide +kernel
theorem dX5_known_19 : decode cX5_known 19 = .ok (.ishr, 1) := by decide +kernel
theorem dX5_known_20 : decode cX5_known 20 = .ok (.laload, 1) := by decide +kernel
theorem dX5_known_21 : decode cX5_known 21 = .ok (.bipush 8, 2) := by decide +kernel
theorem dX5_known_23 : decode cX5_known 23 = .ok (.iload 6, 2) := by decide +kernel
theorem dX5_known_25 : decode cX5_known 25 = .ok (.bipush 7, 2) := by decide +kernel
theorem dX5_known_27 : decode cX5_known 27 = .ok (.iand, 1) := by decide +kernel
theorem dX5_known_28 : decode cX5_known 28 = .ok (.imul, 1) := by decide +kernel
theorem dX5_known_29 : decode cX5_known 29 = .ok (.lshr, 1) := by decide +kernel
theorem dX5_known_30 : decode cX5_known 30 = .ok (.ldc2_w 64, 3) := by decide +kernel
theorem dX5_known_33 : decode cX5_known 33 = .ok (.land, 1) := by decide +kernel
theorem dX5_known_34 : decode cX5_known 34 = .ok (.l2i, 1) := by decide +kernel
theorem dX5_known_35 : decode cX5_known 35 = .ok (.iconst 1, 1) := by decide +kernel
theorem dX5_known_36 : decode cX5_known 36 = .ok (.isub, 1) := by decide +kernel
theorem dX5_known_37 : decode cX5_known 37 = .ok (.ireturn, 1) := by decide +kernel
set_option maxRecDepth 20000 in
theorem ggX5_note_X5_cell : GoodIn wsX5_note wsX5_cell := goodIn_r _ [5, 6] (by decide +kernel) (by decide +kernel)
set_option maxRecDepth 20000 in
theorem gX5_note_X5_cell : GoodIn wsX5_note (va_wsS RX5 60 yX5_cell wsX5_cell) := goodIn_app (goodIn_of _ (by decide +kernel)) ggX5_note_X5_cell
theorem dX5_note_0 : decode cX5_note 0 = .ok (.iload_n 1, 1) := by decide +kernel
theorem dX5_note_1 : decode cX5_note 1 = .ok (.iload_n 2, 1) := by decide +kernel
theorem dX5_note_2 : decode cX5_note 2 = .ok (.iload_n 3, 1) := by decide +kernel
theorem dX5_note_3 : decode cX5_note 3 = .ok (.iload 4, 2) := by decide +kernel
theorem dX5_note_5 : decode cX5_note 5 = .ok (.iload 5, 2) := by decide +kernel
theorem dX5_note_7 : decode cX5_note 7 = .ok (.invokestatic 60, 3) := by decide +kernel
theorem dX5_note_10 : decode cX5_note 10 = .ok (.istore 7, 2) := by decide +kernel
theorem dX5_note_12 : decode cX5_note 12 = .ok (.aload_n 0, 1) := by decide +kernel
theorem dX5_note_13 : decode cX5_note 13 = .ok (.getfield 8, 3) := by decide +kernel
theorem dX5_note_16 : decode cX5_note 16 = .ok (.iload 7, 2) := by decide +kernel
theorem dX5_note_18 : decode cX5_note 18 = .ok (.iconst 3, 1) := by decide +kernel
theorem dX5_note_19 : decode cX5_note 19 = .ok (.ishr, 1) := by decide +kernel
theorem dX5_note_20 : decode cX5_note 20 = .ok (.aload_n 0, 1) := by decide +kernel
theorem dX5_note_21 : decode cX5_note 21 = .ok (.getfield 8, 3) := by decide +kernel
theorem dX5_note_24 : decode cX5_note 24 = .ok (.iload 7, 2) := by decide +kernel
theorem dX5_note_26 : decode cX5_note 26 = .ok (.iconst 3, 1) := by decide +kernel
theorem dX5_note_27 : decode cX5_note 27 = .ok (.ishr, 1) := by decide +kernel
theorem dX5_note_28 : decode cX5_note 28 = .ok (.laload, 1) := by decide +kernel
theorem dX5_note_29 : decode cX5_note 29 = .ok (.iload 6, 2) := by decide +kernel
theorem dX5_note_31 : decode cX5_note 31 = .ok (.iconst 1, 1) := by decide +kernel
theorem dX5_note_32 : decode cX5_note 32 = .ok (.iadd, 1) := by decide +kernel
theorem dX5_note_33 : decode cX5_note 33 = .ok (.i2l, 1) := by decide +kernel
theorem dX5_note_34 : decode cX5_note 34 = .ok (.bipush 8, 2) := by decide +kernel
theorem dX5_note_36 : decode cX5_note 36 = .ok (.iload 7, 2) := by decide +kernel
theorem dX5_note_38 : decode cX5_note 38 = .ok (.bipush 7, 2) := by decide +kernel
theorem dX5_note_40 : decode cX5_note 40 = .ok (.iand, 1) := by decide +kernel
theorem dX5_note_41 : decode cX5_note 41 = .ok (.imul, 1) := by decide +kernel
theorem dX5_note_42 : decode cX5_note 42 = .ok (.lshl, 1) := by decide +kernel
theorem dX5_note_43 : decode cX5_note 43 = .ok (.lor, 1) := by decide +kernel
theorem dX5_note_44 : decode cX5_note 44 = .ok (.lastore, 1) := by decide +kernel
theorem dX5_note_45 : decode cX5_note 45 = .ok (.return_, 1) := by decide +kernel
set_option maxRecDepth 20000 in
theorem ggX5_mayGo_X5_isNext : GoodIn wsX5_mayGo wsX5_isNext := goodIn_r _ [4, 5, 6, 3, 7] (by decide +kernel) (by decide +kernel)
set_option maxRecDepth 20000 in
theorem gX5_mayGo_X5_isNext : GoodIn wsX5_mayGo (va_wsS RX5 51 yX5_isNext wsX5_isNext) := goodIn_app (goodIn_of _ (by decide +kernel)) ggX5_mayGo_X5_isNext
set_option maxRecDepth 20000 in
theorem ggX5_mayGo_X5_attacks : GoodIn wsX5_mayGo wsX5_attacks := goodIn_r _ [11, 12, 13, 3, 14, 15, 16, 17, 18, 19, 20, 21, 22, 23, 24, 25, 26, 27, 28, 29, 30, 31, 32, 33, 34] (by decide +kernel) (by decide +kernel)
set_option maxRecDepth 20000 in
theorem gX5_mayGo_X5_attacks : GoodIn wsX5_mayGo (wsV RX5 55 RX5 yX5_attacks wsX5_attacks) := goodIn_app (goodIn_of _ (by decide +kernel)) ggX5_mayGo_X5_attacks
theorem dX5_mayGo_0 : decode cX5_mayGo 0 = .ok (.iload 4, 2) := by decide +kernel
theorem dX5_mayGo_2 : decode cX5_mayGo 2 = .ok (.ifCond .lt 49, 3) := by decide +kernel
theorem dX5_mayGo_5 : decode cX5_mayGo 5 = .ok (.iload 4, 2) := by decide +kernel
theorem dX5_mayGo_7 : decode cX5_mayGo 7 = .ok (.iload_n 2, 1) := by decide +kernel
theorem dX5_mayGo_8 : decode cX5_mayGo 8 = .ok (.invokestatic 51, 3) := by decide +kernel
theorem dX5_mayGo_11 : decode cX5_mayGo 11 = .ok (.ifCond .ne 40, 3) := by decide +kernel
theorem dX5_mayGo_14 : decode cX5_mayGo 14 = .ok (.iload 4, 2) := by decide +kernel
theorem dX5_mayGo_16 : decode cX5_mayGo 16 = .ok (.iload_n 2, 1) := by decide +kernel
theorem dX5_mayGo_17 : decode cX5_mayGo 17 = .ok (.if_icmp .eq 34, 3) := by decide +kernel
theorem dX5_mayGo_20 : decode cX5_mayGo 20 = .ok (.iload_n 1, 1) := by decide +kernel
theorem dX5_mayGo_21 : decode cX5_mayGo 21 = .ok (.ifCond .le 9, 3) := by decide +kernel
theorem dX5_mayGo_24 : decode cX5_mayGo 24 = .ok (.iload 4, 2) := by decide +kernel
theorem dX5_mayGo_26 : decode cX5_mayGo 26 = .ok (.iload_n 3, 1) := by decide +kernel
theorem dX5_mayGo_27 : decode cX5_mayGo 27 = .ok (.if_icmp .eq 20, 3) := by decide +kernel
theorem dX5_mayGo_30 : decode cX5_mayGo 30 = .ok (.iload_n 1, 1) := by decide +kernel
theorem dX5_mayGo_31 : decode cX5_mayGo 31 = .ok (.ifCond .eq 16, 3) := by decide +kernel
theorem dX5_mayGo_34 : decode cX5_mayGo 34 = .ok (.aload_n 0, 1) := by decide +kernel
theorem dX5_mayGo_35 : decode cX5_mayGo 35 = .ok (.iload_n 1, 1) := by decide +kernel
theorem dX5_mayGo_36 : decode cX5_mayGo 36 = .ok (.iload_n 3, 1) := by decide +kernel
theorem dX5_mayGo_37 : decode cX5_mayGo 37 = .ok (.iload 4, 2) := by decide +kernel
theorem dX5_mayGo_39 : decode cX5_mayGo 39 = .ok (.iload_n 2, 1) := by decide +kernel
theorem dX5_mayGo_40 : decode cX5_mayGo 40 = .ok (.iconst (-1), 1) := by decide +kernel
theorem dX5_mayGo_41 : decode cX5_mayGo 41 = .ok (.invokevirtual 55, 3) := by decide +kernel
theorem dX5_mayGo_44 : decode cX5_mayGo 44 = .ok (.ifCond .ne 7, 3) := by decide +kernel
theorem dX5_mayGo_47 : decode cX5_mayGo 47 = .ok (.iconst 1, 1) := by decide +kernel
theorem dX5_mayGo_48 : decode cX5_mayGo 48 = .ok (.goto 4, 3) := by decide +kernel
theorem dX5_mayGo_51 : decode cX5_mayGo 51 = .ok (.iconst 0, 1) := by decide +kernel
theorem dX5_mayGo_52 : decode cX5_mayGo 52 = .ok (.ireturn, 1) := by decide +kernel
set_option maxRecDepth 20000 in
theorem ggX5_isLost_X5_step : GoodIn wsX5_isLost wsX5_step := goodIn_r _ [5, 6, 7, 35, 36, 37, 38, 39, 40, 41, 42, 43, 44, 45, 46, 47, 48] (by decide +kernel) (by decide +kernel)
set_option maxRecDepth 20000 in
theorem gX5_isLost_X5_step : GoodIn wsX5_isLost (wsV RX5 43 RX5 yX5_step wsX5_step) := goodIn_app (goodIn_of _ (by decide +kernel)) ggX5_isLost_X5_step
set_option maxRecDepth 20000 in
theorem ggX5_isLost_X5_mayGo : GoodIn wsX5_isLost wsX5_mayGo := goodIn_r _ [11, 12, 13, 4, 14, 15, 16, 17, 18, 19, 20, 21, 22, 23, 24, 1, 2, 3, 5, 6, 7, 35, 36, 37, 38, 39, 40, 41, 42, 43, 44, 45, 46, 47, 48] (by decide +kernel) (by decide +kernel)
set_option maxRecDepth 20000 in
theorem gX5_isLost_X5_mayGo : GoodIn wsX5_isLost (wsV RX5 66 RX5 yX5_mayGo wsX5_mayGo) := goodIn_app (goodIn_of _ (by decide +kernel)) ggX5_isLost_X5_mayGo
set_option maxRecDepth 20000 in
theorem ggX5_isLost_X5_known : GoodIn wsX5_isLost wsX5_known := goodIn_r _ [28, 29, 30, 31, 32, 4, 33, 34, 35, 36, 37, 38, 39, 40, 41, 42, 43, 44, 45, 46, 47, 48] (by decide +kernel) (by decide +kernel)
set_option maxRecDepth 20000 in
theorem gX5_isLost_X5_known : GoodIn wsX5_isLost (wsV RX5 70 RX5 yX5_known wsX5_known) := goodIn_app (goodIn_of _ (by decide +kernel)) ggX5_isLost_X5_known
set_option maxRecDepth 20000 in
theorem ggX5_isLost_X5_attacks : GoodIn wsX5_isLost wsX5_attacks := goodIn_r _ [21, 22, 23, 4, 24, 1, 2, 3, 5, 6, 7, 35, 36, 37, 38, 39, 40, 41, 42, 43, 44, 45, 46, 47, 48] (by decide +kernel) (by decide +kernel)
set_option maxRecDepth 20000 in
theorem gX5_isLost_X5_attacks : GoodIn wsX5_isLost (wsV RX5 55 RX5 yX5_attacks wsX5_attacks) := goodIn_app (goodIn_of _ (by decide +kernel)) ggX5_isLost_X5_attacks
theorem dX5_isLost_0 : decode cX5_isLost 0 = .ok (.iconst 0, 1) := by decide +kernel
theorem dX5_isLost_1 : decode cX5_isLost 1 = .ok (.istore 6, 2) := by decide +kernel
theorem dX5_isLost_3 : decode cX5_isLost 3 = .ok (.iconst 1, 1) := by decide +kernel
theorem dX5_isLost_4 : decode cX5_isLost 4 = .ok (.istore 7, 2) := by decide +kernel
theorem dX5_isLost_6 : decode cX5_isLost 6 = .ok (.iconst (-1), 1) := by decide +kernel
theorem dX5_isLost_7 : decode cX5_isLost 7 = .ok (.istore 8, 2) := by decide +kernel
theorem dX5_isLost_9 : decode cX5_isLost 9 = .ok (.iload 8, 2) := by decide +kernel
theorem dX5_isLost_11 : decode cX5_isLost 11 = .ok (.iconst 2, 1) := by decide +kernel
theorem dX5_isLost_12 : decode cX5_isLost 12 = .ok (.if_icmp .ge 96, 3) := by decide +kernel
theorem dX5_isLost_15 : decode cX5_isLost 15 = .ok (.iconst (-1), 1) := by decide +kernel
theorem dX5_isLost_16 : decode cX5_isLost 16 = .ok (.istore 9, 2) := by decide +kernel
theorem dX5_isLost_18 : decode cX5_isLost 18 = .ok (.iload 9, 2) := by decide +kernel
theorem dX5_isLost_20 : decode cX5_isLost 20 = .ok (.iconst 2, 1) := by decide +kernel
theorem dX5_isLost_21 : decode cX5_isLost 21 = .ok (.if_icmp .ge 81, 3) := by decide +kernel
theorem dX5_isLost_24 : decode cX5_isLost 24 = .ok (.iload 8, 2) := by decide +kernel
theorem dX5_isLost_26 : decode cX5_isLost 26 = .ok (.ifCond .ne 12, 3) := by decide +kernel
theorem dX5_isLost_29 : decode cX5_isLost 29 = .ok (.iload 9, 2) := by decide +kernel
theorem dX5_isLost_31 : decode cX5_isLost 31 = .ok (.ifCond .ne 7, 3) := by decide +kernel
theorem dX5_isLost_34 : decode cX5_isLost 34 = .ok (.iconst (-1), 1) := by decide +kernel
theorem dX5_isLost_35 : decode cX5_isLost 35 = .ok (.goto 13, 3) := by decide +kernel
theorem dX5_isLost_38 : decode cX5_isLost 38 = .ok (.aload_n 0, 1) := by decide +kernel
theorem dX5_isLost_39 : decode cX5_isLost 39 = .ok (.iload 4, 2) := by decide +kernel
theorem dX5_isLost_41 : decode cX5_isLost 41 = .ok (.iload 8, 2) := by decide +kernel
theorem dX5_isLost_43 : decode cX5_isLost 43 = .ok (.iload 9, 2) := by decide +kernel
theorem dX5_isLost_45 : decode cX5_isLost 45 = .ok (.invokevirtual 43, 3) := by decide +kernel
theorem dX5_isLost_48 : decode cX5_isLost 48 = .ok (.istore 10, 2) := by decide +kernel
theorem dX5_isLost_50 : decode cX5_isLost 50 = .ok (.aload_n 0, 1) := by decide +kernel
theorem dX5_isLost_51 : decode cX5_isLost 51 = .ok (.iload_n 1, 1) := by decide +kernel
theorem dX5_isLost_52 : decode cX5_isLost 52 = .ok (.iload_n 2, 1) := by decide +kernel
theorem dX5_isLost_53 : decode cX5_isLost 53 = .ok (.iload_n 3, 1) := by decide +kernel
theorem dX5_isLost_54 : decode cX5_isLost 54 = .ok (.iload 10, 2) := by decide +kernel
theorem dX5_isLost_56 : decode cX5_isLost 56 = .ok (.invokevirtual 66, 3) := by decide +kernel
theorem dX5_isLost_59 : decode cX5_isLost 59 = .ok (.ifCond .eq 37, 3) := by decide +kernel
theorem dX5_isLost_62 : decode cX5_isLost 62 = .ok (.iinc 6 1, 3) := by decide +kernel
theorem dX5_isLost_65 : decode cX5_isLost 65 = .ok (.iload 7, 2) := by decide +kernel
theorem dX5_isLost_67 : decode cX5_isLost 67 = .ok (.ifCond .eq 26, 3) := by decide +kernel
theorem dX5_isLost_70 : decode cX5_isLost 70 = .ok (.iload 10, 2) := by decide +kernel
theorem dX5_isLost_72 : decode cX5_isLost 72 = .ok (.iload_n 3, 1) := by decide +kernel
theorem dX5_isLost_73 : decode cX5_isLost 73 = .ok (.if_icmp .eq 20, 3) := by decide +kernel
theorem dX5_isLost_76 : decode cX5_isLost 76 = .ok (.aload_n 0, 1) := by decide +kernel
theorem dX5_isLost_77 : decode cX5_isLost 77 = .ok (.iload_n 1, 1) := by decide +kernel
theorem dX5_isLost_78 : decode cX5_isLost 78 = .ok (.iconst 0, 1) := by decide +kernel
theorem dX5_isLost_79 : decode cX5_isLost 79 = .ok (.iload_n 2, 1) := by decide +kernel
theorem dX5_isLost_80 : decode cX5_isLost 80 = .ok (.iload_n 3, 1) := by decide +kernel
theorem dX5_isLost_81 : decode cX5_isLost 81 = .ok (.iload 10, 2) := by decide +kernel
theorem dX5_isLost_83 : decode cX5_isLost 83 = .ok (.invokevirtual 70, 3) := by decide +kernel
theorem dX5_isLost_86 : decode cX5_isLost 86 = .ok (.ifCond .lt 7, 3) := by decide +kernel
theorem dX5_isLost_89 : decode cX5_isLost 89 = .ok (.iconst 1, 1) := by decide +kernel
theorem dX5_isLost_90 : decode cX5_isLost 90 = .ok (.goto 4, 3) := by decide +kernel
theorem dX5_isLost_93 : decode cX5_isLost 93 = .ok (.iconst 0, 1) := by decide +kernel
theorem dX5_isLost_94 : decode cX5_isLost 94 = .ok (.istore 7, 2) := by decide +kernel
theorem dX5_isLost_96 : decode cX5_isLost 96 = .ok (.iinc 9 1, 3) := by decide +kernel
theorem dX5_isLost_99 : decode cX5_isLost 99 = .ok (.goto (-81), 3) := by decide +kernel
theorem dX5_isLost_102 : decode cX5_isLost 102 = .ok (.iinc 8 1, 3) := by decide +kernel
theorem dX5_isLost_105 : decode cX5_isLost 105 = .ok (.goto (-96), 3) := by decide +kernel
theorem dX5_isLost_108 : decode cX5_isLost 108 = .ok (.iload 5, 2) := by decide +kernel
theorem dX5_isLost_110 : decode cX5_isLost 110 = .ok (.ifCond .eq 29, 3) := by decide +kernel
theorem dX5_isLost_113 : decode cX5_isLost 113 = .ok (.iload 6, 2) := by decide +kernel
theorem dX5_isLost_115 : decode cX5_isLost 115 = .ok (.ifCond .ne 20, 3) := by decide +kernel
theorem dX5_isLost_118 : decode cX5_isLost 118 = .ok (.aload_n 0, 1) := by decide +kernel
theorem dX5_isLost_119 : decode cX5_isLost 119 = .ok (.iload_n 1, 1) := by decide +kernel
theorem dX5_isLost_120 : decode cX5_isLost 120 = .ok (.iload_n 3, 1) := by decide +kernel
theorem dX5_isLost_121 : decode cX5_isLost 121 = .ok (.iload 4, 2) := by decide +kernel
theorem dX5_isLost_123 : decode cX5_isLost 123 = .ok (.iload_n 2, 1) := by decide +kernel
theorem dX5_isLost_124 : decode cX5_isLost 124 = .ok (.iconst (-1), 1) := by decide +kernel
theorem dX5_isLost_125 : decode cX5_isLost 125 = .ok (.invokevirtual 55, 3) := by decide +kernel
theorem dX5_isLost_128 : decode cX5_isLost 128 = .ok (.ifCond .eq 7, 3) := by decide +kernel
theorem dX5_isLost_131 : decode cX5_isLost 131 = .ok (.iconst 1, 1) := by decide +kernel
theorem dX5_isLost_132 : decode cX5_isLost 132 = .ok (.goto 22, 3) := by decide +kernel
theorem dX5_isLost_135 : decode cX5_isLost 135 = .ok (.iconst 0, 1) := by decide +kernel
theorem dX5_isLost_136 : decode cX5_isLost 136 = .ok (.goto 18, 3) := by decide +kernel
theorem dX5_isLost_139 : decode cX5_isLost 139 = .ok (.iload 6, 2) := by decide +kernel
theorem dX5_isLost_141 : decode cX5_isLost 141 = .ok (.ifCond .le 12, 3) := by decide +kernel
theorem dX5_isLost_144 : decode cX5_isLost 144 = .ok (.iload 7, 2) := by decide +kernel
theorem dX5_isLost_146 : decode cX5_isLost 146 = .ok (.ifCond .eq 7, 3) := by decide +kernel
theorem dX5_isLost_149 : decode cX5_isLost 149 = .ok (.iconst 1, 1) := by decide +kernel
theorem dX5_isLost_150 : decode cX5_isLost 150 = .ok (.goto 4, 3) := by decide +kernel
theorem dX5_isLost_153 : decode cX5_isLost 153 = .ok (.iconst 0, 1) := by decide +kernel
theorem dX5_isLost_154 : decode cX5_isLost 154 = .ok (.ireturn, 1) := by decide +kernel
set_option maxRecDepth 20000 in
theorem ggX5_reaches_X5_known : GoodIn wsX5_reaches wsX5_known := goodIn_r _ [5, 6, 7, 8, 9, 4, 10, 11, 12, 13, 14, 15, 16, 17, 18, 19, 20, 21, 22, 23, 24, 25] (by decide +kernel) (by decide +kernel)
set_option maxRecDepth 20000 in
theorem gX5_reaches_X5_known : GoodIn wsX5_reaches (wsV RX5 70 RX5 yX5_known wsX5_known) := goodIn_app (goodIn_of _ (by decide +kernel)) ggX5_reaches_X5_known
theorem dX5_reaches_0 : decode cX5_reaches 0 = .ok (.aload_n 0, 1) := by decide +kernel
theorem dX5_reaches_1 : decode cX5_reaches 1 = .ok (.iload_n 1, 1) := by decide +kernel
theorem dX5_reaches_2 : decode cX5_reaches 2 = .ok (.iconst 1, 1) := by decide +kernel
theorem dX5_reaches_3 : decode cX5_reaches 3 = .ok (.iload_n 2, 1) := by decide +kernel
theorem dX5_reaches_4 : decode cX5_reaches 4 = .ok (.iload_n 3, 1) := by decide +kernel
theorem dX5_reaches_5 : decode cX5_reaches 5 = .ok (.iload 4, 2) := by decide +kernel
theorem dX5_reaches_7 : decode cX5_reaches 7 = .ok (.invokevirtual 70, 3) := by decide +kernel
theorem dX5_reaches_10 : decode cX5_reaches 10 = .ok (.iload 5, 2) := by decide +kernel
theorem dX5_reaches_12 : decode cX5_reaches 12 = .ok (.if_icmp .ne 7, 3) := by decide +kernel
theorem dX5_reaches_15 : decode cX5_reaches 15 = .ok (.iconst 1, 1) := by decide +kernel
theorem dX5_reaches_16 : decode cX5_reaches 16 = .ok (.goto 4, 3) := by decide +kernel
theorem dX5_reaches_19 : decode cX5_reaches 19 = .ok (.iconst 0, 1) := by decide +kernel
theorem dX5_reaches_20 : decode cX5_reaches 20 = .ok (.ireturn, 1) := by decide +kernel
set_option maxRecDepth 20000 in
theorem ggX5_manReaches_X5_step : GoodIn wsX5_manReaches wsX5_step := goodIn_r _ [6, 7, 1, 25, 26, 27, 28, 29, 30, 31, 32, 33, 34, 35, 36, 37, 38] (by decide +kernel) (by decide +kernel)
set_option maxRecDepth 20000 in
theorem gX5_manReaches_X5_step : GoodIn wsX5_manReaches (wsV RX5 43 RX5 yX5_step wsX5_step) := goodIn_app (goodIn_of _ (by decide +kernel)) ggX5_manReaches_X5_step
set_option maxRecDepth 20000 in
theorem ggX5_manReaches_X5_reaches : GoodIn wsX5_manReaches wsX5_reaches := goodIn_r _ [11, 12, 13, 14, 5, 15, 16, 17, 18, 19, 20, 21, 25, 26, 27, 28, 29, 30, 31, 32, 33, 34, 35, 36, 37, 38] (by decide +kernel) (by decide +kernel)
set_option maxRecDepth 20000 in
theorem gX5_manReaches_X5_reaches : GoodIn wsX5_manReaches (wsV RX5 73 RX5 yX5_reaches wsX5_reaches) := goodIn_app (goodIn_of _ (by decide +kernel)) ggX5_manReaches_X5_reaches
set_option maxRecDepth 20000 in
theorem ggX5_manReaches_X5_goesAlong : GoodIn wsX5_manReaches wsX5_goesAlong := goodIn_r _ [24] (by decide +kernel) (by decide +kernel)
set_option maxRecDepth 20000 in
theorem gX5_manReaches_X5_goesAlong : GoodIn wsX5_manReaches (va_wsS RX5 39 yX5_goesAlong wsX5_goesAlong) := goodIn_app (goodIn_of _ (by decide +kernel)) ggX5_manReaches_X5_goesAlong
theorem dX5_manReaches_0 : decode cX5_manReaches 0 = .ok (.iconst 0, 1) := by decide +kernel
theorem dX5_manReaches_1 : decode cX5_manReaches 1 = .ok (.istore 6, 2) := by decide +kernel
theorem dX5_manReaches_3 : decode cX5_manReaches 3 = .ok (.iload_n 1, 1) := by decide +kernel
theorem dX5_manReaches_4 : decode cX5_manReaches 4 = .ok (.iconst 1, 1) := by decide +kernel
theorem dX5_manReaches_5 : decode cX5_manReaches 5 = .ok (.if_icmp .ne 214, 3) := by decide +kernel
theorem dX5_manReaches_8 : decode cX5_manReaches 8 = .ok (.aload_n 0, 1) := by decide +kernel
theorem dX5_manReaches_9 : decode cX5_manReaches 9 = .ok (.iload_n 3, 1) := by decide +kernel
theorem dX5_manReaches_10 : decode cX5_manReaches 10 = .ok (.iconst 0, 1) := by decide +kernel
theorem dX5_manReaches_11 : decode cX5_manReaches 11 = .ok (.iconst 1, 1) := by decide +kernel
theorem dX5_manReaches_12 : decode cX5_manReaches 12 = .ok (.invokevirtual 43, 3) := by decide +kernel
theorem dX5_manReaches_15 : decode cX5_manReaches 15 = .ok (.istore 7, 2) := by decide +kernel
theorem dX5_manReaches_17 : decode cX5_manReaches 17 = .ok (.iload 7, 2) := by decide +kernel
theorem dX5_manReaches_19 : decode cX5_manReaches 19 = .ok (.ifCond .lt 20, 3) := by decide +kernel
theorem dX5_manReaches_22 : decode cX5_manReaches 22 = .ok (.iload 7, 2) := by decide +kernel
theorem dX5_manReaches_24 : decode cX5_manReaches 24 = .ok (.iload_n 2, 1) := by decide +kernel
theorem dX5_manReaches_25 : decode cX5_manReaches 25 = .ok (.if_icmp .eq 14, 3) := by decide +kernel
theorem dX5_manReaches_28 : decode cX5_manReaches 28 = .ok (.iload 7, 2) := by decide +kernel
theorem dX5_manReaches_30 : decode cX5_manReaches 30 = .ok (.iload 4, 2) := by decide +kernel
theorem dX5_manReaches_32 : decode cX5_manReaches 32 = .ok (.if_icmp .eq 7, 3) := by decide +kernel
theorem dX5_manReaches_35 : decode cX5_manReaches 35 = .ok (.iconst 1, 1) := by decide +kernel
theorem dX5_manReaches_36 : decode cX5_manReaches 36 = .ok (.goto 4, 3) := by decide +kernel
theorem dX5_manReaches_39 : decode cX5_manReaches 39 = .ok (.iconst 0, 1) := by decide +kernel
theorem dX5_manReaches_40 : decode cX5_manReaches 40 = .ok (.istore 8, 2) := by decide +kernel
theorem dX5_manReaches_42 : decode cX5_manReaches 42 = .ok (.iload 8, 2) := by decide +kernel
theorem dX5_manReaches_44 : decode cX5_manReaches 44 = .ok (.ifCond .eq 63, 3) := by decide +kernel
theorem dX5_manReaches_47 : decode cX5_manReaches 47 = .ok (.iload 7, 2) := by decide +kernel
theorem dX5_manReaches_49 : decode cX5_manReaches 49 = .ok (.bipush 8, 2) := by decide +kernel
theorem dX5_manReaches_51 : decode cX5_manReaches 51 = .ok (.idiv, 1) := by decide +kernel
theorem dX5_manReaches_52 : decode cX5_manReaches 52 = .ok (.aload_n 0, 1) := by decide +kernel
theorem dX5_manReaches_53 : decode cX5_manReaches 53 = .ok (.getfield 29, 3) := by decide +kernel
theorem dX5_manReaches_56 : decode cX5_manReaches 56 = .ok (.iconst 1, 1) := by decide +kernel
theorem dX5_manReaches_57 : decode cX5_manReaches 57 = .ok (.isub, 1) := by decide +kernel
theorem dX5_manReaches_58 : decode cX5_manReaches 58 = .ok (.if_icmp .ne 49, 3) := by decide +kernel
theorem dX5_manReaches_61 : decode cX5_manReaches 61 = .ok (.iconst 2, 1) := by decide +kernel
theorem dX5_manReaches_62 : decode cX5_manReaches 62 = .ok (.istore 9, 2) := by decide +kernel
theorem dX5_manReaches_64 : decode cX5_manReaches 64 = .ok (.iload 9, 2) := by decide +kernel
theorem dX5_manReaches_66 : decode cX5_manReaches 66 = .ok (.iconst 5, 1) := by decide +kernel
theorem dX5_manReaches_67 : decode cX5_manReaches 67 = .ok (.if_icmp .gt 37, 3) := by decide +kernel
theorem dX5_manReaches_70 : decode cX5_manReaches 70 = .ok (.iload 6, 2) := by decide +kernel
theorem dX5_manReaches_72 : decode cX5_manReaches 72 = .ok (.ifCond .ne 19, 3) := by decide +kernel
theorem dX5_manReaches_75 : decode cX5_manReaches 75 = .ok (.aload_n 0, 1) := by decide +kernel
theorem dX5_manReaches_76 : decode cX5_manReaches 76 = .ok (.iload 9, 2) := by decide +kernel
theorem dX5_manReaches_78 : decode cX5_manReaches 78 = .ok (.iload_n 2, 1) := by decide +kernel
theorem dX5_manReaches_79 : decode cX5_manReaches 79 = .ok (.iload 7, 2) := by decide +kernel
theorem dX5_manReaches_81 : decode cX5_manReaches 81 = .ok (.iload 4, 2) := by decide +kernel
theorem dX5_manReaches_83 : decode cX5_manReaches 83 = .ok (.iload 5, 2) := by decide +kernel
theorem dX5_manReaches_85 : decode cX5_manReaches 85 = .ok (.invokevirtual 73, 3) := by decide +kernel
theorem dX5_manReaches_88 : decode cX5_manReaches 88 = .ok (.ifCond .eq 7, 3) := by decide +kernel
theorem dX5_manReaches_91 : decode cX5_manReaches 91 = .ok (.iconst 1, 1) := by decide +kernel
theorem dX5_manReaches_92 : decode cX5_manReaches 92 = .ok (.goto 4, 3) := by decide +kernel
theorem dX5_manReaches_95 : decode cX5_manReaches 95 = .ok (.iconst 0, 1) := by decide +kernel
theorem dX5_manReaches_96 : decode cX5_manReaches 96 = .ok (.istore 6, 2) := by decide +kernel
theorem dX5_manReaches_98 : decode cX5_manReaches 98 = .ok (.iinc 9 1, 3) := by decide +kernel
theorem dX5_manReaches_101 : decode cX5_manReaches 101 = .ok (.goto (-37), 3) := by decide +kernel
theorem dX5_manReaches_104 : decode cX5_manReaches 104 = .ok (.iload 6, 2) := by decide +kernel
theorem dX5_manReaches_106 : decode cX5_manReaches 106 = .ok (.ireturn, 1) := by decide +kernel
theorem dX5_manReaches_107 : decode cX5_manReaches 107 = .ok (.iload 8, 2) := by decide +kernel
theorem dX5_manReaches_109 : decode cX5_manReaches 109 = .ok (.ifCond .eq 22, 3) := by decide +kernel
theorem dX5_manReaches_112 : decode cX5_manReaches 112 = .ok (.iload_n 3, 1) := by decide +kernel
theorem dX5_manReaches_113 : decode cX5_manReaches 113 = .ok (.bipush 8, 2) := by decide +kernel
theorem dX5_manReaches_115 : decode cX5_manReaches 115 = .ok (.idiv, 1) := by decide +kernel
theorem dX5_manReaches_116 : decode cX5_manReaches 116 = .ok (.iconst 1, 1) := by decide +kernel
theorem dX5_manReaches_117 : decode cX5_manReaches 117 = .ok (.if_icmp .ne 14, 3) := by decide +kernel
theorem dX5_manReaches_120 : decode cX5_manReaches 120 = .ok (.aload_n 0, 1) := by decide +kernel
theorem dX5_manReaches_121 : decode cX5_manReaches 121 = .ok (.iload 7, 2) := by decide +kernel
theorem dX5_manReaches_123 : decode cX5_manReaches 123 = .ok (.iconst 0, 1) := by decide +kernel
theorem dX5_manReaches_124 : decode cX5_manReaches 124 = .ok (.iconst 1, 1) := by decide +kernel
theorem dX5_manReaches_125 : decode cX5_manReaches 125 = .ok (.invokevirtual 43, 3) := by decide +kernel
theorem dX5_manReaches_128 : decode cX5_manReaches 128 = .ok (.goto 4, 3) := by decide +kernel
theorem dX5_manReaches_131 : decode cX5_manReaches 131 = .ok (.iconst (-1), 1) := by decide +kernel
theorem dX5_manReaches_132 : decode cX5_manReaches 132 = .ok (.istore 9, 2) := by decide +kernel
theorem dX5_manReaches_134 : decode cX5_manReaches 134 = .ok (.iload 8, 2) := by decide +kernel
theorem dX5_manReaches_136 : decode cX5_manReaches 136 = .ok (.ifCond .eq 22, 3) := by decide +kernel
theorem dX5_manReaches_139 : decode cX5_manReaches 139 = .ok (.aload_n 0, 1) := by decide +kernel
theorem dX5_manReaches_140 : decode cX5_manReaches 140 = .ok (.iload_n 1, 1) := by decide +kernel
theorem dX5_manReaches_141 : decode cX5_manReaches 141 = .ok (.iload_n 2, 1) := by decide +kernel
theorem dX5_manReaches_142 : decode cX5_manReaches 142 = .ok (.iload 7, 2) := by decide +kernel
theorem dX5_manReaches_144 : decode cX5_manReaches 144 = .ok (.iload 4, 2) := by decide +kernel
theorem dX5_manReaches_146 : decode cX5_manReaches 146 = .ok (.iload 5, 2) := by decide +kernel
theorem dX5_manReaches_148 : decode cX5_manReaches 148 = .ok (.invokevirtual 73, 3) := by decide +kernel
theorem dX5_manReaches_151 : decode cX5_manReaches 151 = .ok (.ifCond .eq 7, 3) := by decide +kernel
theorem dX5_manReaches_154 : decode cX5_manReaches 154 = .ok (.iconst 1, 1) := by decide +kernel
theorem dX5_manReaches_155 : decode cX5_manReaches 155 = .ok (.goto 4, 3) := by decide +kernel
theorem dX5_manReaches_158 : decode cX5_manReaches 158 = .ok (.iconst 0, 1) := by decide +kernel
theorem dX5_manReaches_159 : decode cX5_manReaches 159 = .ok (.istore 6, 2) := by decide +kernel
theorem dX5_manReaches_161 : decode cX5_manReaches 161 = .ok (.iload 6, 2) := by decide +kernel
theorem dX5_manReaches_163 : decode cX5_manReaches 163 = .ok (.ifCond .ne 50, 3) := by decide +kernel
theorem dX5_manReaches_166 : decode cX5_manReaches 166 = .ok (.iload 9, 2) := by decide +kernel
theorem dX5_manReaches_168 : decode cX5_manReaches 168 = .ok (.ifCond .lt 49, 3) := by decide +kernel
theorem dX5_manReaches_171 : decode cX5_manReaches 171 = .ok (.iload 9, 2) := by decide +kernel
theorem dX5_manReaches_173 : decode cX5_manReaches 173 = .ok (.bipush 8, 2) := by decide +kernel
theorem dX5_manReaches_175 : decode cX5_manReaches 175 = .ok (.idiv, 1) := by decide +kernel
theorem dX5_manReaches_176 : decode cX5_manReaches 176 = .ok (.aload_n 0, 1) := by decide +kernel
theorem dX5_manReaches_177 : decode cX5_manReaches 177 = .ok (.getfield 29, 3) := by decide +kernel
theorem dX5_manReaches_180 : decode cX5_manReaches 180 = .ok (.iconst 1, 1) := by decide +kernel
theorem dX5_manReaches_181 : decode cX5_manReaches 181 = .ok (.isub, 1) := by decide +kernel
theorem dX5_manReaches_182 : decode cX5_manReaches 182 = .ok (.if_icmp .ge 35, 3) := by decide +kernel
theorem dX5_manReaches_185 : decode cX5_manReaches 185 = .ok (.iload 9, 2) := by decide +kernel
theorem dX5_manReaches_187 : decode cX5_manReaches 187 = .ok (.iload_n 2, 1) := by decide +kernel
theorem dX5_manReaches_188 : decode cX5_manReaches 188 = .ok (.if_icmp .eq 29, 3) := by decide +kernel
theorem dX5_manReaches_191 : decode cX5_manReaches 191 = .ok (.iload 9, 2) := by decide +kernel
theorem dX5_manReaches_193 : decode cX5_manReaches 193 = .ok (.iload 4, 2) := by decide +kernel
theorem dX5_manReaches_195 : decode cX5_manReaches 195 = .ok (.if_icmp .eq 22, 3) := by decide +kernel
theorem dX5_manReaches_198 : decode cX5_manReaches 198 = .ok (.aload_n 0, 1) := by decide +kernel
theorem dX5_manReaches_199 : decode cX5_manReaches 199 = .ok (.iload_n 1, 1) := by decide +kernel
theorem dX5_manReaches_200 : decode cX5_manReaches 200 = .ok (.iload_n 2, 1) := by decide +kernel
theorem dX5_manReaches_201 : decode cX5_manReaches 201 = .ok (.iload 9, 2) := by decide +kernel
theorem dX5_manReaches_203 : decode cX5_manReaches 203 = .ok (.iload 4, 2) := by decide +kernel
theorem dX5_manReaches_205 : decode cX5_manReaches 205 = .ok (.iload 5, 2) := by decide +kernel
theorem dX5_manReaches_207 : decode cX5_manReaches 207 = .ok (.invokevirtual 73, 3) := by decide +kernel
theorem dX5_manReaches_210 : decode cX5_manReaches 210 = .ok (.ifCond .eq 7, 3) := by decide +kernel
theorem dX5_manReaches_213 : decode cX5_manReaches 213 = .ok (.iconst 1, 1) := by decide +kernel
theorem dX5_manReaches_214 : decode cX5_manReaches 214 = .ok (.goto 4, 3) := by decide +kernel
theorem dX5_manReaches_217 : decode cX5_manReaches 217 = .ok (.iconst 0, 1) := by decide +kernel
theorem dX5_manReaches_218 : decode cX5_manReaches 218 = .ok (.ireturn, 1) := by decide +kernel
theorem dX5_manReaches_219 : decode cX5_manReaches 219 = .ok (.bipush (-2), 2) := by decide +kernel
theorem dX5_manReaches_221 : decode cX5_manReaches 221 = .ok (.istore 7, 2) := by decide +kernel
theorem dX5_manReaches_223 : decode cX5_manReaches 223 = .ok (.iload 7, 2) := by decide +kernel
theorem dX5_manReaches_225 : decode cX5_manReaches 225 = .ok (.iconst 3, 1) := by decide +kernel
theorem dX5_manReaches_226 : decode cX5_manReaches 226 = .ok (.if_icmp .ge 169, 3) := by decide +kernel
theorem dX5_manReaches_229 : decode cX5_manReaches 229 = .ok (.bipush (-2), 2) := by decide +kernel
theorem dX5_manReaches_231 : decode cX5_manReaches 231 = .ok (.istore 8, 2) := by decide +kernel
theorem dX5_manReaches_233 : decode cX5_manReaches 233 = .ok (.iload 8, 2) := by decide +kernel
theorem dX5_manReaches_235 : decode cX5_manReaches 235 = .ok (.iconst 3, 1) := by decide +kernel
theorem dX5_manReaches_236 : decode cX5_manReaches 236 = .ok (.if_icmp .ge 153, 3) := by decide +kernel
theorem dX5_manReaches_239 : decode cX5_manReaches 239 = .ok (.iload_n 1, 1) := by decide +kernel
theorem dX5_manReaches_240 : decode cX5_manReaches 240 = .ok (.iconst 2, 1) := by decide +kernel
theorem dX5_manReaches_241 : decode cX5_manReaches 241 = .ok (.if_icmp .ne 22, 3) := by decide +kernel
theorem dX5_manReaches_244 : decode cX5_manReaches 244 = .ok (.iload 7, 2) := by decide +kernel
theorem dX5_manReaches_246 : decode cX5_manReaches 246 = .ok (.iload 7, 2) := by decide +kernel
theorem dX5_manReaches_248 : decode cX5_manReaches 248 = .ok (.imul, 1) := by decide +kernel
theorem dX5_manReaches_249 : decode cX5_manReaches 249 = .ok (.iload 8, 2) := by decide +kernel
theorem dX5_manReaches_251 : decode cX5_manReaches 251 = .ok (.iload 8, 2) := by decide +kernel
theorem dX5_manReaches_253 : decode cX5_manReaches 253 = .ok (.imul, 1) := by decide +kernel
theorem dX5_manReaches_254 : decode cX5_manReaches 254 = .ok (.iadd, 1) := by decide +kernel
theorem dX5_manReaches_255 : decode cX5_manReaches 255 = .ok (.iconst 5, 1) := by decide +kernel
theorem dX5_manReaches_256 : decode cX5_manReaches 256 = .ok (.if_icmp .ne 7, 3) := by decide +kernel
theorem dX5_manReaches_259 : decode cX5_manReaches 259 = .ok (.iconst 1, 1) := by decide +kernel
theorem dX5_manReaches_260 : decode cX5_manReaches 260 = .ok (.goto 4, 3) := by decide +kernel
theorem dX5_manReaches_263 : decode cX5_manReaches 263 = .ok (.iconst 0, 1) := by decide +kernel
theorem dX5_manReaches_264 : decode cX5_manReaches 264 = .ok (.istore 9, 2) := by decide +kernel
theorem dX5_manReaches_266 : decode cX5_manReaches 266 = .ok (.iload_n 1, 1) := by decide +kernel
theorem dX5_manReaches_267 : decode cX5_manReaches 267 = .ok (.iconst 2, 1) := by decide +kernel
theorem dX5_manReaches_268 : decode cX5_manReaches 268 = .ok (.if_icmp .le 18, 3) := by decide +kernel
theorem dX5_manReaches_271 : decode cX5_manReaches 271 = .ok (.iload_n 1, 1) := by decide +kernel
theorem dX5_manReaches_272 : decode cX5_manReaches 272 = .ok (.iload 7, 2) := by decide +kernel
theorem dX5_manReaches_274 : decode cX5_manReaches 274 = .ok (.iload 8, 2) := by decide +kernel
theorem dX5_manReaches_276 : decode cX5_manReaches 276 = .ok (.invokestatic 39, 3) := by decide +kernel
theorem dX5_manReaches_279 : decode cX5_manReaches 279 = .ok (.ifCond .eq 7, 3) := by decide +kernel
theorem dX5_manReaches_282 : decode cX5_manReaches 282 = .ok (.iconst 1, 1) := by decide +kernel
theorem dX5_manReaches_283 : decode cX5_manReaches 283 = .ok (.goto 4, 3) := by decide +kernel
theorem dX5_manReaches_286 : decode cX5_manReaches 286 = .ok (.iconst 0, 1) := by decide +kernel
theorem dX5_manReaches_287 : decode cX5_manReaches 287 = .ok (.istore 10, 2) := by decide +kernel
theorem dX5_manReaches_289 : decode cX5_manReaches 289 = .ok (.iload 9, 2) := by decide +kernel
theorem dX5_manReaches_291 : decode cX5_manReaches 291 = .ok (.ifCond .ne 8, 3) := by decide +kernel
theorem dX5_manReaches_294 : decode cX5_manReaches 294 = .ok (.iload 10, 2) := by decide +kernel
theorem dX5_manReaches_296 : decode cX5_manReaches 296 = .ok (.ifCond .eq 15, 3) := by decide +kernel
theorem dX5_manReaches_299 : decode cX5_manReaches 299 = .ok (.aload_n 0, 1) := by decide +kernel
theorem dX5_manReaches_300 : decode cX5_manReaches 300 = .ok (.iload_n 3, 1) := by decide +kernel
theorem dX5_manReaches_301 : decode cX5_manReaches 301 = .ok (.iload 7, 2) := by decide +kernel
theorem dX5_manReaches_303 : decode cX5_manReaches 303 = .ok (.iload 8, 2) := by decide +kernel
theorem dX5_manReaches_305 : decode cX5_manReaches 305 = .ok (.invokevirtual 43, 3) := by decide +kernel
theorem dX5_manReaches_308 : decode cX5_manReaches 308 = .ok (.goto 4, 3) := by decide +kernel
theorem dX5_manReaches_311 : decode cX5_manReaches 311 = .ok (.iconst (-1), 1) := by decide +kernel
theorem dX5_manReaches_312 : decode cX5_manReaches 312 = .ok (.istore 11, 2) := by decide +kernel
theorem dX5_manReaches_314 : decode cX5_manReaches 314 = .ok (.iload 11, 2) := by decide +kernel
theorem dX5_manReaches_316 : decode cX5_manReaches 316 = .ok (.ifCond .lt 67, 3) := by decide +kernel
theorem dX5_manReaches_319 : decode cX5_manReaches 319 = .ok (.iload 11, 2) := by decide +kernel
theorem dX5_manReaches_321 : decode cX5_manReaches 321 = .ok (.iload_n 2, 1) := by decide +kernel
theorem dX5_manReaches_322 : decode cX5_manReaches 322 = .ok (.if_icmp .eq 61, 3) := by decide +kernel
theorem dX5_manReaches_325 : decode cX5_manReaches 325 = .ok (.iload 11, 2) := by decide +kernel
theorem dX5_manReaches_327 : decode cX5_manReaches 327 = .ok (.iload 4, 2) := by decide +kernel
theorem dX5_manReaches_329 : decode cX5_manReaches 329 = .ok (.if_icmp .eq 54, 3) := by decide +kernel
theorem dX5_manReaches_332 : decode cX5_manReaches 332 = .ok (.iload 6, 2) := by decide +kernel
theorem dX5_manReaches_334 : decode cX5_manReaches 334 = .ok (.ifCond .ne 18, 3) := by decide +kernel
theorem dX5_manReaches_337 : decode cX5_manReaches 337 = .ok (.aload_n 0, 1) := by decide +kernel
theorem dX5_manReaches_338 : decode cX5_manReaches 338 = .ok (.iload_n 1, 1) := by decide +kernel
theorem dX5_manReaches_339 : decode cX5_manReaches 339 = .ok (.iload_n 2, 1) := by decide +kernel
theorem dX5_manReaches_340 : decode cX5_manReaches 340 = .ok (.iload 11, 2) := by decide +kernel
theorem dX5_manReaches_342 : decode cX5_manReaches 342 = .ok (.iload 4, 2) := by decide +kernel
theorem dX5_manReaches_344 : decode cX5_manReaches 344 = .ok (.iload 5, 2) := by decide +kernel
theorem dX5_manReaches_346 : decode cX5_manReaches 346 = .ok (.invokevirtual 73, 3) := by decide +kernel
theorem dX5_manReaches_349 : decode cX5_manReaches 349 = .ok (.ifCond .eq 7, 3) := by decide +kernel
theorem dX5_manReaches_352 : decode cX5_manReaches 352 = .ok (.iconst 1, 1) := by decide +kernel
theorem dX5_manReaches_353 : decode cX5_manReaches 353 = .ok (.goto 4, 3) := by decide +kernel
theorem dX5_manReaches_356 : decode cX5_manReaches 356 = .ok (.iconst 0, 1) := by decide +kernel
theorem dX5_manReaches_357 : decode cX5_manReaches 357 = .ok (.istore 6, 2) := by decide +kernel
theorem dX5_manReaches_359 : decode cX5_manReaches 359 = .ok (.iload 10, 2) := by decide +kernel
theorem dX5_manReaches_361 : decode cX5_manReaches 361 = .ok (.ifCond .eq 16, 3) := by decide +kernel
theorem dX5_manReaches_364 : decode cX5_manReaches 364 = .ok (.aload_n 0, 1) := by decide +kernel
theorem dX5_manReaches_365 : decode cX5_manReaches 365 = .ok (.iload 11, 2) := by decide +kernel
theorem dX5_manReaches_367 : decode cX5_manReaches 367 = .ok (.iload 7, 2) := by decide +kernel
theorem dX5_manReaches_369 : decode cX5_manReaches 369 = .ok (.iload 8, 2) := by decide +kernel
theorem dX5_manReaches_371 : decode cX5_manReaches 371 = .ok (.invokevirtual 43, 3) := by decide +kernel
theorem dX5_manReaches_374 : decode cX5_manReaches 374 = .ok (.goto 4, 3) := by decide +kernel
theorem dX5_manReaches_377 : decode cX5_manReaches 377 = .ok (.iconst (-1), 1) := by decide +kernel
theorem dX5_manReaches_378 : decode cX5_manReaches 378 = .ok (.istore 11, 2) := by decide +kernel
theorem dX5_manReaches_380 : decode cX5_manReaches 380 = .ok (.goto (-66), 3) := by decide +kernel
theorem dX5_manReaches_383 : decode cX5_manReaches 383 = .ok (.iinc 8 1, 3) := by decide +kernel
theorem dX5_manReaches_386 : decode cX5_manReaches 386 = .ok (.goto (-153), 3) := by decide +kernel
theorem dX5_manReaches_389 : decode cX5_manReaches 389 = .ok (.iinc 7 1, 3) := by decide +kernel
theorem dX5_manReaches_392 : decode cX5_manReaches 392 = .ok (.goto (-169), 3) := by decide +kernel
theorem dX5_manReaches_395 : decode cX5_manReaches 395 = .ok (.iload 6, 2) := by decide +kernel
theorem dX5_manReaches_397 : decode cX5_manReaches 397 = .ok (.ireturn, 1) := by decide +kernel
set_option maxRecDepth 20000 in
theorem ggX5_kingReaches_X5_step : GoodIn wsX5_kingReaches wsX5_step := goodIn_r _ [5, 6, 7, 28, 29, 30, 31, 32, 33, 34, 35, 36, 37, 38, 39, 40, 41] (by decide +kernel) (by decide +kernel)
set_option maxRecDepth 20000 in
theorem gX5_kingReaches_X5_step : GoodIn wsX5_kingReaches (wsV RX5 43 RX5 yX5_step wsX5_step) := goodIn_app (goodIn_of _ (by decide +kernel)) ggX5_kingReaches_X5_step
set_option maxRecDepth 20000 in
theorem ggX5_kingReaches_X5_isNext : GoodIn wsX5_kingReaches wsX5_isNext := goodIn_r _ [10, 11, 12, 4, 13] (by decide +kernel) (by decide +kernel)
set_option maxRecDepth 20000 in
theorem gX5_kingReaches_X5_isNext : GoodIn wsX5_kingReaches (va_wsS RX5 51 yX5_isNext wsX5_isNext) := goodIn_app (goodIn_of _ (by decide +kernel)) ggX5_kingReaches_X5_isNext
set_option maxRecDepth 20000 in
theorem ggX5_kingReaches_X5_reaches : GoodIn wsX5_kingReaches wsX5_reaches := goodIn_r _ [17, 18, 19, 20, 4, 21, 22, 23, 24, 25, 26, 27, 28, 29, 30, 31, 32, 33, 34, 35, 36, 37, 38, 39, 40, 41] (by decide +kernel) (by decide +kernel)
set_option maxRecDepth 20000 in
theorem gX5_kingReaches_X5_reaches : GoodIn wsX5_kingReaches (wsV RX5 73 RX5 yX5_reaches wsX5_reaches) := goodIn_app (goodIn_of _ (by decide +kernel)) ggX5_kingReaches_X5_reaches
theorem dX5_kingReaches_0 : decode cX5_kingReaches 0 = .ok (.iconst 0, 1) := by decide +kernel
theorem dX5_kingReaches_1 : decode cX5_kingReaches 1 = .ok (.istore 6, 2) := by decide +kernel
theorem dX5_kingReaches_3 : decode cX5_kingReaches 3 = .ok (.iconst (-1), 1) := by decide +kernel
theorem dX5_kingReaches_4 : decode cX5_kingReaches 4 = .ok (.istore 7, 2) := by decide +kernel
theorem dX5_kingReaches_6 : decode cX5_kingReaches 6 = .ok (.iload 7, 2) := by decide +kernel
theorem dX5_kingReaches_8 : decode cX5_kingReaches 8 = .ok (.iconst 2, 1) := by decide +kernel
theorem dX5_kingReaches_9 : decode cX5_kingReaches 9 = .ok (.if_icmp .ge 104, 3) := by decide +kernel
theorem dX5_kingReaches_12 : decode cX5_kingReaches 12 = .ok (.iconst (-1), 1) := by decide +kernel
theorem dX5_kingReaches_13 : decode cX5_kingReaches 13 = .ok (.istore 8, 2) := by decide +kernel
theorem dX5_kingReaches_15 : decode cX5_kingReaches 15 = .ok (.iload 8, 2) := by decide +kernel
theorem dX5_kingReaches_17 : decode cX5_kingReaches 17 = .ok (.iconst 2, 1) := by decide +kernel
theorem dX5_kingReaches_18 : decode cX5_kingReaches 18 = .ok (.if_icmp .ge 89, 3) := by decide +kernel
theorem dX5_kingReaches_21 : decode cX5_kingReaches 21 = .ok (.iload 7, 2) := by decide +kernel
theorem dX5_kingReaches_23 : decode cX5_kingReaches 23 = .ok (.ifCond .ne 12, 3) := by decide +kernel
theorem dX5_kingReaches_26 : decode cX5_kingReaches 26 = .ok (.iload 8, 2) := by decide +kernel
theorem dX5_kingReaches_28 : decode cX5_kingReaches 28 = .ok (.ifCond .ne 7, 3) := by decide +kernel
theorem dX5_kingReaches_31 : decode cX5_kingReaches 31 = .ok (.iconst (-1), 1) := by decide +kernel
theorem dX5_kingReaches_32 : decode cX5_kingReaches 32 = .ok (.goto 12, 3) := by decide +kernel
theorem dX5_kingReaches_35 : decode cX5_kingReaches 35 = .ok (.aload_n 0, 1) := by decide +kernel
theorem dX5_kingReaches_36 : decode cX5_kingReaches 36 = .ok (.iload_n 2, 1) := by decide +kernel
theorem dX5_kingReaches_37 : decode cX5_kingReaches 37 = .ok (.iload 7, 2) := by decide +kernel
theorem dX5_kingReaches_39 : decode cX5_kingReaches 39 = .ok (.iload 8, 2) := by decide +kernel
theorem dX5_kingReaches_41 : decode cX5_kingReaches 41 = .ok (.invokevirtual 43, 3) := by decide +kernel
theorem dX5_kingReaches_44 : decode cX5_kingReaches 44 = .ok (.istore 9, 2) := by decide +kernel
theorem dX5_kingReaches_46 : decode cX5_kingReaches 46 = .ok (.iload 6, 2) := by decide +kernel
theorem dX5_kingReaches_48 : decode cX5_kingReaches 48 = .ok (.ifCond .ne 46, 3) := by decide +kernel
theorem dX5_kingReaches_51 : decode cX5_kingReaches 51 = .ok (.iload 9, 2) := by decide +kernel
theorem dX5_kingReaches_53 : decode cX5_kingReaches 53 = .ok (.ifCond .lt 45, 3) := by decide +kernel
theorem dX5_kingReaches_56 : decode cX5_kingReaches 56 = .ok (.iload 9, 2) := by decide +kernel
theorem dX5_kingReaches_58 : decode cX5_kingReaches 58 = .ok (.iload_n 3, 1) := by decide +kernel
theorem dX5_kingReaches_59 : decode cX5_kingReaches 59 = .ok (.if_icmp .eq 39, 3) := by decide +kernel
theorem dX5_kingReaches_62 : decode cX5_kingReaches 62 = .ok (.iload 9, 2) := by decide +kernel
theorem dX5_kingReaches_64 : decode cX5_kingReaches 64 = .ok (.iload 4, 2) := by decide +kernel
theorem dX5_kingReaches_66 : decode cX5_kingReaches 66 = .ok (.if_icmp .eq 32, 3) := by decide +kernel
theorem dX5_kingReaches_69 : decode cX5_kingReaches 69 = .ok (.iload 9, 2) := by decide +kernel
theorem dX5_kingReaches_71 : decode cX5_kingReaches 71 = .ok (.iload 4, 2) := by decide +kernel
theorem dX5_kingReaches_73 : decode cX5_kingReaches 73 = .ok (.invokestatic 51, 3) := by decide +kernel
theorem dX5_kingReaches_76 : decode cX5_kingReaches 76 = .ok (.ifCond .ne 22, 3) := by decide +kernel
theorem dX5_kingReaches_79 : decode cX5_kingReaches 79 = .ok (.aload_n 0, 1) := by decide +kernel
theorem dX5_kingReaches_80 : decode cX5_kingReaches 80 = .ok (.iload_n 1, 1) := by decide +kernel
theorem dX5_kingReaches_81 : decode cX5_kingReaches 81 = .ok (.iload 9, 2) := by decide +kernel
theorem dX5_kingReaches_83 : decode cX5_kingReaches 83 = .ok (.iload_n 3, 1) := by decide +kernel
theorem dX5_kingReaches_84 : decode cX5_kingReaches 84 = .ok (.iload 4, 2) := by decide +kernel
theorem dX5_kingReaches_86 : decode cX5_kingReaches 86 = .ok (.iload 5, 2) := by decide +kernel
theorem dX5_kingReaches_88 : decode cX5_kingReaches 88 = .ok (.invokevirtual 73, 3) := by decide +kernel
theorem dX5_kingReaches_91 : decode cX5_kingReaches 91 = .ok (.ifCond .eq 7, 3) := by decide +kernel
theorem dX5_kingReaches_94 : decode cX5_kingReaches 94 = .ok (.iconst 1, 1) := by decide +kernel
theorem dX5_kingReaches_95 : decode cX5_kingReaches 95 = .ok (.goto 4, 3) := by decide +kernel
theorem dX5_kingReaches_98 : decode cX5_kingReaches 98 = .ok (.iconst 0, 1) := by decide +kernel
theorem dX5_kingReaches_99 : decode cX5_kingReaches 99 = .ok (.istore 6, 2) := by decide +kernel
theorem dX5_kingReaches_101 : decode cX5_kingReaches 101 = .ok (.iinc 8 1, 3) := by decide +kernel
theorem dX5_kingReaches_104 : decode cX5_kingReaches 104 = .ok (.goto (-89), 3) := by decide +kernel
theorem dX5_kingReaches_107 : decode cX5_kingReaches 107 = .ok (.iinc 7 1, 3) := by decide +kernel
theorem dX5_kingReaches_110 : decode cX5_kingReaches 110 = .ok (.goto (-104), 3) := by decide +kernel
theorem dX5_kingReaches_113 : decode cX5_kingReaches 113 = .ok (.iload 6, 2) := by decide +kernel
theorem dX5_kingReaches_115 : decode cX5_kingReaches 115 = .ok (.ireturn, 1) := by decide +kernel
set_option maxRecDepth 20000 in
theorem ggX5_pass_X5_isSquare : GoodIn wsX5_pass wsX5_isSquare := goodIn_r _ [5, 6, 7, 63, 64, 65, 66, 67, 68, 69, 70, 71, 72, 73, 74, 75, 76] (by decide +kernel) (by decide +kernel)
set_option maxRecDepth 20000 in
theorem gX5_pass_X5_isSquare : GoodIn wsX5_pass (wsV RX5 47 RX5 yX5_isSquare wsX5_isSquare) := goodIn_app (goodIn_of _ (by decide +kernel)) ggX5_pass_X5_isSquare
set_option maxRecDepth 20000 in
theorem ggX5_pass_X5_isPosition : GoodIn wsX5_pass wsX5_isPosition := goodIn_r _ [11, 7, 1, 2, 3, 4, 5, 6, 12, 13, 14, 15, 16, 17, 18, 19, 20, 21, 22, 23, 24, 25, 26, 27, 28, 63, 64, 65, 66, 67, 68, 69, 70, 71, 72, 73, 74, 75, 76] (by decide +kernel) (by decide +kernel)
set_option maxRecDepth 20000 in
theorem gX5_pass_X5_isPosition : GoodIn wsX5_pass (wsV RX5 76 RX5 yX5_isPosition wsX5_isPosition) := goodIn_app (goodIn_of _ (by decide +kernel)) ggX5_pass_X5_isPosition
set_option maxRecDepth 20000 in
theorem ggX5_pass_X5_known : GoodIn wsX5_pass wsX5_known := goodIn_r _ [32, 33, 34, 35, 36, 4, 37, 38, 63, 64, 65, 66, 67, 68, 69, 70, 71, 72, 73, 74, 75, 76] (by decide +kernel) (by decide +kernel)
set_option maxRecDepth 20000 in
theorem gX5_pass_X5_known : GoodIn wsX5_pass (wsV RX5 70 RX5 yX5_known wsX5_known) := goodIn_app (goodIn_of _ (by decide +kernel)) ggX5_pass_X5_known
set_option maxRecDepth 20000 in
theorem ggX5_pass_X5_isLost : GoodIn wsX5_pass wsX5_isLost := goodIn_r _ [42, 25, 26, 27, 4, 28, 6, 7, 43, 44, 45, 46, 12, 13, 14, 15, 16, 17, 18, 19, 20, 21, 22, 23, 24, 29, 30, 31, 32, 33, 34, 35, 36, 37, 38, 63, 64, 65, 66, 67, 68, 69, 70, 71, 72, 73, 74, 75, 76] (by decide +kernel) (by decide +kernel)
set_option maxRecDepth 20000 in
theorem gX5_pass_X5_isLost : GoodIn wsX5_pass (wsV RX5 79 RX5 yX5_isLost wsX5_isLost) := goodIn_app (goodIn_of _ (by decide +kernel)) ggX5_pass_X5_isLost
set_option maxRecDepth 20000 in
theorem ggX5_pass_X5_kingReaches : GoodIn wsX5_pass wsX5_kingReaches := goodIn_r _ [50, 25, 26, 27, 4, 28, 6, 7, 12, 13, 14, 15, 16, 17, 51, 52, 53, 54, 29, 30, 31, 32, 33, 34, 35, 36, 37, 38, 63, 64, 65, 66, 67, 68, 69, 70, 71, 72, 73, 74, 75, 76] (by decide +kernel) (by decide +kernel)
set_option maxRecDepth 20000 in
theorem gX5_pass_X5_kingReaches : GoodIn wsX5_pass (wsV RX5 83 RX5 yX5_kingReaches wsX5_kingReaches) := goodIn_app (goodIn_of _ (by decide +kernel)) ggX5_pass_X5_kingReaches
set_option maxRecDepth 20000 in
theorem ggX5_pass_X5_manReaches : GoodIn wsX5_pass wsX5_manReaches := goodIn_r _ [58, 7, 25, 26, 27, 4, 28, 6, 51, 52, 53, 54, 29, 30, 31, 32, 33, 34, 35, 36, 37, 38, 22, 23, 24, 63, 64, 65, 66, 67, 68, 69, 70, 71, 72, 73, 74, 75, 76] (by decide +kernel) (by decide +kernel)
set_option maxRecDepth 20000 in
theorem gX5_pass_X5_manReaches : GoodIn wsX5_pass (wsV RX5 86 RX5 yX5_manReaches wsX5_manReaches) := goodIn_app (goodIn_of _ (by decide +kernel)) ggX5_pass_X5_manReaches
set_option maxRecDepth 20000 in
theorem ggX5_pass_X5_note : GoodIn wsX5_pass wsX5_note := goodIn_r _ [62, 33, 35, 36, 4, 37, 38, 63, 64, 65, 66, 67, 68, 69, 70, 71, 72, 73, 74, 75, 76] (by decide +kernel) (by decide +kernel)
set_option maxRecDepth 20000 in
theorem gX5_pass_X5_note : GoodIn wsX5_pass (wsV RX5 89 RX5 yX5_note wsX5_note) := goodIn_app (goodIn_of _ (by decide +kernel)) ggX5_pass_X5_note
theorem dX5_pass_0 : decode cX5_pass 0 = .ok (.iload_n 2, 1) := by decide +kernel
theorem dX5_pass_1 : decode cX5_pass 1 = .ok (.iconst 2, 1) := by decide +kernel
theorem dX5_pass_2 : decode cX5_pass 2 = .ok (.irem, 1) := by decide +kernel
theorem dX5_pass_3 : decode cX5_pass 3 = .ok (.iconst 1, 1) := by decide +kernel
theorem dX5_pass_4 : decode cX5_pass 4 = .ok (.if_icmp .ne 7, 3) := by decide +kernel
theorem dX5_pass_7 : decode cX5_pass 7 = .ok (.iconst 0, 1) := by decide +kernel
theorem dX5_pass_8 : decode cX5_pass 8 = .ok (.goto 4, 3) := by decide +kernel
theorem dX5_pass_11 : decode cX5_pass 11 = .ok (.iconst 1, 1) := by decide +kernel
theorem dX5_pass_12 : decode cX5_pass 12 = .ok (.istore_n 3, 1) := by decide +kernel
theorem dX5_pass_13 : decode cX5_pass 13 = .ok (.iconst 0, 1) := by decide +kernel
theorem dX5_pass_14 : decode cX5_pass 14 = .ok (.istore 4, 2) := by decide +kernel
theorem dX5_pass_16 : decode cX5_pass 16 = .ok (.iconst 0, 1) := by decide +kernel
theorem dX5_pass_17 : decode cX5_pass 17 = .ok (.istore 5, 2) := by decide +kernel
theorem dX5_pass_19 : decode cX5_pass 19 = .ok (.iload 5, 2) := by decide +kernel
theorem dX5_pass_21 : decode cX5_pass 21 = .ok (.bipush 64, 2) := by decide +kernel
theorem dX5_pass_23 : decode cX5_pass 23 = .ok (.if_icmp .ge 186, 3) := by decide +kernel
theorem dX5_pass_26 : decode cX5_pass 26 = .ok (.iconst 0, 1) := by decide +kernel
theorem dX5_pass_27 : decode cX5_pass 27 = .ok (.istore 6, 2) := by decide +kernel
theorem dX5_pass_29 : decode cX5_pass 29 = .ok (.iload 6, 2) := by decide +kernel
theorem dX5_pass_31 : decode cX5_pass 31 = .ok (.bipush 64, 2) := by decide +kernel
theorem dX5_pass_33 : decode cX5_pass 33 = .ok (.if_icmp .ge 170, 3) := by decide +kernel
theorem dX5_pass_36 : decode cX5_pass 36 = .ok (.aload_n 0, 1) := by decide +kernel
theorem dX5_pass_37 : decode cX5_pass 37 = .ok (.iload 5, 2) := by decide +kernel
theorem dX5_pass_39 : decode cX5_pass 39 = .ok (.invokevirtual 47, 3) := by decide +kernel
theorem dX5_pass_42 : decode cX5_pass 42 = .ok (.ifCond .eq 161, 3) := by decide +kernel
theorem dX5_pass_45 : decode cX5_pass 45 = .ok (.iconst 0, 1) := by decide +kernel
theorem dX5_pass_46 : decode cX5_pass 46 = .ok (.istore 7, 2) := by decide +kernel
theorem dX5_pass_48 : decode cX5_pass 48 = .ok (.iload 7, 2) := by decide +kernel
theorem dX5_pass_50 : decode cX5_pass 50 = .ok (.bipush 64, 2) := by decide +kernel
theorem dX5_pass_52 : decode cX5_pass 52 = .ok (.if_icmp .ge 145, 3) := by decide +kernel
theorem dX5_pass_55 : decode cX5_pass 55 = .ok (.aload_n 0, 1) := by decide +kernel
theorem dX5_pass_56 : decode cX5_pass 56 = .ok (.iload 6, 2) := by decide +kernel
theorem dX5_pass_58 : decode cX5_pass 58 = .ok (.invokevirtual 47, 3) := by decide +kernel
theorem dX5_pass_61 : decode cX5_pass 61 = .ok (.ifCond .eq 136, 3) := by decide +kernel
theorem dX5_pass_64 : decode cX5_pass 64 = .ok (.iload 6, 2) := by decide +kernel
theorem dX5_pass_66 : decode cX5_pass 66 = .ok (.iload 5, 2) := by decide +kernel
theorem dX5_pass_68 : decode cX5_pass 68 = .ok (.if_icmp .eq 129, 3) := by decide +kernel
theorem dX5_pass_71 : decode cX5_pass 71 = .ok (.aload_n 0, 1) := by decide +kernel
theorem dX5_pass_72 : decode cX5_pass 72 = .ok (.iload_n 1, 1) := by decide +kernel
theorem dX5_pass_73 : decode cX5_pass 73 = .ok (.iload 5, 2) := by decide +kernel
theorem dX5_pass_75 : decode cX5_pass 75 = .ok (.iload 6, 2) := by decide +kernel
theorem dX5_pass_77 : decode cX5_pass 77 = .ok (.iload 7, 2) := by decide +kernel
theorem dX5_pass_79 : decode cX5_pass 79 = .ok (.iload_n 3, 1) := by decide +kernel
theorem dX5_pass_80 : decode cX5_pass 80 = .ok (.invokevirtual 76, 3) := by decide +kernel
theorem dX5_pass_83 : decode cX5_pass 83 = .ok (.ifCond .eq 108, 3) := by decide +kernel
theorem dX5_pass_86 : decode cX5_pass 86 = .ok (.aload_n 0, 1) := by decide +kernel
theorem dX5_pass_87 : decode cX5_pass 87 = .ok (.iload_n 1, 1) := by decide +kernel
theorem dX5_pass_88 : decode cX5_pass 88 = .ok (.iload_n 3, 1) := by decide +kernel
theorem dX5_pass_89 : decode cX5_pass 89 = .ok (.iload 5, 2) := by decide +kernel
theorem dX5_pass_91 : decode cX5_pass 91 = .ok (.iload 6, 2) := by decide +kernel
theorem dX5_pass_93 : decode cX5_pass 93 = .ok (.iload 7, 2) := by decide +kernel
theorem dX5_pass_95 : decode cX5_pass 95 = .ok (.invokevirtual 70, 3) := by decide +kernel
theorem dX5_pass_98 : decode cX5_pass 98 = .ok (.ifCond .ge 93, 3) := by decide +kernel
theorem dX5_pass_101 : decode cX5_pass 101 = .ok (.iload_n 3, 1) := by decide +kernel
theorem dX5_pass_102 : decode cX5_pass 102 = .ok (.iconst 1, 1) := by decide +kernel
theorem dX5_pass_103 : decode cX5_pass 103 = .ok (.if_icmp .ne 26, 3) := by decide +kernel
theorem dX5_pass_106 : decode cX5_pass 106 = .ok (.aload_n 0, 1) := by decide +kernel
theorem dX5_pass_107 : decode cX5_pass 107 = .ok (.iload_n 1, 1) := by decide +kernel
theorem dX5_pass_108 : decode cX5_pass 108 = .ok (.iload 5, 2) := by decide +kernel
theorem dX5_pass_110 : decode cX5_pass 110 = .ok (.iload 6, 2) := by decide +kernel
theorem dX5_pass_112 : decode cX5_pass 112 = .ok (.iload 7, 2) := by decide +kernel
theorem dX5_pass_114 : decode cX5_pass 114 = .ok (.iload_n 2, 1) := by decide +kernel
theorem dX5_pass_115 : decode cX5_pass 115 = .ok (.ifCond .ne 7, 3) := by decide +kernel
theorem dX5_pass_118 : decode cX5_pass 118 = .ok (.iconst 1, 1) := by decide +kernel
theorem dX5_pass_119 : decode cX5_pass 119 = .ok (.goto 4, 3) := by decide +kernel
theorem dX5_pass_122 : decode cX5_pass 122 = .ok (.iconst 0, 1) := by decide +kernel
theorem dX5_pass_123 : decode cX5_pass 123 = .ok (.invokevirtual 79, 3) := by decide +kernel
theorem dX5_pass_126 : decode cX5_pass 126 = .ok (.goto 42, 3) := by decide +kernel
theorem dX5_pass_129 : decode cX5_pass 129 = .ok (.aload_n 0, 1) := by decide +kernel
theorem dX5_pass_130 : decode cX5_pass 130 = .ok (.iload_n 1, 1) := by decide +kernel
theorem dX5_pass_131 : decode cX5_pass 131 = .ok (.iload 5, 2) := by decide +kernel
theorem dX5_pass_133 : decode cX5_pass 133 = .ok (.iload 6, 2) := by decide +kernel
theorem dX5_pass_135 : decode cX5_pass 135 = .ok (.iload 7, 2) := by decide +kernel
theorem dX5_pass_137 : decode cX5_pass 137 = .ok (.iload_n 2, 1) := by decide +kernel
theorem dX5_pass_138 : decode cX5_pass 138 = .ok (.iconst 1, 1) := by decide +kernel
theorem dX5_pass_139 : decode cX5_pass 139 = .ok (.isub, 1) := by decide +kernel
theorem dX5_pass_140 : decode cX5_pass 140 = .ok (.invokevirtual 83, 3) := by decide +kernel
theorem dX5_pass_143 : decode cX5_pass 143 = .ok (.ifCond .ne 20, 3) := by decide +kernel
theorem dX5_pass_146 : decode cX5_pass 146 = .ok (.aload_n 0, 1) := by decide +kernel
theorem dX5_pass_147 : decode cX5_pass 147 = .ok (.iload_n 1, 1) := by decide +kernel
theorem dX5_pass_148 : decode cX5_pass 148 = .ok (.iload 5, 2) := by decide +kernel
theorem dX5_pass_150 : decode cX5_pass 150 = .ok (.iload 6, 2) := by decide +kernel
theorem dX5_pass_152 : decode cX5_pass 152 = .ok (.iload 7, 2) := by decide +kernel
theorem dX5_pass_154 : decode cX5_pass 154 = .ok (.iload_n 2, 1) := by decide +kernel
theorem dX5_pass_155 : decode cX5_pass 155 = .ok (.iconst 1, 1) := by decide +kernel
theorem dX5_pass_156 : decode cX5_pass 156 = .ok (.isub, 1) := by decide +kernel
theorem dX5_pass_157 : decode cX5_pass 157 = .ok (.invokevirtual 86, 3) := by decide +kernel
theorem dX5_pass_160 : decode cX5_pass 160 = .ok (.ifCond .eq 7, 3) := by decide +kernel
theorem dX5_pass_163 : decode cX5_pass 163 = .ok (.iconst 1, 1) := by decide +kernel
theorem dX5_pass_164 : decode cX5_pass 164 = .ok (.goto 4, 3) := by decide +kernel
theorem dX5_pass_167 : decode cX5_pass 167 = .ok (.iconst 0, 1) := by decide +kernel
theorem dX5_pass_168 : decode cX5_pass 168 = .ok (.istore 8, 2) := by decide +kernel
theorem dX5_pass_170 : decode cX5_pass 170 = .ok (.iload 8, 2) := by decide +kernel
theorem dX5_pass_172 : decode cX5_pass 172 = .ok (.ifCond .eq 19, 3) := by decide +kernel
theorem dX5_pass_175 : decode cX5_pass 175 = .ok (.aload_n 0, 1) := by decide +kernel
theorem dX5_pass_176 : decode cX5_pass 176 = .ok (.iload_n 1, 1) := by decide +kernel
theorem dX5_pass_177 : decode cX5_pass 177 = .ok (.iload_n 3, 1) := by decide +kernel
theorem dX5_pass_178 : decode cX5_pass 178 = .ok (.iload 5, 2) := by decide +kernel
theorem dX5_pass_180 : decode cX5_pass 180 = .ok (.iload 6, 2) := by decide +kernel
theorem dX5_pass_182 : decode cX5_pass 182 = .ok (.iload 7, 2) := by decide +kernel
theorem dX5_pass_184 : decode cX5_pass 184 = .ok (.iload_n 2, 1) := by decide +kernel
theorem dX5_pass_185 : decode cX5_pass 185 = .ok (.invokevirtual 89, 3) := by decide +kernel
theorem dX5_pass_188 : decode cX5_pass 188 = .ok (.iconst 1, 1) := by decide +kernel
theorem dX5_pass_189 : decode cX5_pass 189 = .ok (.istore 4, 2) := by decide +kernel
theorem dX5_pass_191 : decode cX5_pass 191 = .ok (.iinc 7 1, 3) := by decide +kernel
theorem dX5_pass_194 : decode cX5_pass 194 = .ok (.goto (-146), 3) := by decide +kernel
theorem dX5_pass_197 : decode cX5_pass 197 = .ok (.iinc 6 1, 3) := by decide +kernel
theorem dX5_pass_200 : decode cX5_pass 200 = .ok (.goto (-171), 3) := by decide +kernel
theorem dX5_pass_203 : decode cX5_pass 203 = .ok (.iinc 5 1, 3) := by decide +kernel
theorem dX5_pass_206 : decode cX5_pass 206 = .ok (.goto (-187), 3) := by decide +kernel
theorem dX5_pass_209 : decode cX5_pass 209 = .ok (.iload 4, 2) := by decide +kernel
theorem dX5_pass_211 : decode cX5_pass 211 = .ok (.ireturn, 1) := by decide +kernel
set_option maxRecDepth 20000 in
theorem ggX5_build_X5_build2 : GoodIn wsX5_build wsX5_build2 := goodIn_r _ [7, 1, 8, 9, 10, 6, 11, 2, 12, 13, 14, 15, 16, 17, 18, 19, 20, 21, 22, 23, 24, 25, 26, 27, 28, 29, 30, 31, 32, 33, 34, 35, 36, 37, 38, 39, 40, 41, 42, 43, 44, 45, 46, 47, 48, 49, 50, 51, 52, 53, 54, 55, 56, 57, 58, 59, 60, 61, 62, 63, 64, 65, 66, 67, 68, 69, 70, 71, 72, 73, 74, 75, 76, 77, 78, 79, 80, 81, 82, 83, 84, 85, 86, 87, 88, 89, 90] (by decide +kernel) (by decide +kernel)
set_option maxRecDepth 20000 in
theorem gX5_build_X5_build2 : GoodIn wsX5_build (wsV RX5 93 RX5 yX5_build2 wsX5_build2) := goodIn_app (goodIn_of _ (by decide +kernel)) ggX5_build_X5_build2
set_option maxRecDepth 20000 in
theorem ggX5_build_X5_passAll : GoodIn wsX5_build wsX5_passAll := goodIn_r _ [11, 1, 2, 12, 13, 14, 6, 15, 16, 17, 18, 19, 20, 21, 22, 23, 24, 25, 26, 27, 28, 29, 30, 31, 32, 33, 34, 35, 36, 37, 38, 39, 40, 41, 42, 43, 44, 45, 46, 47, 48, 49, 50, 51, 52, 53, 54, 55, 56, 57, 58, 59, 60, 61, 62, 63, 64, 65, 66, 67, 68, 69, 70, 71, 72, 73, 74, 75, 76, 77, 78, 79, 80, 81, 82, 83, 84, 85, 86, 87, 88, 89, 90] (by decide +kernel) (by decide +kernel)
set_option maxRecDepth 20000 in
theorem gX5_build_X5_passAll : GoodIn wsX5_build (wsV RX5 97 RX5 yX5_passAll wsX5_passAll) := goodIn_app (goodIn_of _ (by decide +kernel)) ggX5_build_X5_passAll
theorem dX5_build_0 : decode cX5_build 0 = .ok (.aload_n 0, 1) := by decide +kernel
theorem dX5_build_1 : decode cX5_build 1 = .ok (.getfield 14, 3) := by decide +kernel
theorem dX5_build_4 : decode cX5_build 4 = .ok (.iload_n 1, 1) := by decide +kernel
theorem dX5_build_5 : decode cX5_build 5 = .ok (.baload, 1) := by decide +kernel
theorem dX5_build_6 : decode cX5_build 6 = .ok (.ifCond .eq 4, 3) := by decide +kernel
theorem dX5_build_9 : decode cX5_build 9 = .ok (.return_, 1) := by decide +kernel
theorem dX5_build_10 : decode cX5_build 10 = .ok (.iconst 1, 1) := by decide +kernel
theorem dX5_build_11 : decode cX5_build 11 = .ok (.istore_n 2, 1) := by decide +kernel
theorem dX5_build_12 : decode cX5_build 12 = .ok (.iload_n 1, 1) := by decide +kernel
theorem dX5_build_13 : decode cX5_build 13 = .ok (.iconst 1, 1) := by decide +kernel
theorem dX5_build_14 : decode cX5_build 14 = .ok (.if_icmp .ne 46, 3) := by decide +kernel
theorem dX5_build_17 : decode cX5_build 17 = .ok (.iconst 2, 1) := by decide +kernel
theorem dX5_build_18 : decode cX5_build 18 = .ok (.istore_n 3, 1) := by decide +kernel
theorem dX5_build_19 : decode cX5_build 19 = .ok (.iload_n 3, 1) := by decide +kernel
theorem dX5_build_20 : decode cX5_build 20 = .ok (.iconst 5, 1) := by decide +kernel
theorem dX5_build_21 : decode cX5_build 21 = .ok (.if_icmp .gt 39, 3) := by decide +kernel
theorem dX5_build_24 : decode cX5_build 24 = .ok (.aload_n 0, 1) := by decide +kernel
theorem dX5_build_25 : decode cX5_build 25 = .ok (.iload_n 3, 1) := by decide +kernel
theorem dX5_build_26 : decode cX5_build 26 = .ok (.invokevirtual 93, 3) := by decide +kernel
theorem dX5_build_29 : decode cX5_build 29 = .ok (.aload_n 0, 1) := by decide +kernel
theorem dX5_build_30 : decode cX5_build 30 = .ok (.getfield 18, 3) := by decide +kernel
theorem dX5_build_33 : decode cX5_build 33 = .ok (.iload_n 3, 1) := by decide +kernel
theorem dX5_build_34 : decode cX5_build 34 = .ok (.iaload, 1) := by decide +kernel
theorem dX5_build_35 : decode cX5_build 35 = .ok (.iconst 1, 1) := by decide +kernel
theorem dX5_build_36 : decode cX5_build 36 = .ok (.iadd, 1) := by decide +kernel
theorem dX5_build_37 : decode cX5_build 37 = .ok (.iload_n 2, 1) := by decide +kernel
theorem dX5_build_38 : decode cX5_build 38 = .ok (.if_icmp .le 14, 3) := by decide +kernel
theorem dX5_build_41 : decode cX5_build 41 = .ok (.aload_n 0, 1) := by decide +kernel
theorem dX5_build_42 : decode cX5_build 42 = .ok (.getfield 18, 3) := by decide +kernel
theorem dX5_build_45 : decode cX5_build 45 = .ok (.iload_n 3, 1) := by decide +kernel
theorem dX5_build_46 : decode cX5_build 46 = .ok (.iaload, 1) := by decide +kernel
theorem dX5_build_47 : decode cX5_build 47 = .ok (.iconst 1, 1) := by decide +kernel
theorem dX5_build_48 : decode cX5_build 48 = .ok (.iadd, 1) := by decide +kernel
theorem dX5_build_49 : decode cX5_build 49 = .ok (.goto 4, 3) := by decide +kernel
theorem dX5_build_52 : decode cX5_build 52 = .ok (.iload_n 2, 1) := by decide +kernel
theorem dX5_build_53 : decode cX5_build 53 = .ok (.istore_n 2, 1) := by decide +kernel
theorem dX5_build_54 : decode cX5_build 54 = .ok (.iinc 3 1, 3) := by decide +kernel
theorem dX5_build_57 : decode cX5_build 57 = .ok (.goto (-38), 3) := by decide +kernel
theorem dX5_build_60 : decode cX5_build 60 = .ok (.aload_n 0, 1) := by decide +kernel
theorem dX5_build_61 : decode cX5_build 61 = .ok (.iload_n 1, 1) := by decide +kernel
theorem dX5_build_62 : decode cX5_build 62 = .ok (.iload_n 2, 1) := by decide +kernel
theorem dX5_build_63 : decode cX5_build 63 = .ok (.invokevirtual 97, 3) := by decide +kernel
theorem dX5_build_66 : decode cX5_build 66 = .ok (.return_, 1) := by decide +kernel
set_option maxRecDepth 20000 in
theorem ggX5_build2_X5_passAll : GoodIn wsX5_build2 wsX5_passAll := goodIn_r _ [6, 1, 7, 8, 9, 10, 5, 11, 12, 13, 14, 15, 16, 17, 18, 19, 20, 21, 22, 23, 24, 25, 26, 27, 28, 29, 30, 31, 32, 33, 34, 35, 36, 37, 38, 39, 40, 41, 42, 43, 44, 45, 46, 47, 48, 49, 50, 51, 52, 53, 54, 55, 56, 57, 58, 59, 60, 61, 62, 63, 64, 65, 66, 67, 68, 69, 70, 71, 72, 73, 74, 75, 76, 77, 78, 79, 80, 81, 82, 83, 84, 85, 86] (by decide +kernel) (by decide +kernel)
set_option maxRecDepth 20000 in
theorem gX5_build2_X5_passAll : GoodIn wsX5_build2 (wsV RX5 97 RX5 yX5_passAll wsX5_passAll) := goodIn_app (goodIn_of _ (by decide +kernel)) ggX5_build2_X5_passAll
theorem dX5_build2_0 : decode cX5_build2 0 = .ok (.aload_n 0, 1) := by decide +kernel
theorem dX5_build2_1 : decode cX5_build2 1 = .ok (.getfield 14, 3) := by decide +kernel
theorem dX5_build2_4 : decode cX5_build2 4 = .ok (.iload_n 1, 1) := by decide +kernel
theorem dX5_build2_5 : decode cX5_build2 5 = .ok (.baload, 1) := by decide +kernel
theorem dX5_build2_6 : decode cX5_build2 6 = .ok (.ifCond .ne 9, 3) := by decide +kernel
theorem dX5_build2_9 : decode cX5_build2 9 = .ok (.aload_n 0, 1) := by decide +kernel
theorem dX5_build2_10 : decode cX5_build2 10 = .ok (.iload_n 1, 1) := by decide +kernel
theorem dX5_build2_11 : decode cX5_build2 11 = .ok (.iconst 1, 1) := by decide +kernel
theorem dX5_build2_12 : decode cX5_build2 12 = .ok (.invokevirtual 97, 3) := by decide +kernel
theorem dX5_build2_15 : decode cX5_build2 15 = .ok (.return_, 1) := by decide +kernel
set_option maxRecDepth 20000 in
theorem ggX5_passAll_X5_pass : GoodIn wsX5_passAll wsX5_pass := goodIn_r _ [7, 8, 9, 10, 6, 11, 12, 13, 14, 15, 16, 17, 18, 19, 20, 21, 22, 23, 24, 25, 26, 27, 28, 29, 30, 31, 32, 33, 34, 35, 36, 37, 38, 39, 40, 41, 42, 43, 44, 45, 46, 47, 48, 49, 50, 51, 52, 53, 54, 55, 56, 57, 58, 59, 60, 61, 62, 63, 64, 65, 66, 67, 68, 69, 70, 71, 72, 73, 74, 75, 76, 77, 78, 79, 80, 81, 82] (by decide +kernel) (by decide +kernel)
set_option maxRecDepth 20000 in
theorem gX5_passAll_X5_pass : GoodIn wsX5_passAll (wsV RX5 101 RX5 yX5_pass wsX5_pass) := goodIn_app (goodIn_of _ (by decide +kernel)) ggX5_passAll_X5_pass
theorem dX5_passAll_0 : decode cX5_passAll 0 = .ok (.aload_n 0, 1) := by decide +kernel
theorem dX5_passAll_1 : decode cX5_passAll 1 = .ok (.getfield 14, 3) := by decide +kernel
theorem dX5_passAll_4 : decode cX5_passAll 4 = .ok (.iload_n 1, 1) := by decide +kernel
theorem dX5_passAll_5 : decode cX5_passAll 5 = .ok (.iconst 1, 1) := by decide +kernel
theorem dX5_passAll_6 : decode cX5_passAll 6 = .ok (.bastore, 1) := by decide +kernel
theorem dX5_passAll_7 : decode cX5_passAll 7 = .ok (.aload_n 0, 1) := by decide +kernel
theorem dX5_passAll_8 : decode cX5_passAll 8 = .ok (.getfield 18, 3) := by decide +kernel
theorem dX5_passAll_11 : decode cX5_passAll 11 = .ok (.iload_n 1, 1) := by decide +kernel
theorem dX5_passAll_12 : decode cX5_passAll 12 = .ok (.iconst (-1), 1) := by decide +kernel
theorem dX5_passAll_13 : decode cX5_passAll 13 = .ok (.iastore, 1) := by decide +kernel
theorem dX5_passAll_14 : decode cX5_passAll 14 = .ok (.iconst 0, 1) := by decide +kernel
theorem dX5_passAll_15 : decode cX5_passAll 15 = .ok (.istore_n 3, 1) := by decide +kernel
theorem dX5_passAll_16 : decode cX5_passAll 16 = .ok (.iconst 0, 1) := by decide +kernel
theorem dX5_passAll_17 : decode cX5_passAll 17 = .ok (.istore 4, 2) := by decide +kernel
theorem dX5_passAll_19 : decode cX5_passAll 19 = .ok (.iload 4, 2) := by decide +kernel
theorem dX5_passAll_21 : decode cX5_passAll 21 = .ok (.iload_n 2, 1) := by decide +kernel
theorem dX5_passAll_22 : decode cX5_passAll 22 = .ok (.if_icmp .le 8, 3) := by decide +kernel
theorem dX5_passAll_25 : decode cX5_passAll 25 = .ok (.iload_n 3, 1) := by decide +kernel
theorem dX5_passAll_26 : decode cX5_passAll 26 = .ok (.iconst 2, 1) := by decide +kernel
theorem dX5_passAll_27 : decode cX5_passAll 27 = .ok (.if_icmp .ge 53, 3) := by decide +kernel
theorem dX5_passAll_30 : decode cX5_passAll 30 = .ok (.aload_n 0, 1) := by decide +kernel
theorem dX5_passAll_31 : decode cX5_passAll 31 = .ok (.iload_n 1, 1) := by decide +kernel
theorem dX5_passAll_32 : decode cX5_passAll 32 = .ok (.iload 4, 2) := by decide +kernel
theorem dX5_passAll_34 : decode cX5_passAll 34 = .ok (.invokevirtual 101, 3) := by decide +kernel
theorem dX5_passAll_37 : decode cX5_passAll 37 = .ok (.istore 5, 2) := by decide +kernel
theorem dX5_passAll_39 : decode cX5_passAll 39 = .ok (.aload_n 0, 1) := by decide +kernel
theorem dX5_passAll_40 : decode cX5_passAll 40 = .ok (.getfield 18, 3) := by decide +kernel
theorem dX5_passAll_43 : decode cX5_passAll 43 = .ok (.iload_n 1, 1) := by decide +kernel
theorem dX5_passAll_44 : decode cX5_passAll 44 = .ok (.iload 5, 2) := by decide +kernel
theorem dX5_passAll_46 : decode cX5_passAll 46 = .ok (.ifCond .eq 8, 3) := by decide +kernel
theorem dX5_passAll_49 : decode cX5_passAll 49 = .ok (.iload 4, 2) := by decide +kernel
theorem dX5_passAll_51 : decode cX5_passAll 51 = .ok (.goto 9, 3) := by decide +kernel
theorem dX5_passAll_54 : decode cX5_passAll 54 = .ok (.aload_n 0, 1) := by decide +kernel
theorem dX5_passAll_55 : decode cX5_passAll 55 = .ok (.getfield 18, 3) := by decide +kernel
theorem dX5_passAll_58 : decode cX5_passAll 58 = .ok (.iload_n 1, 1) := by decide +kernel
theorem dX5_passAll_59 : decode cX5_passAll 59 = .ok (.iaload, 1) := by decide +kernel
theorem dX5_passAll_60 : decode cX5_passAll 60 = .ok (.iastore, 1) := by decide +kernel
theorem dX5_passAll_61 : decode cX5_passAll 61 = .ok (.iload 5, 2) := by decide +kernel
theorem dX5_passAll_63 : decode cX5_passAll 63 = .ok (.ifCond .eq 7, 3) := by decide +kernel
theorem dX5_passAll_66 : decode cX5_passAll 66 = .ok (.iconst 0, 1) := by decide +kernel
theorem dX5_passAll_67 : decode cX5_passAll 67 = .ok (.goto 6, 3) := by decide +kernel
theorem dX5_passAll_70 : decode cX5_passAll 70 = .ok (.iload_n 3, 1) := by decide +kernel
theorem dX5_passAll_71 : decode cX5_passAll 71 = .ok (.iconst 1, 1) := by decide +kernel
theorem dX5_passAll_72 : decode cX5_passAll 72 = .ok (.iadd, 1) := by decide +kernel
theorem dX5_passAll_73 : decode cX5_passAll 73 = .ok (.istore_n 3, 1) := by decide +kernel
theorem dX5_passAll_74 : decode cX5_passAll 74 = .ok (.iinc 4 1, 3) := by decide +kernel
theorem dX5_passAll_77 : decode cX5_passAll 77 = .ok (.goto (-58), 3) := by decide +kernel
theorem dX5_passAll_80 : decode cX5_passAll 80 = .ok (.return_, 1) := by decide +kernel
set_option maxRecDepth 20000 in
theorem ggX5_distanceOf_X5_build : GoodIn wsX5_distanceOf wsX5_build := goodIn_r _ [5, 6, 7, 8, 9, 10, 4, 11, 12, 13, 14, 15, 16, 17, 18, 19, 20, 21, 22, 23, 24, 25, 26, 27, 28, 29, 30, 31, 32, 33, 34, 35, 36, 37, 38, 39, 40, 41, 42, 43, 44, 45, 46, 47, 48, 49, 50, 51, 52, 53, 54, 55, 56, 57, 58, 59, 60, 61, 62, 63, 64, 65, 66, 67, 68, 69, 70, 71, 72, 73, 74, 75, 76, 77, 78, 79, 80, 81, 82, 83, 84, 85, 86, 87, 88, 89, 90, 91, 92, 93, 94] (by decide +kernel) (by decide +kernel)
set_option maxRecDepth 20000 in
theorem gX5_distanceOf_X5_build : GoodIn wsX5_distanceOf (wsV RX5 104 RX5 yX5_build wsX5_build) := goodIn_app (goodIn_of _ (by decide +kernel)) ggX5_distanceOf_X5_build
set_option maxRecDepth 20000 in
theorem ggX5_distanceOf_X5_known : GoodIn wsX5_distanceOf wsX5_known := goodIn_r _ [50, 51, 52, 53, 54, 4, 55, 56, 81, 82, 83, 84, 85, 86, 87, 88, 89, 90, 91, 92, 93, 94] (by decide +kernel) (by decide +kernel)
set_option maxRecDepth 20000 in
theorem gX5_distanceOf_X5_known : GoodIn wsX5_distanceOf (wsV RX5 70 RX5 yX5_known wsX5_known) := goodIn_app (goodIn_of _ (by decide +kernel)) ggX5_distanceOf_X5_known
theorem dX5_distanceOf_0 : decode cX5_distanceOf 0 = .ok (.iload_n 1, 1) := by decide +kernel
theorem dX5_distanceOf_1 : decode cX5_distanceOf 1 = .ok (.ifCond .ne 5, 3) := by decide +kernel
theorem dX5_distanceOf_4 : decode cX5_distanceOf 4 = .ok (.iconst (-1), 1) := by decide +kernel
theorem dX5_distanceOf_5 : decode cX5_distanceOf 5 = .ok (.ireturn, 1) := by decide +kernel
theorem dX5_distanceOf_6 : decode cX5_distanceOf 6 = .ok (.aload_n 0, 1) := by decide +kernel
theorem dX5_distanceOf_7 : decode cX5_distanceOf 7 = .ok (.iload_n 1, 1) := by decide +kernel
theorem dX5_distanceOf_8 : decode cX5_distanceOf 8 = .ok (.invokevirtual 104, 3) := by decide +kernel
theorem dX5_distanceOf_11 : decode cX5_distanceOf 11 = .ok (.aload_n 0, 1) := by decide +kernel
theorem dX5_distanceOf_12 : decode cX5_distanceOf 12 = .ok (.iload_n 1, 1) := by decide +kernel
theorem dX5_distanceOf_13 : decode cX5_distanceOf 13 = .ok (.iload 5, 2) := by decide +kernel
theorem dX5_distanceOf_15 : decode cX5_distanceOf 15 = .ok (.iload_n 2, 1) := by decide +kernel
theorem dX5_distanceOf_16 : decode cX5_distanceOf 16 = .ok (.iload_n 3, 1) := by decide +kernel
theorem dX5_distanceOf_17 : decode cX5_distanceOf 17 = .ok (.iload 4, 2) := by decide +kernel
theorem dX5_distanceOf_19 : decode cX5_distanceOf 19 = .ok (.invokevirtual 70, 3) := by decide +kernel
theorem dX5_distanceOf_22 : decode cX5_distanceOf 22 = .ok (.ireturn, 1) := by decide +kernel
theorem dX5_size_0 : decode cX5_size 0 = .ok (.aload_n 0, 1) := by decide +kernel
theorem dX5_size_1 : decode cX5_size 1 = .ok (.iconst 0, 1) := by decide +kernel
theorem dX5_size_2 : decode cX5_size 2 = .ok (.putfield 32, 3) := by decide +kernel
theorem dX5_size_5 : decode cX5_size 5 = .ok (.iload_n 1, 1) := by decide +kernel
theorem dX5_size_6 : decode cX5_size 6 = .ok (.ifCond .eq 10, 3) := by decide +kernel
theorem dX5_size_9 : decode cX5_size 9 = .ok (.aload_n 0, 1) := by decide +kernel
theorem dX5_size_10 : decode cX5_size 10 = .ok (.getfield 29, 3) := by decide +kernel
theorem dX5_size_13 : decode cX5_size 13 = .ok (.goto 7, 3) := by decide +kernel
theorem dX5_size_16 : decode cX5_size 16 = .ok (.aload_n 0, 1) := by decide +kernel
theorem dX5_size_17 : decode cX5_size 17 = .ok (.getfield 25, 3) := by decide +kernel
theorem dX5_size_20 : decode cX5_size 20 = .ok (.ireturn, 1) := by decide +kernel
theorem dX5_isKind_0 : decode cX5_isKind 0 = .ok (.iload_n 0, 1) := by decide +kernel
theorem dX5_isKind_1 : decode cX5_isKind 1 = .ok (.ifCond .le 13, 3) := by decide +kernel
theorem dX5_isKind_4 : decode cX5_isKind 4 = .ok (.iload_n 0, 1) := by decide +kernel
theorem dX5_isKind_5 : decode cX5_isKind 5 = .ok (.bipush 6, 2) := by decide +kernel
theorem dX5_isKind_7 : decode cX5_isKind 7 = .ok (.if_icmp .ge 7, 3) := by decide +kernel
theorem dX5_isKind_10 : decode cX5_isKind 10 = .ok (.iconst 1, 1) := by decide +kernel
theorem dX5_isKind_11 : decode cX5_isKind 11 = .ok (.goto 4, 3) := by decide +kernel
theorem dX5_isKind_14 : decode cX5_isKind 14 = .ok (.iconst 0, 1) := by decide +kernel
theorem dX5_isKind_15 : decode cX5_isKind 15 = .ok (.ireturn, 1) := by decide +kernel
set_option maxRecDepth 20000 in
theorem ggX5_distance_X5_isKind : GoodIn wsX5_distance wsX5_isKind := goodIn_r _ [5] (by decide +kernel) (by decide +kernel)
set_option maxRecDepth 20000 in
theorem gX5_distance_X5_isKind : GoodIn wsX5_distance (va_wsS RX5 107 yX5_isKind wsX5_isKind) := goodIn_app (goodIn_of _ (by decide +kernel)) ggX5_distance_X5_isKind
set_option maxRecDepth 20000 in
theorem ggX5_distance_X5_isPosition : GoodIn wsX5_distance wsX5_isPosition := goodIn_r _ [9, 10, 11, 12, 13, 4, 14, 15, 16, 17, 18, 19, 20, 21, 22, 23, 24, 25, 26, 27, 28, 29, 30, 31, 32, 89, 90, 91, 92, 93, 94, 95, 96, 97, 98, 99, 100, 101, 102] (by decide +kernel) (by decide +kernel)
set_option maxRecDepth 20000 in
theorem gX5_distance_X5_isPosition : GoodIn wsX5_distance (wsV RX5 76 RX5 yX5_isPosition wsX5_isPosition) := goodIn_app (goodIn_of _ (by decide +kernel)) ggX5_distance_X5_isPosition
set_option maxRecDepth 20000 in
theorem ggX5_distance_X5_distanceOf : GoodIn wsX5_distance wsX5_distanceOf := goodIn_r _ [36, 37, 38, 39, 4, 40, 41, 42, 43, 44, 45, 46, 47, 48, 49, 50, 51, 52, 53, 54, 11, 12, 13, 14, 15, 10, 6, 7, 8, 9, 16, 17, 18, 19, 20, 21, 22, 23, 24, 25, 26, 27, 28, 29, 30, 31, 32, 55, 56, 57, 58, 59, 60, 61, 62, 63, 64, 65, 66, 67, 68, 69, 70, 71, 72, 73, 74, 75, 76, 77, 78, 79, 80, 81, 82, 83, 84, 85, 86, 87, 88, 89, 90, 91, 92, 93, 94, 95, 96, 97, 98, 99, 100, 101, 102] (by decide +kernel) (by decide +kernel)
set_option maxRecDepth 20000 in
theorem gX5_distance_X5_distanceOf : GoodIn wsX5_distance (wsV RX5 110 RX5 yX5_distanceOf wsX5_distanceOf) := goodIn_app (goodIn_of _ (by decide +kernel)) ggX5_distance_X5_distanceOf
theorem dX5_distance_0 : decode cX5_distance 0 = .ok (.aload_n 0, 1) := by decide +kernel
theorem dX5_distance_1 : decode cX5_distance 1 = .ok (.iload_n 1, 1) := by decide +kernel
theorem dX5_distance_2 : decode cX5_distance 2 = .ok (.invokestatic 107, 3) := by decide +kernel
theorem dX5_distance_5 : decode cX5_distance 5 = .ok (.ifCond .eq 21, 3) := by decide +kernel
theorem dX5_distance_8 : decode cX5_distance 8 = .ok (.aload_n 0, 1) := by decide +kernel
theorem dX5_distance_9 : decode cX5_distance 9 = .ok (.iload_n 1, 1) := by decide +kernel
theorem dX5_distance_10 : decode cX5_distance 10 = .ok (.iload_n 2, 1) := by decide +kernel
theorem dX5_distance_11 : decode cX5_distance 11 = .ok (.iload_n 3, 1) := by decide +kernel
theorem dX5_distance_12 : decode cX5_distance 12 = .ok (.iload 4, 2) := by decide +kernel
theorem dX5_distance_14 : decode cX5_distance 14 = .ok (.iload 5, 2) := by decide +kernel
theorem dX5_distance_16 : decode cX5_distance 16 = .ok (.invokevirtual 76, 3) := by decide +kernel
theorem dX5_distance_19 : decode cX5_distance 19 = .ok (.ifCond .eq 7, 3) := by decide +kernel
theorem dX5_distance_22 : decode cX5_distance 22 = .ok (.iconst 0, 1) := by decide +kernel
theorem dX5_distance_23 : decode cX5_distance 23 = .ok (.goto 4, 3) := by decide +kernel
theorem dX5_distance_26 : decode cX5_distance 26 = .ok (.iconst 1, 1) := by decide +kernel
theorem dX5_distance_27 : decode cX5_distance 27 = .ok (.putfield 32, 3) := by decide +kernel
theorem dX5_distance_30 : decode cX5_distance 30 = .ok (.aload_n 0, 1) := by decide +kernel
theorem dX5_distance_31 : decode cX5_distance 31 = .ok (.getfield 32, 3) := by decide +kernel
theorem dX5_distance_34 : decode cX5_distance 34 = .ok (.ifCond .le 7, 3) := by decide +kernel
theorem dX5_distance_37 : decode cX5_distance 37 = .ok (.iconst 0, 1) := by decide +kernel
theorem dX5_distance_38 : decode cX5_distance 38 = .ok (.goto 14, 3) := by decide +kernel
theorem dX5_distance_41 : decode cX5_distance 41 = .ok (.aload_n 0, 1) := by decide +kernel
theorem dX5_distance_42 : decode cX5_distance 42 = .ok (.iload_n 1, 1) := by decide +kernel
theorem dX5_distance_43 : decode cX5_distance 43 = .ok (.iload_n 2, 1) := by decide +kernel
theorem dX5_distance_44 : decode cX5_distance 44 = .ok (.iload_n 3, 1) := by decide +kernel
theorem dX5_distance_45 : decode cX5_distance 45 = .ok (.iload 4, 2) := by decide +kernel
theorem dX5_distance_47 : decode cX5_distance 47 = .ok (.iload 5, 2) := by decide +kernel
theorem dX5_distance_49 : decode cX5_distance 49 = .ok (.invokevirtual 110, 3) := by decide +kernel
theorem dX5_distance_52 : decode cX5_distance 52 = .ok (.ireturn, 1) := by decide +kernel
set_option maxRecDepth 20000 in
theorem ggX5_count_X5_isKind : GoodIn wsX5_count wsX5_isKind := goodIn_r _ [6] (by decide +kernel) (by decide +kernel)
set_option maxRecDepth 20000 in
theorem gX5_count_X5_isKind : GoodIn wsX5_count (va_wsS RX5 107 yX5_isKind wsX5_isKind) := goodIn_app (goodIn_of _ (by decide +kernel)) ggX5_count_X5_isKind
set_option maxRecDepth 20000 in
theorem ggX5_count_X5_build : GoodIn wsX5_count wsX5_build := goodIn_r _ [10, 11, 12, 13, 14, 15, 5, 16, 17, 18, 19, 20, 21, 22, 23, 24, 25, 26, 27, 28, 29, 30, 31, 32, 33, 34, 35, 36, 37, 38, 39, 40, 41, 42, 43, 44, 45, 46, 47, 48, 49, 50, 51, 52, 53, 54, 55, 56, 57, 58, 59, 60, 2, 61, 62, 63, 64, 65, 66, 67, 68, 69, 70, 71, 72, 73, 74, 75, 76, 77, 78, 79, 80, 81, 82, 83, 84, 89, 90, 91, 92, 93, 94, 95, 96, 97, 98, 99, 100, 101, 102] (by decide +kernel) (by decide +kernel)
set_option maxRecDepth 20000 in
theorem gX5_count_X5_build : GoodIn wsX5_count (wsV RX5 104 RX5 yX5_build wsX5_build) := goodIn_app (goodIn_of _ (by decide +kernel)) ggX5_count_X5_build
set_option maxRecDepth 20000 in
theorem ggX5_count_X5_isOne : GoodIn wsX5_count wsX5_isOne := goodIn_r _ [88, 25, 26, 27, 5, 28, 29, 30, 52, 53, 54, 55, 56, 57, 58, 59, 60, 2, 31, 32, 33, 34, 35, 36, 37, 38, 39, 40, 41, 42, 43, 44, 45, 46, 47, 48, 49, 50, 51, 89, 90, 91, 92, 93, 94, 95, 96, 97, 98, 99, 100, 101, 102] (by decide +kernel) (by decide +kernel)
set_option maxRecDepth 20000 in
theorem gX5_count_X5_isOne : GoodIn wsX5_count (wsV RX5 113 RX5 yX5_isOne wsX5_isOne) := goodIn_app (goodIn_of _ (by decide +kernel)) ggX5_count_X5_isOne
theorem dX5_count_0 : decode cX5_count 0 = .ok (.aload_n 0, 1) := by decide +kernel
theorem dX5_count_1 : decode cX5_count 1 = .ok (.iload_n 1, 1) := by decide +kernel
theorem dX5_count_2 : decode cX5_count 2 = .ok (.invokestatic 107, 3) := by decide +kernel
theorem dX5_count_5 : decode cX5_count 5 = .ok (.ifCond .eq 16, 3) := by decide +kernel
theorem dX5_count_8 : decode cX5_count 8 = .ok (.iload_n 2, 1) := by decide +kernel
theorem dX5_count_9 : decode cX5_count 9 = .ok (.ifCond .lt 12, 3) := by decide +kernel
theorem dX5_count_12 : decode cX5_count 12 = .ok (.iload_n 2, 1) := by decide +kernel
theorem dX5_count_13 : decode cX5_count 13 = .ok (.iconst 2, 1) := by decide +kernel
theorem dX5_count_14 : decode cX5_count 14 = .ok (.if_icmp .ge 7, 3) := by decide +kernel
theorem dX5_count_17 : decode cX5_count 17 = .ok (.iconst 0, 1) := by decide +kernel
theorem dX5_count_18 : decode cX5_count 18 = .ok (.goto 4, 3) := by decide +kernel
theorem dX5_count_21 : decode cX5_count 21 = .ok (.iconst 1, 1) := by decide +kernel
theorem dX5_count_22 : decode cX5_count 22 = .ok (.putfield 32, 3) := by decide +kernel
theorem dX5_count_25 : decode cX5_count 25 = .ok (.aload_n 0, 1) := by decide +kernel
theorem dX5_count_26 : decode cX5_count 26 = .ok (.getfield 32, 3) := by decide +kernel
theorem dX5_count_29 : decode cX5_count 29 = .ok (.ifCond .le 5, 3) := by decide +kernel
theorem dX5_count_32 : decode cX5_count 32 = .ok (.iconst 0, 1) := by decide +kernel
theorem dX5_count_33 : decode cX5_count 33 = .ok (.ireturn, 1) := by decide +kernel
theorem dX5_count_34 : decode cX5_count 34 = .ok (.aload_n 0, 1) := by decide +kernel
theorem dX5_count_35 : decode cX5_count 35 = .ok (.iload_n 1, 1) := by decide +kernel
theorem dX5_count_36 : decode cX5_count 36 = .ok (.invokevirtual 104, 3) := by decide +kernel
theorem dX5_count_39 : decode cX5_count 39 = .ok (.iconst 0, 1) := by decide +kernel
theorem dX5_count_40 : decode cX5_count 40 = .ok (.istore 4, 2) := by decide +kernel
theorem dX5_count_42 : decode cX5_count 42 = .ok (.iconst 0, 1) := by decide +kernel
theorem dX5_count_43 : decode cX5_count 43 = .ok (.istore 5, 2) := by decide +kernel
theorem dX5_count_45 : decode cX5_count 45 = .ok (.iload 5, 2) := by decide +kernel
theorem dX5_count_47 : decode cX5_count 47 = .ok (.ldc 59, 2) := by decide +kernel
theorem dX5_count_49 : decode cX5_count 49 = .ok (.if_icmp .ge 32, 3) := by decide +kernel
theorem dX5_count_52 : decode cX5_count 52 = .ok (.aload_n 0, 1) := by decide +kernel
theorem dX5_count_53 : decode cX5_count 53 = .ok (.iload_n 1, 1) := by decide +kernel
theorem dX5_count_54 : decode cX5_count 54 = .ok (.iload_n 2, 1) := by decide +kernel
theorem dX5_count_55 : decode cX5_count 55 = .ok (.iload_n 3, 1) := by decide +kernel
theorem dX5_count_56 : decode cX5_count 56 = .ok (.iload 5, 2) := by decide +kernel
theorem dX5_count_58 : decode cX5_count 58 = .ok (.invokevirtual 113, 3) := by decide +kernel
theorem dX5_count_61 : decode cX5_count 61 = .ok (.ifCond .eq 10, 3) := by decide +kernel
theorem dX5_count_64 : decode cX5_count 64 = .ok (.iload 4, 2) := by decide +kernel
theorem dX5_count_66 : decode cX5_count 66 = .ok (.iconst 1, 1) := by decide +kernel
theorem dX5_count_67 : decode cX5_count 67 = .ok (.iadd, 1) := by decide +kernel
theorem dX5_count_68 : decode cX5_count 68 = .ok (.goto 5, 3) := by decide +kernel
theorem dX5_count_71 : decode cX5_count 71 = .ok (.iload 4, 2) := by decide +kernel
theorem dX5_count_73 : decode cX5_count 73 = .ok (.istore 4, 2) := by decide +kernel
theorem dX5_count_75 : decode cX5_count 75 = .ok (.iinc 5 1, 3) := by decide +kernel
theorem dX5_count_78 : decode cX5_count 78 = .ok (.goto (-33), 3) := by decide +kernel
theorem dX5_count_81 : decode cX5_count 81 = .ok (.iload 4, 2) := by decide +kernel
theorem dX5_count_83 : decode cX5_count 83 = .ok (.ireturn, 1) := by decide +kernel
set_option maxRecDepth 20000 in
theorem ggX5_isOne_X5_isSquare : GoodIn wsX5_isOne wsX5_isSquare := goodIn_r _ [5, 6, 7, 39, 40, 41, 42, 43, 44, 45, 46, 47, 48, 49, 50, 51, 52] (by decide +kernel) (by decide +kernel)
set_option maxRecDepth 20000 in
theorem gX5_isOne_X5_isSquare : GoodIn wsX5_isOne (wsV RX5 47 RX5 yX5_isSquare wsX5_isSquare) := goodIn_app (goodIn_of _ (by decide +kernel)) ggX5_isOne_X5_isSquare
set_option maxRecDepth 20000 in
theorem ggX5_isOne_X5_known : GoodIn wsX5_isOne wsX5_known := goodIn_r _ [11, 12, 13, 14, 15, 4, 16, 17, 39, 40, 41, 42, 43, 44, 45, 46, 47, 48, 49, 50, 51, 52] (by decide +kernel) (by decide +kernel)
set_option maxRecDepth 20000 in
theorem gX5_isOne_X5_known : GoodIn wsX5_isOne (wsV RX5 70 RX5 yX5_known wsX5_known) := goodIn_app (goodIn_of _ (by decide +kernel)) ggX5_isOne_X5_known
set_option maxRecDepth 20000 in
theorem ggX5_isOne_X5_isPosition : GoodIn wsX5_isOne wsX5_isPosition := goodIn_r _ [21, 7, 1, 2, 3, 4, 5, 6, 22, 23, 24, 25, 26, 27, 28, 29, 30, 31, 32, 33, 34, 35, 36, 37, 38, 39, 40, 41, 42, 43, 44, 45, 46, 47, 48, 49, 50, 51, 52] (by decide +kernel) (by decide +kernel)
set_option maxRecDepth 20000 in
theorem gX5_isOne_X5_isPosition : GoodIn wsX5_isOne (wsV RX5 76 RX5 yX5_isPosition wsX5_isPosition) := goodIn_app (goodIn_of _ (by decide +kernel)) ggX5_isOne_X5_isPosition
theorem dX5_isOne_0 : decode cX5_isOne 0 = .ok (.iload 4, 2) := by decide +kernel
theorem dX5_isOne_2 : decode cX5_isOne 2 = .ok (.sipush 4096, 3) := by decide +kernel
theorem dX5_isOne_5 : decode cX5_isOne 5 = .ok (.idiv, 1) := by decide +kernel
theorem dX5_isOne_6 : decode cX5_isOne 6 = .ok (.istore 5, 2) := by decide +kernel
theorem dX5_isOne_8 : decode cX5_isOne 8 = .ok (.iload 4, 2) := by decide +kernel
theorem dX5_isOne_10 : decode cX5_isOne 10 = .ok (.bipush 64, 2) := by decide +kernel
theorem dX5_isOne_12 : decode cX5_isOne 12 = .ok (.idiv, 1) := by decide +kernel
theorem dX5_isOne_13 : decode cX5_isOne 13 = .ok (.bipush 64, 2) := by decide +kernel
theorem dX5_isOne_15 : decode cX5_isOne 15 = .ok (.irem, 1) := by decide +kernel
theorem dX5_isOne_16 : decode cX5_isOne 16 = .ok (.istore 6, 2) := by decide +kernel
theorem dX5_isOne_18 : decode cX5_isOne 18 = .ok (.iload 4, 2) := by decide +kernel
theorem dX5_isOne_20 : decode cX5_isOne 20 = .ok (.bipush 64, 2) := by decide +kernel
theorem dX5_isOne_22 : decode cX5_isOne 22 = .ok (.irem, 1) := by decide +kernel
theorem dX5_isOne_23 : decode cX5_isOne 23 = .ok (.istore 7, 2) := by decide +kernel
theorem dX5_isOne_25 : decode cX5_isOne 25 = .ok (.aload_n 0, 1) := by decide +kernel
theorem dX5_isOne_26 : decode cX5_isOne 26 = .ok (.iload 5, 2) := by decide +kernel
theorem dX5_isOne_28 : decode cX5_isOne 28 = .ok (.invokevirtual 47, 3) := by decide +kernel
theorem dX5_isOne_31 : decode cX5_isOne 31 = .ok (.ifCond .eq 56, 3) := by decide +kernel
theorem dX5_isOne_34 : decode cX5_isOne 34 = .ok (.aload_n 0, 1) := by decide +kernel
theorem dX5_isOne_35 : decode cX5_isOne 35 = .ok (.iload 6, 2) := by decide +kernel
theorem dX5_isOne_37 : decode cX5_isOne 37 = .ok (.invokevirtual 47, 3) := by decide +kernel
theorem dX5_isOne_40 : decode cX5_isOne 40 = .ok (.ifCond .eq 47, 3) := by decide +kernel
theorem dX5_isOne_43 : decode cX5_isOne 43 = .ok (.aload_n 0, 1) := by decide +kernel
theorem dX5_isOne_44 : decode cX5_isOne 44 = .ok (.iload 7, 2) := by decide +kernel
theorem dX5_isOne_46 : decode cX5_isOne 46 = .ok (.invokevirtual 47, 3) := by decide +kernel
theorem dX5_isOne_49 : decode cX5_isOne 49 = .ok (.ifCond .eq 38, 3) := by decide +kernel
theorem dX5_isOne_52 : decode cX5_isOne 52 = .ok (.aload_n 0, 1) := by decide +kernel
theorem dX5_isOne_53 : decode cX5_isOne 53 = .ok (.iload_n 1, 1) := by decide +kernel
theorem dX5_isOne_54 : decode cX5_isOne 54 = .ok (.iload_n 2, 1) := by decide +kernel
theorem dX5_isOne_55 : decode cX5_isOne 55 = .ok (.iload 5, 2) := by decide +kernel
theorem dX5_isOne_57 : decode cX5_isOne 57 = .ok (.iload 6, 2) := by decide +kernel
theorem dX5_isOne_59 : decode cX5_isOne 59 = .ok (.iload 7, 2) := by decide +kernel
theorem dX5_isOne_61 : decode cX5_isOne 61 = .ok (.invokevirtual 70, 3) := by decide +kernel
theorem dX5_isOne_64 : decode cX5_isOne 64 = .ok (.iload_n 3, 1) := by decide +kernel
theorem dX5_isOne_65 : decode cX5_isOne 65 = .ok (.if_icmp .ne 22, 3) := by decide +kernel
theorem dX5_isOne_68 : decode cX5_isOne 68 = .ok (.aload_n 0, 1) := by decide +kernel
theorem dX5_isOne_69 : decode cX5_isOne 69 = .ok (.iload_n 1, 1) := by decide +kernel
theorem dX5_isOne_70 : decode cX5_isOne 70 = .ok (.iload 5, 2) := by decide +kernel
theorem dX5_isOne_72 : decode cX5_isOne 72 = .ok (.iload 6, 2) := by decide +kernel
theorem dX5_isOne_74 : decode cX5_isOne 74 = .ok (.iload 7, 2) := by decide +kernel
theorem dX5_isOne_76 : decode cX5_isOne 76 = .ok (.iload_n 2, 1) := by decide +kernel
theorem dX5_isOne_77 : decode cX5_isOne 77 = .ok (.invokevirtual 76, 3) := by decide +kernel
theorem dX5_isOne_80 : decode cX5_isOne 80 = .ok (.ifCond .eq 7, 3) := by decide +kernel
theorem dX5_isOne_83 : decode cX5_isOne 83 = .ok (.iconst 1, 1) := by decide +kernel
theorem dX5_isOne_84 : decode cX5_isOne 84 = .ok (.goto 4, 3) := by decide +kernel
theorem dX5_isOne_87 : decode cX5_isOne 87 = .ok (.iconst 0, 1) := by decide +kernel
theorem dX5_isOne_88 : decode cX5_isOne 88 = .ok (.ireturn, 1) := by decide +kernel
set_option maxRecDepth 20000 in
theorem ggX5_find_X5_isKind : GoodIn wsX5_find wsX5_isKind := goodIn_r _ [6] (by decide +kernel) (by decide +kernel)
set_option maxRecDepth 20000 in
theorem gX5_find_X5_isKind : GoodIn wsX5_find (va_wsS RX5 107 yX5_isKind wsX5_isKind) := goodIn_app (goodIn_of _ (by decide +kernel)) ggX5_find_X5_isKind
set_option maxRecDepth 20000 in
theorem ggX5_find_X5_build : GoodIn wsX5_find wsX5_build := goodIn_r _ [10, 11, 12, 13, 14, 15, 5, 16, 17, 18, 19, 20, 21, 22, 23, 24, 25, 26, 27, 28, 29, 30, 31, 32, 33, 34, 35, 36, 37, 38, 39, 40, 41, 42, 43, 44, 45, 46, 47, 48, 49, 50, 51, 52, 53, 54, 55, 56, 57, 58, 59, 60, 2, 61, 62, 63, 64, 65, 66, 67, 68, 69, 70, 71, 72, 73, 74, 75, 76, 77, 78, 79, 80, 81, 82, 83, 84, 89, 90, 91, 92, 93, 94, 95, 96, 97, 98, 99, 100, 101, 102] (by decide +kernel) (by decide +kernel)
set_option maxRecDepth 20000 in
theorem gX5_find_X5_build : GoodIn wsX5_find (wsV RX5 104 RX5 yX5_build wsX5_build) := goodIn_app (goodIn_of _ (by decide +kernel)) ggX5_find_X5_build
set_option maxRecDepth 20000 in
theorem ggX5_find_X5_isOne : GoodIn wsX5_find wsX5_isOne := goodIn_r _ [88, 25, 26, 27, 5, 28, 29, 30, 52, 53, 54, 55, 56, 57, 58, 59, 60, 2, 31, 32, 33, 34, 35, 36, 37, 38, 39, 40, 41, 42, 43, 44, 45, 46, 47, 48, 49, 50, 51, 89, 90, 91, 92, 93, 94, 95, 96, 97, 98, 99, 100, 101, 102] (by decide +kernel) (by decide +kernel)
set_option maxRecDepth 20000 in
theorem gX5_find_X5_isOne : GoodIn wsX5_find (wsV RX5 113 RX5 yX5_isOne wsX5_isOne) := goodIn_app (goodIn_of _ (by decide +kernel)) ggX5_find_X5_isOne
theorem dX5_find_0 : decode cX5_find 0 = .ok (.aload_n 0, 1) := by decide +kernel
theorem dX5_find_1 : decode cX5_find 1 = .ok (.iload_n 1, 1) := by decide +kernel
theorem dX5_find_2 : decode cX5_find 2 = .ok (.invokestatic 107, 3) := by decide +kernel
theorem dX5_find_5 : decode cX5_find 5 = .ok (.ifCond .eq 16, 3) := by decide +kernel
theorem dX5_find_8 : decode cX5_find 8 = .ok (.iload_n 2, 1) := by decide +kernel
theorem dX5_find_9 : decode cX5_find 9 = .ok (.ifCond .lt 12, 3) := by decide +kernel
theorem dX5_find_12 : decode cX5_find 12 = .ok (.iload_n 2, 1) := by decide +kernel
theorem dX5_find_13 : decode cX5_find 13 = .ok (.iconst 2, 1) := by decide +kernel
theorem dX5_find_14 : decode cX5_find 14 = .ok (.if_icmp .ge 7, 3) := by decide +kernel
theorem dX5_find_17 : decode cX5_find 17 = .ok (.iconst 0, 1) := by decide +kernel
theorem dX5_find_18 : decode cX5_find 18 = .ok (.goto 4, 3) := by decide +kernel
theorem dX5_find_21 : decode cX5_find 21 = .ok (.iconst 1, 1) := by decide +kernel
theorem dX5_find_22 : decode cX5_find 22 = .ok (.putfield 32, 3) := by decide +kernel
theorem dX5_find_25 : decode cX5_find 25 = .ok (.aload_n 0, 1) := by decide +kernel
theorem dX5_find_26 : decode cX5_find 26 = .ok (.getfield 32, 3) := by decide +kernel
theorem dX5_find_29 : decode cX5_find 29 = .ok (.ifCond .le 5, 3) := by decide +kernel
theorem dX5_find_32 : decode cX5_find 32 = .ok (.iconst 0, 1) := by decide +kernel
theorem dX5_find_33 : decode cX5_find 33 = .ok (.ireturn, 1) := by decide +kernel
theorem dX5_find_34 : decode cX5_find 34 = .ok (.aload_n 0, 1) := by decide +kernel
theorem dX5_find_35 : decode cX5_find 35 = .ok (.iload_n 1, 1) := by decide +kernel
theorem dX5_find_36 : decode cX5_find 36 = .ok (.invokevirtual 104, 3) := by decide +kernel
theorem dX5_find_39 : decode cX5_find 39 = .ok (.iload 4, 2) := by decide +kernel
theorem dX5_find_41 : decode cX5_find 41 = .ok (.istore 5, 2) := by decide +kernel
theorem dX5_find_43 : decode cX5_find 43 = .ok (.iconst 0, 1) := by decide +kernel
theorem dX5_find_44 : decode cX5_find 44 = .ok (.istore 6, 2) := by decide +kernel
theorem dX5_find_46 : decode cX5_find 46 = .ok (.iload 6, 2) := by decide +kernel
theorem dX5_find_48 : decode cX5_find 48 = .ok (.ldc 59, 2) := by decide +kernel
theorem dX5_find_50 : decode cX5_find 50 = .ok (.if_icmp .ge 63, 3) := by decide +kernel
theorem dX5_find_53 : decode cX5_find 53 = .ok (.iload 4, 2) := by decide +kernel
theorem dX5_find_55 : decode cX5_find 55 = .ok (.ifCond .lt 58, 3) := by decide +kernel
theorem dX5_find_58 : decode cX5_find 58 = .ok (.aload_n 0, 1) := by decide +kernel
theorem dX5_find_59 : decode cX5_find 59 = .ok (.iload_n 1, 1) := by decide +kernel
theorem dX5_find_60 : decode cX5_find 60 = .ok (.iload_n 2, 1) := by decide +kernel
theorem dX5_find_61 : decode cX5_find 61 = .ok (.iload_n 3, 1) := by decide +kernel
theorem dX5_find_62 : decode cX5_find 62 = .ok (.iload 6, 2) := by decide +kernel
theorem dX5_find_64 : decode cX5_find 64 = .ok (.invokevirtual 113, 3) := by decide +kernel
theorem dX5_find_67 : decode cX5_find 67 = .ok (.ifCond .eq 40, 3) := by decide +kernel
theorem dX5_find_70 : decode cX5_find 70 = .ok (.iload 5, 2) := by decide +kernel
theorem dX5_find_72 : decode cX5_find 72 = .ok (.ifCond .ne 32, 3) := by decide +kernel
theorem dX5_find_75 : decode cX5_find 75 = .ok (.iload 6, 2) := by decide +kernel
theorem dX5_find_77 : decode cX5_find 77 = .ok (.sipush 4096, 3) := by decide +kernel
theorem dX5_find_80 : decode cX5_find 80 = .ok (.idiv, 1) := by decide +kernel
theorem dX5_find_81 : decode cX5_find 81 = .ok (.bipush 64, 2) := by decide +kernel
theorem dX5_find_83 : decode cX5_find 83 = .ok (.iload 6, 2) := by decide +kernel
theorem dX5_find_85 : decode cX5_find 85 = .ok (.bipush 64, 2) := by decide +kernel
theorem dX5_find_87 : decode cX5_find 87 = .ok (.idiv, 1) := by decide +kernel
theorem dX5_find_88 : decode cX5_find 88 = .ok (.bipush 64, 2) := by decide +kernel
theorem dX5_find_90 : decode cX5_find 90 = .ok (.irem, 1) := by decide +kernel
theorem dX5_find_91 : decode cX5_find 91 = .ok (.imul, 1) := by decide +kernel
theorem dX5_find_92 : decode cX5_find 92 = .ok (.iadd, 1) := by decide +kernel
theorem dX5_find_93 : decode cX5_find 93 = .ok (.sipush 4096, 3) := by decide +kernel
theorem dX5_find_96 : decode cX5_find 96 = .ok (.iload 6, 2) := by decide +kernel
theorem dX5_find_98 : decode cX5_find 98 = .ok (.bipush 64, 2) := by decide +kernel
theorem dX5_find_100 : decode cX5_find 100 = .ok (.irem, 1) := by decide +kernel
theorem dX5_find_101 : decode cX5_find 101 = .ok (.imul, 1) := by decide +kernel
theorem dX5_find_102 : decode cX5_find 102 = .ok (.iadd, 1) := by decide +kernel
theorem dX5_find_103 : decode cX5_find 103 = .ok (.ireturn, 1) := by decide +kernel
theorem dX5_find_104 : decode cX5_find 104 = .ok (.iinc 5 (-1), 3) := by decide +kernel
theorem dX5_find_107 : decode cX5_find 107 = .ok (.iinc 6 1, 3) := by decide +kernel
theorem dX5_find_110 : decode cX5_find 110 = .ok (.goto (-64), 3) := by decide +kernel
theorem dX5_find_113 : decode cX5_find 113 = .ok (.aload_n 0, 1) := by decide +kernel
theorem dX5_find_114 : decode cX5_find 114 = .ok (.iconst 2, 1) := by decide +kernel
theorem dX5_find_115 : decode cX5_find 115 = .ok (.putfield 32, 3) := by decide +kernel
theorem dX5_find_118 : decode cX5_find 118 = .ok (.iconst 0, 1) := by decide +kernel
theorem dX5_find_119 : decode cX5_find 119 = .ok (.ireturn, 1) := by decide +kernel
set_option maxRecDepth 20000 in
theorem ggX5_longest_X5_isKind : GoodIn wsX5_longest wsX5_isKind := goodIn_r _ [6] (by decide +kernel) (by decide +kernel)
set_option maxRecDepth 20000 in
theorem gX5_longest_X5_isKind : GoodIn wsX5_longest (va_wsS RX5 107 yX5_isKind wsX5_isKind) := goodIn_app (goodIn_of _ (by decide +kernel)) ggX5_longest_X5_isKind
set_option maxRecDepth 20000 in
theorem ggX5_longest_X5_build : GoodIn wsX5_longest wsX5_build := goodIn_r _ [10, 11, 2, 12, 13, 14, 5, 15, 16, 17, 18, 19, 20, 21, 22, 23, 24, 25, 26, 27, 28, 29, 30, 31, 32, 33, 34, 35, 36, 37, 38, 39, 40, 41, 42, 43, 44, 45, 46, 47, 48, 49, 50, 51, 52, 53, 54, 55, 56, 57, 58, 59, 60, 61, 62, 63, 64, 65, 66, 67, 68, 69, 70, 71, 72, 73, 74, 75, 76, 77, 78, 79, 80, 81, 82, 83, 84, 85, 86, 87, 88, 89, 90, 91, 92, 93, 94, 95, 96, 97, 98] (by decide +kernel) (by decide +kernel)
set_option maxRecDepth 20000 in
theorem gX5_longest_X5_build : GoodIn wsX5_longest (wsV RX5 104 RX5 yX5_build wsX5_build) := goodIn_app (goodIn_of _ (by decide +kernel)) ggX5_longest_X5_build
theorem dX5_longest_0 : decode cX5_longest 0 = .ok (.aload_n 0, 1) := by decide +kernel
theorem dX5_longest_1 : decode cX5_longest 1 = .ok (.iload_n 1, 1) := by decide +kernel
theorem dX5_longest_2 : decode cX5_longest 2 = .ok (.invokestatic 107, 3) := by decide +kernel
theorem dX5_longest_5 : decode cX5_longest 5 = .ok (.ifCond .eq 7, 3) := by decide +kernel
theorem dX5_longest_8 : decode cX5_longest 8 = .ok (.iconst 0, 1) := by decide +kernel
theorem dX5_longest_9 : decode cX5_longest 9 = .ok (.goto 4, 3) := by decide +kernel
theorem dX5_longest_12 : decode cX5_longest 12 = .ok (.iconst 1, 1) := by decide +kernel
theorem dX5_longest_13 : decode cX5_longest 13 = .ok (.putfield 32, 3) := by decide +kernel
theorem dX5_longest_16 : decode cX5_longest 16 = .ok (.aload_n 0, 1) := by decide +kernel
theorem dX5_longest_17 : decode cX5_longest 17 = .ok (.getfield 32, 3) := by decide +kernel
theorem dX5_longest_20 : decode cX5_longest 20 = .ok (.ifCond .le 5, 3) := by decide +kernel
theorem dX5_longest_23 : decode cX5_longest 23 = .ok (.iconst 0, 1) := by decide +kernel
theorem dX5_longest_24 : decode cX5_longest 24 = .ok (.ireturn, 1) := by decide +kernel
theorem dX5_longest_25 : decode cX5_longest 25 = .ok (.aload_n 0, 1) := by decide +kernel
theorem dX5_longest_26 : decode cX5_longest 26 = .ok (.iload_n 1, 1) := by decide +kernel
theorem dX5_longest_27 : decode cX5_longest 27 = .ok (.invokevirtual 104, 3) := by decide +kernel
theorem dX5_longest_30 : decode cX5_longest 30 = .ok (.aload_n 0, 1) := by decide +kernel
theorem dX5_longest_31 : decode cX5_longest 31 = .ok (.getfield 18, 3) := by decide +kernel
theorem dX5_longest_34 : decode cX5_longest 34 = .ok (.iload_n 1, 1) := by decide +kernel
theorem dX5_longest_35 : decode cX5_longest 35 = .ok (.iaload, 1) := by decide +kernel
theorem dX5_longest_36 : decode cX5_longest 36 = .ok (.ireturn, 1) := by decide +kernel
set_option maxRecDepth 20000 in
theorem ggX5_set_X5_isPosition : GoodIn wsX5_set wsX5_isPosition := goodIn_r _ [12, 13, 14, 15, 16, 11, 17, 18, 19, 20, 21, 22, 23, 24, 25, 26, 27, 28, 29, 30, 31, 32, 33, 34, 35, 36, 37, 38, 39, 40, 41, 42, 43, 44, 45, 46, 47, 48, 49] (by decide +kernel) (by decide +kernel)
set_option maxRecDepth 20000 in
theorem gX5_set_X5_isPosition : GoodIn wsX5_set (wsV RX5 76 RX5 yX5_isPosition wsX5_isPosition) := goodIn_app (goodIn_of _ (by decide +kernel)) ggX5_set_X5_isPosition
theorem dX5_set_0 : decode cX5_set 0 = .ok (.aload_n 0, 1) := by decide +kernel
theorem dX5_set_1 : decode cX5_set 1 = .ok (.iconst 0, 1) := by decide +kernel
theorem dX5_set_2 : decode cX5_set 2 = .ok (.putfield 32, 3) := by decide +kernel
theorem dX5_set_5 : decode cX5_set 5 = .ok (.aload_n 0, 1) := by decide +kernel
theorem dX5_set_6 : decode cX5_set 6 = .ok (.iload_n 1, 1) := by decide +kernel
theorem dX5_set_7 : decode cX5_set 7 = .ok (.iload_n 2, 1) := by decide +kernel
theorem dX5_set_8 : decode cX5_set 8 = .ok (.iload_n 3, 1) := by decide +kernel
theorem dX5_set_9 : decode cX5_set 9 = .ok (.iload 4, 2) := by decide +kernel
theorem dX5_set_11 : decode cX5_set 11 = .ok (.iload 5, 2) := by decide +kernel
theorem dX5_set_13 : decode cX5_set 13 = .ok (.invokevirtual 76, 3) := by decide +kernel
theorem dX5_set_16 : decode cX5_set 16 = .ok (.ifCond .ne 5, 3) := by decide +kernel
theorem dX5_set_19 : decode cX5_set 19 = .ok (.iconst 0, 1) := by decide +kernel
theorem dX5_set_20 : decode cX5_set 20 = .ok (.ireturn, 1) := by decide +kernel
theorem dX5_set_21 : decode cX5_set 21 = .ok (.aload_n 0, 1) := by decide +kernel
theorem dX5_set_22 : decode cX5_set 22 = .ok (.iconst 1, 1) := by decide +kernel
theorem dX5_set_23 : decode cX5_set 23 = .ok (.putfield 116, 3) := by decide +kernel
theorem dX5_set_26 : decode cX5_set 26 = .ok (.aload_n 0, 1) := by decide +kernel
theorem dX5_set_27 : decode cX5_set 27 = .ok (.iload_n 1, 1) := by decide +kernel
theorem dX5_set_28 : decode cX5_set 28 = .ok (.putfield 120, 3) := by decide +kernel
theorem dX5_set_31 : decode cX5_set 31 = .ok (.aload_n 0, 1) := by decide +kernel
theorem dX5_set_32 : decode cX5_set 32 = .ok (.iload_n 2, 1) := by decide +kernel
theorem dX5_set_33 : decode cX5_set 33 = .ok (.putfield 123, 3) := by decide +kernel
theorem dX5_set_36 : decode cX5_set 36 = .ok (.aload_n 0, 1) := by decide +kernel
theorem dX5_set_37 : decode cX5_set 37 = .ok (.iload_n 3, 1) := by decide +kernel
theorem dX5_set_38 : decode cX5_set 38 = .ok (.putfield 126, 3) := by decide +kernel
theorem dX5_set_41 : decode cX5_set 41 = .ok (.aload_n 0, 1) := by decide +kernel
theorem dX5_set_42 : decode cX5_set 42 = .ok (.iload 4, 2) := by decide +kernel
theorem dX5_set_44 : decode cX5_set 44 = .ok (.putfield 129, 3) := by decide +kernel
theorem dX5_set_47 : decode cX5_set 47 = .ok (.aload_n 0, 1) := by decide +kernel
theorem dX5_set_48 : decode cX5_set 48 = .ok (.iload 5, 2) := by decide +kernel
theorem dX5_set_50 : decode cX5_set 50 = .ok (.putfield 132, 3) := by decide +kernel
theorem dX5_set_53 : decode cX5_set 53 = .ok (.iconst 1, 1) := by decide +kernel
theorem dX5_set_54 : decode cX5_set 54 = .ok (.ireturn, 1) := by decide +kernel
set_option maxRecDepth 20000 in
theorem ggX5_about_X5_attacks : GoodIn wsX5_about wsX5_attacks := goodIn_r _ [12, 13, 14, 11, 15, 16, 17, 18, 19, 20, 21, 22, 23, 24, 25, 26, 27, 28, 29, 30, 31, 32, 33, 34, 35] (by decide +kernel) (by decide +kernel)
set_option maxRecDepth 20000 in
theorem gX5_about_X5_attacks : GoodIn wsX5_about (wsV RX5 55 RX5 yX5_attacks wsX5_attacks) := goodIn_app (goodIn_of _ (by decide +kernel)) ggX5_about_X5_attacks
theorem dX5_about_0 : decode cX5_about 0 = .ok (.aload_n 0, 1) := by decide +kernel
theorem dX5_about_1 : decode cX5_about 1 = .ok (.aload_n 0, 1) := by decide +kernel
theorem dX5_about_2 : decode cX5_about 2 = .ok (.getfield 116, 3) := by decide +kernel
theorem dX5_about_5 : decode cX5_about 5 = .ok (.ifCond .ne 7, 3) := by decide +kernel
theorem dX5_about_8 : decode cX5_about 8 = .ok (.iconst 1, 1) := by decide +kernel
theorem dX5_about_9 : decode cX5_about 9 = .ok (.goto 17, 3) := by decide +kernel
theorem dX5_about_12 : decode cX5_about 12 = .ok (.iload_n 1, 1) := by decide +kernel
theorem dX5_about_13 : decode cX5_about 13 = .ok (.ifCond .lt 8, 3) := by decide +kernel
theorem dX5_about_16 : decode cX5_about 16 = .ok (.iload_n 1, 1) := by decide +kernel
theorem dX5_about_17 : decode cX5_about 17 = .ok (.iconst 5, 1) := by decide +kernel
theorem dX5_about_18 : decode cX5_about 18 = .ok (.if_icmp .le 7, 3) := by decide +kernel
theorem dX5_about_21 : decode cX5_about 21 = .ok (.iconst 2, 1) := by decide +kernel
theorem dX5_about_22 : decode cX5_about 22 = .ok (.goto 4, 3) := by decide +kernel
theorem dX5_about_25 : decode cX5_about 25 = .ok (.iconst 0, 1) := by decide +kernel
theorem dX5_about_26 : decode cX5_about 26 = .ok (.putfield 32, 3) := by decide +kernel
theorem dX5_about_29 : decode cX5_about 29 = .ok (.aload_n 0, 1) := by decide +kernel
theorem dX5_about_30 : decode cX5_about 30 = .ok (.getfield 32, 3) := by decide +kernel
theorem dX5_about_33 : decode cX5_about 33 = .ok (.ifCond .le 5, 3) := by decide +kernel
theorem dX5_about_36 : decode cX5_about 36 = .ok (.iconst 0, 1) := by decide +kernel
theorem dX5_about_37 : decode cX5_about 37 = .ok (.ireturn, 1) := by decide +kernel
theorem dX5_about_38 : decode cX5_about 38 = .ok (.iload_n 1, 1) := by decide +kernel
theorem dX5_about_39 : decode cX5_about 39 = .ok (.tableswitch 58 0 4 #[33, 38, 43, 48, 53], 33) := by decide +kernel
theorem dX5_about_72 : decode cX5_about 72 = .ok (.aload_n 0, 1) := by decide +kernel
theorem dX5_about_73 : decode cX5_about 73 = .ok (.getfield 120, 3) := by decide +kernel
theorem dX5_about_76 : decode cX5_about 76 = .ok (.ireturn, 1) := by decide +kernel
theorem dX5_about_77 : decode cX5_about 77 = .ok (.aload_n 0, 1) := by decide +kernel
theorem dX5_about_78 : decode cX5_about 78 = .ok (.getfield 123, 3) := by decide +kernel
theorem dX5_about_81 : decode cX5_about 81 = .ok (.ireturn, 1) := by decide +kernel
theorem dX5_about_82 : decode cX5_about 82 = .ok (.aload_n 0, 1) := by decide +kernel
theorem dX5_about_83 : decode cX5_about 83 = .ok (.getfield 126, 3) := by decide +kernel
theorem dX5_about_86 : decode cX5_about 86 = .ok (.ireturn, 1) := by decide +kernel
theorem dX5_about_87 : decode cX5_about 87 = .ok (.aload_n 0, 1) := by decide +kernel
theorem dX5_about_88 : decode cX5_about 88 = .ok (.getfield 129, 3) := by decide +kernel
theorem dX5_about_91 : decode cX5_about 91 = .ok (.ireturn, 1) := by decide +kernel
theorem dX5_about_92 : decode cX5_about 92 = .ok (.aload_n 0, 1) := by decide +kernel
theorem dX5_about_93 : decode cX5_about 93 = .ok (.getfield 132, 3) := by decide +kernel
theorem dX5_about_96 : decode cX5_about 96 = .ok (.ireturn, 1) := by decide +kernel
theorem dX5_about_97 : decode cX5_about 97 = .ok (.aload_n 0, 1) := by decide +kernel
theorem dX5_about_98 : decode cX5_about 98 = .ok (.aload_n 0, 1) := by decide +kernel
theorem dX5_about_99 : decode cX5_about 99 = .ok (.getfield 120, 3) := by decide +kernel
theorem dX5_about_102 : decode cX5_about 102 = .ok (.aload_n 0, 1) := by decide +kernel
theorem dX5_about_103 : decode cX5_about 103 = .ok (.getfield 126, 3) := by decide +kernel
theorem dX5_about_106 : decode cX5_about 106 = .ok (.aload_n 0, 1) := by decide +kernel
theorem dX5_about_107 : decode cX5_about 107 = .ok (.getfield 129, 3) := by decide +kernel
theorem dX5_about_110 : decode cX5_about 110 = .ok (.aload_n 0, 1) := by decide +kernel
theorem dX5_about_111 : decode cX5_about 111 = .ok (.getfield 123, 3) := by decide +kernel
theorem dX5_about_114 : decode cX5_about 114 = .ok (.iconst (-1), 1) := by decide +kernel
theorem dX5_about_115 : decode cX5_about 115 = .ok (.invokevirtual 55, 3) := by decide +kernel
theorem dX5_about_118 : decode cX5_about 118 = .ok (.ifCond .eq 7, 3) := by decide +kernel
theorem dX5_about_121 : decode cX5_about 121 = .ok (.iconst 1, 1) := by decide +kernel
theorem dX5_about_122 : decode cX5_about 122 = .ok (.goto 4, 3) := by decide +kernel
theorem dX5_about_125 : decode cX5_about 125 = .ok (.iconst 0, 1) := by decide +kernel
theorem dX5_about_126 : decode cX5_about 126 = .ok (.ireturn, 1) := by decide +kernel
set_option maxRecDepth 20000 in
theorem ggX5_left_X5_distanceOf : GoodIn wsX5_left wsX5_distanceOf := goodIn_r _ [12, 13, 14, 15, 11, 16, 17, 18, 19, 20, 21, 22, 23, 24, 25, 26, 27, 28, 29, 30, 31, 32, 33, 34, 35, 36, 37, 38, 39, 40, 41, 42, 43, 44, 45, 46, 47, 48, 49, 50, 51, 52, 53, 54, 55, 56, 57, 58, 59, 60, 61, 62, 63, 64, 65, 66, 67, 68, 69, 70, 71, 72, 73, 74, 75, 76, 77, 78, 79, 80, 81, 82, 83, 84, 85, 86, 87, 88, 89, 90, 91, 92, 93, 94, 95, 96, 97, 98, 99, 100, 101, 102, 103, 104, 105] (by decide +kernel) (by decide +kernel)
set_option maxRecDepth 20000 in
theorem gX5_left_X5_distanceOf : GoodIn wsX5_left (wsV RX5 110 RX5 yX5_distanceOf wsX5_distanceOf) := goodIn_app (goodIn_of _ (by decide +kernel)) ggX5_left_X5_distanceOf
theorem dX5_left_0 : decode cX5_left 0 = .ok (.aload_n 0, 1) := by decide +kernel
theorem dX5_left_1 : decode cX5_left 1 = .ok (.aload_n 0, 1) := by decide +kernel
theorem dX5_left_2 : decode cX5_left 2 = .ok (.getfield 116, 3) := by decide +kernel
theorem dX5_left_5 : decode cX5_left 5 = .ok (.ifCond .eq 7, 3) := by decide +kernel
theorem dX5_left_8 : decode cX5_left 8 = .ok (.iconst 0, 1) := by decide +kernel
theorem dX5_left_9 : decode cX5_left 9 = .ok (.goto 4, 3) := by decide +kernel
theorem dX5_left_12 : decode cX5_left 12 = .ok (.iconst 1, 1) := by decide +kernel
theorem dX5_left_13 : decode cX5_left 13 = .ok (.putfield 32, 3) := by decide +kernel
theorem dX5_left_16 : decode cX5_left 16 = .ok (.aload_n 0, 1) := by decide +kernel
theorem dX5_left_17 : decode cX5_left 17 = .ok (.getfield 32, 3) := by decide +kernel
theorem dX5_left_20 : decode cX5_left 20 = .ok (.ifCond .le 7, 3) := by decide +kernel
theorem dX5_left_23 : decode cX5_left 23 = .ok (.iconst 0, 1) := by decide +kernel
theorem dX5_left_24 : decode cX5_left 24 = .ok (.goto 27, 3) := by decide +kernel
theorem dX5_left_27 : decode cX5_left 27 = .ok (.aload_n 0, 1) := by decide +kernel
theorem dX5_left_28 : decode cX5_left 28 = .ok (.aload_n 0, 1) := by decide +kernel
theorem dX5_left_29 : decode cX5_left 29 = .ok (.getfield 120, 3) := by decide +kernel
theorem dX5_left_32 : decode cX5_left 32 = .ok (.aload_n 0, 1) := by decide +kernel
theorem dX5_left_33 : decode cX5_left 33 = .ok (.getfield 123, 3) := by decide +kernel
theorem dX5_left_36 : decode cX5_left 36 = .ok (.aload_n 0, 1) := by decide +kernel
theorem dX5_left_37 : decode cX5_left 37 = .ok (.getfield 126, 3) := by decide +kernel
theorem dX5_left_40 : decode cX5_left 40 = .ok (.aload_n 0, 1) := by decide +kernel
theorem dX5_left_41 : decode cX5_left 41 = .ok (.getfield 129, 3) := by decide +kernel
theorem dX5_left_44 : decode cX5_left 44 = .ok (.aload_n 0, 1) := by decide +kernel
theorem dX5_left_45 : decode cX5_left 45 = .ok (.getfield 132, 3) := by decide +kernel
theorem dX5_left_48 : decode cX5_left 48 = .ok (.invokevirtual 110, 3) := by decide +kernel
theorem dX5_left_51 : decode cX5_left 51 = .ok (.ireturn, 1) := by decide +kernel
theorem dX5_add_0 : decode cX5_add 0 = .ok (.aload_n 0, 1) := by decide +kernel
theorem dX5_add_1 : decode cX5_add 1 = .ok (.getfield 22, 3) := by decide +kernel
theorem dX5_add_4 : decode cX5_add 4 = .ok (.aload_n 0, 1) := by decide +kernel
theorem dX5_add_5 : decode cX5_add 5 = .ok (.getfield 135, 3) := by decide +kernel
theorem dX5_add_8 : decode cX5_add 8 = .ok (.iload_n 1, 1) := by decide +kernel
theorem dX5_add_9 : decode cX5_add 9 = .ok (.iastore, 1) := by decide +kernel
theorem dX5_add_10 : decode cX5_add 10 = .ok (.aload_n 0, 1) := by decide +kernel
theorem dX5_add_11 : decode cX5_add 11 = .ok (.dup, 1) := by decide +kernel
theorem dX5_add_12 : decode cX5_add 12 = .ok (.getfield 135, 3) := by decide +kernel
theorem dX5_add_15 : decode cX5_add 15 = .ok (.iconst 1, 1) := by decide +kernel
theorem dX5_add_16 : decode cX5_add 16 = .ok (.iadd, 1) := by decide +kernel
theorem dX5_add_17 : decode cX5_add 17 = .ok (.putfield 135, 3) := by decide +kernel
theorem dX5_add_20 : decode cX5_add 20 = .ok (.return_, 1) := by decide +kernel
set_option maxRecDepth 20000 in
theorem ggX5_manGoes_X5_attacks : GoodIn wsX5_manGoes wsX5_attacks := goodIn_r _ [10, 11, 12, 9, 13, 14, 15, 16, 17, 18, 5, 19, 20, 21, 22, 23, 24, 25, 26, 27, 28, 29, 30, 31, 32] (by decide +kernel) (by decide +kernel)
set_option maxRecDepth 20000 in
theorem gX5_manGoes_X5_attacks : GoodIn wsX5_manGoes (wsV RX5 55 RX5 yX5_attacks wsX5_attacks) := goodIn_app (goodIn_of _ (by decide +kernel)) ggX5_manGoes_X5_attacks
theorem dX5_manGoes_0 : decode cX5_manGoes 0 = .ok (.iload_n 1, 1) := by decide +kernel
theorem dX5_manGoes_1 : decode cX5_manGoes 1 = .ok (.aload_n 0, 1) := by decide +kernel
theorem dX5_manGoes_2 : decode cX5_manGoes 2 = .ok (.getfield 123, 3) := by decide +kernel
theorem dX5_manGoes_5 : decode cX5_manGoes 5 = .ok (.if_icmp .eq 11, 3) := by decide +kernel
theorem dX5_manGoes_8 : decode cX5_manGoes 8 = .ok (.iload_n 1, 1) := by decide +kernel
theorem dX5_manGoes_9 : decode cX5_manGoes 9 = .ok (.aload_n 0, 1) := by decide +kernel
theorem dX5_manGoes_10 : decode cX5_manGoes 10 = .ok (.getfield 129, 3) := by decide +kernel
theorem dX5_manGoes_13 : decode cX5_manGoes 13 = .ok (.if_icmp .ne 5, 3) := by decide +kernel
theorem dX5_manGoes_16 : decode cX5_manGoes 16 = .ok (.iconst 0, 1) := by decide +kernel
theorem dX5_manGoes_17 : decode cX5_manGoes 17 = .ok (.ireturn, 1) := by decide +kernel
theorem dX5_manGoes_18 : decode cX5_manGoes 18 = .ok (.aload_n 0, 1) := by decide +kernel
theorem dX5_manGoes_19 : decode cX5_manGoes 19 = .ok (.getfield 120, 3) := by decide +kernel
theorem dX5_manGoes_22 : decode cX5_manGoes 22 = .ok (.iconst 1, 1) := by decide +kernel
theorem dX5_manGoes_23 : decode cX5_manGoes 23 = .ok (.if_icmp .eq 40, 3) := by decide +kernel
theorem dX5_manGoes_26 : decode cX5_manGoes 26 = .ok (.aload_n 0, 1) := by decide +kernel
theorem dX5_manGoes_27 : decode cX5_manGoes 27 = .ok (.getfield 120, 3) := by decide +kernel
theorem dX5_manGoes_30 : decode cX5_manGoes 30 = .ok (.ifCond .le 31, 3) := by decide +kernel
theorem dX5_manGoes_33 : decode cX5_manGoes 33 = .ok (.aload_n 0, 1) := by decide +kernel
theorem dX5_manGoes_34 : decode cX5_manGoes 34 = .ok (.aload_n 0, 1) := by decide +kernel
theorem dX5_manGoes_35 : decode cX5_manGoes 35 = .ok (.getfield 120, 3) := by decide +kernel
theorem dX5_manGoes_38 : decode cX5_manGoes 38 = .ok (.aload_n 0, 1) := by decide +kernel
theorem dX5_manGoes_39 : decode cX5_manGoes 39 = .ok (.getfield 126, 3) := by decide +kernel
theorem dX5_manGoes_42 : decode cX5_manGoes 42 = .ok (.iload_n 1, 1) := by decide +kernel
theorem dX5_manGoes_43 : decode cX5_manGoes 43 = .ok (.aload_n 0, 1) := by decide +kernel
theorem dX5_manGoes_44 : decode cX5_manGoes 44 = .ok (.getfield 123, 3) := by decide +kernel
theorem dX5_manGoes_47 : decode cX5_manGoes 47 = .ok (.aload_n 0, 1) := by decide +kernel
theorem dX5_manGoes_48 : decode cX5_manGoes 48 = .ok (.getfield 129, 3) := by decide +kernel
theorem dX5_manGoes_51 : decode cX5_manGoes 51 = .ok (.invokevirtual 55, 3) := by decide +kernel
theorem dX5_manGoes_54 : decode cX5_manGoes 54 = .ok (.ifCond .eq 7, 3) := by decide +kernel
theorem dX5_manGoes_57 : decode cX5_manGoes 57 = .ok (.iconst 1, 1) := by decide +kernel
theorem dX5_manGoes_58 : decode cX5_manGoes 58 = .ok (.goto 4, 3) := by decide +kernel
theorem dX5_manGoes_61 : decode cX5_manGoes 61 = .ok (.iconst 0, 1) := by decide +kernel
theorem dX5_manGoes_62 : decode cX5_manGoes 62 = .ok (.ireturn, 1) := by decide +kernel
theorem dX5_manGoes_63 : decode cX5_manGoes 63 = .ok (.aload_n 0, 1) := by decide +kernel
theorem dX5_manGoes_64 : decode cX5_manGoes 64 = .ok (.getfield 126, 3) := by decide +kernel
theorem dX5_manGoes_67 : decode cX5_manGoes 67 = .ok (.bipush 8, 2) := by decide +kernel
theorem dX5_manGoes_69 : decode cX5_manGoes 69 = .ok (.iadd, 1) := by decide +kernel
theorem dX5_manGoes_70 : decode cX5_manGoes 70 = .ok (.aload_n 0, 1) := by decide +kernel
theorem dX5_manGoes_71 : decode cX5_manGoes 71 = .ok (.getfield 123, 3) := by decide +kernel
theorem dX5_manGoes_74 : decode cX5_manGoes 74 = .ok (.if_icmp .eq 21, 3) := by decide +kernel
theorem dX5_manGoes_77 : decode cX5_manGoes 77 = .ok (.aload_n 0, 1) := by decide +kernel
theorem dX5_manGoes_78 : decode cX5_manGoes 78 = .ok (.getfield 126, 3) := by decide +kernel
theorem dX5_manGoes_81 : decode cX5_manGoes 81 = .ok (.bipush 8, 2) := by decide +kernel
theorem dX5_manGoes_83 : decode cX5_manGoes 83 = .ok (.iadd, 1) := by decide +kernel
theorem dX5_manGoes_84 : decode cX5_manGoes 84 = .ok (.aload_n 0, 1) := by decide +kernel
theorem dX5_manGoes_85 : decode cX5_manGoes 85 = .ok (.getfield 129, 3) := by decide +kernel
theorem dX5_manGoes_88 : decode cX5_manGoes 88 = .ok (.if_icmp .eq 7, 3) := by decide +kernel
theorem dX5_manGoes_91 : decode cX5_manGoes 91 = .ok (.iconst 1, 1) := by decide +kernel
theorem dX5_manGoes_92 : decode cX5_manGoes 92 = .ok (.goto 4, 3) := by decide +kernel
theorem dX5_manGoes_95 : decode cX5_manGoes 95 = .ok (.iconst 0, 1) := by decide +kernel
theorem dX5_manGoes_96 : decode cX5_manGoes 96 = .ok (.istore_n 2, 1) := by decide +kernel
theorem dX5_manGoes_97 : decode cX5_manGoes 97 = .ok (.iload_n 2, 1) := by decide +kernel
theorem dX5_manGoes_98 : decode cX5_manGoes 98 = .ok (.ifCond .eq 53, 3) := by decide +kernel
theorem dX5_manGoes_101 : decode cX5_manGoes 101 = .ok (.iload_n 1, 1) := by decide +kernel
theorem dX5_manGoes_102 : decode cX5_manGoes 102 = .ok (.aload_n 0, 1) := by decide +kernel
theorem dX5_manGoes_103 : decode cX5_manGoes 103 = .ok (.getfield 126, 3) := by decide +kernel
theorem dX5_manGoes_106 : decode cX5_manGoes 106 = .ok (.bipush 8, 2) := by decide +kernel
theorem dX5_manGoes_108 : decode cX5_manGoes 108 = .ok (.iadd, 1) := by decide +kernel
theorem dX5_manGoes_109 : decode cX5_manGoes 109 = .ok (.if_icmp .eq 38, 3) := by decide +kernel
theorem dX5_manGoes_112 : decode cX5_manGoes 112 = .ok (.iload_n 1, 1) := by decide +kernel
theorem dX5_manGoes_113 : decode cX5_manGoes 113 = .ok (.aload_n 0, 1) := by decide +kernel
theorem dX5_manGoes_114 : decode cX5_manGoes 114 = .ok (.getfield 126, 3) := by decide +kernel
theorem dX5_manGoes_117 : decode cX5_manGoes 117 = .ok (.bipush 16, 2) := by decide +kernel
theorem dX5_manGoes_119 : decode cX5_manGoes 119 = .ok (.iadd, 1) := by decide +kernel
theorem dX5_manGoes_120 : decode cX5_manGoes 120 = .ok (.if_icmp .ne 31, 3) := by decide +kernel
theorem dX5_manGoes_123 : decode cX5_manGoes 123 = .ok (.aload_n 0, 1) := by decide +kernel
theorem dX5_manGoes_124 : decode cX5_manGoes 124 = .ok (.getfield 126, 3) := by decide +kernel
theorem dX5_manGoes_127 : decode cX5_manGoes 127 = .ok (.bipush 8, 2) := by decide +kernel
theorem dX5_manGoes_129 : decode cX5_manGoes 129 = .ok (.idiv, 1) := by decide +kernel
theorem dX5_manGoes_130 : decode cX5_manGoes 130 = .ok (.iconst 1, 1) := by decide +kernel
theorem dX5_manGoes_131 : decode cX5_manGoes 131 = .ok (.if_icmp .ne 20, 3) := by decide +kernel
theorem dX5_manGoes_134 : decode cX5_manGoes 134 = .ok (.iload_n 1, 1) := by decide +kernel
theorem dX5_manGoes_135 : decode cX5_manGoes 135 = .ok (.bipush 8, 2) := by decide +kernel
theorem dX5_manGoes_137 : decode cX5_manGoes 137 = .ok (.idiv, 1) := by decide +kernel
theorem dX5_manGoes_138 : decode cX5_manGoes 138 = .ok (.aload_n 0, 1) := by decide +kernel
theorem dX5_manGoes_139 : decode cX5_manGoes 139 = .ok (.getfield 29, 3) := by decide +kernel
theorem dX5_manGoes_142 : decode cX5_manGoes 142 = .ok (.iconst 1, 1) := by decide +kernel
theorem dX5_manGoes_143 : decode cX5_manGoes 143 = .ok (.isub, 1) := by decide +kernel
theorem dX5_manGoes_144 : decode cX5_manGoes 144 = .ok (.if_icmp .ge 7, 3) := by decide +kernel
theorem dX5_manGoes_147 : decode cX5_manGoes 147 = .ok (.iconst 1, 1) := by decide +kernel
theorem dX5_manGoes_148 : decode cX5_manGoes 148 = .ok (.goto 4, 3) := by decide +kernel
theorem dX5_manGoes_151 : decode cX5_manGoes 151 = .ok (.iconst 0, 1) := by decide +kernel
theorem dX5_manGoes_152 : decode cX5_manGoes 152 = .ok (.ireturn, 1) := by decide +kernel
set_option maxRecDepth 20000 in
theorem ggX5_kingGoes_X5_isNext : GoodIn wsX5_kingGoes wsX5_isNext := goodIn_r _ [8, 9, 10, 7, 11] (by decide +kernel) (by decide +kernel)
set_option maxRecDepth 20000 in
theorem gX5_kingGoes_X5_isNext : GoodIn wsX5_kingGoes (va_wsS RX5 51 yX5_isNext wsX5_isNext) := goodIn_app (goodIn_of _ (by decide +kernel)) ggX5_kingGoes_X5_isNext
theorem dX5_kingGoes_0 : decode cX5_kingGoes 0 = .ok (.aload_n 0, 1) := by decide +kernel
theorem dX5_kingGoes_1 : decode cX5_kingGoes 1 = .ok (.getfield 123, 3) := by decide +kernel
theorem dX5_kingGoes_4 : decode cX5_kingGoes 4 = .ok (.iload_n 1, 1) := by decide +kernel
theorem dX5_kingGoes_5 : decode cX5_kingGoes 5 = .ok (.invokestatic 51, 3) := by decide +kernel
theorem dX5_kingGoes_8 : decode cX5_kingGoes 8 = .ok (.ifCond .eq 41, 3) := by decide +kernel
theorem dX5_kingGoes_11 : decode cX5_kingGoes 11 = .ok (.iload_n 1, 1) := by decide +kernel
theorem dX5_kingGoes_12 : decode cX5_kingGoes 12 = .ok (.aload_n 0, 1) := by decide +kernel
theorem dX5_kingGoes_13 : decode cX5_kingGoes 13 = .ok (.getfield 129, 3) := by decide +kernel
theorem dX5_kingGoes_16 : decode cX5_kingGoes 16 = .ok (.if_icmp .eq 33, 3) := by decide +kernel
theorem dX5_kingGoes_19 : decode cX5_kingGoes 19 = .ok (.iload_n 1, 1) := by decide +kernel
theorem dX5_kingGoes_20 : decode cX5_kingGoes 20 = .ok (.aload_n 0, 1) := by decide +kernel
theorem dX5_kingGoes_21 : decode cX5_kingGoes 21 = .ok (.getfield 129, 3) := by decide +kernel
theorem dX5_kingGoes_24 : decode cX5_kingGoes 24 = .ok (.invokestatic 51, 3) := by decide +kernel
theorem dX5_kingGoes_27 : decode cX5_kingGoes 27 = .ok (.ifCond .ne 22, 3) := by decide +kernel
theorem dX5_kingGoes_30 : decode cX5_kingGoes 30 = .ok (.aload_n 0, 1) := by decide +kernel
theorem dX5_kingGoes_31 : decode cX5_kingGoes 31 = .ok (.getfield 120, 3) := by decide +kernel
theorem dX5_kingGoes_34 : decode cX5_kingGoes 34 = .ok (.ifCond .eq 11, 3) := by decide +kernel
theorem dX5_kingGoes_37 : decode cX5_kingGoes 37 = .ok (.iload_n 1, 1) := by decide +kernel
theorem dX5_kingGoes_38 : decode cX5_kingGoes 38 = .ok (.aload_n 0, 1) := by decide +kernel
theorem dX5_kingGoes_39 : decode cX5_kingGoes 39 = .ok (.getfield 126, 3) := by decide +kernel
theorem dX5_kingGoes_42 : decode cX5_kingGoes 42 = .ok (.if_icmp .eq 7, 3) := by decide +kernel
theorem dX5_kingGoes_45 : decode cX5_kingGoes 45 = .ok (.iconst 1, 1) := by decide +kernel
theorem dX5_kingGoes_46 : decode cX5_kingGoes 46 = .ok (.goto 4, 3) := by decide +kernel
theorem dX5_kingGoes_49 : decode cX5_kingGoes 49 = .ok (.iconst 0, 1) := by decide +kernel
theorem dX5_kingGoes_50 : decode cX5_kingGoes 50 = .ok (.ireturn, 1) := by decide +kernel
set_option maxRecDepth 20000 in
theorem ggX5_findMoves_X5_isSquare : GoodIn wsX5_findMoves wsX5_isSquare := goodIn_r _ [13, 14, 8, 49, 50, 51, 52, 53, 54, 55, 56, 57, 58, 59, 60, 61, 62] (by decide +kernel) (by decide +kernel)
set_option maxRecDepth 20000 in
theorem gX5_findMoves_X5_isSquare : GoodIn wsX5_findMoves (wsV RX5 47 RX5 yX5_isSquare wsX5_isSquare) := goodIn_app (goodIn_of _ (by decide +kernel)) ggX5_findMoves_X5_isSquare
set_option maxRecDepth 20000 in
theorem ggX5_findMoves_X5_kingGoes : GoodIn wsX5_findMoves wsX5_kingGoes := goodIn_r _ [18, 4, 5, 6, 7, 19, 20, 12, 21, 22, 23, 24, 49, 50, 51, 52, 53, 54, 55, 56, 57, 58, 59, 60, 61, 62] (by decide +kernel) (by decide +kernel)
set_option maxRecDepth 20000 in
theorem gX5_findMoves_X5_kingGoes : GoodIn wsX5_findMoves (wsV RX5 138 RX5 yX5_kingGoes wsX5_kingGoes) := goodIn_app (goodIn_of _ (by decide +kernel)) ggX5_findMoves_X5_kingGoes
set_option maxRecDepth 20000 in
theorem ggX5_findMoves_X5_isNext : GoodIn wsX5_findMoves wsX5_isNext := goodIn_r _ [21, 22, 23, 12, 24] (by decide +kernel) (by decide +kernel)
set_option maxRecDepth 20000 in
theorem gX5_findMoves_X5_isNext : GoodIn wsX5_findMoves (va_wsS RX5 51 yX5_isNext wsX5_isNext) := goodIn_app (goodIn_of _ (by decide +kernel)) ggX5_findMoves_X5_isNext
set_option maxRecDepth 20000 in
theorem ggX5_findMoves_X5_mayGo : GoodIn wsX5_findMoves wsX5_mayGo := goodIn_r _ [28, 19, 20, 12, 21, 22, 23, 24, 29, 30, 31, 32, 33, 34, 35, 36, 37, 38, 39, 14, 8, 49, 50, 51, 52, 53, 54, 55, 56, 57, 58, 59, 60, 61, 62] (by decide +kernel) (by decide +kernel)
set_option maxRecDepth 20000 in
theorem gX5_findMoves_X5_mayGo : GoodIn wsX5_findMoves (wsV RX5 66 RX5 yX5_mayGo wsX5_mayGo) := goodIn_app (goodIn_of _ (by decide +kernel)) ggX5_findMoves_X5_mayGo
set_option maxRecDepth 20000 in
theorem ggX5_findMoves_X5_add : GoodIn wsX5_findMoves wsX5_add := goodIn_r _ [43, 44, 1, 49, 50, 51, 52, 53, 54, 55, 56, 57, 58, 59, 60, 61, 62] (by decide +kernel) (by decide +kernel)
set_option maxRecDepth 20000 in
theorem gX5_findMoves_X5_add : GoodIn wsX5_findMoves (wsV RX5 141 RX5 yX5_add wsX5_add) := goodIn_app (goodIn_of _ (by decide +kernel)) ggX5_findMoves_X5_add
set_option maxRecDepth 20000 in
theorem ggX5_findMoves_X5_manGoes : GoodIn wsX5_findMoves wsX5_manGoes := goodIn_r _ [48, 4, 5, 6, 7, 8, 29, 30, 31, 12, 32, 33, 34, 35, 36, 37, 38, 39, 14, 49, 50, 51, 52, 53, 54, 55, 56, 57, 58, 59, 60, 61, 62] (by decide +kernel) (by decide +kernel)
set_option maxRecDepth 20000 in
theorem gX5_findMoves_X5_manGoes : GoodIn wsX5_findMoves (wsV RX5 144 RX5 yX5_manGoes wsX5_manGoes) := goodIn_app (goodIn_of _ (by decide +kernel)) ggX5_findMoves_X5_manGoes
theorem dX5_findMoves_0 : decode cX5_findMoves 0 = .ok (.aload_n 0, 1) := by decide +kernel
theorem dX5_findMoves_1 : decode cX5_findMoves 1 = .ok (.iconst 0, 1) := by decide +kernel
theorem dX5_findMoves_2 : decode cX5_findMoves 2 = .ok (.putfield 135, 3) := by decide +kernel
theorem dX5_findMoves_5 : decode cX5_findMoves 5 = .ok (.iconst 0, 1) := by decide +kernel
theorem dX5_findMoves_6 : decode cX5_findMoves 6 = .ok (.istore_n 1, 1) := by decide +kernel
theorem dX5_findMoves_7 : decode cX5_findMoves 7 = .ok (.iload_n 1, 1) := by decide +kernel
theorem dX5_findMoves_8 : decode cX5_findMoves 8 = .ok (.bipush 64, 2) := by decide +kernel
theorem dX5_findMoves_10 : decode cX5_findMoves 10 = .ok (.if_icmp .ge 268, 3) := by decide +kernel
theorem dX5_findMoves_13 : decode cX5_findMoves 13 = .ok (.aload_n 0, 1) := by decide +kernel
theorem dX5_findMoves_14 : decode cX5_findMoves 14 = .ok (.getfield 116, 3) := by decide +kernel
theorem dX5_findMoves_17 : decode cX5_findMoves 17 = .ok (.ifCond .eq 261, 3) := by decide +kernel
theorem dX5_findMoves_20 : decode cX5_findMoves 20 = .ok (.iload_n 1, 1) := by decide +kernel
theorem dX5_findMoves_21 : decode cX5_findMoves 21 = .ok (.aload_n 0, 1) := by decide +kernel
theorem dX5_findMoves_22 : decode cX5_findMoves 22 = .ok (.getfield 132, 3) := by decide +kernel
theorem dX5_findMoves_25 : decode cX5_findMoves 25 = .ok (.ifCond .ne 10, 3) := by decide +kernel
theorem dX5_findMoves_28 : decode cX5_findMoves 28 = .ok (.aload_n 0, 1) := by decide +kernel
theorem dX5_findMoves_29 : decode cX5_findMoves 29 = .ok (.getfield 123, 3) := by decide +kernel
theorem dX5_findMoves_32 : decode cX5_findMoves 32 = .ok (.goto 7, 3) := by decide +kernel
theorem dX5_findMoves_35 : decode cX5_findMoves 35 = .ok (.aload_n 0, 1) := by decide +kernel
theorem dX5_findMoves_36 : decode cX5_findMoves 36 = .ok (.getfield 129, 3) := by decide +kernel
theorem dX5_findMoves_39 : decode cX5_findMoves 39 = .ok (.if_icmp .ne 7, 3) := by decide +kernel
theorem dX5_findMoves_42 : decode cX5_findMoves 42 = .ok (.iconst 1, 1) := by decide +kernel
theorem dX5_findMoves_43 : decode cX5_findMoves 43 = .ok (.goto 4, 3) := by decide +kernel
theorem dX5_findMoves_46 : decode cX5_findMoves 46 = .ok (.iconst 0, 1) := by decide +kernel
theorem dX5_findMoves_47 : decode cX5_findMoves 47 = .ok (.istore_n 2, 1) := by decide +kernel
theorem dX5_findMoves_48 : decode cX5_findMoves 48 = .ok (.aload_n 0, 1) := by decide +kernel
theorem dX5_findMoves_49 : decode cX5_findMoves 49 = .ok (.getfield 132, 3) := by decide +kernel
theorem dX5_findMoves_52 : decode cX5_findMoves 52 = .ok (.ifCond .ne 22, 3) := by decide +kernel
theorem dX5_findMoves_55 : decode cX5_findMoves 55 = .ok (.aload_n 0, 1) := by decide +kernel
theorem dX5_findMoves_56 : decode cX5_findMoves 56 = .ok (.getfield 120, 3) := by decide +kernel
theorem dX5_findMoves_59 : decode cX5_findMoves 59 = .ok (.ifCond .le 15, 3) := by decide +kernel
theorem dX5_findMoves_62 : decode cX5_findMoves 62 = .ok (.iload_n 1, 1) := by decide +kernel
theorem dX5_findMoves_63 : decode cX5_findMoves 63 = .ok (.aload_n 0, 1) := by decide +kernel
theorem dX5_findMoves_64 : decode cX5_findMoves 64 = .ok (.getfield 126, 3) := by decide +kernel
theorem dX5_findMoves_67 : decode cX5_findMoves 67 = .ok (.if_icmp .ne 7, 3) := by decide +kernel
theorem dX5_findMoves_70 : decode cX5_findMoves 70 = .ok (.iconst 1, 1) := by decide +kernel
theorem dX5_findMoves_71 : decode cX5_findMoves 71 = .ok (.goto 4, 3) := by decide +kernel
theorem dX5_findMoves_74 : decode cX5_findMoves 74 = .ok (.iconst 0, 1) := by decide +kernel
theorem dX5_findMoves_75 : decode cX5_findMoves 75 = .ok (.istore_n 3, 1) := by decide +kernel
theorem dX5_findMoves_76 : decode cX5_findMoves 76 = .ok (.iconst 0, 1) := by decide +kernel
theorem dX5_findMoves_77 : decode cX5_findMoves 77 = .ok (.istore 4, 2) := by decide +kernel
theorem dX5_findMoves_79 : decode cX5_findMoves 79 = .ok (.iload 4, 2) := by decide +kernel
theorem dX5_findMoves_81 : decode cX5_findMoves 81 = .ok (.bipush 64, 2) := by decide +kernel
theorem dX5_findMoves_83 : decode cX5_findMoves 83 = .ok (.if_icmp .ge 189, 3) := by decide +kernel
theorem dX5_findMoves_86 : decode cX5_findMoves 86 = .ok (.iload_n 2, 1) := by decide +kernel
theorem dX5_findMoves_87 : decode cX5_findMoves 87 = .ok (.ifCond .ne 7, 3) := by decide +kernel
theorem dX5_findMoves_90 : decode cX5_findMoves 90 = .ok (.iload_n 3, 1) := by decide +kernel
theorem dX5_findMoves_91 : decode cX5_findMoves 91 = .ok (.ifCond .eq 181, 3) := by decide +kernel
theorem dX5_findMoves_94 : decode cX5_findMoves 94 = .ok (.aload_n 0, 1) := by decide +kernel
theorem dX5_findMoves_95 : decode cX5_findMoves 95 = .ok (.iload 4, 2) := by decide +kernel
theorem dX5_findMoves_97 : decode cX5_findMoves 97 = .ok (.invokevirtual 47, 3) := by decide +kernel
theorem dX5_findMoves_100 : decode cX5_findMoves 100 = .ok (.ifCond .eq 166, 3) := by decide +kernel
theorem dX5_findMoves_103 : decode cX5_findMoves 103 = .ok (.iload_n 2, 1) := by decide +kernel
theorem dX5_findMoves_104 : decode cX5_findMoves 104 = .ok (.ifCond .eq 69, 3) := by decide +kernel
theorem dX5_findMoves_107 : decode cX5_findMoves 107 = .ok (.aload_n 0, 1) := by decide +kernel
theorem dX5_findMoves_108 : decode cX5_findMoves 108 = .ok (.getfield 132, 3) := by decide +kernel
theorem dX5_findMoves_111 : decode cX5_findMoves 111 = .ok (.ifCond .ne 15, 3) := by decide +kernel
theorem dX5_findMoves_114 : decode cX5_findMoves 114 = .ok (.aload_n 0, 1) := by decide +kernel
theorem dX5_findMoves_115 : decode cX5_findMoves 115 = .ok (.iload 4, 2) := by decide +kernel
theorem dX5_findMoves_117 : decode cX5_findMoves 117 = .ok (.invokevirtual 138, 3) := by decide +kernel
theorem dX5_findMoves_120 : decode cX5_findMoves 120 = .ok (.ifCond .eq 53, 3) := by decide +kernel
theorem dX5_findMoves_123 : decode cX5_findMoves 123 = .ok (.goto 36, 3) := by decide +kernel
theorem dX5_findMoves_126 : decode cX5_findMoves 126 = .ok (.aload_n 0, 1) := by decide +kernel
theorem dX5_findMoves_127 : decode cX5_findMoves 127 = .ok (.getfield 129, 3) := by decide +kernel
theorem dX5_findMoves_130 : decode cX5_findMoves 130 = .ok (.iload 4, 2) := by decide +kernel
theorem dX5_findMoves_132 : decode cX5_findMoves 132 = .ok (.invokestatic 51, 3) := by decide +kernel
theorem dX5_findMoves_135 : decode cX5_findMoves 135 = .ok (.ifCond .eq 38, 3) := by decide +kernel
theorem dX5_findMoves_138 : decode cX5_findMoves 138 = .ok (.aload_n 0, 1) := by decide +kernel
theorem dX5_findMoves_139 : decode cX5_findMoves 139 = .ok (.aload_n 0, 1) := by decide +kernel
theorem dX5_findMoves_140 : decode cX5_findMoves 140 = .ok (.getfield 120, 3) := by decide +kernel
theorem dX5_findMoves_143 : decode cX5_findMoves 143 = .ok (.aload_n 0, 1) := by decide +kernel
theorem dX5_findMoves_144 : decode cX5_findMoves 144 = .ok (.getfield 123, 3) := by decide +kernel
theorem dX5_findMoves_147 : decode cX5_findMoves 147 = .ok (.aload_n 0, 1) := by decide +kernel
theorem dX5_findMoves_148 : decode cX5_findMoves 148 = .ok (.getfield 126, 3) := by decide +kernel
theorem dX5_findMoves_151 : decode cX5_findMoves 151 = .ok (.iload 4, 2) := by decide +kernel
theorem dX5_findMoves_153 : decode cX5_findMoves 153 = .ok (.invokevirtual 66, 3) := by decide +kernel
theorem dX5_findMoves_156 : decode cX5_findMoves 156 = .ok (.ifCond .eq 17, 3) := by decide +kernel
theorem dX5_findMoves_159 : decode cX5_findMoves 159 = .ok (.aload_n 0, 1) := by decide +kernel
theorem dX5_findMoves_160 : decode cX5_findMoves 160 = .ok (.iload_n 1, 1) := by decide +kernel
theorem dX5_findMoves_161 : decode cX5_findMoves 161 = .ok (.bipush 64, 2) := by decide +kernel
theorem dX5_findMoves_163 : decode cX5_findMoves 163 = .ok (.iload 4, 2) := by decide +kernel
theorem dX5_findMoves_165 : decode cX5_findMoves 165 = .ok (.imul, 1) := by decide +kernel
theorem dX5_findMoves_166 : decode cX5_findMoves 166 = .ok (.iadd, 1) := by decide +kernel
theorem dX5_findMoves_167 : decode cX5_findMoves 167 = .ok (.invokevirtual 141, 3) := by decide +kernel
theorem dX5_findMoves_170 : decode cX5_findMoves 170 = .ok (.goto 96, 3) := by decide +kernel
theorem dX5_findMoves_173 : decode cX5_findMoves 173 = .ok (.iload_n 3, 1) := by decide +kernel
theorem dX5_findMoves_174 : decode cX5_findMoves 174 = .ok (.ifCond .eq 92, 3) := by decide +kernel
theorem dX5_findMoves_177 : decode cX5_findMoves 177 = .ok (.aload_n 0, 1) := by decide +kernel
theorem dX5_findMoves_178 : decode cX5_findMoves 178 = .ok (.iload 4, 2) := by decide +kernel
theorem dX5_findMoves_180 : decode cX5_findMoves 180 = .ok (.invokevirtual 144, 3) := by decide +kernel
theorem dX5_findMoves_183 : decode cX5_findMoves 183 = .ok (.ifCond .eq 83, 3) := by decide +kernel
theorem dX5_findMoves_186 : decode cX5_findMoves 186 = .ok (.aload_n 0, 1) := by decide +kernel
theorem dX5_findMoves_187 : decode cX5_findMoves 187 = .ok (.getfield 120, 3) := by decide +kernel
theorem dX5_findMoves_190 : decode cX5_findMoves 190 = .ok (.iconst 1, 1) := by decide +kernel
theorem dX5_findMoves_191 : decode cX5_findMoves 191 = .ok (.if_icmp .ne 21, 3) := by decide +kernel
theorem dX5_findMoves_194 : decode cX5_findMoves 194 = .ok (.iload 4, 2) := by decide +kernel
theorem dX5_findMoves_196 : decode cX5_findMoves 196 = .ok (.bipush 8, 2) := by decide +kernel
theorem dX5_findMoves_198 : decode cX5_findMoves 198 = .ok (.idiv, 1) := by decide +kernel
theorem dX5_findMoves_199 : decode cX5_findMoves 199 = .ok (.aload_n 0, 1) := by decide +kernel
theorem dX5_findMoves_200 : decode cX5_findMoves 200 = .ok (.getfield 29, 3) := by decide +kernel
theorem dX5_findMoves_203 : decode cX5_findMoves 203 = .ok (.iconst 1, 1) := by decide +kernel
theorem dX5_findMoves_204 : decode cX5_findMoves 204 = .ok (.isub, 1) := by decide +kernel
theorem dX5_findMoves_205 : decode cX5_findMoves 205 = .ok (.if_icmp .ne 7, 3) := by decide +kernel
theorem dX5_findMoves_208 : decode cX5_findMoves 208 = .ok (.iconst 1, 1) := by decide +kernel
theorem dX5_findMoves_209 : decode cX5_findMoves 209 = .ok (.goto 4, 3) := by decide +kernel
theorem dX5_findMoves_212 : decode cX5_findMoves 212 = .ok (.iconst 0, 1) := by decide +kernel
theorem dX5_findMoves_213 : decode cX5_findMoves 213 = .ok (.istore 5, 2) := by decide +kernel
theorem dX5_findMoves_215 : decode cX5_findMoves 215 = .ok (.iload 5, 2) := by decide +kernel
theorem dX5_findMoves_217 : decode cX5_findMoves 217 = .ok (.ifCond .eq 7, 3) := by decide +kernel
theorem dX5_findMoves_220 : decode cX5_findMoves 220 = .ok (.iconst 2, 1) := by decide +kernel
theorem dX5_findMoves_221 : decode cX5_findMoves 221 = .ok (.goto 4, 3) := by decide +kernel
theorem dX5_findMoves_224 : decode cX5_findMoves 224 = .ok (.iconst 0, 1) := by decide +kernel
theorem dX5_findMoves_225 : decode cX5_findMoves 225 = .ok (.istore 6, 2) := by decide +kernel
theorem dX5_findMoves_227 : decode cX5_findMoves 227 = .ok (.iload 6, 2) := by decide +kernel
theorem dX5_findMoves_229 : decode cX5_findMoves 229 = .ok (.iload 5, 2) := by decide +kernel
theorem dX5_findMoves_231 : decode cX5_findMoves 231 = .ok (.ifCond .eq 7, 3) := by decide +kernel
theorem dX5_findMoves_234 : decode cX5_findMoves 234 = .ok (.iconst 5, 1) := by decide +kernel
theorem dX5_findMoves_235 : decode cX5_findMoves 235 = .ok (.goto 4, 3) := by decide +kernel
theorem dX5_findMoves_238 : decode cX5_findMoves 238 = .ok (.iconst 0, 1) := by decide +kernel
theorem dX5_findMoves_239 : decode cX5_findMoves 239 = .ok (.if_icmp .gt 27, 3) := by decide +kernel
theorem dX5_findMoves_242 : decode cX5_findMoves 242 = .ok (.aload_n 0, 1) := by decide +kernel
theorem dX5_findMoves_243 : decode cX5_findMoves 243 = .ok (.iload_n 1, 1) := by decide +kernel
theorem dX5_findMoves_244 : decode cX5_findMoves 244 = .ok (.bipush 64, 2) := by decide +kernel
theorem dX5_findMoves_246 : decode cX5_findMoves 246 = .ok (.iload 4, 2) := by decide +kernel
theorem dX5_findMoves_248 : decode cX5_findMoves 248 = .ok (.imul, 1) := by decide +kernel
theorem dX5_findMoves_249 : decode cX5_findMoves 249 = .ok (.iadd, 1) := by decide +kernel
theorem dX5_findMoves_250 : decode cX5_findMoves 250 = .ok (.sipush 4096, 3) := by decide +kernel
theorem dX5_findMoves_253 : decode cX5_findMoves 253 = .ok (.iload 6, 2) := by decide +kernel
theorem dX5_findMoves_255 : decode cX5_findMoves 255 = .ok (.imul, 1) := by decide +kernel
theorem dX5_findMoves_256 : decode cX5_findMoves 256 = .ok (.iadd, 1) := by decide +kernel
theorem dX5_findMoves_257 : decode cX5_findMoves 257 = .ok (.invokevirtual 141, 3) := by decide +kernel
theorem dX5_findMoves_260 : decode cX5_findMoves 260 = .ok (.iinc 6 1, 3) := by decide +kernel
theorem dX5_findMoves_263 : decode cX5_findMoves 263 = .ok (.goto (-36), 3) := by decide +kernel
theorem dX5_findMoves_266 : decode cX5_findMoves 266 = .ok (.iinc 4 1, 3) := by decide +kernel
theorem dX5_findMoves_269 : decode cX5_findMoves 269 = .ok (.goto (-190), 3) := by decide +kernel
theorem dX5_findMoves_272 : decode cX5_findMoves 272 = .ok (.iinc 1 1, 3) := by decide +kernel
theorem dX5_findMoves_275 : decode cX5_findMoves 275 = .ok (.goto (-268), 3) := by decide +kernel
theorem dX5_findMoves_278 : decode cX5_findMoves 278 = .ok (.return_, 1) := by decide +kernel
set_option maxRecDepth 20000 in
theorem ggX5_behind_X5_distanceOf : GoodIn wsX5_behind wsX5_distanceOf := goodIn_r _ [10, 11, 12, 13, 9, 14, 15, 16, 17, 18, 19, 20, 21, 22, 23, 24, 25, 26, 27, 28, 29, 30, 31, 32, 33, 34, 35, 36, 37, 38, 39, 40, 41, 42, 43, 44, 45, 46, 47, 48, 49, 50, 51, 52, 53, 54, 55, 56, 57, 58, 59, 60, 61, 62, 63, 64, 65, 66, 67, 68, 69, 70, 71, 72, 73, 74, 75, 76, 77, 78, 79, 80, 81, 82, 83, 84, 85, 86, 87, 88, 89, 90, 91, 92, 93, 94, 95, 96, 97, 98, 99, 100, 101, 102, 103] (by decide +kernel) (by decide +kernel)
set_option maxRecDepth 20000 in
theorem gX5_behind_X5_distanceOf : GoodIn wsX5_behind (wsV RX5 110 RX5 yX5_distanceOf wsX5_distanceOf) := goodIn_app (goodIn_of _ (by decide +kernel)) ggX5_behind_X5_distanceOf
theorem dX5_behind_0 : decode cX5_behind 0 = .ok (.iload_n 1, 1) := by decide +kernel
theorem dX5_behind_1 : decode cX5_behind 1 = .ok (.bipush 64, 2) := by decide +kernel
theorem dX5_behind_3 : decode cX5_behind 3 = .ok (.idiv, 1) := by decide +kernel
theorem dX5_behind_4 : decode cX5_behind 4 = .ok (.bipush 64, 2) := by decide +kernel
theorem dX5_behind_6 : decode cX5_behind 6 = .ok (.irem, 1) := by decide +kernel
theorem dX5_behind_7 : decode cX5_behind 7 = .ok (.istore_n 2, 1) := by decide +kernel
theorem dX5_behind_8 : decode cX5_behind 8 = .ok (.iload_n 1, 1) := by decide +kernel
theorem dX5_behind_9 : decode cX5_behind 9 = .ok (.sipush 4096, 3) := by decide +kernel
theorem dX5_behind_12 : decode cX5_behind 12 = .ok (.idiv, 1) := by decide +kernel
theorem dX5_behind_13 : decode cX5_behind 13 = .ok (.istore_n 3, 1) := by decide +kernel
theorem dX5_behind_14 : decode cX5_behind 14 = .ok (.aload_n 0, 1) := by decide +kernel
theorem dX5_behind_15 : decode cX5_behind 15 = .ok (.getfield 132, 3) := by decide +kernel
theorem dX5_behind_18 : decode cX5_behind 18 = .ok (.iconst 1, 1) := by decide +kernel
theorem dX5_behind_19 : decode cX5_behind 19 = .ok (.if_icmp .ne 41, 3) := by decide +kernel
theorem dX5_behind_22 : decode cX5_behind 22 = .ok (.aload_n 0, 1) := by decide +kernel
theorem dX5_behind_23 : decode cX5_behind 23 = .ok (.getfield 120, 3) := by decide +kernel
theorem dX5_behind_26 : decode cX5_behind 26 = .ok (.ifCond .eq 11, 3) := by decide +kernel
theorem dX5_behind_29 : decode cX5_behind 29 = .ok (.iload_n 2, 1) := by decide +kernel
theorem dX5_behind_30 : decode cX5_behind 30 = .ok (.aload_n 0, 1) := by decide +kernel
theorem dX5_behind_31 : decode cX5_behind 31 = .ok (.getfield 126, 3) := by decide +kernel
theorem dX5_behind_34 : decode cX5_behind 34 = .ok (.if_icmp .ne 7, 3) := by decide +kernel
theorem dX5_behind_37 : decode cX5_behind 37 = .ok (.iconst (-1), 1) := by decide +kernel
theorem dX5_behind_38 : decode cX5_behind 38 = .ok (.goto 21, 3) := by decide +kernel
theorem dX5_behind_41 : decode cX5_behind 41 = .ok (.aload_n 0, 1) := by decide +kernel
theorem dX5_behind_42 : decode cX5_behind 42 = .ok (.aload_n 0, 1) := by decide +kernel
theorem dX5_behind_43 : decode cX5_behind 43 = .ok (.getfield 120, 3) := by decide +kernel
theorem dX5_behind_46 : decode cX5_behind 46 = .ok (.aload_n 0, 1) := by decide +kernel
theorem dX5_behind_47 : decode cX5_behind 47 = .ok (.getfield 123, 3) := by decide +kernel
theorem dX5_behind_50 : decode cX5_behind 50 = .ok (.aload_n 0, 1) := by decide +kernel
theorem dX5_behind_51 : decode cX5_behind 51 = .ok (.getfield 126, 3) := by decide +kernel
theorem dX5_behind_54 : decode cX5_behind 54 = .ok (.iload_n 2, 1) := by decide +kernel
theorem dX5_behind_55 : decode cX5_behind 55 = .ok (.iconst 0, 1) := by decide +kernel
theorem dX5_behind_56 : decode cX5_behind 56 = .ok (.invokevirtual 110, 3) := by decide +kernel
theorem dX5_behind_59 : decode cX5_behind 59 = .ok (.ireturn, 1) := by decide +kernel
theorem dX5_behind_60 : decode cX5_behind 60 = .ok (.iload_n 1, 1) := by decide +kernel
theorem dX5_behind_61 : decode cX5_behind 61 = .ok (.bipush 64, 2) := by decide +kernel
theorem dX5_behind_63 : decode cX5_behind 63 = .ok (.irem, 1) := by decide +kernel
theorem dX5_behind_64 : decode cX5_behind 64 = .ok (.aload_n 0, 1) := by decide +kernel
theorem dX5_behind_65 : decode cX5_behind 65 = .ok (.getfield 123, 3) := by decide +kernel
theorem dX5_behind_68 : decode cX5_behind 68 = .ok (.if_icmp .ne 33, 3) := by decide +kernel
theorem dX5_behind_71 : decode cX5_behind 71 = .ok (.aload_n 0, 1) := by decide +kernel
theorem dX5_behind_72 : decode cX5_behind 72 = .ok (.getfield 120, 3) := by decide +kernel
theorem dX5_behind_75 : decode cX5_behind 75 = .ok (.ifCond .ne 7, 3) := by decide +kernel
theorem dX5_behind_78 : decode cX5_behind 78 = .ok (.iconst (-1), 1) := by decide +kernel
theorem dX5_behind_79 : decode cX5_behind 79 = .ok (.goto 21, 3) := by decide +kernel
theorem dX5_behind_82 : decode cX5_behind 82 = .ok (.aload_n 0, 1) := by decide +kernel
theorem dX5_behind_83 : decode cX5_behind 83 = .ok (.aload_n 0, 1) := by decide +kernel
theorem dX5_behind_84 : decode cX5_behind 84 = .ok (.getfield 120, 3) := by decide +kernel
theorem dX5_behind_87 : decode cX5_behind 87 = .ok (.iload_n 2, 1) := by decide +kernel
theorem dX5_behind_88 : decode cX5_behind 88 = .ok (.aload_n 0, 1) := by decide +kernel
theorem dX5_behind_89 : decode cX5_behind 89 = .ok (.getfield 126, 3) := by decide +kernel
theorem dX5_behind_92 : decode cX5_behind 92 = .ok (.aload_n 0, 1) := by decide +kernel
theorem dX5_behind_93 : decode cX5_behind 93 = .ok (.getfield 129, 3) := by decide +kernel
theorem dX5_behind_96 : decode cX5_behind 96 = .ok (.iconst 1, 1) := by decide +kernel
theorem dX5_behind_97 : decode cX5_behind 97 = .ok (.invokevirtual 110, 3) := by decide +kernel
theorem dX5_behind_100 : decode cX5_behind 100 = .ok (.ireturn, 1) := by decide +kernel
theorem dX5_behind_101 : decode cX5_behind 101 = .ok (.aload_n 0, 1) := by decide +kernel
theorem dX5_behind_102 : decode cX5_behind 102 = .ok (.iload_n 3, 1) := by decide +kernel
theorem dX5_behind_103 : decode cX5_behind 103 = .ok (.ifCond .le 7, 3) := by decide +kernel
theorem dX5_behind_106 : decode cX5_behind 106 = .ok (.iload_n 3, 1) := by decide +kernel
theorem dX5_behind_107 : decode cX5_behind 107 = .ok (.goto 7, 3) := by decide +kernel
theorem dX5_behind_110 : decode cX5_behind 110 = .ok (.aload_n 0, 1) := by decide +kernel
theorem dX5_behind_111 : decode cX5_behind 111 = .ok (.getfield 120, 3) := by decide +kernel
theorem dX5_behind_114 : decode cX5_behind 114 = .ok (.aload_n 0, 1) := by decide +kernel
theorem dX5_behind_115 : decode cX5_behind 115 = .ok (.getfield 123, 3) := by decide +kernel
theorem dX5_behind_118 : decode cX5_behind 118 = .ok (.iload_n 2, 1) := by decide +kernel
theorem dX5_behind_119 : decode cX5_behind 119 = .ok (.aload_n 0, 1) := by decide +kernel
theorem dX5_behind_120 : decode cX5_behind 120 = .ok (.getfield 129, 3) := by decide +kernel
theorem dX5_behind_123 : decode cX5_behind 123 = .ok (.iconst 1, 1) := by decide +kernel
theorem dX5_behind_124 : decode cX5_behind 124 = .ok (.invokevirtual 110, 3) := by decide +kernel
theorem dX5_behind_127 : decode cX5_behind 127 = .ok (.ireturn, 1) := by decide +kernel
set_option maxRecDepth 20000 in
theorem ggX5_moves_X5_findMoves : GoodIn wsX5_moves wsX5_findMoves := goodIn_r _ [8, 3, 1, 9, 10, 11, 12, 13, 14, 15, 16, 17, 7, 18, 19, 20, 21, 22, 23, 24, 25, 26, 27, 28, 29, 30, 31, 32, 33, 34, 35, 36, 37, 38, 39, 40, 41, 42, 43, 44, 45, 46, 47, 48, 49, 50, 51, 52, 53, 54, 55, 56, 57, 58, 59, 60, 61, 62, 63, 64, 65, 66, 67] (by decide +kernel) (by decide +kernel)
set_option maxRecDepth 20000 in
theorem gX5_moves_X5_findMoves : GoodIn wsX5_moves (wsV RX5 147 RX5 yX5_findMoves wsX5_findMoves) := goodIn_app (goodIn_of _ (by decide +kernel)) ggX5_moves_X5_findMoves
theorem dX5_moves_0 : decode cX5_moves 0 = .ok (.aload_n 0, 1) := by decide +kernel
theorem dX5_moves_1 : decode cX5_moves 1 = .ok (.aload_n 0, 1) := by decide +kernel
theorem dX5_moves_2 : decode cX5_moves 2 = .ok (.getfield 116, 3) := by decide +kernel
theorem dX5_moves_5 : decode cX5_moves 5 = .ok (.ifCond .eq 7, 3) := by decide +kernel
theorem dX5_moves_8 : decode cX5_moves 8 = .ok (.iconst 0, 1) := by decide +kernel
theorem dX5_moves_9 : decode cX5_moves 9 = .ok (.goto 4, 3) := by decide +kernel
theorem dX5_moves_12 : decode cX5_moves 12 = .ok (.iconst 1, 1) := by decide +kernel
theorem dX5_moves_13 : decode cX5_moves 13 = .ok (.putfield 32, 3) := by decide +kernel
theorem dX5_moves_16 : decode cX5_moves 16 = .ok (.aload_n 0, 1) := by decide +kernel
theorem dX5_moves_17 : decode cX5_moves 17 = .ok (.getfield 32, 3) := by decide +kernel
theorem dX5_moves_20 : decode cX5_moves 20 = .ok (.ifCond .le 5, 3) := by decide +kernel
theorem dX5_moves_23 : decode cX5_moves 23 = .ok (.iconst 0, 1) := by decide +kernel
theorem dX5_moves_24 : decode cX5_moves 24 = .ok (.ireturn, 1) := by decide +kernel
theorem dX5_moves_25 : decode cX5_moves 25 = .ok (.aload_n 0, 1) := by decide +kernel
theorem dX5_moves_26 : decode cX5_moves 26 = .ok (.invokevirtual 147, 3) := by decide +kernel
theorem dX5_moves_29 : decode cX5_moves 29 = .ok (.aload_n 0, 1) := by decide +kernel
theorem dX5_moves_30 : decode cX5_moves 30 = .ok (.getfield 135, 3) := by decide +kernel
theorem dX5_moves_33 : decode cX5_moves 33 = .ok (.ireturn, 1) := by decide +kernel
set_option maxRecDepth 20000 in
theorem ggX5_move_X5_findMoves : GoodIn wsX5_move wsX5_findMoves := goodIn_r _ [9, 2, 1, 10, 11, 12, 13, 14, 15, 16, 17, 18, 8, 19, 20, 21, 22, 23, 24, 25, 26, 27, 28, 29, 30, 31, 32, 33, 34, 35, 36, 37, 38, 39, 40, 41, 42, 43, 44, 45, 46, 47, 48, 49, 4, 50, 51, 52, 53, 54, 55, 56, 57, 58, 59, 60, 61, 62, 63, 64, 65, 66, 67] (by decide +kernel) (by decide +kernel)
set_option maxRecDepth 20000 in
theorem gX5_move_X5_findMoves : GoodIn wsX5_move (wsV RX5 147 RX5 yX5_findMoves wsX5_findMoves) := goodIn_app (goodIn_of _ (by decide +kernel)) ggX5_move_X5_findMoves
theorem dX5_move_0 : decode cX5_move 0 = .ok (.aload_n 0, 1) := by decide +kernel
theorem dX5_move_1 : decode cX5_move 1 = .ok (.invokevirtual 147, 3) := by decide +kernel
theorem dX5_move_4 : decode cX5_move 4 = .ok (.aload_n 0, 1) := by decide +kernel
theorem dX5_move_5 : decode cX5_move 5 = .ok (.aload_n 0, 1) := by decide +kernel
theorem dX5_move_6 : decode cX5_move 6 = .ok (.getfield 116, 3) := by decide +kernel
theorem dX5_move_9 : decode cX5_move 9 = .ok (.ifCond .ne 7, 3) := by decide +kernel
theorem dX5_move_12 : decode cX5_move 12 = .ok (.iconst 1, 1) := by decide +kernel
theorem dX5_move_13 : decode cX5_move 13 = .ok (.goto 20, 3) := by decide +kernel
theorem dX5_move_16 : decode cX5_move 16 = .ok (.iload_n 1, 1) := by decide +kernel
theorem dX5_move_17 : decode cX5_move 17 = .ok (.ifCond .lt 11, 3) := by decide +kernel
theorem dX5_move_20 : decode cX5_move 20 = .ok (.iload_n 1, 1) := by decide +kernel
theorem dX5_move_21 : decode cX5_move 21 = .ok (.aload_n 0, 1) := by decide +kernel
theorem dX5_move_22 : decode cX5_move 22 = .ok (.getfield 135, 3) := by decide +kernel
theorem dX5_move_25 : decode cX5_move 25 = .ok (.if_icmp .lt 7, 3) := by decide +kernel
theorem dX5_move_28 : decode cX5_move 28 = .ok (.iconst 2, 1) := by decide +kernel
theorem dX5_move_29 : decode cX5_move 29 = .ok (.goto 4, 3) := by decide +kernel
theorem dX5_move_32 : decode cX5_move 32 = .ok (.iconst 0, 1) := by decide +kernel
theorem dX5_move_33 : decode cX5_move 33 = .ok (.putfield 32, 3) := by decide +kernel
theorem dX5_move_36 : decode cX5_move 36 = .ok (.aload_n 0, 1) := by decide +kernel
theorem dX5_move_37 : decode cX5_move 37 = .ok (.getfield 32, 3) := by decide +kernel
theorem dX5_move_40 : decode cX5_move 40 = .ok (.ifCond .le 7, 3) := by decide +kernel
theorem dX5_move_43 : decode cX5_move 43 = .ok (.iconst 0, 1) := by decide +kernel
theorem dX5_move_44 : decode cX5_move 44 = .ok (.goto 9, 3) := by decide +kernel
theorem dX5_move_47 : decode cX5_move 47 = .ok (.aload_n 0, 1) := by decide +kernel
theorem dX5_move_48 : decode cX5_move 48 = .ok (.getfield 22, 3) := by decide +kernel
theorem dX5_move_51 : decode cX5_move 51 = .ok (.iload_n 1, 1) := by decide +kernel
theorem dX5_move_52 : decode cX5_move 52 = .ok (.iaload, 1) := by decide +kernel
theorem dX5_move_53 : decode cX5_move 53 = .ok (.ireturn, 1) := by decide +kernel
set_option maxRecDepth 20000 in
theorem ggX5_bestOf_X5_behind : GoodIn wsX5_bestOf wsX5_behind := goodIn_r _ [8, 3, 9, 10, 11, 12, 13, 14, 15, 7, 16, 17, 18, 19, 20, 21, 22, 23, 24, 25, 26, 27, 28, 29, 30, 31, 32, 33, 34, 35, 36, 37, 38, 39, 40, 41, 42, 43, 44, 45, 46, 47, 48, 49, 50, 51, 52, 53, 54, 55, 56, 57, 58, 59, 60, 61, 62, 63, 64, 65, 66, 67, 68, 69, 70, 71, 72, 73, 74, 75, 76, 77, 78, 79, 80, 81, 82, 83, 84, 85, 86, 87, 88, 89, 90, 91, 92, 93, 94, 95, 96, 97, 98, 99, 100, 101, 102, 103, 104, 105, 106, 107, 108, 109] (by decide +kernel) (by decide +kernel)
set_option maxRecDepth 20000 in
theorem gX5_bestOf_X5_behind : GoodIn wsX5_bestOf (wsV RX5 150 RX5 yX5_behind wsX5_behind) := goodIn_app (goodIn_of _ (by decide +kernel)) ggX5_bestOf_X5_behind
theorem dX5_bestOf_0 : decode cX5_bestOf 0 = .ok (.iconst 0, 1) := by decide +kernel
theorem dX5_bestOf_1 : decode cX5_bestOf 1 = .ok (.istore_n 1, 1) := by decide +kernel
theorem dX5_bestOf_2 : decode cX5_bestOf 2 = .ok (.aload_n 0, 1) := by decide +kernel
theorem dX5_bestOf_3 : decode cX5_bestOf 3 = .ok (.aload_n 0, 1) := by decide +kernel
theorem dX5_bestOf_4 : decode cX5_bestOf 4 = .ok (.getfield 22, 3) := by decide +kernel
theorem dX5_bestOf_7 : decode cX5_bestOf 7 = .ok (.iconst 0, 1) := by decide +kernel
theorem dX5_bestOf_8 : decode cX5_bestOf 8 = .ok (.iaload, 1) := by decide +kernel
theorem dX5_bestOf_9 : decode cX5_bestOf 9 = .ok (.invokevirtual 150, 3) := by decide +kernel
theorem dX5_bestOf_12 : decode cX5_bestOf 12 = .ok (.istore_n 2, 1) := by decide +kernel
theorem dX5_bestOf_13 : decode cX5_bestOf 13 = .ok (.iconst 1, 1) := by decide +kernel
theorem dX5_bestOf_14 : decode cX5_bestOf 14 = .ok (.istore_n 3, 1) := by decide +kernel
theorem dX5_bestOf_15 : decode cX5_bestOf 15 = .ok (.iload_n 3, 1) := by decide +kernel
theorem dX5_bestOf_16 : decode cX5_bestOf 16 = .ok (.aload_n 0, 1) := by decide +kernel
theorem dX5_bestOf_17 : decode cX5_bestOf 17 = .ok (.getfield 135, 3) := by decide +kernel
theorem dX5_bestOf_20 : decode cX5_bestOf 20 = .ok (.if_icmp .ge 96, 3) := by decide +kernel
theorem dX5_bestOf_23 : decode cX5_bestOf 23 = .ok (.aload_n 0, 1) := by decide +kernel
theorem dX5_bestOf_24 : decode cX5_bestOf 24 = .ok (.aload_n 0, 1) := by decide +kernel
theorem dX5_bestOf_25 : decode cX5_bestOf 25 = .ok (.getfield 22, 3) := by decide +kernel
theorem dX5_bestOf_28 : decode cX5_bestOf 28 = .ok (.iload_n 3, 1) := by decide +kernel
theorem dX5_bestOf_29 : decode cX5_bestOf 29 = .ok (.iaload, 1) := by decide +kernel
theorem dX5_bestOf_30 : decode cX5_bestOf 30 = .ok (.invokevirtual 150, 3) := by decide +kernel
theorem dX5_bestOf_33 : decode cX5_bestOf 33 = .ok (.istore 4, 2) := by decide +kernel
theorem dX5_bestOf_35 : decode cX5_bestOf 35 = .ok (.aload_n 0, 1) := by decide +kernel
theorem dX5_bestOf_36 : decode cX5_bestOf 36 = .ok (.getfield 132, 3) := by decide +kernel
theorem dX5_bestOf_39 : decode cX5_bestOf 39 = .ok (.ifCond .ne 26, 3) := by decide +kernel
theorem dX5_bestOf_42 : decode cX5_bestOf 42 = .ok (.iload 4, 2) := by decide +kernel
theorem dX5_bestOf_44 : decode cX5_bestOf 44 = .ok (.ifCond .lt 17, 3) := by decide +kernel
theorem dX5_bestOf_47 : decode cX5_bestOf 47 = .ok (.iload_n 2, 1) := by decide +kernel
theorem dX5_bestOf_48 : decode cX5_bestOf 48 = .ok (.ifCond .lt 9, 3) := by decide +kernel
theorem dX5_bestOf_51 : decode cX5_bestOf 51 = .ok (.iload 4, 2) := by decide +kernel
theorem dX5_bestOf_53 : decode cX5_bestOf 53 = .ok (.iload_n 2, 1) := by decide +kernel
theorem dX5_bestOf_54 : decode cX5_bestOf 54 = .ok (.if_icmp .ge 7, 3) := by decide +kernel
theorem dX5_bestOf_57 : decode cX5_bestOf 57 = .ok (.iconst 1, 1) := by decide +kernel
theorem dX5_bestOf_58 : decode cX5_bestOf 58 = .ok (.goto 27, 3) := by decide +kernel
theorem dX5_bestOf_61 : decode cX5_bestOf 61 = .ok (.iconst 0, 1) := by decide +kernel
theorem dX5_bestOf_62 : decode cX5_bestOf 62 = .ok (.goto 23, 3) := by decide +kernel
theorem dX5_bestOf_65 : decode cX5_bestOf 65 = .ok (.iload_n 2, 1) := by decide +kernel
theorem dX5_bestOf_66 : decode cX5_bestOf 66 = .ok (.ifCond .lt 18, 3) := by decide +kernel
theorem dX5_bestOf_69 : decode cX5_bestOf 69 = .ok (.iload 4, 2) := by decide +kernel
theorem dX5_bestOf_71 : decode cX5_bestOf 71 = .ok (.ifCond .lt 9, 3) := by decide +kernel
theorem dX5_bestOf_74 : decode cX5_bestOf 74 = .ok (.iload 4, 2) := by decide +kernel
theorem dX5_bestOf_76 : decode cX5_bestOf 76 = .ok (.iload_n 2, 1) := by decide +kernel
theorem dX5_bestOf_77 : decode cX5_bestOf 77 = .ok (.if_icmp .le 7, 3) := by decide +kernel
theorem dX5_bestOf_80 : decode cX5_bestOf 80 = .ok (.iconst 1, 1) := by decide +kernel
theorem dX5_bestOf_81 : decode cX5_bestOf 81 = .ok (.goto 4, 3) := by decide +kernel
theorem dX5_bestOf_84 : decode cX5_bestOf 84 = .ok (.iconst 0, 1) := by decide +kernel
theorem dX5_bestOf_85 : decode cX5_bestOf 85 = .ok (.istore 5, 2) := by decide +kernel
theorem dX5_bestOf_87 : decode cX5_bestOf 87 = .ok (.iload 5, 2) := by decide +kernel
theorem dX5_bestOf_89 : decode cX5_bestOf 89 = .ok (.ifCond .eq 7, 3) := by decide +kernel
theorem dX5_bestOf_92 : decode cX5_bestOf 92 = .ok (.iload_n 3, 1) := by decide +kernel
theorem dX5_bestOf_93 : decode cX5_bestOf 93 = .ok (.goto 4, 3) := by decide +kernel
theorem dX5_bestOf_96 : decode cX5_bestOf 96 = .ok (.iload_n 1, 1) := by decide +kernel
theorem dX5_bestOf_97 : decode cX5_bestOf 97 = .ok (.istore_n 1, 1) := by decide +kernel
theorem dX5_bestOf_98 : decode cX5_bestOf 98 = .ok (.iload 5, 2) := by decide +kernel
theorem dX5_bestOf_100 : decode cX5_bestOf 100 = .ok (.ifCond .eq 8, 3) := by decide +kernel
theorem dX5_bestOf_103 : decode cX5_bestOf 103 = .ok (.iload 4, 2) := by decide +kernel
theorem dX5_bestOf_105 : decode cX5_bestOf 105 = .ok (.goto 4, 3) := by decide +kernel
theorem dX5_bestOf_108 : decode cX5_bestOf 108 = .ok (.iload_n 2, 1) := by decide +kernel
theorem dX5_bestOf_109 : decode cX5_bestOf 109 = .ok (.istore_n 2, 1) := by decide +kernel
theorem dX5_bestOf_110 : decode cX5_bestOf 110 = .ok (.iinc 3 1, 3) := by decide +kernel
theorem dX5_bestOf_113 : decode cX5_bestOf 113 = .ok (.goto (-98), 3) := by decide +kernel
theorem dX5_bestOf_116 : decode cX5_bestOf 116 = .ok (.aload_n 0, 1) := by decide +kernel
theorem dX5_bestOf_117 : decode cX5_bestOf 117 = .ok (.getfield 22, 3) := by decide +kernel
theorem dX5_bestOf_120 : decode cX5_bestOf 120 = .ok (.iload_n 1, 1) := by decide +kernel
theorem dX5_bestOf_121 : decode cX5_bestOf 121 = .ok (.iaload, 1) := by decide +kernel
theorem dX5_bestOf_122 : decode cX5_bestOf 122 = .ok (.ireturn, 1) := by decide +kernel
set_option maxRecDepth 20000 in
theorem ggX5_best_X5_findMoves : GoodIn wsX5_best wsX5_findMoves := goodIn_r _ [8, 2, 1, 9, 10, 11, 12, 13, 14, 15, 16, 17, 7, 18, 19, 20, 21, 22, 23, 24, 25, 26, 27, 28, 29, 30, 31, 32, 33, 34, 35, 36, 37, 38, 39, 40, 41, 42, 43, 44, 45, 46, 47, 48, 49, 50, 51, 52, 53, 118, 119, 120, 121, 122, 123, 124, 125, 126, 127, 128, 129, 130, 131] (by decide +kernel) (by decide +kernel)
set_option maxRecDepth 20000 in
theorem gX5_best_X5_findMoves : GoodIn wsX5_best (wsV RX5 147 RX5 yX5_findMoves wsX5_findMoves) := goodIn_app (goodIn_of _ (by decide +kernel)) ggX5_best_X5_findMoves
set_option maxRecDepth 20000 in
theorem ggX5_best_X5_bestOf : GoodIn wsX5_best wsX5_bestOf := goodIn_r _ [57, 49, 2, 9, 58, 59, 60, 7, 61, 12, 13, 10, 11, 62, 63, 64, 65, 66, 67, 68, 69, 70, 71, 72, 73, 74, 75, 76, 77, 78, 79, 80, 81, 82, 83, 15, 16, 17, 18, 19, 14, 84, 85, 86, 87, 24, 25, 26, 27, 28, 29, 34, 35, 36, 37, 38, 39, 40, 41, 42, 43, 44, 88, 89, 90, 91, 92, 93, 94, 95, 96, 97, 98, 99, 100, 101, 30, 31, 32, 33, 102, 103, 104, 105, 106, 107, 108, 109, 110, 111, 112, 113, 114, 115, 116, 117, 118, 119, 120, 121, 122, 123, 124, 125, 126, 127, 128, 129, 130, 131] (by decide +kernel) (by decide +kernel)
set_option maxRecDepth 20000 in
theorem gX5_best_X5_bestOf : GoodIn wsX5_best (wsV RX5 154 RX5 yX5_bestOf wsX5_bestOf) := goodIn_app (goodIn_of _ (by decide +kernel)) ggX5_best_X5_bestOf
theorem dX5_best_0 : decode cX5_best 0 = .ok (.aload_n 0, 1) := by decide +kernel
theorem dX5_best_1 : decode cX5_best 1 = .ok (.invokevirtual 147, 3) := by decide +kernel
theorem dX5_best_4 : decode cX5_best 4 = .ok (.aload_n 0, 1) := by decide +kernel
theorem dX5_best_5 : decode cX5_best 5 = .ok (.aload_n 0, 1) := by decide +kernel
theorem dX5_best_6 : decode cX5_best 6 = .ok (.getfield 116, 3) := by decide +kernel
theorem dX5_best_9 : decode cX5_best 9 = .ok (.ifCond .eq 14, 3) := by decide +kernel
theorem dX5_best_12 : decode cX5_best 12 = .ok (.aload_n 0, 1) := by decide +kernel
theorem dX5_best_13 : decode cX5_best 13 = .ok (.getfield 135, 3) := by decide +kernel
theorem dX5_best_16 : decode cX5_best 16 = .ok (.ifCond .le 7, 3) := by decide +kernel
theorem dX5_best_19 : decode cX5_best 19 = .ok (.iconst 0, 1) := by decide +kernel
theorem dX5_best_20 : decode cX5_best 20 = .ok (.goto 4, 3) := by decide +kernel
theorem dX5_best_23 : decode cX5_best 23 = .ok (.iconst 1, 1) := by decide +kernel
theorem dX5_best_24 : decode cX5_best 24 = .ok (.putfield 32, 3) := by decide +kernel
theorem dX5_best_27 : decode cX5_best 27 = .ok (.aload_n 0, 1) := by decide +kernel
theorem dX5_best_28 : decode cX5_best 28 = .ok (.getfield 32, 3) := by decide +kernel
theorem dX5_best_31 : decode cX5_best 31 = .ok (.ifCond .le 7, 3) := by decide +kernel
theorem dX5_best_34 : decode cX5_best 34 = .ok (.iconst 0, 1) := by decide +kernel
theorem dX5_best_35 : decode cX5_best 35 = .ok (.goto 7, 3) := by decide +kernel
theorem dX5_best_38 : decode cX5_best 38 = .ok (.aload_n 0, 1) := by decide +kernel
theorem dX5_best_39 : decode cX5_best 39 = .ok (.invokevirtual 154, 3) := by decide +kernel
theorem dX5_best_42 : decode cX5_best 42 = .ok (.ireturn, 1) := by decide +kernel
theorem dX5_make_0 : decode cX5_make 0 = .ok (.iload_n 1, 1) := by decide +kernel
theorem dX5_make_1 : decode cX5_make 1 = .ok (.bipush 64, 2) := by decide +kernel
theorem dX5_make_3 : decode cX5_make 3 = .ok (.idiv, 1) := by decide +kernel
theorem dX5_make_4 : decode cX5_make 4 = .ok (.bipush 64, 2) := by decide +kernel
theorem dX5_make_6 : decode cX5_make 6 = .ok (.irem, 1) := by decide +kernel
theorem dX5_make_7 : decode cX5_make 7 = .ok (.istore_n 2, 1) := by decide +kernel
theorem dX5_make_8 : decode cX5_make 8 = .ok (.iload_n 1, 1) := by decide +kernel
theorem dX5_make_9 : decode cX5_make 9 = .ok (.sipush 4096, 3) := by decide +kernel
theorem dX5_make_12 : decode cX5_make 12 = .ok (.idiv, 1) := by decide +kernel
theorem dX5_make_13 : decode cX5_make 13 = .ok (.istore_n 3, 1) := by decide +kernel
theorem dX5_make_14 : decode cX5_make 14 = .ok (.aload_n 0, 1) := by decide +kernel
theorem dX5_make_15 : decode cX5_make 15 = .ok (.getfield 132, 3) := by decide +kernel
theorem dX5_make_18 : decode cX5_make 18 = .ok (.iconst 1, 1) := by decide +kernel
theorem dX5_make_19 : decode cX5_make 19 = .ok (.if_icmp .ne 67, 3) := by decide +kernel
theorem dX5_make_22 : decode cX5_make 22 = .ok (.aload_n 0, 1) := by decide +kernel
theorem dX5_make_23 : decode cX5_make 23 = .ok (.getfield 120, 3) := by decide +kernel
theorem dX5_make_26 : decode cX5_make 26 = .ok (.ifCond .le 15, 3) := by decide +kernel
theorem dX5_make_29 : decode cX5_make 29 = .ok (.iload_n 2, 1) := by decide +kernel
theorem dX5_make_30 : decode cX5_make 30 = .ok (.aload_n 0, 1) := by decide +kernel
theorem dX5_make_31 : decode cX5_make 31 = .ok (.getfield 126, 3) := by decide +kernel
theorem dX5_make_34 : decode cX5_make 34 = .ok (.if_icmp .ne 7, 3) := by decide +kernel
theorem dX5_make_37 : decode cX5_make 37 = .ok (.iconst 1, 1) := by decide +kernel
theorem dX5_make_38 : decode cX5_make 38 = .ok (.goto 4, 3) := by decide +kernel
theorem dX5_make_41 : decode cX5_make 41 = .ok (.iconst 0, 1) := by decide +kernel
theorem dX5_make_42 : decode cX5_make 42 = .ok (.istore 4, 2) := by decide +kernel
theorem dX5_make_44 : decode cX5_make 44 = .ok (.aload_n 0, 1) := by decide +kernel
theorem dX5_make_45 : decode cX5_make 45 = .ok (.iload 4, 2) := by decide +kernel
theorem dX5_make_47 : decode cX5_make 47 = .ok (.ifCond .eq 7, 3) := by decide +kernel
theorem dX5_make_50 : decode cX5_make 50 = .ok (.iconst 0, 1) := by decide +kernel
theorem dX5_make_51 : decode cX5_make 51 = .ok (.goto 7, 3) := by decide +kernel
theorem dX5_make_54 : decode cX5_make 54 = .ok (.aload_n 0, 1) := by decide +kernel
theorem dX5_make_55 : decode cX5_make 55 = .ok (.getfield 120, 3) := by decide +kernel
theorem dX5_make_58 : decode cX5_make 58 = .ok (.putfield 120, 3) := by decide +kernel
theorem dX5_make_61 : decode cX5_make 61 = .ok (.aload_n 0, 1) := by decide +kernel
theorem dX5_make_62 : decode cX5_make 62 = .ok (.iload 4, 2) := by decide +kernel
theorem dX5_make_64 : decode cX5_make 64 = .ok (.ifCond .eq 7, 3) := by decide +kernel
theorem dX5_make_67 : decode cX5_make 67 = .ok (.iconst 0, 1) := by decide +kernel
theorem dX5_make_68 : decode cX5_make 68 = .ok (.goto 7, 3) := by decide +kernel
theorem dX5_make_71 : decode cX5_make 71 = .ok (.aload_n 0, 1) := by decide +kernel
theorem dX5_make_72 : decode cX5_make 72 = .ok (.getfield 126, 3) := by decide +kernel
theorem dX5_make_75 : decode cX5_make 75 = .ok (.putfield 126, 3) := by decide +kernel
theorem dX5_make_78 : decode cX5_make 78 = .ok (.aload_n 0, 1) := by decide +kernel
theorem dX5_make_79 : decode cX5_make 79 = .ok (.iload_n 2, 1) := by decide +kernel
theorem dX5_make_80 : decode cX5_make 80 = .ok (.putfield 129, 3) := by decide +kernel
theorem dX5_make_83 : decode cX5_make 83 = .ok (.goto 43, 3) := by decide +kernel
theorem dX5_make_86 : decode cX5_make 86 = .ok (.iload_n 1, 1) := by decide +kernel
theorem dX5_make_87 : decode cX5_make 87 = .ok (.bipush 64, 2) := by decide +kernel
theorem dX5_make_89 : decode cX5_make 89 = .ok (.irem, 1) := by decide +kernel
theorem dX5_make_90 : decode cX5_make 90 = .ok (.aload_n 0, 1) := by decide +kernel
theorem dX5_make_91 : decode cX5_make 91 = .ok (.getfield 123, 3) := by decide +kernel
theorem dX5_make_94 : decode cX5_make 94 = .ok (.if_icmp .ne 11, 3) := by decide +kernel
theorem dX5_make_97 : decode cX5_make 97 = .ok (.aload_n 0, 1) := by decide +kernel
theorem dX5_make_98 : decode cX5_make 98 = .ok (.iload_n 2, 1) := by decide +kernel
theorem dX5_make_99 : decode cX5_make 99 = .ok (.putfield 123, 3) := by decide +kernel
theorem dX5_make_102 : decode cX5_make 102 = .ok (.goto 24, 3) := by decide +kernel
theorem dX5_make_105 : decode cX5_make 105 = .ok (.aload_n 0, 1) := by decide +kernel
theorem dX5_make_106 : decode cX5_make 106 = .ok (.iload_n 2, 1) := by decide +kernel
theorem dX5_make_107 : decode cX5_make 107 = .ok (.putfield 126, 3) := by decide +kernel
theorem dX5_make_110 : decode cX5_make 110 = .ok (.aload_n 0, 1) := by decide +kernel
theorem dX5_make_111 : decode cX5_make 111 = .ok (.iload_n 3, 1) := by decide +kernel
theorem dX5_make_112 : decode cX5_make 112 = .ok (.ifCond .le 7, 3) := by decide +kernel
theorem dX5_make_115 : decode cX5_make 115 = .ok (.iload_n 3, 1) := by decide +kernel
theorem dX5_make_116 : decode cX5_make 116 = .ok (.goto 7, 3) := by decide +kernel
theorem dX5_make_119 : decode cX5_make 119 = .ok (.aload_n 0, 1) := by decide +kernel
theorem dX5_make_120 : decode cX5_make 120 = .ok (.getfield 120, 3) := by decide +kernel
theorem dX5_make_123 : decode cX5_make 123 = .ok (.putfield 120, 3) := by decide +kernel
theorem dX5_make_126 : decode cX5_make 126 = .ok (.aload_n 0, 1) := by decide +kernel
theorem dX5_make_127 : decode cX5_make 127 = .ok (.iconst 1, 1) := by decide +kernel
theorem dX5_make_128 : decode cX5_make 128 = .ok (.aload_n 0, 1) := by decide +kernel
theorem dX5_make_129 : decode cX5_make 129 = .ok (.getfield 132, 3) := by decide +kernel
theorem dX5_make_132 : decode cX5_make 132 = .ok (.isub, 1) := by decide +kernel
theorem dX5_make_133 : decode cX5_make 133 = .ok (.putfield 132, 3) := by decide +kernel
theorem dX5_make_136 : decode cX5_make 136 = .ok (.return_, 1) := by decide +kernel
set_option maxRecDepth 20000 in
theorem ggX5_play_X5_findMoves : GoodIn wsX5_play wsX5_findMoves := goodIn_r _ [14, 1, 3, 9, 6, 8, 5, 7, 15, 16, 17, 18, 13, 19, 20, 21, 22, 23, 24, 25, 26, 27, 28, 29, 30, 31, 32, 33, 34, 35, 36, 37, 38, 39, 40, 41, 42, 43, 44, 45, 46, 47, 48, 49, 2, 50, 51, 52, 53, 114, 115, 116, 117, 118, 119, 120, 121, 122, 123, 124, 125, 126, 127] (by decide +kernel) (by decide +kernel)
set_option maxRecDepth 20000 in
theorem gX5_play_X5_findMoves : GoodIn wsX5_play (wsV RX5 147 RX5 yX5_findMoves wsX5_findMoves) := goodIn_app (goodIn_of _ (by decide +kernel)) ggX5_play_X5_findMoves
set_option maxRecDepth 20000 in
theorem ggX5_play_X5_make : GoodIn wsX5_play wsX5_make := goodIn_r _ [57, 9, 5, 7, 8, 6, 114, 115, 116, 117, 118, 119, 120, 121, 122, 123, 124, 125, 126, 127] (by decide +kernel) (by decide +kernel)
set_option maxRecDepth 20000 in
theorem gX5_play_X5_make : GoodIn wsX5_play (wsV RX5 158 RX5 yX5_make wsX5_make) := goodIn_app (goodIn_of _ (by decide +kernel)) ggX5_play_X5_make
set_option maxRecDepth 20000 in
theorem ggX5_play_X5_distanceOf : GoodIn wsX5_play wsX5_distanceOf := goodIn_r _ [61, 62, 63, 64, 13, 65, 66, 67, 68, 69, 70, 71, 72, 73, 74, 75, 76, 77, 78, 79, 16, 17, 18, 19, 20, 15, 80, 81, 82, 83, 25, 26, 27, 28, 29, 30, 35, 36, 37, 38, 39, 40, 41, 42, 43, 44, 45, 84, 85, 86, 87, 88, 89, 90, 91, 92, 93, 94, 95, 96, 97, 31, 32, 33, 34, 98, 99, 100, 101, 102, 103, 104, 105, 106, 107, 108, 109, 110, 111, 112, 113, 114, 115, 116, 117, 118, 119, 120, 121, 122, 123, 124, 125, 126, 127] (by decide +kernel) (by decide +kernel)
set_option maxRecDepth 20000 in
theorem gX5_play_X5_distanceOf : GoodIn wsX5_play (wsV RX5 110 RX5 yX5_distanceOf wsX5_distanceOf) := goodIn_app (goodIn_of _ (by decide +kernel)) ggX5_play_X5_distanceOf
theorem dX5_play_0 : decode cX5_play 0 = .ok (.aload_n 0, 1) := by decide +kernel
theorem dX5_play_1 : decode cX5_play 1 = .ok (.invokevirtual 147, 3) := by decide +kernel
theorem dX5_play_4 : decode cX5_play 4 = .ok (.iconst 0, 1) := by decide +kernel
theorem dX5_play_5 : decode cX5_play 5 = .ok (.istore_n 2, 1) := by decide +kernel
theorem dX5_play_6 : decode cX5_play 6 = .ok (.iconst 0, 1) := by decide +kernel
theorem dX5_play_7 : decode cX5_play 7 = .ok (.istore_n 3, 1) := by decide +kernel
theorem dX5_play_8 : decode cX5_play 8 = .ok (.iload_n 3, 1) := by decide +kernel
theorem dX5_play_9 : decode cX5_play 9 = .ok (.aload_n 0, 1) := by decide +kernel
theorem dX5_play_10 : decode cX5_play 10 = .ok (.getfield 135, 3) := by decide +kernel
theorem dX5_play_13 : decode cX5_play 13 = .ok (.if_icmp .ge 29, 3) := by decide +kernel
theorem dX5_play_16 : decode cX5_play 16 = .ok (.iload_n 2, 1) := by decide +kernel
theorem dX5_play_17 : decode cX5_play 17 = .ok (.ifCond .ne 13, 3) := by decide +kernel
theorem dX5_play_20 : decode cX5_play 20 = .ok (.aload_n 0, 1) := by decide +kernel
theorem dX5_play_21 : decode cX5_play 21 = .ok (.getfield 22, 3) := by decide +kernel
theorem dX5_play_24 : decode cX5_play 24 = .ok (.iload_n 3, 1) := by decide +kernel
theorem dX5_play_25 : decode cX5_play 25 = .ok (.iaload, 1) := by decide +kernel
theorem dX5_play_26 : decode cX5_play 26 = .ok (.iload_n 1, 1) := by decide +kernel
theorem dX5_play_27 : decode cX5_play 27 = .ok (.if_icmp .ne 7, 3) := by decide +kernel
theorem dX5_play_30 : decode cX5_play 30 = .ok (.iconst 1, 1) := by decide +kernel
theorem dX5_play_31 : decode cX5_play 31 = .ok (.goto 4, 3) := by decide +kernel
theorem dX5_play_34 : decode cX5_play 34 = .ok (.iconst 0, 1) := by decide +kernel
theorem dX5_play_35 : decode cX5_play 35 = .ok (.istore_n 2, 1) := by decide +kernel
theorem dX5_play_36 : decode cX5_play 36 = .ok (.iinc 3 1, 3) := by decide +kernel
theorem dX5_play_39 : decode cX5_play 39 = .ok (.goto (-31), 3) := by decide +kernel
theorem dX5_play_42 : decode cX5_play 42 = .ok (.aload_n 0, 1) := by decide +kernel
theorem dX5_play_43 : decode cX5_play 43 = .ok (.aload_n 0, 1) := by decide +kernel
theorem dX5_play_44 : decode cX5_play 44 = .ok (.getfield 116, 3) := by decide +kernel
theorem dX5_play_47 : decode cX5_play 47 = .ok (.ifCond .ne 7, 3) := by decide +kernel
theorem dX5_play_50 : decode cX5_play 50 = .ok (.iconst 1, 1) := by decide +kernel
theorem dX5_play_51 : decode cX5_play 51 = .ok (.goto 12, 3) := by decide +kernel
theorem dX5_play_54 : decode cX5_play 54 = .ok (.iload_n 2, 1) := by decide +kernel
theorem dX5_play_55 : decode cX5_play 55 = .ok (.ifCond .ne 7, 3) := by decide +kernel
theorem dX5_play_58 : decode cX5_play 58 = .ok (.iconst 2, 1) := by decide +kernel
theorem dX5_play_59 : decode cX5_play 59 = .ok (.goto 4, 3) := by decide +kernel
theorem dX5_play_62 : decode cX5_play 62 = .ok (.iconst 0, 1) := by decide +kernel
theorem dX5_play_63 : decode cX5_play 63 = .ok (.putfield 32, 3) := by decide +kernel
theorem dX5_play_66 : decode cX5_play 66 = .ok (.aload_n 0, 1) := by decide +kernel
theorem dX5_play_67 : decode cX5_play 67 = .ok (.getfield 32, 3) := by decide +kernel
theorem dX5_play_70 : decode cX5_play 70 = .ok (.ifCond .le 5, 3) := by decide +kernel
theorem dX5_play_73 : decode cX5_play 73 = .ok (.iconst 0, 1) := by decide +kernel
theorem dX5_play_74 : decode cX5_play 74 = .ok (.ireturn, 1) := by decide +kernel
theorem dX5_play_75 : decode cX5_play 75 = .ok (.aload_n 0, 1) := by decide +kernel
theorem dX5_play_76 : decode cX5_play 76 = .ok (.iload_n 1, 1) := by decide +kernel
theorem dX5_play_77 : decode cX5_play 77 = .ok (.invokevirtual 158, 3) := by decide +kernel
theorem dX5_play_80 : decode cX5_play 80 = .ok (.aload_n 0, 1) := by decide +kernel
theorem dX5_play_81 : decode cX5_play 81 = .ok (.aload_n 0, 1) := by decide +kernel
theorem dX5_play_82 : decode cX5_play 82 = .ok (.getfield 120, 3) := by decide +kernel
theorem dX5_play_85 : decode cX5_play 85 = .ok (.aload_n 0, 1) := by decide +kernel
theorem dX5_play_86 : decode cX5_play 86 = .ok (.getfield 123, 3) := by decide +kernel
theorem dX5_play_89 : decode cX5_play 89 = .ok (.aload_n 0, 1) := by decide +kernel
theorem dX5_play_90 : decode cX5_play 90 = .ok (.getfield 126, 3) := by decide +kernel
theorem dX5_play_93 : decode cX5_play 93 = .ok (.aload_n 0, 1) := by decide +kernel
theorem dX5_play_94 : decode cX5_play 94 = .ok (.getfield 129, 3) := by decide +kernel
theorem dX5_play_97 : decode cX5_play 97 = .ok (.aload_n 0, 1) := by decide +kernel
theorem dX5_play_98 : decode cX5_play 98 = .ok (.getfield 132, 3) := by decide +kernel
theorem dX5_play_101 : decode cX5_play 101 = .ok (.invokevirtual 110, 3) := by decide +kernel
theorem dX5_play_104 : decode cX5_play 104 = .ok (.ireturn, 1) := by decide +kernel
set_option maxRecDepth 20000 in
theorem ggX5_run_X5_findMoves : GoodIn wsX5_run wsX5_findMoves := goodIn_r _ [8, 3, 1, 9, 10, 11, 12, 13, 14, 15, 16, 17, 7, 18, 19, 20, 21, 22, 23, 24, 25, 26, 27, 28, 29, 30, 31, 32, 33, 34, 35, 36, 37, 38, 39, 40, 41, 42, 43, 44, 45, 46, 47, 48, 49, 50, 51, 52, 53, 122, 123, 124, 125, 126, 127, 128, 129, 130, 131, 132, 133, 134, 135] (by decide +kernel) (by decide +kernel)
set_option maxRecDepth 20000 in
theorem gX5_run_X5_findMoves : GoodIn wsX5_run (wsV RX5 147 RX5 yX5_findMoves wsX5_findMoves) := goodIn_app (goodIn_of _ (by decide +kernel)) ggX5_run_X5_findMoves
set_option maxRecDepth 20000 in
theorem ggX5_run_X5_bestOf : GoodIn wsX5_run wsX5_bestOf := goodIn_r _ [57, 49, 3, 9, 58, 59, 60, 7, 61, 12, 13, 10, 11, 62, 63, 64, 65, 66, 67, 68, 69, 70, 71, 72, 73, 74, 75, 76, 77, 78, 79, 80, 81, 82, 83, 15, 16, 17, 18, 19, 14, 84, 85, 86, 87, 24, 25, 26, 27, 28, 29, 34, 35, 36, 37, 38, 39, 40, 41, 42, 43, 44, 88, 89, 90, 91, 92, 93, 94, 95, 96, 97, 98, 99, 100, 101, 30, 31, 32, 33, 102, 103, 104, 105, 106, 107, 108, 109, 110, 111, 112, 113, 114, 115, 116, 117, 122, 123, 124, 125, 126, 127, 128, 129, 130, 131, 132, 133, 134, 135] (by decide +kernel) (by decide +kernel)
set_option maxRecDepth 20000 in
theorem gX5_run_X5_bestOf : GoodIn wsX5_run (wsV RX5 154 RX5 yX5_bestOf wsX5_bestOf) := goodIn_app (goodIn_of _ (by decide +kernel)) ggX5_run_X5_bestOf
set_option maxRecDepth 20000 in
theorem ggX5_run_X5_make : GoodIn wsX5_run wsX5_make := goodIn_r _ [121, 9, 12, 13, 11, 10, 122, 123, 124, 125, 126, 127, 128, 129, 130, 131, 132, 133, 134, 135] (by decide +kernel) (by decide +kernel)
set_option maxRecDepth 20000 in
theorem gX5_run_X5_make : GoodIn wsX5_run (wsV RX5 158 RX5 yX5_make wsX5_make) := goodIn_app (goodIn_of _ (by decide +kernel)) ggX5_run_X5_make
theorem dX5_run_0 : decode cX5_run 0 = .ok (.aload_n 0, 1) := by decide +kernel
theorem dX5_run_1 : decode cX5_run 1 = .ok (.aload_n 0, 1) := by decide +kernel
theorem dX5_run_2 : decode cX5_run 2 = .ok (.getfield 116, 3) := by decide +kernel
theorem dX5_run_5 : decode cX5_run 5 = .ok (.ifCond .ne 7, 3) := by decide +kernel
theorem dX5_run_8 : decode cX5_run 8 = .ok (.iconst 1, 1) := by decide +kernel
theorem dX5_run_9 : decode cX5_run 9 = .ok (.goto 18, 3) := by decide +kernel
theorem dX5_run_12 : decode cX5_run 12 = .ok (.iload_n 1, 1) := by decide +kernel
theorem dX5_run_13 : decode cX5_run 13 = .ok (.ifCond .lt 9, 3) := by decide +kernel
theorem dX5_run_16 : decode cX5_run 16 = .ok (.iload_n 1, 1) := by decide +kernel
theorem dX5_run_17 : decode cX5_run 17 = .ok (.bipush 100, 2) := by decide +kernel
theorem dX5_run_19 : decode cX5_run 19 = .ok (.if_icmp .le 7, 3) := by decide +kernel
theorem dX5_run_22 : decode cX5_run 22 = .ok (.iconst 2, 1) := by decide +kernel
theorem dX5_run_23 : decode cX5_run 23 = .ok (.goto 4, 3) := by decide +kernel
theorem dX5_run_26 : decode cX5_run 26 = .ok (.iconst 0, 1) := by decide +kernel
theorem dX5_run_27 : decode cX5_run 27 = .ok (.putfield 32, 3) := by decide +kernel
theorem dX5_run_30 : decode cX5_run 30 = .ok (.aload_n 0, 1) := by decide +kernel
theorem dX5_run_31 : decode cX5_run 31 = .ok (.getfield 32, 3) := by decide +kernel
theorem dX5_run_34 : decode cX5_run 34 = .ok (.ifCond .le 5, 3) := by decide +kernel
theorem dX5_run_37 : decode cX5_run 37 = .ok (.iconst 0, 1) := by decide +kernel
theorem dX5_run_38 : decode cX5_run 38 = .ok (.ireturn, 1) := by decide +kernel
theorem dX5_run_39 : decode cX5_run 39 = .ok (.iconst 0, 1) := by decide +kernel
theorem dX5_run_40 : decode cX5_run 40 = .ok (.istore_n 2, 1) := by decide +kernel
theorem dX5_run_41 : decode cX5_run 41 = .ok (.aload_n 0, 1) := by decide +kernel
theorem dX5_run_42 : decode cX5_run 42 = .ok (.invokevirtual 147, 3) := by decide +kernel
theorem dX5_run_45 : decode cX5_run 45 = .ok (.iload_n 2, 1) := by decide +kernel
theorem dX5_run_46 : decode cX5_run 46 = .ok (.iload_n 1, 1) := by decide +kernel
theorem dX5_run_47 : decode cX5_run 47 = .ok (.if_icmp .ge 28, 3) := by decide +kernel
theorem dX5_run_50 : decode cX5_run 50 = .ok (.aload_n 0, 1) := by decide +kernel
theorem dX5_run_51 : decode cX5_run 51 = .ok (.getfield 135, 3) := by decide +kernel
theorem dX5_run_54 : decode cX5_run 54 = .ok (.ifCond .le 21, 3) := by decide +kernel
theorem dX5_run_57 : decode cX5_run 57 = .ok (.aload_n 0, 1) := by decide +kernel
theorem dX5_run_58 : decode cX5_run 58 = .ok (.aload_n 0, 1) := by decide +kernel
theorem dX5_run_59 : decode cX5_run 59 = .ok (.invokevirtual 154, 3) := by decide +kernel
theorem dX5_run_62 : decode cX5_run 62 = .ok (.invokevirtual 158, 3) := by decide +kernel
theorem dX5_run_65 : decode cX5_run 65 = .ok (.iinc 2 1, 3) := by decide +kernel
theorem dX5_run_68 : decode cX5_run 68 = .ok (.aload_n 0, 1) := by decide +kernel
theorem dX5_run_69 : decode cX5_run 69 = .ok (.invokevirtual 147, 3) := by decide +kernel
theorem dX5_run_72 : decode cX5_run 72 = .ok (.goto (-27), 3) := by decide +kernel
theorem dX5_run_75 : decode cX5_run 75 = .ok (.iload_n 2, 1) := by decide +kernel
theorem dX5_run_76 : decode cX5_run 76 = .ok (.ireturn, 1) := by decide +kernel
