theorem dX0_init_0 : decode cX0_init 0 = .ok (.aload_n 0, 1) := by decide +kernel
theorem dX0_init_1 : decode cX0_init 1 = .ok (.invokespecial 1, 3) := by decide +kernel
theorem dX0_init_4 : decode cX0_init 4 = .ok (.return_, 1) := by decide +kernel
set_option maxRecDepth 20000 in
theorem ggX0_slips_X4_slipsOf : GoodIn wsX0_slips wsX4_slipsOf := goodIn_r _ [5] (by decide +kernel) (by decide +kernel)
set_option maxRecDepth 20000 in
theorem gX0_slips_X4_slipsOf_n16 : GoodIn wsX0_slips (wsX4_slipsOf) := ggX0_slips_X4_slipsOf
theorem dX0_slips_0 : decode cX0_slips 0 = .ok (.aload_n 0, 1) := by decide +kernel
theorem dX0_slips_1 : decode cX0_slips 1 = .ok (.getfield 7, 3) := by decide +kernel
theorem dX0_slips_4 : decode cX0_slips 4 = .ok (.aload_n 0, 1) := by decide +kernel
theorem dX0_slips_5 : decode cX0_slips 5 = .ok (.getfield 13, 3) := by decide +kernel
theorem dX0_slips_8 : decode cX0_slips 8 = .ok (.invokestatic 16, 3) := by decide +kernel
theorem dX0_slips_11 : decode cX0_slips 11 = .ok (.ireturn, 1) := by decide +kernel
theorem dX1_init_0 : decode cX1_init 0 = .ok (.aload_n 0, 1) := by decide +kernel
theorem dX1_init_1 : decode cX1_init 1 = .ok (.invokespecial 3, 3) := by decide +kernel
theorem dX1_init_4 : decode cX1_init 4 = .ok (.aload_n 0, 1) := by decide +kernel
theorem dX1_init_5 : decode cX1_init 5 = .ok (.bipush 6, 2) := by decide +kernel
theorem dX1_init_7 : decode cX1_init 7 = .ok (.newarray .int, 2) := by decide +kernel
theorem dX1_init_9 : decode cX1_init 9 = .ok (.putfield 9, 3) := by decide +kernel
theorem dX1_init_12 : decode cX1_init 12 = .ok (.aload_n 0, 1) := by decide +kernel
theorem dX1_init_13 : decode cX1_init 13 = .ok (.bipush 42, 2) := by decide +kernel
theorem dX1_init_15 : decode cX1_init 15 = .ok (.newarray .long, 2) := by decide +kernel
theorem dX1_init_17 : decode cX1_init 17 = .ok (.putfield 15, 3) := by decide +kernel
theorem dX1_init_20 : decode cX1_init 20 = .ok (.aload_n 0, 1) := by decide +kernel
theorem dX1_init_21 : decode cX1_init 21 = .ok (.sipush 448, 3) := by decide +kernel
theorem dX1_init_24 : decode cX1_init 24 = .ok (.newarray .long, 2) := by decide +kernel
theorem dX1_init_26 : decode cX1_init 26 = .ok (.putfield 19, 3) := by decide +kernel
theorem dX1_init_29 : decode cX1_init 29 = .ok (.aload_n 0, 1) := by decide +kernel
theorem dX1_init_30 : decode cX1_init 30 = .ok (.getfield 19, 3) := by decide +kernel
theorem dX1_init_33 : decode cX1_init 33 = .ok (.iconst 0, 1) := by decide +kernel
theorem dX1_init_34 : decode cX1_init 34 = .ok (.lconst 1, 1) := by decide +kernel
theorem dX1_init_35 : decode cX1_init 35 = .ok (.lastore, 1) := by decide +kernel
theorem dX1_init_36 : decode cX1_init 36 = .ok (.return_, 1) := by decide +kernel
set_option maxRecDepth 20000 in
theorem ggX1_empty_X1_setDrawn : GoodIn wsX1_empty wsX1_setDrawn := goodIn_r _ [16, 1, 2, 3, 4, 5, 6, 7, 17, 18, 19, 20, 21, 22, 23, 24] (by decide +kernel) (by decide +kernel)
set_option maxRecDepth 20000 in
theorem gX1_empty_X1_setDrawn : GoodIn wsX1_empty (wsV RX1 41 RX1 yX1_setDrawn wsX1_setDrawn) := goodIn_app (goodIn_of _ (by decide +kernel)) ggX1_empty_X1_setDrawn
theorem dX1_empty_0 : decode cX1_empty 0 = .ok (.aload_n 0, 1) := by decide +kernel
theorem dX1_empty_1 : decode cX1_empty 1 = .ok (.iconst 0, 1) := by decide +kernel
theorem dX1_empty_2 : decode cX1_empty 2 = .ok (.iload_n 1, 1) := by decide +kernel
theorem dX1_empty_3 : decode cX1_empty 3 = .ok (.bipush 6, 2) := by decide +kernel
theorem dX1_empty_5 : decode cX1_empty 5 = .ok (.invokestatic 22, 3) := by decide +kernel
theorem dX1_empty_8 : decode cX1_empty 8 = .ok (.invokestatic 28, 3) := by decide +kernel
theorem dX1_empty_11 : decode cX1_empty 11 = .ok (.putfield 31, 3) := by decide +kernel
theorem dX1_empty_14 : decode cX1_empty 14 = .ok (.aload_n 0, 1) := by decide +kernel
theorem dX1_empty_15 : decode cX1_empty 15 = .ok (.iconst 0, 1) := by decide +kernel
theorem dX1_empty_16 : decode cX1_empty 16 = .ok (.putfield 35, 3) := by decide +kernel
theorem dX1_empty_19 : decode cX1_empty 19 = .ok (.aload_n 0, 1) := by decide +kernel
theorem dX1_empty_20 : decode cX1_empty 20 = .ok (.iconst 0, 1) := by decide +kernel
theorem dX1_empty_21 : decode cX1_empty 21 = .ok (.putfield 38, 3) := by decide +kernel
theorem dX1_empty_24 : decode cX1_empty 24 = .ok (.iconst 0, 1) := by decide +kernel
theorem dX1_empty_25 : decode cX1_empty 25 = .ok (.istore_n 3, 1) := by decide +kernel
theorem dX1_empty_26 : decode cX1_empty 26 = .ok (.iload_n 3, 1) := by decide +kernel
theorem dX1_empty_27 : decode cX1_empty 27 = .ok (.aload_n 0, 1) := by decide +kernel
theorem dX1_empty_28 : decode cX1_empty 28 = .ok (.getfield 9, 3) := by decide +kernel
theorem dX1_empty_31 : decode cX1_empty 31 = .ok (.arraylength, 1) := by decide +kernel
theorem dX1_empty_32 : decode cX1_empty 32 = .ok (.if_icmp .ge 16, 3) := by decide +kernel
theorem dX1_empty_35 : decode cX1_empty 35 = .ok (.aload_n 0, 1) := by decide +kernel
theorem dX1_empty_36 : decode cX1_empty 36 = .ok (.getfield 9, 3) := by decide +kernel
theorem dX1_empty_39 : decode cX1_empty 39 = .ok (.iload_n 3, 1) := by decide +kernel
theorem dX1_empty_40 : decode cX1_empty 40 = .ok (.iconst 0, 1) := by decide +kernel
theorem dX1_empty_41 : decode cX1_empty 41 = .ok (.iastore, 1) := by decide +kernel
theorem dX1_empty_42 : decode cX1_empty 42 = .ok (.iinc 3 1, 3) := by decide +kernel
theorem dX1_empty_45 : decode cX1_empty 45 = .ok (.goto (-19), 3) := by decide +kernel
theorem dX1_empty_48 : decode cX1_empty 48 = .ok (.aload_n 0, 1) := by decide +kernel
theorem dX1_empty_49 : decode cX1_empty 49 = .ok (.iload_n 2, 1) := by decide +kernel
theorem dX1_empty_50 : decode cX1_empty 50 = .ok (.invokevirtual 41, 3) := by decide +kernel
theorem dX1_empty_53 : decode cX1_empty 53 = .ok (.return_, 1) := by decide +kernel
theorem dX1_setDrawn_0 : decode cX1_setDrawn 0 = .ok (.aload_n 0, 1) := by decide +kernel
theorem dX1_setDrawn_1 : decode cX1_setDrawn 1 = .ok (.iconst 0, 1) := by decide +kernel
theorem dX1_setDrawn_2 : decode cX1_setDrawn 2 = .ok (.iload_n 1, 1) := by decide +kernel
theorem dX1_setDrawn_3 : decode cX1_setDrawn 3 = .ok (.bipush 6, 2) := by decide +kernel
theorem dX1_setDrawn_5 : decode cX1_setDrawn 5 = .ok (.invokestatic 22, 3) := by decide +kernel
theorem dX1_setDrawn_8 : decode cX1_setDrawn 8 = .ok (.invokestatic 28, 3) := by decide +kernel
theorem dX1_setDrawn_11 : decode cX1_setDrawn 11 = .ok (.putfield 45, 3) := by decide +kernel
theorem dX1_setDrawn_14 : decode cX1_setDrawn 14 = .ok (.return_, 1) := by decide +kernel
set_option maxRecDepth 20000 in
theorem ggX1_setSlips_X1_choose : GoodIn wsX1_setSlips wsX1_choose := goodIn_r _ [7] (by decide +kernel) (by decide +kernel)
set_option maxRecDepth 20000 in
theorem gX1_setSlips_X1_choose : GoodIn wsX1_setSlips (va_wsS RX1 48 yX1_choose wsX1_choose) := goodIn_app (goodIn_of _ (by decide +kernel)) ggX1_setSlips_X1_choose
theorem dX1_setSlips_0 : decode cX1_setSlips 0 = .ok (.iload_n 1, 1) := by decide +kernel
theorem dX1_setSlips_1 : decode cX1_setSlips 1 = .ok (.ifCond .lt 12, 3) := by decide +kernel
theorem dX1_setSlips_4 : decode cX1_setSlips 4 = .ok (.iload_n 1, 1) := by decide +kernel
theorem dX1_setSlips_5 : decode cX1_setSlips 5 = .ok (.aload_n 0, 1) := by decide +kernel
theorem dX1_setSlips_6 : decode cX1_setSlips 6 = .ok (.getfield 9, 3) := by decide +kernel
theorem dX1_setSlips_9 : decode cX1_setSlips 9 = .ok (.arraylength, 1) := by decide +kernel
theorem dX1_setSlips_10 : decode cX1_setSlips 10 = .ok (.if_icmp .lt 4, 3) := by decide +kernel
theorem dX1_setSlips_13 : decode cX1_setSlips 13 = .ok (.return_, 1) := by decide +kernel
theorem dX1_setSlips_14 : decode cX1_setSlips 14 = .ok (.aload_n 0, 1) := by decide +kernel
theorem dX1_setSlips_15 : decode cX1_setSlips 15 = .ok (.dup, 1) := by decide +kernel
theorem dX1_setSlips_16 : decode cX1_setSlips 16 = .ok (.getfield 38, 3) := by decide +kernel
theorem dX1_setSlips_19 : decode cX1_setSlips 19 = .ok (.iload_n 2, 1) := by decide +kernel
theorem dX1_setSlips_20 : decode cX1_setSlips 20 = .ok (.aload_n 0, 1) := by decide +kernel
theorem dX1_setSlips_21 : decode cX1_setSlips 21 = .ok (.getfield 9, 3) := by decide +kernel
theorem dX1_setSlips_24 : decode cX1_setSlips 24 = .ok (.iload_n 1, 1) := by decide +kernel
theorem dX1_setSlips_25 : decode cX1_setSlips 25 = .ok (.iaload, 1) := by decide +kernel
theorem dX1_setSlips_26 : decode cX1_setSlips 26 = .ok (.isub, 1) := by decide +kernel
theorem dX1_setSlips_27 : decode cX1_setSlips 27 = .ok (.iadd, 1) := by decide +kernel
theorem dX1_setSlips_28 : decode cX1_setSlips 28 = .ok (.putfield 38, 3) := by decide +kernel
theorem dX1_setSlips_31 : decode cX1_setSlips 31 = .ok (.aload_n 0, 1) := by decide +kernel
theorem dX1_setSlips_32 : decode cX1_setSlips 32 = .ok (.getfield 9, 3) := by decide +kernel
theorem dX1_setSlips_35 : decode cX1_setSlips 35 = .ok (.iload_n 1, 1) := by decide +kernel
theorem dX1_setSlips_36 : decode cX1_setSlips 36 = .ok (.iload_n 2, 1) := by decide +kernel
theorem dX1_setSlips_37 : decode cX1_setSlips 37 = .ok (.iastore, 1) := by decide +kernel
theorem dX1_setSlips_38 : decode cX1_setSlips 38 = .ok (.iconst 0, 1) := by decide +kernel
theorem dX1_setSlips_39 : decode cX1_setSlips 39 = .ok (.istore_n 3, 1) := by decide +kernel
theorem dX1_setSlips_40 : decode cX1_setSlips 40 = .ok (.iload_n 3, 1) := by decide +kernel
theorem dX1_setSlips_41 : decode cX1_setSlips 41 = .ok (.bipush 7, 2) := by decide +kernel
theorem dX1_setSlips_43 : decode cX1_setSlips 43 = .ok (.if_icmp .ge 39, 3) := by decide +kernel
theorem dX1_setSlips_46 : decode cX1_setSlips 46 = .ok (.iload_n 1, 1) := by decide +kernel
theorem dX1_setSlips_47 : decode cX1_setSlips 47 = .ok (.bipush 7, 2) := by decide +kernel
theorem dX1_setSlips_49 : decode cX1_setSlips 49 = .ok (.imul, 1) := by decide +kernel
theorem dX1_setSlips_50 : decode cX1_setSlips 50 = .ok (.iload_n 3, 1) := by decide +kernel
theorem dX1_setSlips_51 : decode cX1_setSlips 51 = .ok (.iadd, 1) := by decide +kernel
theorem dX1_setSlips_52 : decode cX1_setSlips 52 = .ok (.istore 4, 2) := by decide +kernel
theorem dX1_setSlips_54 : decode cX1_setSlips 54 = .ok (.iload 4, 2) := by decide +kernel
theorem dX1_setSlips_56 : decode cX1_setSlips 56 = .ok (.aload_n 0, 1) := by decide +kernel
theorem dX1_setSlips_57 : decode cX1_setSlips 57 = .ok (.getfield 15, 3) := by decide +kernel
theorem dX1_setSlips_60 : decode cX1_setSlips 60 = .ok (.arraylength, 1) := by decide +kernel
theorem dX1_setSlips_61 : decode cX1_setSlips 61 = .ok (.if_icmp .ge 15, 3) := by decide +kernel
theorem dX1_setSlips_64 : decode cX1_setSlips 64 = .ok (.aload_n 0, 1) := by decide +kernel
theorem dX1_setSlips_65 : decode cX1_setSlips 65 = .ok (.getfield 15, 3) := by decide +kernel
theorem dX1_setSlips_68 : decode cX1_setSlips 68 = .ok (.iload 4, 2) := by decide +kernel
theorem dX1_setSlips_70 : decode cX1_setSlips 70 = .ok (.iload_n 2, 1) := by decide +kernel
theorem dX1_setSlips_71 : decode cX1_setSlips 71 = .ok (.iload_n 3, 1) := by decide +kernel
theorem dX1_setSlips_72 : decode cX1_setSlips 72 = .ok (.invokestatic 48, 3) := by decide +kernel
theorem dX1_setSlips_75 : decode cX1_setSlips 75 = .ok (.lastore, 1) := by decide +kernel
theorem dX1_setSlips_76 : decode cX1_setSlips 76 = .ok (.iinc 3 1, 3) := by decide +kernel
theorem dX1_setSlips_79 : decode cX1_setSlips 79 = .ok (.goto (-39), 3) := by decide +kernel
theorem dX1_setSlips_82 : decode cX1_setSlips 82 = .ok (.return_, 1) := by decide +kernel
theorem dX1_setWishes_0 : decode cX1_setWishes 0 = .ok (.iconst 1, 1) := by decide +kernel
theorem dX1_setWishes_1 : decode cX1_setWishes 1 = .ok (.iload_n 1, 1) := by decide +kernel
theorem dX1_setWishes_2 : decode cX1_setWishes 2 = .ok (.ishl, 1) := by decide +kernel
theorem dX1_setWishes_3 : decode cX1_setWishes 3 = .ok (.istore_n 3, 1) := by decide +kernel
theorem dX1_setWishes_4 : decode cX1_setWishes 4 = .ok (.aload_n 0, 1) := by decide +kernel
theorem dX1_setWishes_5 : decode cX1_setWishes 5 = .ok (.iload_n 2, 1) := by decide +kernel
theorem dX1_setWishes_6 : decode cX1_setWishes 6 = .ok (.ifCond .eq 12, 3) := by decide +kernel
theorem dX1_setWishes_9 : decode cX1_setWishes 9 = .ok (.aload_n 0, 1) := by decide +kernel
theorem dX1_setWishes_10 : decode cX1_setWishes 10 = .ok (.getfield 35, 3) := by decide +kernel
theorem dX1_setWishes_13 : decode cX1_setWishes 13 = .ok (.iload_n 3, 1) := by decide +kernel
theorem dX1_setWishes_14 : decode cX1_setWishes 14 = .ok (.ior, 1) := by decide +kernel
theorem dX1_setWishes_15 : decode cX1_setWishes 15 = .ok (.goto 11, 3) := by decide +kernel
theorem dX1_setWishes_18 : decode cX1_setWishes 18 = .ok (.aload_n 0, 1) := by decide +kernel
theorem dX1_setWishes_19 : decode cX1_setWishes 19 = .ok (.getfield 35, 3) := by decide +kernel
theorem dX1_setWishes_22 : decode cX1_setWishes 22 = .ok (.iload_n 3, 1) := by decide +kernel
theorem dX1_setWishes_23 : decode cX1_setWishes 23 = .ok (.iconst (-1), 1) := by decide +kernel
theorem dX1_setWishes_24 : decode cX1_setWishes 24 = .ok (.ixor, 1) := by decide +kernel
theorem dX1_setWishes_25 : decode cX1_setWishes 25 = .ok (.iand, 1) := by decide +kernel
theorem dX1_setWishes_26 : decode cX1_setWishes 26 = .ok (.putfield 35, 3) := by decide +kernel
theorem dX1_setWishes_29 : decode cX1_setWishes 29 = .ok (.return_, 1) := by decide +kernel
theorem dX1_slipsOfOne_0 : decode cX1_slipsOfOne 0 = .ok (.iload_n 1, 1) := by decide +kernel
theorem dX1_slipsOfOne_1 : decode cX1_slipsOfOne 1 = .ok (.ifCond .lt 21, 3) := by decide +kernel
theorem dX1_slipsOfOne_4 : decode cX1_slipsOfOne 4 = .ok (.iload_n 1, 1) := by decide +kernel
theorem dX1_slipsOfOne_5 : decode cX1_slipsOfOne 5 = .ok (.aload_n 0, 1) := by decide +kernel
theorem dX1_slipsOfOne_6 : decode cX1_slipsOfOne 6 = .ok (.getfield 9, 3) := by decide +kernel
theorem dX1_slipsOfOne_9 : decode cX1_slipsOfOne 9 = .ok (.arraylength, 1) := by decide +kernel
theorem dX1_slipsOfOne_10 : decode cX1_slipsOfOne 10 = .ok (.if_icmp .ge 12, 3) := by decide +kernel
theorem dX1_slipsOfOne_13 : decode cX1_slipsOfOne 13 = .ok (.aload_n 0, 1) := by decide +kernel
theorem dX1_slipsOfOne_14 : decode cX1_slipsOfOne 14 = .ok (.getfield 9, 3) := by decide +kernel
theorem dX1_slipsOfOne_17 : decode cX1_slipsOfOne 17 = .ok (.iload_n 1, 1) := by decide +kernel
theorem dX1_slipsOfOne_18 : decode cX1_slipsOfOne 18 = .ok (.iaload, 1) := by decide +kernel
theorem dX1_slipsOfOne_19 : decode cX1_slipsOfOne 19 = .ok (.goto 4, 3) := by decide +kernel
theorem dX1_slipsOfOne_22 : decode cX1_slipsOfOne 22 = .ok (.iconst 0, 1) := by decide +kernel
theorem dX1_slipsOfOne_23 : decode cX1_slipsOfOne 23 = .ok (.ireturn, 1) := by decide +kernel
theorem dX1_taken_0 : decode cX1_taken 0 = .ok (.aload_n 0, 1) := by decide +kernel
theorem dX1_taken_1 : decode cX1_taken 1 = .ok (.getfield 45, 3) := by decide +kernel
theorem dX1_taken_4 : decode cX1_taken 4 = .ok (.aload_n 0, 1) := by decide +kernel
theorem dX1_taken_5 : decode cX1_taken 5 = .ok (.getfield 38, 3) := by decide +kernel
theorem dX1_taken_8 : decode cX1_taken 8 = .ok (.invokestatic 22, 3) := by decide +kernel
theorem dX1_taken_11 : decode cX1_taken 11 = .ok (.ireturn, 1) := by decide +kernel
set_option maxRecDepth 20000 in
theorem ggX1_draws_X1_taken : GoodIn wsX1_draws wsX1_taken := goodIn_r _ [6, 7, 1, 8, 9, 10, 11, 15, 16, 17, 18, 19, 20, 21] (by decide +kernel) (by decide +kernel)
set_option maxRecDepth 20000 in
theorem gX1_draws_X1_taken : GoodIn wsX1_draws (wsV RX1 52 RX1 yX1_taken wsX1_taken) := goodIn_app (goodIn_of _ (by decide +kernel)) ggX1_draws_X1_taken
set_option maxRecDepth 20000 in
theorem ggX1_draws_X1_choose : GoodIn wsX1_draws wsX1_choose := goodIn_r _ [14] (by decide +kernel) (by decide +kernel)
set_option maxRecDepth 20000 in
theorem gX1_draws_X1_choose : GoodIn wsX1_draws (va_wsS RX1 48 yX1_choose wsX1_choose) := goodIn_app (goodIn_of _ (by decide +kernel)) ggX1_draws_X1_choose
theorem dX1_draws_0 : decode cX1_draws 0 = .ok (.aload_n 0, 1) := by decide +kernel
theorem dX1_draws_1 : decode cX1_draws 1 = .ok (.getfield 38, 3) := by decide +kernel
theorem dX1_draws_4 : decode cX1_draws 4 = .ok (.aload_n 0, 1) := by decide +kernel
theorem dX1_draws_5 : decode cX1_draws 5 = .ok (.invokevirtual 52, 3) := by decide +kernel
theorem dX1_draws_8 : decode cX1_draws 8 = .ok (.invokestatic 48, 3) := by decide +kernel
theorem dX1_draws_11 : decode cX1_draws 11 = .ok (.lreturn, 1) := by decide +kernel
set_option maxRecDepth 20000 in
theorem ggX1_drawsSparing_X1_slipsOfOne : GoodIn wsX1_drawsSparing wsX1_slipsOfOne := goodIn_r _ [6, 7, 20, 21, 22, 23, 24, 25, 26] (by decide +kernel) (by decide +kernel)
set_option maxRecDepth 20000 in
theorem gX1_drawsSparing_X1_slipsOfOne : GoodIn wsX1_drawsSparing (wsV RX1 56 RX1 yX1_slipsOfOne wsX1_slipsOfOne) := goodIn_app (goodIn_of _ (by decide +kernel)) ggX1_drawsSparing_X1_slipsOfOne
set_option maxRecDepth 20000 in
theorem ggX1_drawsSparing_X1_taken : GoodIn wsX1_drawsSparing wsX1_taken := goodIn_r _ [11, 12, 1, 13, 14, 15, 16, 20, 21, 22, 23, 24, 25, 26] (by decide +kernel) (by decide +kernel)
set_option maxRecDepth 20000 in
theorem gX1_drawsSparing_X1_taken : GoodIn wsX1_drawsSparing (wsV RX1 52 RX1 yX1_taken wsX1_taken) := goodIn_app (goodIn_of _ (by decide +kernel)) ggX1_drawsSparing_X1_taken
set_option maxRecDepth 20000 in
theorem ggX1_drawsSparing_X1_choose : GoodIn wsX1_drawsSparing wsX1_choose := goodIn_r _ [19] (by decide +kernel) (by decide +kernel)
set_option maxRecDepth 20000 in
theorem gX1_drawsSparing_X1_choose : GoodIn wsX1_drawsSparing (va_wsS RX1 48 yX1_choose wsX1_choose) := goodIn_app (goodIn_of _ (by decide +kernel)) ggX1_drawsSparing_X1_choose
theorem dX1_drawsSparing_0 : decode cX1_drawsSparing 0 = .ok (.aload_n 0, 1) := by decide +kernel
theorem dX1_drawsSparing_1 : decode cX1_drawsSparing 1 = .ok (.getfield 38, 3) := by decide +kernel
theorem dX1_drawsSparing_4 : decode cX1_drawsSparing 4 = .ok (.aload_n 0, 1) := by decide +kernel
theorem dX1_drawsSparing_5 : decode cX1_drawsSparing 5 = .ok (.iload_n 1, 1) := by decide +kernel
theorem dX1_drawsSparing_6 : decode cX1_drawsSparing 6 = .ok (.invokevirtual 56, 3) := by decide +kernel
theorem dX1_drawsSparing_9 : decode cX1_drawsSparing 9 = .ok (.isub, 1) := by decide +kernel
theorem dX1_drawsSparing_10 : decode cX1_drawsSparing 10 = .ok (.aload_n 0, 1) := by decide +kernel
theorem dX1_drawsSparing_11 : decode cX1_drawsSparing 11 = .ok (.invokevirtual 52, 3) := by decide +kernel
theorem dX1_drawsSparing_14 : decode cX1_drawsSparing 14 = .ok (.invokestatic 48, 3) := by decide +kernel
theorem dX1_drawsSparing_17 : decode cX1_drawsSparing 17 = .ok (.lreturn, 1) := by decide +kernel
set_option maxRecDepth 20000 in
theorem ggX1_drawsLeavingJust_X1_countFreeing : GoodIn wsX1_drawsLeavingJust wsX1_countFreeing := goodIn_r _ [5, 6, 7, 8, 9, 4, 10, 11, 12, 13, 14, 15, 16, 17, 18, 19, 20, 21, 22, 23, 24, 25, 26, 27, 28, 29, 30, 31, 32, 33, 42, 43, 44, 45, 46, 47, 48] (by decide +kernel) (by decide +kernel)
set_option maxRecDepth 20000 in
theorem gX1_drawsLeavingJust_X1_countFreeing : GoodIn wsX1_drawsLeavingJust (wsV RX1 60 RX1 yX1_countFreeing wsX1_countFreeing) := goodIn_app (goodIn_of _ (by decide +kernel)) ggX1_drawsLeavingJust_X1_countFreeing
set_option maxRecDepth 20000 in
theorem ggX1_drawsLeavingJust_X1_everybody : GoodIn wsX1_drawsLeavingJust wsX1_everybody := goodIn_r _ [37, 6, 42, 43, 44, 45, 46, 47, 48] (by decide +kernel) (by decide +kernel)
set_option maxRecDepth 20000 in
theorem gX1_drawsLeavingJust_X1_everybody : GoodIn wsX1_drawsLeavingJust (wsV RX1 63 RX1 yX1_everybody wsX1_everybody) := goodIn_app (goodIn_of _ (by decide +kernel)) ggX1_drawsLeavingJust_X1_everybody
set_option maxRecDepth 20000 in
theorem ggX1_drawsLeavingJust_X1_taken : GoodIn wsX1_drawsLeavingJust wsX1_taken := goodIn_r _ [15, 16, 17, 18, 19, 20, 21, 42, 43, 44, 45, 46, 47, 48] (by decide +kernel) (by decide +kernel)
set_option maxRecDepth 20000 in
theorem gX1_drawsLeavingJust_X1_taken : GoodIn wsX1_drawsLeavingJust (wsV RX1 52 RX1 yX1_taken wsX1_taken) := goodIn_app (goodIn_of _ (by decide +kernel)) ggX1_drawsLeavingJust_X1_taken
set_option maxRecDepth 20000 in
theorem ggX1_drawsLeavingJust_X1_freeingBy : GoodIn wsX1_drawsLeavingJust wsX1_freeingBy := goodIn_r _ [41, 11, 42, 43, 44, 45, 46, 47, 48] (by decide +kernel) (by decide +kernel)
set_option maxRecDepth 20000 in
theorem gX1_drawsLeavingJust_X1_freeingBy : GoodIn wsX1_drawsLeavingJust (wsV RX1 66 RX1 yX1_freeingBy wsX1_freeingBy) := goodIn_app (goodIn_of _ (by decide +kernel)) ggX1_drawsLeavingJust_X1_freeingBy
theorem dX1_drawsLeavingJust_0 : decode cX1_drawsLeavingJust 0 = .ok (.aload_n 0, 1) := by decide +kernel
theorem dX1_drawsLeavingJust_1 : decode cX1_drawsLeavingJust 1 = .ok (.invokevirtual 60, 3) := by decide +kernel
theorem dX1_drawsLeavingJust_4 : decode cX1_drawsLeavingJust 4 = .ok (.aload_n 0, 1) := by decide +kernel
theorem dX1_drawsLeavingJust_5 : decode cX1_drawsLeavingJust 5 = .ok (.aload_n 0, 1) := by decide +kernel
theorem dX1_drawsLeavingJust_6 : decode cX1_drawsLeavingJust 6 = .ok (.invokevirtual 63, 3) := by decide +kernel
theorem dX1_drawsLeavingJust_9 : decode cX1_drawsLeavingJust 9 = .ok (.iload_n 1, 1) := by decide +kernel
theorem dX1_drawsLeavingJust_10 : decode cX1_drawsLeavingJust 10 = .ok (.iconst (-1), 1) := by decide +kernel
theorem dX1_drawsLeavingJust_11 : decode cX1_drawsLeavingJust 11 = .ok (.ixor, 1) := by decide +kernel
theorem dX1_drawsLeavingJust_12 : decode cX1_drawsLeavingJust 12 = .ok (.iand, 1) := by decide +kernel
theorem dX1_drawsLeavingJust_13 : decode cX1_drawsLeavingJust 13 = .ok (.aload_n 0, 1) := by decide +kernel
theorem dX1_drawsLeavingJust_14 : decode cX1_drawsLeavingJust 14 = .ok (.invokevirtual 52, 3) := by decide +kernel
theorem dX1_drawsLeavingJust_17 : decode cX1_drawsLeavingJust 17 = .ok (.invokevirtual 66, 3) := by decide +kernel
theorem dX1_drawsLeavingJust_20 : decode cX1_drawsLeavingJust 20 = .ok (.lreturn, 1) := by decide +kernel
set_option maxRecDepth 20000 in
theorem ggX1_drawsPassing_X1_countFreeing : GoodIn wsX1_drawsPassing wsX1_countFreeing := goodIn_r _ [5, 6, 7, 8, 9, 4, 10, 11, 12, 13, 14, 15, 16, 17, 18, 19, 20, 21, 22, 23, 24, 25, 26, 27, 28, 29, 30, 31, 32, 33, 47, 48, 49, 50, 51, 52, 53] (by decide +kernel) (by decide +kernel)
set_option maxRecDepth 20000 in
theorem gX1_drawsPassing_X1_countFreeing : GoodIn wsX1_drawsPassing (wsV RX1 60 RX1 yX1_countFreeing wsX1_countFreeing) := goodIn_app (goodIn_of _ (by decide +kernel)) ggX1_drawsPassing_X1_countFreeing
set_option maxRecDepth 20000 in
theorem ggX1_drawsPassing_X1_taken : GoodIn wsX1_drawsPassing wsX1_taken := goodIn_r _ [15, 16, 17, 18, 19, 20, 21, 47, 48, 49, 50, 51, 52, 53] (by decide +kernel) (by decide +kernel)
set_option maxRecDepth 20000 in
theorem gX1_drawsPassing_X1_taken : GoodIn wsX1_drawsPassing (wsV RX1 52 RX1 yX1_taken wsX1_taken) := goodIn_app (goodIn_of _ (by decide +kernel)) ggX1_drawsPassing_X1_taken
set_option maxRecDepth 20000 in
theorem ggX1_drawsPassing_X1_everybody : GoodIn wsX1_drawsPassing wsX1_everybody := goodIn_r _ [37, 6, 47, 48, 49, 50, 51, 52, 53] (by decide +kernel) (by decide +kernel)
set_option maxRecDepth 20000 in
theorem gX1_drawsPassing_X1_everybody : GoodIn wsX1_drawsPassing (wsV RX1 63 RX1 yX1_everybody wsX1_everybody) := goodIn_app (goodIn_of _ (by decide +kernel)) ggX1_drawsPassing_X1_everybody
set_option maxRecDepth 20000 in
theorem ggX1_drawsPassing_X1_passesUnder : GoodIn wsX1_drawsPassing wsX1_passesUnder := goodIn_r _ [41, 42, 22, 23, 24, 25, 26, 27, 28, 47, 48, 49, 50, 51, 52, 53] (by decide +kernel) (by decide +kernel)
set_option maxRecDepth 20000 in
theorem gX1_drawsPassing_X1_passesUnder : GoodIn wsX1_drawsPassing (wsV RX1 69 RX1 yX1_passesUnder wsX1_passesUnder) := goodIn_app (goodIn_of _ (by decide +kernel)) ggX1_drawsPassing_X1_passesUnder
set_option maxRecDepth 20000 in
theorem ggX1_drawsPassing_X1_freeingBy : GoodIn wsX1_drawsPassing wsX1_freeingBy := goodIn_r _ [46, 11, 47, 48, 49, 50, 51, 52, 53] (by decide +kernel) (by decide +kernel)
set_option maxRecDepth 20000 in
theorem gX1_drawsPassing_X1_freeingBy : GoodIn wsX1_drawsPassing (wsV RX1 66 RX1 yX1_freeingBy wsX1_freeingBy) := goodIn_app (goodIn_of _ (by decide +kernel)) ggX1_drawsPassing_X1_freeingBy
theorem dX1_drawsPassing_0 : decode cX1_drawsPassing 0 = .ok (.aload_n 0, 1) := by decide +kernel
theorem dX1_drawsPassing_1 : decode cX1_drawsPassing 1 = .ok (.invokevirtual 60, 3) := by decide +kernel
theorem dX1_drawsPassing_4 : decode cX1_drawsPassing 4 = .ok (.aload_n 0, 1) := by decide +kernel
theorem dX1_drawsPassing_5 : decode cX1_drawsPassing 5 = .ok (.invokevirtual 52, 3) := by decide +kernel
theorem dX1_drawsPassing_8 : decode cX1_drawsPassing 8 = .ok (.istore_n 1, 1) := by decide +kernel
theorem dX1_drawsPassing_9 : decode cX1_drawsPassing 9 = .ok (.lconst 0, 1) := by decide +kernel
theorem dX1_drawsPassing_10 : decode cX1_drawsPassing 10 = .ok (.lstore_n 2, 1) := by decide +kernel
theorem dX1_drawsPassing_11 : decode cX1_drawsPassing 11 = .ok (.iconst 0, 1) := by decide +kernel
theorem dX1_drawsPassing_12 : decode cX1_drawsPassing 12 = .ok (.istore 4, 2) := by decide +kernel
theorem dX1_drawsPassing_14 : decode cX1_drawsPassing 14 = .ok (.iload 4, 2) := by decide +kernel
theorem dX1_drawsPassing_16 : decode cX1_drawsPassing 16 = .ok (.aload_n 0, 1) := by decide +kernel
theorem dX1_drawsPassing_17 : decode cX1_drawsPassing 17 = .ok (.invokevirtual 63, 3) := by decide +kernel
theorem dX1_drawsPassing_20 : decode cX1_drawsPassing 20 = .ok (.if_icmp .gt 35, 3) := by decide +kernel
theorem dX1_drawsPassing_23 : decode cX1_drawsPassing 23 = .ok (.aload_n 0, 1) := by decide +kernel
theorem dX1_drawsPassing_24 : decode cX1_drawsPassing 24 = .ok (.iload 4, 2) := by decide +kernel
theorem dX1_drawsPassing_26 : decode cX1_drawsPassing 26 = .ok (.invokevirtual 69, 3) := by decide +kernel
theorem dX1_drawsPassing_29 : decode cX1_drawsPassing 29 = .ok (.ifCond .eq 20, 3) := by decide +kernel
theorem dX1_drawsPassing_32 : decode cX1_drawsPassing 32 = .ok (.lload_n 2, 1) := by decide +kernel
theorem dX1_drawsPassing_33 : decode cX1_drawsPassing 33 = .ok (.aload_n 0, 1) := by decide +kernel
theorem dX1_drawsPassing_34 : decode cX1_drawsPassing 34 = .ok (.aload_n 0, 1) := by decide +kernel
theorem dX1_drawsPassing_35 : decode cX1_drawsPassing 35 = .ok (.invokevirtual 63, 3) := by decide +kernel
theorem dX1_drawsPassing_38 : decode cX1_drawsPassing 38 = .ok (.iload 4, 2) := by decide +kernel
theorem dX1_drawsPassing_40 : decode cX1_drawsPassing 40 = .ok (.iconst (-1), 1) := by decide +kernel
theorem dX1_drawsPassing_41 : decode cX1_drawsPassing 41 = .ok (.ixor, 1) := by decide +kernel
theorem dX1_drawsPassing_42 : decode cX1_drawsPassing 42 = .ok (.iand, 1) := by decide +kernel
theorem dX1_drawsPassing_43 : decode cX1_drawsPassing 43 = .ok (.iload_n 1, 1) := by decide +kernel
theorem dX1_drawsPassing_44 : decode cX1_drawsPassing 44 = .ok (.invokevirtual 66, 3) := by decide +kernel
theorem dX1_drawsPassing_47 : decode cX1_drawsPassing 47 = .ok (.ladd, 1) := by decide +kernel
theorem dX1_drawsPassing_48 : decode cX1_drawsPassing 48 = .ok (.lstore_n 2, 1) := by decide +kernel
theorem dX1_drawsPassing_49 : decode cX1_drawsPassing 49 = .ok (.iinc 4 1, 3) := by decide +kernel
theorem dX1_drawsPassing_52 : decode cX1_drawsPassing 52 = .ok (.goto (-38), 3) := by decide +kernel
theorem dX1_drawsPassing_55 : decode cX1_drawsPassing 55 = .ok (.lload_n 2, 1) := by decide +kernel
theorem dX1_drawsPassing_56 : decode cX1_drawsPassing 56 = .ok (.lreturn, 1) := by decide +kernel
set_option maxRecDepth 20000 in
theorem ggX1_passesUnder_J6_bitCount_0f7a4 : GoodIn wsX1_passesUnder wsJ6_bitCount_0f7a4 := goodIn_r _ [5, 6, 7, 8] (by decide +kernel) (by decide +kernel)
set_option maxRecDepth 20000 in
theorem gX1_passesUnder_J6_bitCount_0f7a4 : GoodIn wsX1_passesUnder (va_wsS RX1 73 yJ6_bitCount_0f7a4 wsJ6_bitCount_0f7a4) := goodIn_app (goodIn_of _ (by decide +kernel)) ggX1_passesUnder_J6_bitCount_0f7a4
theorem dX1_passesUnder_0 : decode cX1_passesUnder 0 = .ok (.iload_n 1, 1) := by decide +kernel
theorem dX1_passesUnder_1 : decode cX1_passesUnder 1 = .ok (.aload_n 0, 1) := by decide +kernel
theorem dX1_passesUnder_2 : decode cX1_passesUnder 2 = .ok (.getfield 35, 3) := by decide +kernel
theorem dX1_passesUnder_5 : decode cX1_passesUnder 5 = .ok (.iand, 1) := by decide +kernel
theorem dX1_passesUnder_6 : decode cX1_passesUnder 6 = .ok (.invokestatic 73, 3) := by decide +kernel
theorem dX1_passesUnder_9 : decode cX1_passesUnder 9 = .ok (.iload_n 1, 1) := by decide +kernel
theorem dX1_passesUnder_10 : decode cX1_passesUnder 10 = .ok (.aload_n 0, 1) := by decide +kernel
theorem dX1_passesUnder_11 : decode cX1_passesUnder 11 = .ok (.getfield 35, 3) := by decide +kernel
theorem dX1_passesUnder_14 : decode cX1_passesUnder 14 = .ok (.iconst (-1), 1) := by decide +kernel
theorem dX1_passesUnder_15 : decode cX1_passesUnder 15 = .ok (.ixor, 1) := by decide +kernel
theorem dX1_passesUnder_16 : decode cX1_passesUnder 16 = .ok (.iand, 1) := by decide +kernel
theorem dX1_passesUnder_17 : decode cX1_passesUnder 17 = .ok (.invokestatic 73, 3) := by decide +kernel
theorem dX1_passesUnder_20 : decode cX1_passesUnder 20 = .ok (.if_icmp .le 7, 3) := by decide +kernel
theorem dX1_passesUnder_23 : decode cX1_passesUnder 23 = .ok (.iconst 1, 1) := by decide +kernel
theorem dX1_passesUnder_24 : decode cX1_passesUnder 24 = .ok (.goto 4, 3) := by decide +kernel
theorem dX1_passesUnder_27 : decode cX1_passesUnder 27 = .ok (.iconst 0, 1) := by decide +kernel
theorem dX1_passesUnder_28 : decode cX1_passesUnder 28 = .ok (.ireturn, 1) := by decide +kernel
set_option maxRecDepth 20000 in
theorem ggX1_passesByHalf_X1_drawsPassing : GoodIn wsX1_passesByHalf wsX1_drawsPassing := goodIn_r _ [6, 7, 8, 9, 5, 10, 11, 12, 13, 14, 15, 16, 17, 18, 19, 20, 21, 22, 23, 24, 25, 26, 27, 28, 29, 30, 31, 32, 33, 34, 35, 36, 37, 38, 39, 40, 41, 42, 43, 44, 45, 46, 47, 48, 49, 50, 51, 59, 60, 61, 62, 63, 64, 65] (by decide +kernel) (by decide +kernel)
set_option maxRecDepth 20000 in
theorem gX1_passesByHalf_X1_drawsPassing : GoodIn wsX1_passesByHalf (wsV RX1 80 RX1 yX1_drawsPassing wsX1_drawsPassing) := goodIn_app (goodIn_of _ (by decide +kernel)) ggX1_passesByHalf_X1_drawsPassing
set_option maxRecDepth 20000 in
theorem ggX1_passesByHalf_X1_draws : GoodIn wsX1_passesByHalf wsX1_draws := goodIn_r _ [55, 22, 17, 18, 19, 5, 20, 21, 23, 24, 25, 26, 56, 57, 58, 59, 60, 61, 62, 63, 64, 65] (by decide +kernel) (by decide +kernel)
set_option maxRecDepth 20000 in
theorem gX1_passesByHalf_X1_draws : GoodIn wsX1_passesByHalf (wsV RX1 84 RX1 yX1_draws wsX1_draws) := goodIn_app (goodIn_of _ (by decide +kernel)) ggX1_passesByHalf_X1_draws
theorem dX1_passesByHalf_0 : decode cX1_passesByHalf 0 = .ok (.ldc2_w 78, 3) := by decide +kernel
theorem dX1_passesByHalf_3 : decode cX1_passesByHalf 3 = .ok (.aload_n 0, 1) := by decide +kernel
theorem dX1_passesByHalf_4 : decode cX1_passesByHalf 4 = .ok (.invokevirtual 80, 3) := by decide +kernel
theorem dX1_passesByHalf_7 : decode cX1_passesByHalf 7 = .ok (.lmul, 1) := by decide +kernel
theorem dX1_passesByHalf_8 : decode cX1_passesByHalf 8 = .ok (.aload_n 0, 1) := by decide +kernel
theorem dX1_passesByHalf_9 : decode cX1_passesByHalf 9 = .ok (.invokevirtual 84, 3) := by decide +kernel
theorem dX1_passesByHalf_12 : decode cX1_passesByHalf 12 = .ok (.lcmp, 1) := by decide +kernel
theorem dX1_passesByHalf_13 : decode cX1_passesByHalf 13 = .ok (.ifCond .lt 7, 3) := by decide +kernel
theorem dX1_passesByHalf_16 : decode cX1_passesByHalf 16 = .ok (.iconst 1, 1) := by decide +kernel
theorem dX1_passesByHalf_17 : decode cX1_passesByHalf 17 = .ok (.goto 4, 3) := by decide +kernel
theorem dX1_passesByHalf_20 : decode cX1_passesByHalf 20 = .ok (.iconst 0, 1) := by decide +kernel
theorem dX1_passesByHalf_21 : decode cX1_passesByHalf 21 = .ok (.ireturn, 1) := by decide +kernel
set_option maxRecDepth 20000 in
theorem ggX1_canLeaveJust_X1_everybody : GoodIn wsX1_canLeaveJust wsX1_everybody := goodIn_r _ [6, 1, 29, 30, 31, 32, 33, 34, 35] (by decide +kernel) (by decide +kernel)
set_option maxRecDepth 20000 in
theorem gX1_canLeaveJust_X1_everybody : GoodIn wsX1_canLeaveJust (wsV RX1 63 RX1 yX1_everybody wsX1_everybody) := goodIn_app (goodIn_of _ (by decide +kernel)) ggX1_canLeaveJust_X1_everybody
set_option maxRecDepth 20000 in
theorem ggX1_canLeaveJust_X1_slipsOfOne : GoodIn wsX1_canLeaveJust wsX1_slipsOfOne := goodIn_r _ [10, 11, 29, 30, 31, 32, 33, 34, 35] (by decide +kernel) (by decide +kernel)
set_option maxRecDepth 20000 in
theorem gX1_canLeaveJust_X1_slipsOfOne : GoodIn wsX1_canLeaveJust (wsV RX1 56 RX1 yX1_slipsOfOne wsX1_slipsOfOne) := goodIn_app (goodIn_of _ (by decide +kernel)) ggX1_canLeaveJust_X1_slipsOfOne
set_option maxRecDepth 20000 in
theorem ggX1_canLeaveJust_J6_bitCount_0f7a4 : GoodIn wsX1_canLeaveJust wsJ6_bitCount_0f7a4 := goodIn_r _ [15, 16, 17, 18] (by decide +kernel) (by decide +kernel)
set_option maxRecDepth 20000 in
theorem gX1_canLeaveJust_J6_bitCount_0f7a4 : GoodIn wsX1_canLeaveJust (va_wsS RX1 73 yJ6_bitCount_0f7a4 wsJ6_bitCount_0f7a4) := goodIn_app (goodIn_of _ (by decide +kernel)) ggX1_canLeaveJust_J6_bitCount_0f7a4
set_option maxRecDepth 20000 in
theorem ggX1_canLeaveJust_X1_taken : GoodIn wsX1_canLeaveJust wsX1_taken := goodIn_r _ [22, 23, 24, 25, 26, 27, 28, 29, 30, 31, 32, 33, 34, 35] (by decide +kernel) (by decide +kernel)
set_option maxRecDepth 20000 in
theorem gX1_canLeaveJust_X1_taken : GoodIn wsX1_canLeaveJust (wsV RX1 52 RX1 yX1_taken wsX1_taken) := goodIn_app (goodIn_of _ (by decide +kernel)) ggX1_canLeaveJust_X1_taken
theorem dX1_canLeaveJust_0 : decode cX1_canLeaveJust 0 = .ok (.aload_n 0, 1) := by decide +kernel
theorem dX1_canLeaveJust_1 : decode cX1_canLeaveJust 1 = .ok (.invokevirtual 63, 3) := by decide +kernel
theorem dX1_canLeaveJust_4 : decode cX1_canLeaveJust 4 = .ok (.iload_n 1, 1) := by decide +kernel
theorem dX1_canLeaveJust_5 : decode cX1_canLeaveJust 5 = .ok (.iconst (-1), 1) := by decide +kernel
theorem dX1_canLeaveJust_6 : decode cX1_canLeaveJust 6 = .ok (.ixor, 1) := by decide +kernel
theorem dX1_canLeaveJust_7 : decode cX1_canLeaveJust 7 = .ok (.iand, 1) := by decide +kernel
theorem dX1_canLeaveJust_8 : decode cX1_canLeaveJust 8 = .ok (.istore_n 2, 1) := by decide +kernel
theorem dX1_canLeaveJust_9 : decode cX1_canLeaveJust 9 = .ok (.iconst 0, 1) := by decide +kernel
theorem dX1_canLeaveJust_10 : decode cX1_canLeaveJust 10 = .ok (.istore_n 3, 1) := by decide +kernel
theorem dX1_canLeaveJust_11 : decode cX1_canLeaveJust 11 = .ok (.iconst 0, 1) := by decide +kernel
theorem dX1_canLeaveJust_12 : decode cX1_canLeaveJust 12 = .ok (.istore 4, 2) := by decide +kernel
theorem dX1_canLeaveJust_14 : decode cX1_canLeaveJust 14 = .ok (.iload 4, 2) := by decide +kernel
theorem dX1_canLeaveJust_16 : decode cX1_canLeaveJust 16 = .ok (.aload_n 0, 1) := by decide +kernel
theorem dX1_canLeaveJust_17 : decode cX1_canLeaveJust 17 = .ok (.getfield 31, 3) := by decide +kernel
theorem dX1_canLeaveJust_20 : decode cX1_canLeaveJust 20 = .ok (.if_icmp .ge 28, 3) := by decide +kernel
theorem dX1_canLeaveJust_23 : decode cX1_canLeaveJust 23 = .ok (.iload_n 2, 1) := by decide +kernel
theorem dX1_canLeaveJust_24 : decode cX1_canLeaveJust 24 = .ok (.iload 4, 2) := by decide +kernel
theorem dX1_canLeaveJust_26 : decode cX1_canLeaveJust 26 = .ok (.ishr, 1) := by decide +kernel
theorem dX1_canLeaveJust_27 : decode cX1_canLeaveJust 27 = .ok (.iconst 1, 1) := by decide +kernel
theorem dX1_canLeaveJust_28 : decode cX1_canLeaveJust 28 = .ok (.iand, 1) := by decide +kernel
theorem dX1_canLeaveJust_29 : decode cX1_canLeaveJust 29 = .ok (.iconst 1, 1) := by decide +kernel
theorem dX1_canLeaveJust_30 : decode cX1_canLeaveJust 30 = .ok (.if_icmp .ne 12, 3) := by decide +kernel
theorem dX1_canLeaveJust_33 : decode cX1_canLeaveJust 33 = .ok (.iload_n 3, 1) := by decide +kernel
theorem dX1_canLeaveJust_34 : decode cX1_canLeaveJust 34 = .ok (.aload_n 0, 1) := by decide +kernel
theorem dX1_canLeaveJust_35 : decode cX1_canLeaveJust 35 = .ok (.iload 4, 2) := by decide +kernel
theorem dX1_canLeaveJust_37 : decode cX1_canLeaveJust 37 = .ok (.invokevirtual 56, 3) := by decide +kernel
theorem dX1_canLeaveJust_40 : decode cX1_canLeaveJust 40 = .ok (.iadd, 1) := by decide +kernel
theorem dX1_canLeaveJust_41 : decode cX1_canLeaveJust 41 = .ok (.istore_n 3, 1) := by decide +kernel
theorem dX1_canLeaveJust_42 : decode cX1_canLeaveJust 42 = .ok (.iinc 4 1, 3) := by decide +kernel
theorem dX1_canLeaveJust_45 : decode cX1_canLeaveJust 45 = .ok (.goto (-31), 3) := by decide +kernel
theorem dX1_canLeaveJust_48 : decode cX1_canLeaveJust 48 = .ok (.iload_n 2, 1) := by decide +kernel
theorem dX1_canLeaveJust_49 : decode cX1_canLeaveJust 49 = .ok (.invokestatic 73, 3) := by decide +kernel
theorem dX1_canLeaveJust_52 : decode cX1_canLeaveJust 52 = .ok (.aload_n 0, 1) := by decide +kernel
theorem dX1_canLeaveJust_53 : decode cX1_canLeaveJust 53 = .ok (.invokevirtual 52, 3) := by decide +kernel
theorem dX1_canLeaveJust_56 : decode cX1_canLeaveJust 56 = .ok (.if_icmp .gt 15, 3) := by decide +kernel
theorem dX1_canLeaveJust_59 : decode cX1_canLeaveJust 59 = .ok (.aload_n 0, 1) := by decide +kernel
theorem dX1_canLeaveJust_60 : decode cX1_canLeaveJust 60 = .ok (.invokevirtual 52, 3) := by decide +kernel
theorem dX1_canLeaveJust_63 : decode cX1_canLeaveJust 63 = .ok (.iload_n 3, 1) := by decide +kernel
theorem dX1_canLeaveJust_64 : decode cX1_canLeaveJust 64 = .ok (.if_icmp .gt 7, 3) := by decide +kernel
theorem dX1_canLeaveJust_67 : decode cX1_canLeaveJust 67 = .ok (.iconst 1, 1) := by decide +kernel
theorem dX1_canLeaveJust_68 : decode cX1_canLeaveJust 68 = .ok (.goto 4, 3) := by decide +kernel
theorem dX1_canLeaveJust_71 : decode cX1_canLeaveJust 71 = .ok (.iconst 0, 1) := by decide +kernel
theorem dX1_canLeaveJust_72 : decode cX1_canLeaveJust 72 = .ok (.ireturn, 1) := by decide +kernel
theorem dX1_everybody_0 : decode cX1_everybody 0 = .ok (.iconst 1, 1) := by decide +kernel
theorem dX1_everybody_1 : decode cX1_everybody 1 = .ok (.aload_n 0, 1) := by decide +kernel
theorem dX1_everybody_2 : decode cX1_everybody 2 = .ok (.getfield 31, 3) := by decide +kernel
theorem dX1_everybody_5 : decode cX1_everybody 5 = .ok (.ishl, 1) := by decide +kernel
theorem dX1_everybody_6 : decode cX1_everybody 6 = .ok (.iconst 1, 1) := by decide +kernel
theorem dX1_everybody_7 : decode cX1_everybody 7 = .ok (.isub, 1) := by decide +kernel
theorem dX1_everybody_8 : decode cX1_everybody 8 = .ok (.ireturn, 1) := by decide +kernel
theorem dX1_freeingBy_0 : decode cX1_freeingBy 0 = .ok (.iload_n 1, 1) := by decide +kernel
theorem dX1_freeingBy_1 : decode cX1_freeingBy 1 = .ok (.bipush 7, 2) := by decide +kernel
theorem dX1_freeingBy_3 : decode cX1_freeingBy 3 = .ok (.imul, 1) := by decide +kernel
theorem dX1_freeingBy_4 : decode cX1_freeingBy 4 = .ok (.iload_n 2, 1) := by decide +kernel
theorem dX1_freeingBy_5 : decode cX1_freeingBy 5 = .ok (.iadd, 1) := by decide +kernel
theorem dX1_freeingBy_6 : decode cX1_freeingBy 6 = .ok (.istore_n 3, 1) := by decide +kernel
theorem dX1_freeingBy_7 : decode cX1_freeingBy 7 = .ok (.iload_n 1, 1) := by decide +kernel
theorem dX1_freeingBy_8 : decode cX1_freeingBy 8 = .ok (.ifCond .lt 31, 3) := by decide +kernel
theorem dX1_freeingBy_11 : decode cX1_freeingBy 11 = .ok (.iload_n 2, 1) := by decide +kernel
theorem dX1_freeingBy_12 : decode cX1_freeingBy 12 = .ok (.ifCond .lt 27, 3) := by decide +kernel
theorem dX1_freeingBy_15 : decode cX1_freeingBy 15 = .ok (.iload_n 2, 1) := by decide +kernel
theorem dX1_freeingBy_16 : decode cX1_freeingBy 16 = .ok (.bipush 7, 2) := by decide +kernel
theorem dX1_freeingBy_18 : decode cX1_freeingBy 18 = .ok (.if_icmp .ge 21, 3) := by decide +kernel
theorem dX1_freeingBy_21 : decode cX1_freeingBy 21 = .ok (.iload_n 3, 1) := by decide +kernel
theorem dX1_freeingBy_22 : decode cX1_freeingBy 22 = .ok (.aload_n 0, 1) := by decide +kernel
theorem dX1_freeingBy_23 : decode cX1_freeingBy 23 = .ok (.getfield 19, 3) := by decide +kernel
theorem dX1_freeingBy_26 : decode cX1_freeingBy 26 = .ok (.arraylength, 1) := by decide +kernel
theorem dX1_freeingBy_27 : decode cX1_freeingBy 27 = .ok (.if_icmp .ge 12, 3) := by decide +kernel
theorem dX1_freeingBy_30 : decode cX1_freeingBy 30 = .ok (.aload_n 0, 1) := by decide +kernel
theorem dX1_freeingBy_31 : decode cX1_freeingBy 31 = .ok (.getfield 19, 3) := by decide +kernel
theorem dX1_freeingBy_34 : decode cX1_freeingBy 34 = .ok (.iload_n 3, 1) := by decide +kernel
theorem dX1_freeingBy_35 : decode cX1_freeingBy 35 = .ok (.laload, 1) := by decide +kernel
theorem dX1_freeingBy_36 : decode cX1_freeingBy 36 = .ok (.goto 4, 3) := by decide +kernel
theorem dX1_freeingBy_39 : decode cX1_freeingBy 39 = .ok (.lconst 0, 1) := by decide +kernel
theorem dX1_freeingBy_40 : decode cX1_freeingBy 40 = .ok (.lreturn, 1) := by decide +kernel
set_option maxRecDepth 20000 in
theorem ggX1_countFreeing_X1_countFreeingWith : GoodIn wsX1_countFreeing wsX1_countFreeingWith := goodIn_r _ [6, 7, 8, 9, 10, 5, 11, 12, 13, 14, 15, 16, 17, 18, 19, 20, 21, 22, 23, 24, 25, 26, 27, 28, 29, 30, 31, 32, 33, 34, 35, 36] (by decide +kernel) (by decide +kernel)
set_option maxRecDepth 20000 in
theorem gX1_countFreeing_X1_countFreeingWith : GoodIn wsX1_countFreeing (wsV RX1 87 RX1 yX1_countFreeingWith wsX1_countFreeingWith) := goodIn_app (goodIn_of _ (by decide +kernel)) ggX1_countFreeing_X1_countFreeingWith
theorem dX1_countFreeing_0 : decode cX1_countFreeing 0 = .ok (.iconst 0, 1) := by decide +kernel
theorem dX1_countFreeing_1 : decode cX1_countFreeing 1 = .ok (.istore_n 1, 1) := by decide +kernel
theorem dX1_countFreeing_2 : decode cX1_countFreeing 2 = .ok (.iload_n 1, 1) := by decide +kernel
theorem dX1_countFreeing_3 : decode cX1_countFreeing 3 = .ok (.aload_n 0, 1) := by decide +kernel
theorem dX1_countFreeing_4 : decode cX1_countFreeing 4 = .ok (.getfield 31, 3) := by decide +kernel
theorem dX1_countFreeing_7 : decode cX1_countFreeing 7 = .ok (.if_icmp .ge 30, 3) := by decide +kernel
theorem dX1_countFreeing_10 : decode cX1_countFreeing 10 = .ok (.iconst 0, 1) := by decide +kernel
theorem dX1_countFreeing_11 : decode cX1_countFreeing 11 = .ok (.istore_n 2, 1) := by decide +kernel
theorem dX1_countFreeing_12 : decode cX1_countFreeing 12 = .ok (.iload_n 2, 1) := by decide +kernel
theorem dX1_countFreeing_13 : decode cX1_countFreeing 13 = .ok (.iconst 1, 1) := by decide +kernel
theorem dX1_countFreeing_14 : decode cX1_countFreeing 14 = .ok (.iload_n 1, 1) := by decide +kernel
theorem dX1_countFreeing_15 : decode cX1_countFreeing 15 = .ok (.ishl, 1) := by decide +kernel
theorem dX1_countFreeing_16 : decode cX1_countFreeing 16 = .ok (.if_icmp .ge 15, 3) := by decide +kernel
theorem dX1_countFreeing_19 : decode cX1_countFreeing 19 = .ok (.aload_n 0, 1) := by decide +kernel
theorem dX1_countFreeing_20 : decode cX1_countFreeing 20 = .ok (.iload_n 2, 1) := by decide +kernel
theorem dX1_countFreeing_21 : decode cX1_countFreeing 21 = .ok (.iload_n 1, 1) := by decide +kernel
theorem dX1_countFreeing_22 : decode cX1_countFreeing 22 = .ok (.invokevirtual 87, 3) := by decide +kernel
theorem dX1_countFreeing_25 : decode cX1_countFreeing 25 = .ok (.iinc 2 1, 3) := by decide +kernel
theorem dX1_countFreeing_28 : decode cX1_countFreeing 28 = .ok (.goto (-16), 3) := by decide +kernel
theorem dX1_countFreeing_31 : decode cX1_countFreeing 31 = .ok (.iinc 1 1, 3) := by decide +kernel
theorem dX1_countFreeing_34 : decode cX1_countFreeing 34 = .ok (.goto (-32), 3) := by decide +kernel
theorem dX1_countFreeing_37 : decode cX1_countFreeing 37 = .ok (.return_, 1) := by decide +kernel
set_option maxRecDepth 20000 in
theorem ggX1_countFreeingWith_X1_taken : GoodIn wsX1_countFreeingWith wsX1_taken := goodIn_r _ [6, 7, 8, 9, 10, 11, 12, 25, 26, 27, 28, 29, 30, 31] (by decide +kernel) (by decide +kernel)
set_option maxRecDepth 20000 in
theorem gX1_countFreeingWith_X1_taken : GoodIn wsX1_countFreeingWith (wsV RX1 52 RX1 yX1_taken wsX1_taken) := goodIn_app (goodIn_of _ (by decide +kernel)) ggX1_countFreeingWith_X1_taken
set_option maxRecDepth 20000 in
theorem ggX1_countFreeingWith_J6_bitCount_0f7a4 : GoodIn wsX1_countFreeingWith wsJ6_bitCount_0f7a4 := goodIn_r _ [16, 17, 18, 19] (by decide +kernel) (by decide +kernel)
set_option maxRecDepth 20000 in
theorem gX1_countFreeingWith_J6_bitCount_0f7a4 : GoodIn wsX1_countFreeingWith (va_wsS RX1 73 yJ6_bitCount_0f7a4 wsJ6_bitCount_0f7a4) := goodIn_app (goodIn_of _ (by decide +kernel)) ggX1_countFreeingWith_J6_bitCount_0f7a4
set_option maxRecDepth 20000 in
theorem ggX1_countFreeingWith_X1_waysWithLast : GoodIn wsX1_countFreeingWith wsX1_waysWithLast := goodIn_r _ [23, 24, 1, 13, 14, 15, 16, 17, 18, 19, 25, 26, 27, 28, 29, 30, 31] (by decide +kernel) (by decide +kernel)
set_option maxRecDepth 20000 in
theorem gX1_countFreeingWith_X1_waysWithLast : GoodIn wsX1_countFreeingWith (wsV RX1 91 RX1 yX1_waysWithLast wsX1_waysWithLast) := goodIn_app (goodIn_of _ (by decide +kernel)) ggX1_countFreeingWith_X1_waysWithLast
theorem dX1_countFreeingWith_0 : decode cX1_countFreeingWith 0 = .ok (.aload_n 0, 1) := by decide +kernel
theorem dX1_countFreeingWith_1 : decode cX1_countFreeingWith 1 = .ok (.invokevirtual 52, 3) := by decide +kernel
theorem dX1_countFreeingWith_4 : decode cX1_countFreeingWith 4 = .ok (.istore_n 3, 1) := by decide +kernel
theorem dX1_countFreeingWith_5 : decode cX1_countFreeingWith 5 = .ok (.iload_n 1, 1) := by decide +kernel
theorem dX1_countFreeingWith_6 : decode cX1_countFreeingWith 6 = .ok (.iconst 1, 1) := by decide +kernel
theorem dX1_countFreeingWith_7 : decode cX1_countFreeingWith 7 = .ok (.iload_n 2, 1) := by decide +kernel
theorem dX1_countFreeingWith_8 : decode cX1_countFreeingWith 8 = .ok (.ishl, 1) := by decide +kernel
theorem dX1_countFreeingWith_9 : decode cX1_countFreeingWith 9 = .ok (.ior, 1) := by decide +kernel
theorem dX1_countFreeingWith_10 : decode cX1_countFreeingWith 10 = .ok (.istore 4, 2) := by decide +kernel
theorem dX1_countFreeingWith_12 : decode cX1_countFreeingWith 12 = .ok (.iload 4, 2) := by decide +kernel
theorem dX1_countFreeingWith_14 : decode cX1_countFreeingWith 14 = .ok (.invokestatic 73, 3) := by decide +kernel
theorem dX1_countFreeingWith_17 : decode cX1_countFreeingWith 17 = .ok (.istore 5, 2) := by decide +kernel
theorem dX1_countFreeingWith_19 : decode cX1_countFreeingWith 19 = .ok (.iload 5, 2) := by decide +kernel
theorem dX1_countFreeingWith_21 : decode cX1_countFreeingWith 21 = .ok (.iload_n 3, 1) := by decide +kernel
theorem dX1_countFreeingWith_22 : decode cX1_countFreeingWith 22 = .ok (.if_icmp .gt 56, 3) := by decide +kernel
theorem dX1_countFreeingWith_25 : decode cX1_countFreeingWith 25 = .ok (.iload 5, 2) := by decide +kernel
theorem dX1_countFreeingWith_27 : decode cX1_countFreeingWith 27 = .ok (.bipush 7, 2) := by decide +kernel
theorem dX1_countFreeingWith_29 : decode cX1_countFreeingWith 29 = .ok (.if_icmp .ge 49, 3) := by decide +kernel
theorem dX1_countFreeingWith_32 : decode cX1_countFreeingWith 32 = .ok (.iload 4, 2) := by decide +kernel
theorem dX1_countFreeingWith_34 : decode cX1_countFreeingWith 34 = .ok (.bipush 7, 2) := by decide +kernel
theorem dX1_countFreeingWith_36 : decode cX1_countFreeingWith 36 = .ok (.imul, 1) := by decide +kernel
theorem dX1_countFreeingWith_37 : decode cX1_countFreeingWith 37 = .ok (.iload 5, 2) := by decide +kernel
theorem dX1_countFreeingWith_39 : decode cX1_countFreeingWith 39 = .ok (.iadd, 1) := by decide +kernel
theorem dX1_countFreeingWith_40 : decode cX1_countFreeingWith 40 = .ok (.istore 6, 2) := by decide +kernel
theorem dX1_countFreeingWith_42 : decode cX1_countFreeingWith 42 = .ok (.iload 6, 2) := by decide +kernel
theorem dX1_countFreeingWith_44 : decode cX1_countFreeingWith 44 = .ok (.ifCond .lt 28, 3) := by decide +kernel
theorem dX1_countFreeingWith_47 : decode cX1_countFreeingWith 47 = .ok (.iload 6, 2) := by decide +kernel
theorem dX1_countFreeingWith_49 : decode cX1_countFreeingWith 49 = .ok (.aload_n 0, 1) := by decide +kernel
theorem dX1_countFreeingWith_50 : decode cX1_countFreeingWith 50 = .ok (.getfield 19, 3) := by decide +kernel
theorem dX1_countFreeingWith_53 : decode cX1_countFreeingWith 53 = .ok (.arraylength, 1) := by decide +kernel
theorem dX1_countFreeingWith_54 : decode cX1_countFreeingWith 54 = .ok (.if_icmp .ge 18, 3) := by decide +kernel
theorem dX1_countFreeingWith_57 : decode cX1_countFreeingWith 57 = .ok (.aload_n 0, 1) := by decide +kernel
theorem dX1_countFreeingWith_58 : decode cX1_countFreeingWith 58 = .ok (.getfield 19, 3) := by decide +kernel
theorem dX1_countFreeingWith_61 : decode cX1_countFreeingWith 61 = .ok (.iload 6, 2) := by decide +kernel
theorem dX1_countFreeingWith_63 : decode cX1_countFreeingWith 63 = .ok (.aload_n 0, 1) := by decide +kernel
theorem dX1_countFreeingWith_64 : decode cX1_countFreeingWith 64 = .ok (.iload_n 1, 1) := by decide +kernel
theorem dX1_countFreeingWith_65 : decode cX1_countFreeingWith 65 = .ok (.iload_n 2, 1) := by decide +kernel
theorem dX1_countFreeingWith_66 : decode cX1_countFreeingWith 66 = .ok (.iload 5, 2) := by decide +kernel
theorem dX1_countFreeingWith_68 : decode cX1_countFreeingWith 68 = .ok (.invokevirtual 91, 3) := by decide +kernel
theorem dX1_countFreeingWith_71 : decode cX1_countFreeingWith 71 = .ok (.lastore, 1) := by decide +kernel
theorem dX1_countFreeingWith_72 : decode cX1_countFreeingWith 72 = .ok (.iinc 5 1, 3) := by decide +kernel
theorem dX1_countFreeingWith_75 : decode cX1_countFreeingWith 75 = .ok (.goto (-56), 3) := by decide +kernel
theorem dX1_countFreeingWith_78 : decode cX1_countFreeingWith 78 = .ok (.return_, 1) := by decide +kernel
set_option maxRecDepth 20000 in
theorem ggX1_waysWithLast_J6_bitCount_0f7a4 : GoodIn wsX1_waysWithLast wsJ6_bitCount_0f7a4 := goodIn_r _ [6, 7, 8, 9] (by decide +kernel) (by decide +kernel)
set_option maxRecDepth 20000 in
theorem gX1_waysWithLast_J6_bitCount_0f7a4 : GoodIn wsX1_waysWithLast (va_wsS RX1 73 yJ6_bitCount_0f7a4 wsJ6_bitCount_0f7a4) := goodIn_app (goodIn_of _ (by decide +kernel)) ggX1_waysWithLast_J6_bitCount_0f7a4
theorem dX1_waysWithLast_0 : decode cX1_waysWithLast 0 = .ok (.iload_n 3, 1) := by decide +kernel
theorem dX1_waysWithLast_1 : decode cX1_waysWithLast 1 = .ok (.iload_n 1, 1) := by decide +kernel
theorem dX1_waysWithLast_2 : decode cX1_waysWithLast 2 = .ok (.invokestatic 73, 3) := by decide +kernel
theorem dX1_waysWithLast_5 : decode cX1_waysWithLast 5 = .ok (.isub, 1) := by decide +kernel
theorem dX1_waysWithLast_6 : decode cX1_waysWithLast 6 = .ok (.istore 4, 2) := by decide +kernel
theorem dX1_waysWithLast_8 : decode cX1_waysWithLast 8 = .ok (.lconst 0, 1) := by decide +kernel
theorem dX1_waysWithLast_9 : decode cX1_waysWithLast 9 = .ok (.lstore 5, 2) := by decide +kernel
theorem dX1_waysWithLast_11 : decode cX1_waysWithLast 11 = .ok (.iconst 1, 1) := by decide +kernel
theorem dX1_waysWithLast_12 : decode cX1_waysWithLast 12 = .ok (.istore 7, 2) := by decide +kernel
theorem dX1_waysWithLast_14 : decode cX1_waysWithLast 14 = .ok (.iload 7, 2) := by decide +kernel
theorem dX1_waysWithLast_16 : decode cX1_waysWithLast 16 = .ok (.iload 4, 2) := by decide +kernel
theorem dX1_waysWithLast_18 : decode cX1_waysWithLast 18 = .ok (.if_icmp .gt 79, 3) := by decide +kernel
theorem dX1_waysWithLast_21 : decode cX1_waysWithLast 21 = .ok (.iload_n 2, 1) := by decide +kernel
theorem dX1_waysWithLast_22 : decode cX1_waysWithLast 22 = .ok (.bipush 7, 2) := by decide +kernel
theorem dX1_waysWithLast_24 : decode cX1_waysWithLast 24 = .ok (.imul, 1) := by decide +kernel
theorem dX1_waysWithLast_25 : decode cX1_waysWithLast 25 = .ok (.iload 7, 2) := by decide +kernel
theorem dX1_waysWithLast_27 : decode cX1_waysWithLast 27 = .ok (.iadd, 1) := by decide +kernel
theorem dX1_waysWithLast_28 : decode cX1_waysWithLast 28 = .ok (.istore 8, 2) := by decide +kernel
theorem dX1_waysWithLast_30 : decode cX1_waysWithLast 30 = .ok (.iload_n 1, 1) := by decide +kernel
theorem dX1_waysWithLast_31 : decode cX1_waysWithLast 31 = .ok (.bipush 7, 2) := by decide +kernel
theorem dX1_waysWithLast_33 : decode cX1_waysWithLast 33 = .ok (.imul, 1) := by decide +kernel
theorem dX1_waysWithLast_34 : decode cX1_waysWithLast 34 = .ok (.iload_n 3, 1) := by decide +kernel
theorem dX1_waysWithLast_35 : decode cX1_waysWithLast 35 = .ok (.iadd, 1) := by decide +kernel
theorem dX1_waysWithLast_36 : decode cX1_waysWithLast 36 = .ok (.iload 7, 2) := by decide +kernel
theorem dX1_waysWithLast_38 : decode cX1_waysWithLast 38 = .ok (.isub, 1) := by decide +kernel
theorem dX1_waysWithLast_39 : decode cX1_waysWithLast 39 = .ok (.istore 9, 2) := by decide +kernel
theorem dX1_waysWithLast_41 : decode cX1_waysWithLast 41 = .ok (.iload 8, 2) := by decide +kernel
theorem dX1_waysWithLast_43 : decode cX1_waysWithLast 43 = .ok (.ifCond .lt 48, 3) := by decide +kernel
theorem dX1_waysWithLast_46 : decode cX1_waysWithLast 46 = .ok (.iload 8, 2) := by decide +kernel
theorem dX1_waysWithLast_48 : decode cX1_waysWithLast 48 = .ok (.aload_n 0, 1) := by decide +kernel
theorem dX1_waysWithLast_49 : decode cX1_waysWithLast 49 = .ok (.getfield 15, 3) := by decide +kernel
theorem dX1_waysWithLast_52 : decode cX1_waysWithLast 52 = .ok (.arraylength, 1) := by decide +kernel
theorem dX1_waysWithLast_53 : decode cX1_waysWithLast 53 = .ok (.if_icmp .ge 38, 3) := by decide +kernel
theorem dX1_waysWithLast_56 : decode cX1_waysWithLast 56 = .ok (.iload 9, 2) := by decide +kernel
theorem dX1_waysWithLast_58 : decode cX1_waysWithLast 58 = .ok (.ifCond .lt 33, 3) := by decide +kernel
theorem dX1_waysWithLast_61 : decode cX1_waysWithLast 61 = .ok (.iload 9, 2) := by decide +kernel
theorem dX1_waysWithLast_63 : decode cX1_waysWithLast 63 = .ok (.aload_n 0, 1) := by decide +kernel
theorem dX1_waysWithLast_64 : decode cX1_waysWithLast 64 = .ok (.getfield 19, 3) := by decide +kernel
theorem dX1_waysWithLast_67 : decode cX1_waysWithLast 67 = .ok (.arraylength, 1) := by decide +kernel
theorem dX1_waysWithLast_68 : decode cX1_waysWithLast 68 = .ok (.if_icmp .ge 23, 3) := by decide +kernel
theorem dX1_waysWithLast_71 : decode cX1_waysWithLast 71 = .ok (.lload 5, 2) := by decide +kernel
theorem dX1_waysWithLast_73 : decode cX1_waysWithLast 73 = .ok (.aload_n 0, 1) := by decide +kernel
theorem dX1_waysWithLast_74 : decode cX1_waysWithLast 74 = .ok (.getfield 15, 3) := by decide +kernel
theorem dX1_waysWithLast_77 : decode cX1_waysWithLast 77 = .ok (.iload 8, 2) := by decide +kernel
theorem dX1_waysWithLast_79 : decode cX1_waysWithLast 79 = .ok (.laload, 1) := by decide +kernel
theorem dX1_waysWithLast_80 : decode cX1_waysWithLast 80 = .ok (.aload_n 0, 1) := by decide +kernel
theorem dX1_waysWithLast_81 : decode cX1_waysWithLast 81 = .ok (.getfield 19, 3) := by decide +kernel
theorem dX1_waysWithLast_84 : decode cX1_waysWithLast 84 = .ok (.iload 9, 2) := by decide +kernel
theorem dX1_waysWithLast_86 : decode cX1_waysWithLast 86 = .ok (.laload, 1) := by decide +kernel
theorem dX1_waysWithLast_87 : decode cX1_waysWithLast 87 = .ok (.lmul, 1) := by decide +kernel
theorem dX1_waysWithLast_88 : decode cX1_waysWithLast 88 = .ok (.ladd, 1) := by decide +kernel
theorem dX1_waysWithLast_89 : decode cX1_waysWithLast 89 = .ok (.lstore 5, 2) := by decide +kernel
theorem dX1_waysWithLast_91 : decode cX1_waysWithLast 91 = .ok (.iinc 7 1, 3) := by decide +kernel
theorem dX1_waysWithLast_94 : decode cX1_waysWithLast 94 = .ok (.goto (-80), 3) := by decide +kernel
theorem dX1_waysWithLast_97 : decode cX1_waysWithLast 97 = .ok (.lload 5, 2) := by decide +kernel
theorem dX1_waysWithLast_99 : decode cX1_waysWithLast 99 = .ok (.lreturn, 1) := by decide +kernel
theorem dX1_choose_0 : decode cX1_choose 0 = .ok (.lconst 1, 1) := by decide +kernel
theorem dX1_choose_1 : decode cX1_choose 1 = .ok (.lstore_n 2, 1) := by decide +kernel
theorem dX1_choose_2 : decode cX1_choose 2 = .ok (.iconst 0, 1) := by decide +kernel
theorem dX1_choose_3 : decode cX1_choose 3 = .ok (.istore 4, 2) := by decide +kernel
theorem dX1_choose_5 : decode cX1_choose 5 = .ok (.iload 4, 2) := by decide +kernel
theorem dX1_choose_7 : decode cX1_choose 7 = .ok (.iload_n 1, 1) := by decide +kernel
theorem dX1_choose_8 : decode cX1_choose 8 = .ok (.if_icmp .ge 32, 3) := by decide +kernel
theorem dX1_choose_11 : decode cX1_choose 11 = .ok (.iload_n 0, 1) := by decide +kernel
theorem dX1_choose_12 : decode cX1_choose 12 = .ok (.iload 4, 2) := by decide +kernel
theorem dX1_choose_14 : decode cX1_choose 14 = .ok (.isub, 1) := by decide +kernel
theorem dX1_choose_15 : decode cX1_choose 15 = .ok (.ifCond .gt 5, 3) := by decide +kernel
theorem dX1_choose_18 : decode cX1_choose 18 = .ok (.lconst 0, 1) := by decide +kernel
theorem dX1_choose_19 : decode cX1_choose 19 = .ok (.lreturn, 1) := by decide +kernel
theorem dX1_choose_20 : decode cX1_choose 20 = .ok (.lload_n 2, 1) := by decide +kernel
theorem dX1_choose_21 : decode cX1_choose 21 = .ok (.iload_n 0, 1) := by decide +kernel
theorem dX1_choose_22 : decode cX1_choose 22 = .ok (.iload 4, 2) := by decide +kernel
theorem dX1_choose_24 : decode cX1_choose 24 = .ok (.isub, 1) := by decide +kernel
theorem dX1_choose_25 : decode cX1_choose 25 = .ok (.i2l, 1) := by decide +kernel
theorem dX1_choose_26 : decode cX1_choose 26 = .ok (.lmul, 1) := by decide +kernel
theorem dX1_choose_27 : decode cX1_choose 27 = .ok (.iload 4, 2) := by decide +kernel
theorem dX1_choose_29 : decode cX1_choose 29 = .ok (.iconst 1, 1) := by decide +kernel
theorem dX1_choose_30 : decode cX1_choose 30 = .ok (.iadd, 1) := by decide +kernel
theorem dX1_choose_31 : decode cX1_choose 31 = .ok (.i2l, 1) := by decide +kernel
theorem dX1_choose_32 : decode cX1_choose 32 = .ok (.ldiv, 1) := by decide +kernel
theorem dX1_choose_33 : decode cX1_choose 33 = .ok (.lstore_n 2, 1) := by decide +kernel
theorem dX1_choose_34 : decode cX1_choose 34 = .ok (.iinc 4 1, 3) := by decide +kernel
theorem dX1_choose_37 : decode cX1_choose 37 = .ok (.goto (-32), 3) := by decide +kernel
theorem dX1_choose_40 : decode cX1_choose 40 = .ok (.lload_n 2, 1) := by decide +kernel
theorem dX1_choose_41 : decode cX1_choose 41 = .ok (.lreturn, 1) := by decide +kernel
theorem dX2_init_0 : decode cX2_init 0 = .ok (.aload_n 0, 1) := by decide +kernel
theorem dX2_init_1 : decode cX2_init 1 = .ok (.invokespecial 3, 3) := by decide +kernel
theorem dX2_init_4 : decode cX2_init 4 = .ok (.aload_n 0, 1) := by decide +kernel
theorem dX2_init_5 : decode cX2_init 5 = .ok (.bipush 60, 2) := by decide +kernel
theorem dX2_init_7 : decode cX2_init 7 = .ok (.newarray .int, 2) := by decide +kernel
theorem dX2_init_9 : decode cX2_init 9 = .ok (.putfield 9, 3) := by decide +kernel
theorem dX2_init_12 : decode cX2_init 12 = .ok (.return_, 1) := by decide +kernel
theorem dX2_begin_0 : decode cX2_begin 0 = .ok (.aload_n 0, 1) := by decide +kernel
theorem dX2_begin_1 : decode cX2_begin 1 = .ok (.iconst 1, 1) := by decide +kernel
theorem dX2_begin_2 : decode cX2_begin 2 = .ok (.putfield 15, 3) := by decide +kernel
theorem dX2_begin_5 : decode cX2_begin 5 = .ok (.aload_n 0, 1) := by decide +kernel
theorem dX2_begin_6 : decode cX2_begin 6 = .ok (.iload_n 1, 1) := by decide +kernel
theorem dX2_begin_7 : decode cX2_begin 7 = .ok (.putfield 19, 3) := by decide +kernel
theorem dX2_begin_10 : decode cX2_begin 10 = .ok (.aload_n 0, 1) := by decide +kernel
theorem dX2_begin_11 : decode cX2_begin 11 = .ok (.iconst 0, 1) := by decide +kernel
theorem dX2_begin_12 : decode cX2_begin 12 = .ok (.iload_n 2, 1) := by decide +kernel
theorem dX2_begin_13 : decode cX2_begin 13 = .ok (.aload_n 0, 1) := by decide +kernel
theorem dX2_begin_14 : decode cX2_begin 14 = .ok (.getfield 9, 3) := by decide +kernel
theorem dX2_begin_17 : decode cX2_begin 17 = .ok (.arraylength, 1) := by decide +kernel
theorem dX2_begin_18 : decode cX2_begin 18 = .ok (.invokestatic 23, 3) := by decide +kernel
theorem dX2_begin_21 : decode cX2_begin 21 = .ok (.invokestatic 29, 3) := by decide +kernel
theorem dX2_begin_24 : decode cX2_begin 24 = .ok (.putfield 32, 3) := by decide +kernel
theorem dX2_begin_27 : decode cX2_begin 27 = .ok (.iconst 0, 1) := by decide +kernel
theorem dX2_begin_28 : decode cX2_begin 28 = .ok (.istore_n 3, 1) := by decide +kernel
theorem dX2_begin_29 : decode cX2_begin 29 = .ok (.iload_n 3, 1) := by decide +kernel
theorem dX2_begin_30 : decode cX2_begin 30 = .ok (.aload_n 0, 1) := by decide +kernel
theorem dX2_begin_31 : decode cX2_begin 31 = .ok (.getfield 9, 3) := by decide +kernel
theorem dX2_begin_34 : decode cX2_begin 34 = .ok (.arraylength, 1) := by decide +kernel
theorem dX2_begin_35 : decode cX2_begin 35 = .ok (.if_icmp .ge 16, 3) := by decide +kernel
theorem dX2_begin_38 : decode cX2_begin 38 = .ok (.aload_n 0, 1) := by decide +kernel
theorem dX2_begin_39 : decode cX2_begin 39 = .ok (.getfield 9, 3) := by decide +kernel
theorem dX2_begin_42 : decode cX2_begin 42 = .ok (.iload_n 3, 1) := by decide +kernel
theorem dX2_begin_43 : decode cX2_begin 43 = .ok (.iconst 0, 1) := by decide +kernel
theorem dX2_begin_44 : decode cX2_begin 44 = .ok (.iastore, 1) := by decide +kernel
theorem dX2_begin_45 : decode cX2_begin 45 = .ok (.iinc 3 1, 3) := by decide +kernel
theorem dX2_begin_48 : decode cX2_begin 48 = .ok (.goto (-19), 3) := by decide +kernel
theorem dX2_begin_51 : decode cX2_begin 51 = .ok (.return_, 1) := by decide +kernel
theorem dX2_end_0 : decode cX2_end 0 = .ok (.aload_n 0, 1) := by decide +kernel
theorem dX2_end_1 : decode cX2_end 1 = .ok (.iconst 0, 1) := by decide +kernel
theorem dX2_end_2 : decode cX2_end 2 = .ok (.putfield 15, 3) := by decide +kernel
theorem dX2_end_5 : decode cX2_end 5 = .ok (.return_, 1) := by decide +kernel
theorem dX2_holds_0 : decode cX2_holds 0 = .ok (.iload_n 1, 1) := by decide +kernel
theorem dX2_holds_1 : decode cX2_holds 1 = .ok (.ifCond .lt 29, 3) := by decide +kernel
theorem dX2_holds_4 : decode cX2_holds 4 = .ok (.iload_n 2, 1) := by decide +kernel
theorem dX2_holds_5 : decode cX2_holds 5 = .ok (.ifCond .lt 25, 3) := by decide +kernel
theorem dX2_holds_8 : decode cX2_holds 8 = .ok (.iload_n 1, 1) := by decide +kernel
theorem dX2_holds_9 : decode cX2_holds 9 = .ok (.aload_n 0, 1) := by decide +kernel
theorem dX2_holds_10 : decode cX2_holds 10 = .ok (.getfield 32, 3) := by decide +kernel
theorem dX2_holds_13 : decode cX2_holds 13 = .ok (.if_icmp .gt 17, 3) := by decide +kernel
theorem dX2_holds_16 : decode cX2_holds 16 = .ok (.iload_n 2, 1) := by decide +kernel
theorem dX2_holds_17 : decode cX2_holds 17 = .ok (.aload_n 0, 1) := by decide +kernel
theorem dX2_holds_18 : decode cX2_holds 18 = .ok (.getfield 32, 3) := by decide +kernel
theorem dX2_holds_21 : decode cX2_holds 21 = .ok (.iload_n 1, 1) := by decide +kernel
theorem dX2_holds_22 : decode cX2_holds 22 = .ok (.isub, 1) := by decide +kernel
theorem dX2_holds_23 : decode cX2_holds 23 = .ok (.if_icmp .gt 7, 3) := by decide +kernel
theorem dX2_holds_26 : decode cX2_holds 26 = .ok (.iconst 1, 1) := by decide +kernel
theorem dX2_holds_27 : decode cX2_holds 27 = .ok (.goto 4, 3) := by decide +kernel
theorem dX2_holds_30 : decode cX2_holds 30 = .ok (.iconst 0, 1) := by decide +kernel
theorem dX2_holds_31 : decode cX2_holds 31 = .ok (.ireturn, 1) := by decide +kernel
theorem dX2_at_0 : decode cX2_at 0 = .ok (.iload_n 1, 1) := by decide +kernel
theorem dX2_at_1 : decode cX2_at 1 = .ok (.ifCond .lt 21, 3) := by decide +kernel
theorem dX2_at_4 : decode cX2_at 4 = .ok (.iload_n 1, 1) := by decide +kernel
theorem dX2_at_5 : decode cX2_at 5 = .ok (.aload_n 0, 1) := by decide +kernel
theorem dX2_at_6 : decode cX2_at 6 = .ok (.getfield 9, 3) := by decide +kernel
theorem dX2_at_9 : decode cX2_at 9 = .ok (.arraylength, 1) := by decide +kernel
theorem dX2_at_10 : decode cX2_at 10 = .ok (.if_icmp .ge 12, 3) := by decide +kernel
theorem dX2_at_13 : decode cX2_at 13 = .ok (.aload_n 0, 1) := by decide +kernel
theorem dX2_at_14 : decode cX2_at 14 = .ok (.getfield 9, 3) := by decide +kernel
theorem dX2_at_17 : decode cX2_at 17 = .ok (.iload_n 1, 1) := by decide +kernel
theorem dX2_at_18 : decode cX2_at 18 = .ok (.iaload, 1) := by decide +kernel
theorem dX2_at_19 : decode cX2_at 19 = .ok (.goto 4, 3) := by decide +kernel
theorem dX2_at_22 : decode cX2_at 22 = .ok (.iconst 0, 1) := by decide +kernel
theorem dX2_at_23 : decode cX2_at 23 = .ok (.ireturn, 1) := by decide +kernel
set_option maxRecDepth 20000 in
theorem ggX2_set_X2_cut : GoodIn wsX2_set wsX2_cut := goodIn_r _ [6, 7, 8, 9, 10, 11] (by decide +kernel) (by decide +kernel)
set_option maxRecDepth 20000 in
theorem gX2_set_X2_cut : GoodIn wsX2_set (wsV RX2 35 RX2 yX2_cut wsX2_cut) := goodIn_app (goodIn_of _ (by decide +kernel)) ggX2_set_X2_cut
theorem dX2_set_0 : decode cX2_set 0 = .ok (.iload_n 1, 1) := by decide +kernel
theorem dX2_set_1 : decode cX2_set 1 = .ok (.ifCond .lt 23, 3) := by decide +kernel
theorem dX2_set_4 : decode cX2_set 4 = .ok (.iload_n 1, 1) := by decide +kernel
theorem dX2_set_5 : decode cX2_set 5 = .ok (.aload_n 0, 1) := by decide +kernel
theorem dX2_set_6 : decode cX2_set 6 = .ok (.getfield 9, 3) := by decide +kernel
theorem dX2_set_9 : decode cX2_set 9 = .ok (.arraylength, 1) := by decide +kernel
theorem dX2_set_10 : decode cX2_set 10 = .ok (.if_icmp .ge 14, 3) := by decide +kernel
theorem dX2_set_13 : decode cX2_set 13 = .ok (.aload_n 0, 1) := by decide +kernel
theorem dX2_set_14 : decode cX2_set 14 = .ok (.getfield 9, 3) := by decide +kernel
theorem dX2_set_17 : decode cX2_set 17 = .ok (.iload_n 1, 1) := by decide +kernel
theorem dX2_set_18 : decode cX2_set 18 = .ok (.aload_n 0, 1) := by decide +kernel
theorem dX2_set_19 : decode cX2_set 19 = .ok (.iload_n 2, 1) := by decide +kernel
theorem dX2_set_20 : decode cX2_set 20 = .ok (.invokevirtual 35, 3) := by decide +kernel
theorem dX2_set_23 : decode cX2_set 23 = .ok (.iastore, 1) := by decide +kernel
theorem dX2_set_24 : decode cX2_set 24 = .ok (.return_, 1) := by decide +kernel
theorem dX2_cut_0 : decode cX2_cut 0 = .ok (.aload_n 0, 1) := by decide +kernel
theorem dX2_cut_1 : decode cX2_cut 1 = .ok (.getfield 19, 3) := by decide +kernel
theorem dX2_cut_4 : decode cX2_cut 4 = .ok (.lookupswitch 34 #[(0, 28), (1, 31)], 28) := by decide +kernel
theorem dX2_cut_32 : decode cX2_cut 32 = .ok (.iload_n 1, 1) := by decide +kernel
theorem dX2_cut_33 : decode cX2_cut 33 = .ok (.i2b, 1) := by decide +kernel
theorem dX2_cut_34 : decode cX2_cut 34 = .ok (.ireturn, 1) := by decide +kernel
theorem dX2_cut_35 : decode cX2_cut 35 = .ok (.iload_n 1, 1) := by decide +kernel
theorem dX2_cut_36 : decode cX2_cut 36 = .ok (.i2s, 1) := by decide +kernel
theorem dX2_cut_37 : decode cX2_cut 37 = .ok (.ireturn, 1) := by decide +kernel
theorem dX2_cut_38 : decode cX2_cut 38 = .ok (.iload_n 1, 1) := by decide +kernel
theorem dX2_cut_39 : decode cX2_cut 39 = .ok (.ireturn, 1) := by decide +kernel
set_option maxRecDepth 20000 in
theorem ggX2_has_X2_at : GoodIn wsX2_has wsX2_at := goodIn_r _ [5, 6, 7, 8, 9, 10] (by decide +kernel) (by decide +kernel)
set_option maxRecDepth 20000 in
theorem gX2_has_X2_at : GoodIn wsX2_has (wsV RX2 39 RX2 yX2_at wsX2_at) := goodIn_app (goodIn_of _ (by decide +kernel)) ggX2_has_X2_at
theorem dX2_has_0 : decode cX2_has 0 = .ok (.iconst 0, 1) := by decide +kernel
theorem dX2_has_1 : decode cX2_has 1 = .ok (.istore 4, 2) := by decide +kernel
theorem dX2_has_3 : decode cX2_has 3 = .ok (.iload 4, 2) := by decide +kernel
theorem dX2_has_5 : decode cX2_has 5 = .ok (.iload_n 3, 1) := by decide +kernel
theorem dX2_has_6 : decode cX2_has 6 = .ok (.if_icmp .ge 23, 3) := by decide +kernel
theorem dX2_has_9 : decode cX2_has 9 = .ok (.aload_n 0, 1) := by decide +kernel
theorem dX2_has_10 : decode cX2_has 10 = .ok (.iload_n 2, 1) := by decide +kernel
theorem dX2_has_11 : decode cX2_has 11 = .ok (.iload 4, 2) := by decide +kernel
theorem dX2_has_13 : decode cX2_has 13 = .ok (.iadd, 1) := by decide +kernel
theorem dX2_has_14 : decode cX2_has 14 = .ok (.invokevirtual 39, 3) := by decide +kernel
theorem dX2_has_17 : decode cX2_has 17 = .ok (.iload_n 1, 1) := by decide +kernel
theorem dX2_has_18 : decode cX2_has 18 = .ok (.if_icmp .ne 5, 3) := by decide +kernel
theorem dX2_has_21 : decode cX2_has 21 = .ok (.iconst 1, 1) := by decide +kernel
theorem dX2_has_22 : decode cX2_has 22 = .ok (.ireturn, 1) := by decide +kernel
theorem dX2_has_23 : decode cX2_has 23 = .ok (.iinc 4 1, 3) := by decide +kernel
theorem dX2_has_26 : decode cX2_has 26 = .ok (.goto (-23), 3) := by decide +kernel
theorem dX2_has_29 : decode cX2_has 29 = .ok (.iconst 0, 1) := by decide +kernel
theorem dX2_has_30 : decode cX2_has 30 = .ok (.ireturn, 1) := by decide +kernel
set_option maxRecDepth 20000 in
theorem ggX3_firstFault_X2_at : GoodIn wsX3_firstFault wsX2_at := goodIn_r _ [4, 5, 16, 17, 18, 19] (by decide +kernel) (by decide +kernel)
set_option maxRecDepth 20000 in
theorem gX3_firstFault_X2_at_n9 : GoodIn wsX3_firstFault (wsX2_at) := ggX3_firstFault_X2_at
set_option maxRecDepth 20000 in
theorem ggX3_firstFault_X3_goesOnWith : GoodIn wsX3_firstFault wsX3_goesOnWith := goodIn_r _ [9, 10, 11, 8, 12, 13, 14, 15] (by decide +kernel) (by decide +kernel)
set_option maxRecDepth 20000 in
theorem gX3_firstFault_X3_goesOnWith : GoodIn wsX3_firstFault (va_wsS RX3 15 yX3_goesOnWith wsX3_goesOnWith) := goodIn_app (goodIn_of _ (by decide +kernel)) ggX3_firstFault_X3_goesOnWith
theorem dX3_firstFault_0 : decode cX3_firstFault 0 = .ok (.iconst 0, 1) := by decide +kernel
theorem dX3_firstFault_1 : decode cX3_firstFault 1 = .ok (.istore_n 3, 1) := by decide +kernel
theorem dX3_firstFault_2 : decode cX3_firstFault 2 = .ok (.iload_n 3, 1) := by decide +kernel
theorem dX3_firstFault_3 : decode cX3_firstFault 3 = .ok (.iload_n 2, 1) := by decide +kernel
theorem dX3_firstFault_4 : decode cX3_firstFault 4 = .ok (.if_icmp .ge 25, 3) := by decide +kernel
theorem dX3_firstFault_7 : decode cX3_firstFault 7 = .ok (.aload_n 0, 1) := by decide +kernel
theorem dX3_firstFault_8 : decode cX3_firstFault 8 = .ok (.iload_n 1, 1) := by decide +kernel
theorem dX3_firstFault_9 : decode cX3_firstFault 9 = .ok (.iload_n 3, 1) := by decide +kernel
theorem dX3_firstFault_10 : decode cX3_firstFault 10 = .ok (.iadd, 1) := by decide +kernel
theorem dX3_firstFault_11 : decode cX3_firstFault 11 = .ok (.invokevirtual 9, 3) := by decide +kernel
theorem dX3_firstFault_14 : decode cX3_firstFault 14 = .ok (.iload_n 3, 1) := by decide +kernel
theorem dX3_firstFault_15 : decode cX3_firstFault 15 = .ok (.invokestatic 15, 3) := by decide +kernel
theorem dX3_firstFault_18 : decode cX3_firstFault 18 = .ok (.ifCond .ne 5, 3) := by decide +kernel
theorem dX3_firstFault_21 : decode cX3_firstFault 21 = .ok (.iload_n 3, 1) := by decide +kernel
theorem dX3_firstFault_22 : decode cX3_firstFault 22 = .ok (.ireturn, 1) := by decide +kernel
theorem dX3_firstFault_23 : decode cX3_firstFault 23 = .ok (.iinc 3 1, 3) := by decide +kernel
theorem dX3_firstFault_26 : decode cX3_firstFault 26 = .ok (.goto (-24), 3) := by decide +kernel
theorem dX3_firstFault_29 : decode cX3_firstFault 29 = .ok (.iload_n 2, 1) := by decide +kernel
theorem dX3_firstFault_30 : decode cX3_firstFault 30 = .ok (.bipush 9, 2) := by decide +kernel
theorem dX3_firstFault_32 : decode cX3_firstFault 32 = .ok (.if_icmp .lt 16, 3) := by decide +kernel
theorem dX3_firstFault_35 : decode cX3_firstFault 35 = .ok (.iload_n 2, 1) := by decide +kernel
theorem dX3_firstFault_36 : decode cX3_firstFault 36 = .ok (.iconst 3, 1) := by decide +kernel
theorem dX3_firstFault_37 : decode cX3_firstFault 37 = .ok (.isub, 1) := by decide +kernel
theorem dX3_firstFault_38 : decode cX3_firstFault 38 = .ok (.bipush 6, 2) := by decide +kernel
theorem dX3_firstFault_40 : decode cX3_firstFault 40 = .ok (.irem, 1) := by decide +kernel
theorem dX3_firstFault_41 : decode cX3_firstFault 41 = .ok (.ifCond .ne 7, 3) := by decide +kernel
theorem dX3_firstFault_44 : decode cX3_firstFault 44 = .ok (.iconst 1, 1) := by decide +kernel
theorem dX3_firstFault_45 : decode cX3_firstFault 45 = .ok (.goto 4, 3) := by decide +kernel
theorem dX3_firstFault_48 : decode cX3_firstFault 48 = .ok (.iconst 0, 1) := by decide +kernel
theorem dX3_firstFault_49 : decode cX3_firstFault 49 = .ok (.istore_n 3, 1) := by decide +kernel
theorem dX3_firstFault_50 : decode cX3_firstFault 50 = .ok (.iload_n 3, 1) := by decide +kernel
theorem dX3_firstFault_51 : decode cX3_firstFault 51 = .ok (.ifCond .eq 8, 3) := by decide +kernel
theorem dX3_firstFault_54 : decode cX3_firstFault 54 = .ok (.bipush (-9), 2) := by decide +kernel
theorem dX3_firstFault_56 : decode cX3_firstFault 56 = .ok (.goto 4, 3) := by decide +kernel
theorem dX3_firstFault_59 : decode cX3_firstFault 59 = .ok (.iload_n 2, 1) := by decide +kernel
theorem dX3_firstFault_60 : decode cX3_firstFault 60 = .ok (.ireturn, 1) := by decide +kernel
set_option maxRecDepth 20000 in
theorem ggX3_goesOnWith_X3_isDigit : GoodIn wsX3_goesOnWith wsX3_isDigit := goodIn_r _ [4] (by decide +kernel) (by decide +kernel)
set_option maxRecDepth 20000 in
theorem gX3_goesOnWith_X3_isDigit : GoodIn wsX3_goesOnWith (va_wsS RX3 21 yX3_isDigit wsX3_isDigit) := goodIn_app (goodIn_of _ (by decide +kernel)) ggX3_goesOnWith_X3_isDigit
set_option maxRecDepth 20000 in
theorem ggX3_goesOnWith_X3_citizenGoesOnWith : GoodIn wsX3_goesOnWith wsX3_citizenGoesOnWith := goodIn_r _ [7, 1, 2, 3, 4] (by decide +kernel) (by decide +kernel)
set_option maxRecDepth 20000 in
theorem gX3_goesOnWith_X3_citizenGoesOnWith : GoodIn wsX3_goesOnWith (va_wsS RX3 25 yX3_citizenGoesOnWith wsX3_citizenGoesOnWith) := goodIn_app (goodIn_of _ (by decide +kernel)) ggX3_goesOnWith_X3_citizenGoesOnWith
theorem dX3_goesOnWith_0 : decode cX3_goesOnWith 0 = .ok (.iload_n 1, 1) := by decide +kernel
theorem dX3_goesOnWith_1 : decode cX3_goesOnWith 1 = .ok (.tableswitch 55 0 2 #[27, 39, 47], 27) := by decide +kernel
theorem dX3_goesOnWith_28 : decode cX3_goesOnWith 28 = .ok (.iload_n 0, 1) := by decide +kernel
theorem dX3_goesOnWith_29 : decode cX3_goesOnWith 29 = .ok (.bipush 108, 2) := by decide +kernel
theorem dX3_goesOnWith_31 : decode cX3_goesOnWith 31 = .ok (.if_icmp .ne 7, 3) := by decide +kernel
theorem dX3_goesOnWith_34 : decode cX3_goesOnWith 34 = .ok (.iconst 1, 1) := by decide +kernel
theorem dX3_goesOnWith_35 : decode cX3_goesOnWith 35 = .ok (.goto 4, 3) := by decide +kernel
theorem dX3_goesOnWith_38 : decode cX3_goesOnWith 38 = .ok (.iconst 0, 1) := by decide +kernel
theorem dX3_goesOnWith_39 : decode cX3_goesOnWith 39 = .ok (.ireturn, 1) := by decide +kernel
theorem dX3_goesOnWith_40 : decode cX3_goesOnWith 40 = .ok (.iload_n 0, 1) := by decide +kernel
theorem dX3_goesOnWith_41 : decode cX3_goesOnWith 41 = .ok (.iconst 0, 1) := by decide +kernel
theorem dX3_goesOnWith_42 : decode cX3_goesOnWith 42 = .ok (.bipush 6, 2) := by decide +kernel
theorem dX3_goesOnWith_44 : decode cX3_goesOnWith 44 = .ok (.invokestatic 21, 3) := by decide +kernel
theorem dX3_goesOnWith_47 : decode cX3_goesOnWith 47 = .ok (.ireturn, 1) := by decide +kernel
theorem dX3_goesOnWith_48 : decode cX3_goesOnWith 48 = .ok (.iload_n 0, 1) := by decide +kernel
theorem dX3_goesOnWith_49 : decode cX3_goesOnWith 49 = .ok (.iconst 1, 1) := by decide +kernel
theorem dX3_goesOnWith_50 : decode cX3_goesOnWith 50 = .ok (.bipush 9, 2) := by decide +kernel
theorem dX3_goesOnWith_52 : decode cX3_goesOnWith 52 = .ok (.invokestatic 21, 3) := by decide +kernel
theorem dX3_goesOnWith_55 : decode cX3_goesOnWith 55 = .ok (.ireturn, 1) := by decide +kernel
theorem dX3_goesOnWith_56 : decode cX3_goesOnWith 56 = .ok (.iload_n 1, 1) := by decide +kernel
theorem dX3_goesOnWith_57 : decode cX3_goesOnWith 57 = .ok (.bipush 39, 2) := by decide +kernel
theorem dX3_goesOnWith_59 : decode cX3_goesOnWith 59 = .ok (.if_icmp .ge 20, 3) := by decide +kernel
theorem dX3_goesOnWith_62 : decode cX3_goesOnWith 62 = .ok (.iload_n 0, 1) := by decide +kernel
theorem dX3_goesOnWith_63 : decode cX3_goesOnWith 63 = .ok (.iload_n 1, 1) := by decide +kernel
theorem dX3_goesOnWith_64 : decode cX3_goesOnWith 64 = .ok (.iconst 3, 1) := by decide +kernel
theorem dX3_goesOnWith_65 : decode cX3_goesOnWith 65 = .ok (.isub, 1) := by decide +kernel
theorem dX3_goesOnWith_66 : decode cX3_goesOnWith 66 = .ok (.bipush 6, 2) := by decide +kernel
theorem dX3_goesOnWith_68 : decode cX3_goesOnWith 68 = .ok (.irem, 1) := by decide +kernel
theorem dX3_goesOnWith_69 : decode cX3_goesOnWith 69 = .ok (.invokestatic 25, 3) := by decide +kernel
theorem dX3_goesOnWith_72 : decode cX3_goesOnWith 72 = .ok (.ifCond .eq 7, 3) := by decide +kernel
theorem dX3_goesOnWith_75 : decode cX3_goesOnWith 75 = .ok (.iconst 1, 1) := by decide +kernel
theorem dX3_goesOnWith_76 : decode cX3_goesOnWith 76 = .ok (.goto 4, 3) := by decide +kernel
theorem dX3_goesOnWith_79 : decode cX3_goesOnWith 79 = .ok (.iconst 0, 1) := by decide +kernel
theorem dX3_goesOnWith_80 : decode cX3_goesOnWith 80 = .ok (.ireturn, 1) := by decide +kernel
set_option maxRecDepth 20000 in
theorem ggX3_citizenGoesOnWith_X3_isDigit : GoodIn wsX3_citizenGoesOnWith wsX3_isDigit := goodIn_r _ [4] (by decide +kernel) (by decide +kernel)
set_option maxRecDepth 20000 in
theorem gX3_citizenGoesOnWith_X3_isDigit : GoodIn wsX3_citizenGoesOnWith (va_wsS RX3 21 yX3_isDigit wsX3_isDigit) := goodIn_app (goodIn_of _ (by decide +kernel)) ggX3_citizenGoesOnWith_X3_isDigit
theorem dX3_citizenGoesOnWith_0 : decode cX3_citizenGoesOnWith 0 = .ok (.iload_n 1, 1) := by decide +kernel
theorem dX3_citizenGoesOnWith_1 : decode cX3_citizenGoesOnWith 1 = .ok (.tableswitch 87 0 4 #[35, 47, 71, 79, 79], 35) := by decide +kernel
theorem dX3_citizenGoesOnWith_36 : decode cX3_citizenGoesOnWith 36 = .ok (.iload_n 0, 1) := by decide +kernel
theorem dX3_citizenGoesOnWith_37 : decode cX3_citizenGoesOnWith 37 = .ok (.bipush 59, 2) := by decide +kernel
theorem dX3_citizenGoesOnWith_39 : decode cX3_citizenGoesOnWith 39 = .ok (.if_icmp .ne 7, 3) := by decide +kernel
theorem dX3_citizenGoesOnWith_42 : decode cX3_citizenGoesOnWith 42 = .ok (.iconst 1, 1) := by decide +kernel
theorem dX3_citizenGoesOnWith_43 : decode cX3_citizenGoesOnWith 43 = .ok (.goto 4, 3) := by decide +kernel
theorem dX3_citizenGoesOnWith_46 : decode cX3_citizenGoesOnWith 46 = .ok (.iconst 0, 1) := by decide +kernel
theorem dX3_citizenGoesOnWith_47 : decode cX3_citizenGoesOnWith 47 = .ok (.ireturn, 1) := by decide +kernel
theorem dX3_citizenGoesOnWith_48 : decode cX3_citizenGoesOnWith 48 = .ok (.iload_n 0, 1) := by decide +kernel
theorem dX3_citizenGoesOnWith_49 : decode cX3_citizenGoesOnWith 49 = .ok (.bipush 99, 2) := by decide +kernel
theorem dX3_citizenGoesOnWith_51 : decode cX3_citizenGoesOnWith 51 = .ok (.if_icmp .eq 15, 3) := by decide +kernel
theorem dX3_citizenGoesOnWith_54 : decode cX3_citizenGoesOnWith 54 = .ok (.iload_n 0, 1) := by decide +kernel
theorem dX3_citizenGoesOnWith_55 : decode cX3_citizenGoesOnWith 55 = .ok (.bipush 114, 2) := by decide +kernel
theorem dX3_citizenGoesOnWith_57 : decode cX3_citizenGoesOnWith 57 = .ok (.if_icmp .eq 9, 3) := by decide +kernel
theorem dX3_citizenGoesOnWith_60 : decode cX3_citizenGoesOnWith 60 = .ok (.iload_n 0, 1) := by decide +kernel
theorem dX3_citizenGoesOnWith_61 : decode cX3_citizenGoesOnWith 61 = .ok (.bipush 109, 2) := by decide +kernel
theorem dX3_citizenGoesOnWith_63 : decode cX3_citizenGoesOnWith 63 = .ok (.if_icmp .ne 7, 3) := by decide +kernel
theorem dX3_citizenGoesOnWith_66 : decode cX3_citizenGoesOnWith 66 = .ok (.iconst 1, 1) := by decide +kernel
theorem dX3_citizenGoesOnWith_67 : decode cX3_citizenGoesOnWith 67 = .ok (.goto 4, 3) := by decide +kernel
theorem dX3_citizenGoesOnWith_70 : decode cX3_citizenGoesOnWith 70 = .ok (.iconst 0, 1) := by decide +kernel
theorem dX3_citizenGoesOnWith_71 : decode cX3_citizenGoesOnWith 71 = .ok (.ireturn, 1) := by decide +kernel
theorem dX3_citizenGoesOnWith_72 : decode cX3_citizenGoesOnWith 72 = .ok (.iload_n 0, 1) := by decide +kernel
theorem dX3_citizenGoesOnWith_73 : decode cX3_citizenGoesOnWith 73 = .ok (.iconst 1, 1) := by decide +kernel
theorem dX3_citizenGoesOnWith_74 : decode cX3_citizenGoesOnWith 74 = .ok (.bipush 9, 2) := by decide +kernel
theorem dX3_citizenGoesOnWith_76 : decode cX3_citizenGoesOnWith 76 = .ok (.invokestatic 21, 3) := by decide +kernel
theorem dX3_citizenGoesOnWith_79 : decode cX3_citizenGoesOnWith 79 = .ok (.ireturn, 1) := by decide +kernel
theorem dX3_citizenGoesOnWith_80 : decode cX3_citizenGoesOnWith 80 = .ok (.iload_n 0, 1) := by decide +kernel
theorem dX3_citizenGoesOnWith_81 : decode cX3_citizenGoesOnWith 81 = .ok (.iconst 0, 1) := by decide +kernel
theorem dX3_citizenGoesOnWith_82 : decode cX3_citizenGoesOnWith 82 = .ok (.bipush 9, 2) := by decide +kernel
theorem dX3_citizenGoesOnWith_84 : decode cX3_citizenGoesOnWith 84 = .ok (.invokestatic 21, 3) := by decide +kernel
theorem dX3_citizenGoesOnWith_87 : decode cX3_citizenGoesOnWith 87 = .ok (.ireturn, 1) := by decide +kernel
theorem dX3_citizenGoesOnWith_88 : decode cX3_citizenGoesOnWith 88 = .ok (.iload_n 0, 1) := by decide +kernel
theorem dX3_citizenGoesOnWith_89 : decode cX3_citizenGoesOnWith 89 = .ok (.bipush 121, 2) := by decide +kernel
theorem dX3_citizenGoesOnWith_91 : decode cX3_citizenGoesOnWith 91 = .ok (.if_icmp .eq 9, 3) := by decide +kernel
theorem dX3_citizenGoesOnWith_94 : decode cX3_citizenGoesOnWith 94 = .ok (.iload_n 0, 1) := by decide +kernel
theorem dX3_citizenGoesOnWith_95 : decode cX3_citizenGoesOnWith 95 = .ok (.bipush 110, 2) := by decide +kernel
theorem dX3_citizenGoesOnWith_97 : decode cX3_citizenGoesOnWith 97 = .ok (.if_icmp .ne 7, 3) := by decide +kernel
theorem dX3_citizenGoesOnWith_100 : decode cX3_citizenGoesOnWith 100 = .ok (.iconst 1, 1) := by decide +kernel
theorem dX3_citizenGoesOnWith_101 : decode cX3_citizenGoesOnWith 101 = .ok (.goto 4, 3) := by decide +kernel
theorem dX3_citizenGoesOnWith_104 : decode cX3_citizenGoesOnWith 104 = .ok (.iconst 0, 1) := by decide +kernel
theorem dX3_citizenGoesOnWith_105 : decode cX3_citizenGoesOnWith 105 = .ok (.ireturn, 1) := by decide +kernel
theorem dX3_isDigit_0 : decode cX3_isDigit 0 = .ok (.iload_n 0, 1) := by decide +kernel
theorem dX3_isDigit_1 : decode cX3_isDigit 1 = .ok (.bipush 48, 2) := by decide +kernel
theorem dX3_isDigit_3 : decode cX3_isDigit 3 = .ok (.iload_n 1, 1) := by decide +kernel
theorem dX3_isDigit_4 : decode cX3_isDigit 4 = .ok (.iadd, 1) := by decide +kernel
theorem dX3_isDigit_5 : decode cX3_isDigit 5 = .ok (.if_icmp .lt 15, 3) := by decide +kernel
theorem dX3_isDigit_8 : decode cX3_isDigit 8 = .ok (.iload_n 0, 1) := by decide +kernel
theorem dX3_isDigit_9 : decode cX3_isDigit 9 = .ok (.bipush 48, 2) := by decide +kernel
theorem dX3_isDigit_11 : decode cX3_isDigit 11 = .ok (.iload_n 2, 1) := by decide +kernel
theorem dX3_isDigit_12 : decode cX3_isDigit 12 = .ok (.iadd, 1) := by decide +kernel
theorem dX3_isDigit_13 : decode cX3_isDigit 13 = .ok (.if_icmp .gt 7, 3) := by decide +kernel
theorem dX3_isDigit_16 : decode cX3_isDigit 16 = .ok (.iconst 1, 1) := by decide +kernel
theorem dX3_isDigit_17 : decode cX3_isDigit 17 = .ok (.goto 4, 3) := by decide +kernel
theorem dX3_isDigit_20 : decode cX3_isDigit 20 = .ok (.iconst 0, 1) := by decide +kernel
theorem dX3_isDigit_21 : decode cX3_isDigit 21 = .ok (.ireturn, 1) := by decide +kernel
theorem dX3_digit_0 : decode cX3_digit 0 = .ok (.iload_n 0, 1) := by decide +kernel
theorem dX3_digit_1 : decode cX3_digit 1 = .ok (.bipush 48, 2) := by decide +kernel
theorem dX3_digit_3 : decode cX3_digit 3 = .ok (.isub, 1) := by decide +kernel
theorem dX3_digit_4 : decode cX3_digit 4 = .ok (.ireturn, 1) := by decide +kernel
theorem dX3_citizensIn_0 : decode cX3_citizensIn 0 = .ok (.iload_n 0, 1) := by decide +kernel
theorem dX3_citizensIn_1 : decode cX3_citizensIn 1 = .ok (.iconst 3, 1) := by decide +kernel
theorem dX3_citizensIn_2 : decode cX3_citizensIn 2 = .ok (.isub, 1) := by decide +kernel
theorem dX3_citizensIn_3 : decode cX3_citizensIn 3 = .ok (.bipush 6, 2) := by decide +kernel
theorem dX3_citizensIn_5 : decode cX3_citizensIn 5 = .ok (.idiv, 1) := by decide +kernel
theorem dX3_citizensIn_6 : decode cX3_citizensIn 6 = .ok (.bipush 6, 2) := by decide +kernel
theorem dX3_citizensIn_8 : decode cX3_citizensIn 8 = .ok (.invokestatic 28, 3) := by decide +kernel
theorem dX3_citizensIn_11 : decode cX3_citizensIn 11 = .ok (.ireturn, 1) := by decide +kernel
set_option maxRecDepth 20000 in
theorem ggX3_tellCitizen_X2_at : GoodIn wsX3_tellCitizen wsX2_at := goodIn_r _ [4, 5, 14, 15, 16, 17] (by decide +kernel) (by decide +kernel)
set_option maxRecDepth 20000 in
theorem gX3_tellCitizen_X2_at_n9 : GoodIn wsX3_tellCitizen (wsX2_at) := ggX3_tellCitizen_X2_at
set_option maxRecDepth 20000 in
theorem ggX3_tellCitizen_X3_digit : GoodIn wsX3_tellCitizen wsX3_digit := goodIn_r _ [9] (by decide +kernel) (by decide +kernel)
set_option maxRecDepth 20000 in
theorem gX3_tellCitizen_X3_digit : GoodIn wsX3_tellCitizen (va_wsS RX3 40 yX3_digit wsX3_digit) := goodIn_app (goodIn_of _ (by decide +kernel)) ggX3_tellCitizen_X3_digit
theorem dX3_tellCitizen_0 : decode cX3_tellCitizen 0 = .ok (.aload_n 0, 1) := by decide +kernel
theorem dX3_tellCitizen_1 : decode cX3_tellCitizen 1 = .ok (.iload_n 1, 1) := by decide +kernel
theorem dX3_tellCitizen_2 : decode cX3_tellCitizen 2 = .ok (.iconst 1, 1) := by decide +kernel
theorem dX3_tellCitizen_3 : decode cX3_tellCitizen 3 = .ok (.iadd, 1) := by decide +kernel
theorem dX3_tellCitizen_4 : decode cX3_tellCitizen 4 = .ok (.invokevirtual 9, 3) := by decide +kernel
theorem dX3_tellCitizen_7 : decode cX3_tellCitizen 7 = .ok (.istore_n 3, 1) := by decide +kernel
theorem dX3_tellCitizen_8 : decode cX3_tellCitizen 8 = .ok (.aload_n 2, 1) := by decide +kernel
theorem dX3_tellCitizen_9 : decode cX3_tellCitizen 9 = .ok (.iload_n 3, 1) := by decide +kernel
theorem dX3_tellCitizen_10 : decode cX3_tellCitizen 10 = .ok (.bipush 109, 2) := by decide +kernel
theorem dX3_tellCitizen_12 : decode cX3_tellCitizen 12 = .ok (.if_icmp .ne 7, 3) := by decide +kernel
theorem dX3_tellCitizen_15 : decode cX3_tellCitizen 15 = .ok (.iconst 2, 1) := by decide +kernel
theorem dX3_tellCitizen_16 : decode cX3_tellCitizen 16 = .ok (.goto 14, 3) := by decide +kernel
theorem dX3_tellCitizen_19 : decode cX3_tellCitizen 19 = .ok (.iload_n 3, 1) := by decide +kernel
theorem dX3_tellCitizen_20 : decode cX3_tellCitizen 20 = .ok (.bipush 114, 2) := by decide +kernel
theorem dX3_tellCitizen_22 : decode cX3_tellCitizen 22 = .ok (.if_icmp .ne 7, 3) := by decide +kernel
theorem dX3_tellCitizen_25 : decode cX3_tellCitizen 25 = .ok (.iconst 1, 1) := by decide +kernel
theorem dX3_tellCitizen_26 : decode cX3_tellCitizen 26 = .ok (.goto 4, 3) := by decide +kernel
theorem dX3_tellCitizen_29 : decode cX3_tellCitizen 29 = .ok (.iconst 0, 1) := by decide +kernel
theorem dX3_tellCitizen_30 : decode cX3_tellCitizen 30 = .ok (.putfield 34, 3) := by decide +kernel
theorem dX3_tellCitizen_33 : decode cX3_tellCitizen 33 = .ok (.aload_n 2, 1) := by decide +kernel
theorem dX3_tellCitizen_34 : decode cX3_tellCitizen 34 = .ok (.aload_n 0, 1) := by decide +kernel
theorem dX3_tellCitizen_35 : decode cX3_tellCitizen 35 = .ok (.iload_n 1, 1) := by decide +kernel
theorem dX3_tellCitizen_36 : decode cX3_tellCitizen 36 = .ok (.iconst 2, 1) := by decide +kernel
theorem dX3_tellCitizen_37 : decode cX3_tellCitizen 37 = .ok (.iadd, 1) := by decide +kernel
theorem dX3_tellCitizen_38 : decode cX3_tellCitizen 38 = .ok (.invokevirtual 9, 3) := by decide +kernel
theorem dX3_tellCitizen_41 : decode cX3_tellCitizen 41 = .ok (.invokestatic 40, 3) := by decide +kernel
theorem dX3_tellCitizen_44 : decode cX3_tellCitizen 44 = .ok (.putfield 43, 3) := by decide +kernel
theorem dX3_tellCitizen_47 : decode cX3_tellCitizen 47 = .ok (.aload_n 2, 1) := by decide +kernel
theorem dX3_tellCitizen_48 : decode cX3_tellCitizen 48 = .ok (.bipush 10, 2) := by decide +kernel
theorem dX3_tellCitizen_50 : decode cX3_tellCitizen 50 = .ok (.aload_n 0, 1) := by decide +kernel
theorem dX3_tellCitizen_51 : decode cX3_tellCitizen 51 = .ok (.iload_n 1, 1) := by decide +kernel
theorem dX3_tellCitizen_52 : decode cX3_tellCitizen 52 = .ok (.iconst 3, 1) := by decide +kernel
theorem dX3_tellCitizen_53 : decode cX3_tellCitizen 53 = .ok (.iadd, 1) := by decide +kernel
theorem dX3_tellCitizen_54 : decode cX3_tellCitizen 54 = .ok (.invokevirtual 9, 3) := by decide +kernel
theorem dX3_tellCitizen_57 : decode cX3_tellCitizen 57 = .ok (.invokestatic 40, 3) := by decide +kernel
theorem dX3_tellCitizen_60 : decode cX3_tellCitizen 60 = .ok (.imul, 1) := by decide +kernel
theorem dX3_tellCitizen_61 : decode cX3_tellCitizen 61 = .ok (.aload_n 0, 1) := by decide +kernel
theorem dX3_tellCitizen_62 : decode cX3_tellCitizen 62 = .ok (.iload_n 1, 1) := by decide +kernel
theorem dX3_tellCitizen_63 : decode cX3_tellCitizen 63 = .ok (.iconst 4, 1) := by decide +kernel
theorem dX3_tellCitizen_64 : decode cX3_tellCitizen 64 = .ok (.iadd, 1) := by decide +kernel
theorem dX3_tellCitizen_65 : decode cX3_tellCitizen 65 = .ok (.invokevirtual 9, 3) := by decide +kernel
theorem dX3_tellCitizen_68 : decode cX3_tellCitizen 68 = .ok (.invokestatic 40, 3) := by decide +kernel
theorem dX3_tellCitizen_71 : decode cX3_tellCitizen 71 = .ok (.iadd, 1) := by decide +kernel
theorem dX3_tellCitizen_72 : decode cX3_tellCitizen 72 = .ok (.putfield 46, 3) := by decide +kernel
theorem dX3_tellCitizen_75 : decode cX3_tellCitizen 75 = .ok (.aload_n 2, 1) := by decide +kernel
theorem dX3_tellCitizen_76 : decode cX3_tellCitizen 76 = .ok (.aload_n 0, 1) := by decide +kernel
theorem dX3_tellCitizen_77 : decode cX3_tellCitizen 77 = .ok (.iload_n 1, 1) := by decide +kernel
theorem dX3_tellCitizen_78 : decode cX3_tellCitizen 78 = .ok (.iconst 5, 1) := by decide +kernel
theorem dX3_tellCitizen_79 : decode cX3_tellCitizen 79 = .ok (.iadd, 1) := by decide +kernel
theorem dX3_tellCitizen_80 : decode cX3_tellCitizen 80 = .ok (.invokevirtual 9, 3) := by decide +kernel
theorem dX3_tellCitizen_83 : decode cX3_tellCitizen 83 = .ok (.bipush 121, 2) := by decide +kernel
theorem dX3_tellCitizen_85 : decode cX3_tellCitizen 85 = .ok (.if_icmp .ne 7, 3) := by decide +kernel
theorem dX3_tellCitizen_88 : decode cX3_tellCitizen 88 = .ok (.iconst 1, 1) := by decide +kernel
theorem dX3_tellCitizen_89 : decode cX3_tellCitizen 89 = .ok (.goto 4, 3) := by decide +kernel
theorem dX3_tellCitizen_92 : decode cX3_tellCitizen 92 = .ok (.iconst 0, 1) := by decide +kernel
theorem dX3_tellCitizen_93 : decode cX3_tellCitizen 93 = .ok (.putfield 49, 3) := by decide +kernel
theorem dX3_tellCitizen_96 : decode cX3_tellCitizen 96 = .ok (.return_, 1) := by decide +kernel
theorem dJ6_bitCount_0f7a4_0 : decode cJ6_bitCount_0f7a4 0 = .ok (.iload_n 0, 1) := by decide +kernel
theorem dJ6_bitCount_0f7a4_1 : decode cJ6_bitCount_0f7a4 1 = .ok (.iload_n 0, 1) := by decide +kernel
theorem dJ6_bitCount_0f7a4_2 : decode cJ6_bitCount_0f7a4 2 = .ok (.iconst 1, 1) := by decide +kernel
theorem dJ6_bitCount_0f7a4_3 : decode cJ6_bitCount_0f7a4 3 = .ok (.iushr, 1) := by decide +kernel
theorem dJ6_bitCount_0f7a4_4 : decode cJ6_bitCount_0f7a4 4 = .ok (.ldc_w 265, 3) := by decide +kernel
theorem dJ6_bitCount_0f7a4_7 : decode cJ6_bitCount_0f7a4 7 = .ok (.iand, 1) := by decide +kernel
theorem dJ6_bitCount_0f7a4_8 : decode cJ6_bitCount_0f7a4 8 = .ok (.isub, 1) := by decide +kernel
theorem dJ6_bitCount_0f7a4_9 : decode cJ6_bitCount_0f7a4 9 = .ok (.istore_n 0, 1) := by decide +kernel
theorem dJ6_bitCount_0f7a4_10 : decode cJ6_bitCount_0f7a4 10 = .ok (.iload_n 0, 1) := by decide +kernel
theorem dJ6_bitCount_0f7a4_11 : decode cJ6_bitCount_0f7a4 11 = .ok (.ldc_w 266, 3) := by decide +kernel
theorem dJ6_bitCount_0f7a4_14 : decode cJ6_bitCount_0f7a4 14 = .ok (.iand, 1) := by decide +kernel
theorem dJ6_bitCount_0f7a4_15 : decode cJ6_bitCount_0f7a4 15 = .ok (.iload_n 0, 1) := by decide +kernel
theorem dJ6_bitCount_0f7a4_16 : decode cJ6_bitCount_0f7a4 16 = .ok (.iconst 2, 1) := by decide +kernel
theorem dJ6_bitCount_0f7a4_17 : decode cJ6_bitCount_0f7a4 17 = .ok (.iushr, 1) := by decide +kernel
theorem dJ6_bitCount_0f7a4_18 : decode cJ6_bitCount_0f7a4 18 = .ok (.ldc_w 266, 3) := by decide +kernel
theorem dJ6_bitCount_0f7a4_21 : decode cJ6_bitCount_0f7a4 21 = .ok (.iand, 1) := by decide +kernel
theorem dJ6_bitCount_0f7a4_22 : decode cJ6_bitCount_0f7a4 22 = .ok (.iadd, 1) := by decide +kernel
theorem dJ6_bitCount_0f7a4_23 : decode cJ6_bitCount_0f7a4 23 = .ok (.istore_n 0, 1) := by decide +kernel
theorem dJ6_bitCount_0f7a4_24 : decode cJ6_bitCount_0f7a4 24 = .ok (.iload_n 0, 1) := by decide +kernel
theorem dJ6_bitCount_0f7a4_25 : decode cJ6_bitCount_0f7a4 25 = .ok (.iload_n 0, 1) := by decide +kernel
theorem dJ6_bitCount_0f7a4_26 : decode cJ6_bitCount_0f7a4 26 = .ok (.iconst 4, 1) := by decide +kernel
theorem dJ6_bitCount_0f7a4_27 : decode cJ6_bitCount_0f7a4 27 = .ok (.iushr, 1) := by decide +kernel
theorem dJ6_bitCount_0f7a4_28 : decode cJ6_bitCount_0f7a4 28 = .ok (.iadd, 1) := by decide +kernel
theorem dJ6_bitCount_0f7a4_29 : decode cJ6_bitCount_0f7a4 29 = .ok (.ldc_w 267, 3) := by decide +kernel
theorem dJ6_bitCount_0f7a4_32 : decode cJ6_bitCount_0f7a4 32 = .ok (.iand, 1) := by decide +kernel
theorem dJ6_bitCount_0f7a4_33 : decode cJ6_bitCount_0f7a4 33 = .ok (.istore_n 0, 1) := by decide +kernel
theorem dJ6_bitCount_0f7a4_34 : decode cJ6_bitCount_0f7a4 34 = .ok (.iload_n 0, 1) := by decide +kernel
theorem dJ6_bitCount_0f7a4_35 : decode cJ6_bitCount_0f7a4 35 = .ok (.iload_n 0, 1) := by decide +kernel
theorem dJ6_bitCount_0f7a4_36 : decode cJ6_bitCount_0f7a4 36 = .ok (.bipush 8, 2) := by decide +kernel
theorem dJ6_bitCount_0f7a4_38 : decode cJ6_bitCount_0f7a4 38 = .ok (.iushr, 1) := by decide +kernel
theorem dJ6_bitCount_0f7a4_39 : decode cJ6_bitCount_0f7a4 39 = .ok (.iadd, 1) := by decide +kernel
theorem dJ6_bitCount_0f7a4_40 : decode cJ6_bitCount_0f7a4 40 = .ok (.istore_n 0, 1) := by decide +kernel
theorem dJ6_bitCount_0f7a4_41 : decode cJ6_bitCount_0f7a4 41 = .ok (.iload_n 0, 1) := by decide +kernel
theorem dJ6_bitCount_0f7a4_42 : decode cJ6_bitCount_0f7a4 42 = .ok (.iload_n 0, 1) := by decide +kernel
theorem dJ6_bitCount_0f7a4_43 : decode cJ6_bitCount_0f7a4 43 = .ok (.bipush 16, 2) := by decide +kernel
theorem dJ6_bitCount_0f7a4_45 : decode cJ6_bitCount_0f7a4 45 = .ok (.iushr, 1) := by decide +kernel
theorem dJ6_bitCount_0f7a4_46 : decode cJ6_bitCount_0f7a4 46 = .ok (.iadd, 1) := by decide +kernel
theorem dJ6_bitCount_0f7a4_47 : decode cJ6_bitCount_0f7a4 47 = .ok (.istore_n 0, 1) := by decide +kernel
theorem dJ6_bitCount_0f7a4_48 : decode cJ6_bitCount_0f7a4 48 = .ok (.iload_n 0, 1) := by decide +kernel
theorem dJ6_bitCount_0f7a4_49 : decode cJ6_bitCount_0f7a4 49 = .ok (.bipush 63, 2) := by decide +kernel
theorem dJ6_bitCount_0f7a4_51 : decode cJ6_bitCount_0f7a4 51 = .ok (.iand, 1) := by decide +kernel
theorem dJ6_bitCount_0f7a4_52 : decode cJ6_bitCount_0f7a4 52 = .ok (.ireturn, 1) := by decide +kernel
theorem dJ9_max_7cf53_0 : decode cJ9_max_7cf53 0 = .ok (.iload_n 0, 1) := by decide +kernel
theorem dJ9_max_7cf53_1 : decode cJ9_max_7cf53 1 = .ok (.iload_n 1, 1) := by decide +kernel
theorem dJ9_max_7cf53_2 : decode cJ9_max_7cf53 2 = .ok (.if_icmp .lt 7, 3) := by decide +kernel
theorem dJ9_max_7cf53_5 : decode cJ9_max_7cf53 5 = .ok (.iload_n 0, 1) := by decide +kernel
theorem dJ9_max_7cf53_6 : decode cJ9_max_7cf53 6 = .ok (.goto 4, 3) := by decide +kernel
theorem dJ9_max_7cf53_9 : decode cJ9_max_7cf53 9 = .ok (.iload_n 1, 1) := by decide +kernel
theorem dJ9_max_7cf53_10 : decode cJ9_max_7cf53 10 = .ok (.ireturn, 1) := by decide +kernel
theorem dJ9_min_7cf53_0 : decode cJ9_min_7cf53 0 = .ok (.iload_n 0, 1) := by decide +kernel
theorem dJ9_min_7cf53_1 : decode cJ9_min_7cf53 1 = .ok (.iload_n 1, 1) := by decide +kernel
theorem dJ9_min_7cf53_2 : decode cJ9_min_7cf53 2 = .ok (.if_icmp .gt 7, 3) := by decide +kernel
theorem dJ9_min_7cf53_5 : decode cJ9_min_7cf53 5 = .ok (.iload_n 0, 1) := by decide +kernel
theorem dJ9_min_7cf53_6 : decode cJ9_min_7cf53 6 = .ok (.goto 4, 3) := by decide +kernel
theorem dJ9_min_7cf53_9 : decode cJ9_min_7cf53 9 = .ok (.iload_n 1, 1) := by decide +kernel
theorem dJ9_min_7cf53_10 : decode cJ9_min_7cf53 10 = .ok (.ireturn, 1) := by decide +kernel
