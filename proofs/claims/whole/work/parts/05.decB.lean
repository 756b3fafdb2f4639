set_option maxRecDepth 20000 in
theorem ggX4_init_X1_init : GoodIn wsX4_init wsX1_init := goodIn_r _ [19, 20, 2, 3, 6, 21, 22, 23, 24, 42, 43, 44, 45, 46, 47, 48] (by decide +kernel) (by decide +kernel)
set_option maxRecDepth 20000 in
theorem gX4_init_X1_init_n29 : GoodIn wsX4_init (wsX1_init) := ggX4_init_X1_init
set_option maxRecDepth 20000 in
theorem ggX4_init_X0_init : GoodIn wsX4_init wsX0_init := goodIn_r _ [26, 27, 2, 3] (by decide +kernel) (by decide +kernel)
set_option maxRecDepth 20000 in
theorem gX4_init_X0_init_n34 : GoodIn wsX4_init (wsX0_init) := ggX4_init_X0_init
set_option maxRecDepth 20000 in
theorem ggX4_init_X2_init : GoodIn wsX4_init wsX2_init := goodIn_r _ [29, 30, 2, 3, 6, 31, 53, 54, 55, 56] (by decide +kernel) (by decide +kernel)
set_option maxRecDepth 20000 in
theorem gX4_init_X2_init_n35 : GoodIn wsX4_init (wsX2_init) := ggX4_init_X2_init
theorem dX4_init_0 : decode cX4_init 0 = .ok (.aload_n 0, 1) := by decide +kernel
theorem dX4_init_1 : decode cX4_init 1 = .ok (.invokespecial 3, 3) := by decide +kernel
theorem dX4_init_4 : decode cX4_init 4 = .ok (.aload_n 0, 1) := by decide +kernel
theorem dX4_init_5 : decode cX4_init 5 = .ok (.bipush 6, 2) := by decide +kernel
theorem dX4_init_7 : decode cX4_init 7 = .ok (.anewarray 11, 3) := by decide +kernel
theorem dX4_init_10 : decode cX4_init 10 = .ok (.putfield 13, 3) := by decide +kernel
theorem dX4_init_13 : decode cX4_init 13 = .ok (.aload_n 0, 1) := by decide +kernel
theorem dX4_init_14 : decode cX4_init 14 = .ok (.bipush 8, 2) := by decide +kernel
theorem dX4_init_16 : decode cX4_init 16 = .ok (.newarray .int, 2) := by decide +kernel
theorem dX4_init_18 : decode cX4_init 18 = .ok (.putfield 17, 3) := by decide +kernel
theorem dX4_init_21 : decode cX4_init 21 = .ok (.aload_n 0, 1) := by decide +kernel
theorem dX4_init_22 : decode cX4_init 22 = .ok (.iconst 4, 1) := by decide +kernel
theorem dX4_init_23 : decode cX4_init 23 = .ok (.anewarray 21, 3) := by decide +kernel
theorem dX4_init_26 : decode cX4_init 26 = .ok (.putfield 23, 3) := by decide +kernel
theorem dX4_init_29 : decode cX4_init 29 = .ok (.aload_n 0, 1) := by decide +kernel
theorem dX4_init_30 : decode cX4_init 30 = .ok (.new 27, 3) := by decide +kernel
theorem dX4_init_33 : decode cX4_init 33 = .ok (.dup, 1) := by decide +kernel
theorem dX4_init_34 : decode cX4_init 34 = .ok (.invokespecial 29, 3) := by decide +kernel
theorem dX4_init_37 : decode cX4_init 37 = .ok (.putfield 30, 3) := by decide +kernel
theorem dX4_init_40 : decode cX4_init 40 = .ok (.iconst 0, 1) := by decide +kernel
theorem dX4_init_41 : decode cX4_init 41 = .ok (.istore_n 1, 1) := by decide +kernel
theorem dX4_init_42 : decode cX4_init 42 = .ok (.iload_n 1, 1) := by decide +kernel
theorem dX4_init_43 : decode cX4_init 43 = .ok (.bipush 6, 2) := by decide +kernel
theorem dX4_init_45 : decode cX4_init 45 = .ok (.if_icmp .ge 22, 3) := by decide +kernel
theorem dX4_init_48 : decode cX4_init 48 = .ok (.aload_n 0, 1) := by decide +kernel
theorem dX4_init_49 : decode cX4_init 49 = .ok (.getfield 13, 3) := by decide +kernel
theorem dX4_init_52 : decode cX4_init 52 = .ok (.iload_n 1, 1) := by decide +kernel
theorem dX4_init_53 : decode cX4_init 53 = .ok (.new 11, 3) := by decide +kernel
theorem dX4_init_56 : decode cX4_init 56 = .ok (.dup, 1) := by decide +kernel
theorem dX4_init_57 : decode cX4_init 57 = .ok (.invokespecial 34, 3) := by decide +kernel
theorem dX4_init_60 : decode cX4_init 60 = .ok (.aastore, 1) := by decide +kernel
theorem dX4_init_61 : decode cX4_init 61 = .ok (.iinc 1 1, 3) := by decide +kernel
theorem dX4_init_64 : decode cX4_init 64 = .ok (.goto (-22), 3) := by decide +kernel
theorem dX4_init_67 : decode cX4_init 67 = .ok (.iconst 0, 1) := by decide +kernel
theorem dX4_init_68 : decode cX4_init 68 = .ok (.istore_n 1, 1) := by decide +kernel
theorem dX4_init_69 : decode cX4_init 69 = .ok (.iload_n 1, 1) := by decide +kernel
theorem dX4_init_70 : decode cX4_init 70 = .ok (.iconst 4, 1) := by decide +kernel
theorem dX4_init_71 : decode cX4_init 71 = .ok (.if_icmp .ge 22, 3) := by decide +kernel
theorem dX4_init_74 : decode cX4_init 74 = .ok (.aload_n 0, 1) := by decide +kernel
theorem dX4_init_75 : decode cX4_init 75 = .ok (.getfield 23, 3) := by decide +kernel
theorem dX4_init_78 : decode cX4_init 78 = .ok (.iload_n 1, 1) := by decide +kernel
theorem dX4_init_79 : decode cX4_init 79 = .ok (.new 21, 3) := by decide +kernel
theorem dX4_init_82 : decode cX4_init 82 = .ok (.dup, 1) := by decide +kernel
theorem dX4_init_83 : decode cX4_init 83 = .ok (.invokespecial 35, 3) := by decide +kernel
theorem dX4_init_86 : decode cX4_init 86 = .ok (.aastore, 1) := by decide +kernel
theorem dX4_init_87 : decode cX4_init 87 = .ok (.iinc 1 1, 3) := by decide +kernel
theorem dX4_init_90 : decode cX4_init 90 = .ok (.goto (-21), 3) := by decide +kernel
theorem dX4_init_93 : decode cX4_init 93 = .ok (.return_, 1) := by decide +kernel
set_option maxRecDepth 20000 in
theorem ggX4_republic_X4_isSheet : GoodIn wsX4_republic wsX4_isSheet := goodIn_r _ [6] (by decide +kernel) (by decide +kernel)
set_option maxRecDepth 20000 in
theorem gX4_republic_X4_isSheet : GoodIn wsX4_republic (va_wsS RX4 40 yX4_isSheet wsX4_isSheet) := goodIn_app (goodIn_of _ (by decide +kernel)) ggX4_republic_X4_isSheet
set_option maxRecDepth 20000 in
theorem ggX4_republic_X4_isLane : GoodIn wsX4_republic wsX4_isLane := goodIn_r _ [9] (by decide +kernel) (by decide +kernel)
set_option maxRecDepth 20000 in
theorem gX4_republic_X4_isLane : GoodIn wsX4_republic (va_wsS RX4 44 yX4_isLane wsX4_isLane) := goodIn_app (goodIn_of _ (by decide +kernel)) ggX4_republic_X4_isLane
set_option maxRecDepth 20000 in
theorem ggX4_republic_X4_rowOf : GoodIn wsX4_republic wsX4_rowOf := goodIn_r _ [13, 14, 15, 16, 5, 17, 18, 3, 4, 6, 80, 81, 82, 83, 70, 71, 72, 73, 74, 75, 76, 77, 78, 79] (by decide +kernel) (by decide +kernel)
set_option maxRecDepth 20000 in
theorem gX4_republic_X4_rowOf : GoodIn wsX4_republic (wsV RX4 47 RX4 yX4_rowOf wsX4_rowOf) := goodIn_app (goodIn_of _ (by decide +kernel)) ggX4_republic_X4_rowOf
set_option maxRecDepth 20000 in
theorem ggX4_republic_X4_faultOf : GoodIn wsX4_republic wsX4_faultOf := goodIn_r _ [21, 22, 23, 24, 25, 26, 80, 81, 82, 83] (by decide +kernel) (by decide +kernel)
set_option maxRecDepth 20000 in
theorem gX4_republic_X4_faultOf : GoodIn wsX4_republic (va_wsS RX4 51 yX4_faultOf wsX4_faultOf) := goodIn_app (goodIn_of _ (by decide +kernel)) ggX4_republic_X4_faultOf
set_option maxRecDepth 20000 in
theorem ggX4_republic_X4_faulted : GoodIn wsX4_republic wsX4_faulted := goodIn_r _ [30, 1, 70, 71, 72, 73, 74, 75, 76, 77, 78, 79] (by decide +kernel) (by decide +kernel)
set_option maxRecDepth 20000 in
theorem gX4_republic_X4_faulted : GoodIn wsX4_republic (wsV RX4 55 RX4 yX4_faulted wsX4_faulted) := goodIn_app (goodIn_of _ (by decide +kernel)) ggX4_republic_X4_faulted
set_option maxRecDepth 20000 in
theorem ggX4_republic_X3_firstFault : GoodIn wsX4_republic wsX3_firstFault := goodIn_r _ [33, 34, 23, 35, 36, 37, 38, 39, 32, 40, 41, 42, 43, 44, 45, 46, 80, 81, 82, 83] (by decide +kernel) (by decide +kernel)
set_option maxRecDepth 20000 in
theorem gX4_republic_X3_firstFault_n59 : GoodIn wsX4_republic (wsX3_firstFault) := ggX4_republic_X3_firstFault
set_option maxRecDepth 20000 in
theorem ggX4_republic_X4_takeText : GoodIn wsX4_republic wsX4_takeText := goodIn_r _ [50, 2, 51, 52, 53, 54, 32, 55, 56, 57, 58, 59, 34, 23, 35, 36, 37, 60, 61, 62, 63, 64, 5, 65, 66, 67, 68, 69, 70, 71, 72, 73, 74, 75, 76, 77, 78, 79, 80, 81, 82, 83, 84, 85, 86, 87] (by decide +kernel) (by decide +kernel)
set_option maxRecDepth 20000 in
theorem gX4_republic_X4_takeText : GoodIn wsX4_republic (wsV RX4 65 RX4 yX4_takeText wsX4_takeText) := goodIn_app (goodIn_of _ (by decide +kernel)) ggX4_republic_X4_takeText
theorem dX4_republic_0 : decode cX4_republic 0 = .ok (.aload_n 0, 1) := by decide +kernel
theorem dX4_republic_1 : decode cX4_republic 1 = .ok (.iconst 0, 1) := by decide +kernel
theorem dX4_republic_2 : decode cX4_republic 2 = .ok (.putfield 36, 3) := by decide +kernel
theorem dX4_republic_5 : decode cX4_republic 5 = .ok (.iload_n 1, 1) := by decide +kernel
theorem dX4_republic_6 : decode cX4_republic 6 = .ok (.invokestatic 40, 3) := by decide +kernel
theorem dX4_republic_9 : decode cX4_republic 9 = .ok (.ifCond .ne 5, 3) := by decide +kernel
theorem dX4_republic_12 : decode cX4_republic 12 = .ok (.iconst (-1), 1) := by decide +kernel
theorem dX4_republic_13 : decode cX4_republic 13 = .ok (.ireturn, 1) := by decide +kernel
theorem dX4_republic_14 : decode cX4_republic 14 = .ok (.iload_n 2, 1) := by decide +kernel
theorem dX4_republic_15 : decode cX4_republic 15 = .ok (.invokestatic 44, 3) := by decide +kernel
theorem dX4_republic_18 : decode cX4_republic 18 = .ok (.ifCond .ne 6, 3) := by decide +kernel
theorem dX4_republic_21 : decode cX4_republic 21 = .ok (.bipush (-2), 2) := by decide +kernel
theorem dX4_republic_23 : decode cX4_republic 23 = .ok (.ireturn, 1) := by decide +kernel
theorem dX4_republic_24 : decode cX4_republic 24 = .ok (.aload_n 0, 1) := by decide +kernel
theorem dX4_republic_25 : decode cX4_republic 25 = .ok (.iload_n 1, 1) := by decide +kernel
theorem dX4_republic_26 : decode cX4_republic 26 = .ok (.invokevirtual 47, 3) := by decide +kernel
theorem dX4_republic_29 : decode cX4_republic 29 = .ok (.astore 5, 2) := by decide +kernel
theorem dX4_republic_31 : decode cX4_republic 31 = .ok (.aload 5, 2) := by decide +kernel
theorem dX4_republic_33 : decode cX4_republic 33 = .ok (.iload_n 2, 1) := by decide +kernel
theorem dX4_republic_34 : decode cX4_republic 34 = .ok (.iload_n 3, 1) := by decide +kernel
theorem dX4_republic_35 : decode cX4_republic 35 = .ok (.iload 4, 2) := by decide +kernel
theorem dX4_republic_37 : decode cX4_republic 37 = .ok (.invokestatic 51, 3) := by decide +kernel
theorem dX4_republic_40 : decode cX4_republic 40 = .ok (.istore 6, 2) := by decide +kernel
theorem dX4_republic_42 : decode cX4_republic 42 = .ok (.aload 5, 2) := by decide +kernel
theorem dX4_republic_44 : decode cX4_republic 44 = .ok (.ifnull 8, 3) := by decide +kernel
theorem dX4_republic_47 : decode cX4_republic 47 = .ok (.iload 6, 2) := by decide +kernel
theorem dX4_republic_49 : decode cX4_republic 49 = .ok (.ifCond .eq 10, 3) := by decide +kernel
theorem dX4_republic_52 : decode cX4_republic 52 = .ok (.aload_n 0, 1) := by decide +kernel
theorem dX4_republic_53 : decode cX4_republic 53 = .ok (.iload 6, 2) := by decide +kernel
theorem dX4_republic_55 : decode cX4_republic 55 = .ok (.invokevirtual 55, 3) := by decide +kernel
theorem dX4_republic_58 : decode cX4_republic 58 = .ok (.ireturn, 1) := by decide +kernel
theorem dX4_republic_59 : decode cX4_republic 59 = .ok (.aload 5, 2) := by decide +kernel
theorem dX4_republic_61 : decode cX4_republic 61 = .ok (.iload_n 3, 1) := by decide +kernel
theorem dX4_republic_62 : decode cX4_republic 62 = .ok (.iload 4, 2) := by decide +kernel
theorem dX4_republic_64 : decode cX4_republic 64 = .ok (.invokestatic 59, 3) := by decide +kernel
theorem dX4_republic_67 : decode cX4_republic 67 = .ok (.istore 7, 2) := by decide +kernel
theorem dX4_republic_69 : decode cX4_republic 69 = .ok (.iload 7, 2) := by decide +kernel
theorem dX4_republic_71 : decode cX4_republic 71 = .ok (.bipush (-9), 2) := by decide +kernel
theorem dX4_republic_73 : decode cX4_republic 73 = .ok (.if_icmp .eq 9, 3) := by decide +kernel
theorem dX4_republic_76 : decode cX4_republic 76 = .ok (.bipush (-100), 2) := by decide +kernel
theorem dX4_republic_78 : decode cX4_republic 78 = .ok (.iload 7, 2) := by decide +kernel
theorem dX4_republic_80 : decode cX4_republic 80 = .ok (.isub, 1) := by decide +kernel
theorem dX4_republic_81 : decode cX4_republic 81 = .ok (.ireturn, 1) := by decide +kernel
theorem dX4_republic_82 : decode cX4_republic 82 = .ok (.aload_n 0, 1) := by decide +kernel
theorem dX4_republic_83 : decode cX4_republic 83 = .ok (.aload 5, 2) := by decide +kernel
theorem dX4_republic_85 : decode cX4_republic 85 = .ok (.iload_n 3, 1) := by decide +kernel
theorem dX4_republic_86 : decode cX4_republic 86 = .ok (.iload 4, 2) := by decide +kernel
theorem dX4_republic_88 : decode cX4_republic 88 = .ok (.invokevirtual 65, 3) := by decide +kernel
theorem dX4_republic_91 : decode cX4_republic 91 = .ok (.aload_n 0, 1) := by decide +kernel
theorem dX4_republic_92 : decode cX4_republic 92 = .ok (.getfield 69, 3) := by decide +kernel
theorem dX4_republic_95 : decode cX4_republic 95 = .ok (.ireturn, 1) := by decide +kernel
set_option maxRecDepth 20000 in
theorem ggX4_ofCitizen_X4_citizen : GoodIn wsX4_ofCitizen wsX4_citizen := goodIn_r _ [5, 6, 7, 24, 25, 26, 27, 28, 29, 30, 31, 32, 33] (by decide +kernel) (by decide +kernel)
set_option maxRecDepth 20000 in
theorem gX4_ofCitizen_X4_citizen : GoodIn wsX4_ofCitizen (wsV RX4 72 RX4 yX4_citizen wsX4_citizen) := goodIn_app (goodIn_of _ (by decide +kernel)) ggX4_ofCitizen_X4_citizen
set_option maxRecDepth 20000 in
theorem ggX4_ofCitizen_X0_slips : GoodIn wsX4_ofCitizen wsX0_slips := goodIn_r _ [11, 12, 13, 14, 4, 15, 20, 21, 22, 23] (by decide +kernel) (by decide +kernel)
set_option maxRecDepth 20000 in
theorem gX4_ofCitizen_X0_slips_n89 : GoodIn wsX4_ofCitizen (wsX0_slips) := ggX4_ofCitizen_X0_slips
set_option maxRecDepth 20000 in
theorem ggX4_ofCitizen_X4_slipsAhead : GoodIn wsX4_ofCitizen wsX4_slipsAhead := goodIn_r _ [19, 1, 2, 3, 4, 5, 6, 7, 8, 9, 10, 11, 12, 13, 14, 15, 24, 25, 26, 27, 28, 29, 30, 31, 32, 33, 20, 21, 22, 23] (by decide +kernel) (by decide +kernel)
set_option maxRecDepth 20000 in
theorem gX4_ofCitizen_X4_slipsAhead : GoodIn wsX4_ofCitizen (wsV RX4 93 RX4 yX4_slipsAhead wsX4_slipsAhead) := goodIn_app (goodIn_of _ (by decide +kernel)) ggX4_ofCitizen_X4_slipsAhead
theorem dX4_ofCitizen_0 : decode cX4_ofCitizen 0 = .ok (.aload_n 0, 1) := by decide +kernel
theorem dX4_ofCitizen_1 : decode cX4_ofCitizen 1 = .ok (.iload_n 1, 1) := by decide +kernel
theorem dX4_ofCitizen_2 : decode cX4_ofCitizen 2 = .ok (.invokevirtual 72, 3) := by decide +kernel
theorem dX4_ofCitizen_5 : decode cX4_ofCitizen 5 = .ok (.astore_n 3, 1) := by decide +kernel
theorem dX4_ofCitizen_6 : decode cX4_ofCitizen 6 = .ok (.aload_n 3, 1) := by decide +kernel
theorem dX4_ofCitizen_7 : decode cX4_ofCitizen 7 = .ok (.ifnonnull 5, 3) := by decide +kernel
theorem dX4_ofCitizen_10 : decode cX4_ofCitizen 10 = .ok (.iconst (-1), 1) := by decide +kernel
theorem dX4_ofCitizen_11 : decode cX4_ofCitizen 11 = .ok (.ireturn, 1) := by decide +kernel
theorem dX4_ofCitizen_12 : decode cX4_ofCitizen 12 = .ok (.iload_n 2, 1) := by decide +kernel
theorem dX4_ofCitizen_13 : decode cX4_ofCitizen 13 = .ok (.tableswitch 78 0 5 #[39, 44, 49, 54, 67, 72], 39) := by decide +kernel
theorem dX4_ofCitizen_52 : decode cX4_ofCitizen 52 = .ok (.aload_n 3, 1) := by decide +kernel
theorem dX4_ofCitizen_53 : decode cX4_ofCitizen 53 = .ok (.getfield 76, 3) := by decide +kernel
theorem dX4_ofCitizen_56 : decode cX4_ofCitizen 56 = .ok (.ireturn, 1) := by decide +kernel
theorem dX4_ofCitizen_57 : decode cX4_ofCitizen 57 = .ok (.aload_n 3, 1) := by decide +kernel
theorem dX4_ofCitizen_58 : decode cX4_ofCitizen 58 = .ok (.getfield 79, 3) := by decide +kernel
theorem dX4_ofCitizen_61 : decode cX4_ofCitizen 61 = .ok (.ireturn, 1) := by decide +kernel
theorem dX4_ofCitizen_62 : decode cX4_ofCitizen 62 = .ok (.aload_n 3, 1) := by decide +kernel
theorem dX4_ofCitizen_63 : decode cX4_ofCitizen 63 = .ok (.getfield 82, 3) := by decide +kernel
theorem dX4_ofCitizen_66 : decode cX4_ofCitizen 66 = .ok (.ireturn, 1) := by decide +kernel
theorem dX4_ofCitizen_67 : decode cX4_ofCitizen 67 = .ok (.aload_n 3, 1) := by decide +kernel
theorem dX4_ofCitizen_68 : decode cX4_ofCitizen 68 = .ok (.getfield 85, 3) := by decide +kernel
theorem dX4_ofCitizen_71 : decode cX4_ofCitizen 71 = .ok (.ifCond .eq 7, 3) := by decide +kernel
theorem dX4_ofCitizen_74 : decode cX4_ofCitizen 74 = .ok (.iconst 1, 1) := by decide +kernel
theorem dX4_ofCitizen_75 : decode cX4_ofCitizen 75 = .ok (.goto 4, 3) := by decide +kernel
theorem dX4_ofCitizen_78 : decode cX4_ofCitizen 78 = .ok (.iconst 0, 1) := by decide +kernel
theorem dX4_ofCitizen_79 : decode cX4_ofCitizen 79 = .ok (.ireturn, 1) := by decide +kernel
theorem dX4_ofCitizen_80 : decode cX4_ofCitizen 80 = .ok (.aload_n 3, 1) := by decide +kernel
theorem dX4_ofCitizen_81 : decode cX4_ofCitizen 81 = .ok (.invokevirtual 89, 3) := by decide +kernel
theorem dX4_ofCitizen_84 : decode cX4_ofCitizen 84 = .ok (.ireturn, 1) := by decide +kernel
theorem dX4_ofCitizen_85 : decode cX4_ofCitizen 85 = .ok (.aload_n 0, 1) := by decide +kernel
theorem dX4_ofCitizen_86 : decode cX4_ofCitizen 86 = .ok (.iload_n 1, 1) := by decide +kernel
theorem dX4_ofCitizen_87 : decode cX4_ofCitizen 87 = .ok (.invokevirtual 93, 3) := by decide +kernel
theorem dX4_ofCitizen_90 : decode cX4_ofCitizen 90 = .ok (.ireturn, 1) := by decide +kernel
theorem dX4_ofCitizen_91 : decode cX4_ofCitizen 91 = .ok (.bipush (-2), 2) := by decide +kernel
theorem dX4_ofCitizen_93 : decode cX4_ofCitizen 93 = .ok (.ireturn, 1) := by decide +kernel
theorem dX4_drawn_0 : decode cX4_drawn 0 = .ok (.iload_n 1, 1) := by decide +kernel
theorem dX4_drawn_1 : decode cX4_drawn 1 = .ok (.ifCond .lt 9, 3) := by decide +kernel
theorem dX4_drawn_4 : decode cX4_drawn 4 = .ok (.iload_n 1, 1) := by decide +kernel
theorem dX4_drawn_5 : decode cX4_drawn 5 = .ok (.bipush 6, 2) := by decide +kernel
theorem dX4_drawn_7 : decode cX4_drawn 7 = .ok (.if_icmp .le 6, 3) := by decide +kernel
theorem dX4_drawn_10 : decode cX4_drawn 10 = .ok (.bipush (-2), 2) := by decide +kernel
theorem dX4_drawn_12 : decode cX4_drawn 12 = .ok (.ireturn, 1) := by decide +kernel
theorem dX4_drawn_13 : decode cX4_drawn 13 = .ok (.aload_n 0, 1) := by decide +kernel
theorem dX4_drawn_14 : decode cX4_drawn 14 = .ok (.getfield 69, 3) := by decide +kernel
theorem dX4_drawn_17 : decode cX4_drawn 17 = .ok (.ifCond .ne 6, 3) := by decide +kernel
theorem dX4_drawn_20 : decode cX4_drawn 20 = .ok (.bipush (-3), 2) := by decide +kernel
theorem dX4_drawn_22 : decode cX4_drawn 22 = .ok (.ireturn, 1) := by decide +kernel
theorem dX4_drawn_23 : decode cX4_drawn 23 = .ok (.aload_n 0, 1) := by decide +kernel
theorem dX4_drawn_24 : decode cX4_drawn 24 = .ok (.getfield 96, 3) := by decide +kernel
theorem dX4_drawn_27 : decode cX4_drawn 27 = .ok (.istore_n 2, 1) := by decide +kernel
theorem dX4_drawn_28 : decode cX4_drawn 28 = .ok (.aload_n 0, 1) := by decide +kernel
theorem dX4_drawn_29 : decode cX4_drawn 29 = .ok (.iload_n 1, 1) := by decide +kernel
theorem dX4_drawn_30 : decode cX4_drawn 30 = .ok (.putfield 96, 3) := by decide +kernel
theorem dX4_drawn_33 : decode cX4_drawn 33 = .ok (.iload_n 2, 1) := by decide +kernel
theorem dX4_drawn_34 : decode cX4_drawn 34 = .ok (.ireturn, 1) := by decide +kernel
theorem dX4_price_0 : decode cX4_price 0 = .ok (.iload_n 1, 1) := by decide +kernel
theorem dX4_price_1 : decode cX4_price 1 = .ok (.iconst 1, 1) := by decide +kernel
theorem dX4_price_2 : decode cX4_price 2 = .ok (.if_icmp .lt 9, 3) := by decide +kernel
theorem dX4_price_5 : decode cX4_price 5 = .ok (.iload_n 1, 1) := by decide +kernel
theorem dX4_price_6 : decode cX4_price 6 = .ok (.bipush 9, 2) := by decide +kernel
theorem dX4_price_8 : decode cX4_price 8 = .ok (.if_icmp .le 6, 3) := by decide +kernel
theorem dX4_price_11 : decode cX4_price 11 = .ok (.bipush (-2), 2) := by decide +kernel
theorem dX4_price_13 : decode cX4_price 13 = .ok (.ireturn, 1) := by decide +kernel
theorem dX4_price_14 : decode cX4_price 14 = .ok (.aload_n 0, 1) := by decide +kernel
theorem dX4_price_15 : decode cX4_price 15 = .ok (.getfield 69, 3) := by decide +kernel
theorem dX4_price_18 : decode cX4_price 18 = .ok (.ifCond .ne 6, 3) := by decide +kernel
theorem dX4_price_21 : decode cX4_price 21 = .ok (.bipush (-3), 2) := by decide +kernel
theorem dX4_price_23 : decode cX4_price 23 = .ok (.ireturn, 1) := by decide +kernel
theorem dX4_price_24 : decode cX4_price 24 = .ok (.aload_n 0, 1) := by decide +kernel
theorem dX4_price_25 : decode cX4_price 25 = .ok (.getfield 99, 3) := by decide +kernel
theorem dX4_price_28 : decode cX4_price 28 = .ok (.istore_n 2, 1) := by decide +kernel
theorem dX4_price_29 : decode cX4_price 29 = .ok (.aload_n 0, 1) := by decide +kernel
theorem dX4_price_30 : decode cX4_price 30 = .ok (.iload_n 1, 1) := by decide +kernel
theorem dX4_price_31 : decode cX4_price 31 = .ok (.putfield 99, 3) := by decide +kernel
theorem dX4_price_34 : decode cX4_price 34 = .ok (.iload_n 2, 1) := by decide +kernel
theorem dX4_price_35 : decode cX4_price 35 = .ok (.ireturn, 1) := by decide +kernel
set_option maxRecDepth 20000 in
theorem ggX4_wish_X4_citizen : GoodIn wsX4_wish wsX4_citizen := goodIn_r _ [5, 6, 7, 12, 13, 14, 15, 16, 17, 18, 19, 20, 21] (by decide +kernel) (by decide +kernel)
set_option maxRecDepth 20000 in
theorem gX4_wish_X4_citizen : GoodIn wsX4_wish (wsV RX4 72 RX4 yX4_citizen wsX4_citizen) := goodIn_app (goodIn_of _ (by decide +kernel)) ggX4_wish_X4_citizen
theorem dX4_wish_0 : decode cX4_wish 0 = .ok (.aload_n 0, 1) := by decide +kernel
theorem dX4_wish_1 : decode cX4_wish 1 = .ok (.iload_n 1, 1) := by decide +kernel
theorem dX4_wish_2 : decode cX4_wish 2 = .ok (.invokevirtual 72, 3) := by decide +kernel
theorem dX4_wish_5 : decode cX4_wish 5 = .ok (.astore_n 3, 1) := by decide +kernel
theorem dX4_wish_6 : decode cX4_wish 6 = .ok (.aload_n 3, 1) := by decide +kernel
theorem dX4_wish_7 : decode cX4_wish 7 = .ok (.ifnonnull 5, 3) := by decide +kernel
theorem dX4_wish_10 : decode cX4_wish 10 = .ok (.iconst (-1), 1) := by decide +kernel
theorem dX4_wish_11 : decode cX4_wish 11 = .ok (.ireturn, 1) := by decide +kernel
theorem dX4_wish_12 : decode cX4_wish 12 = .ok (.aload_n 3, 1) := by decide +kernel
theorem dX4_wish_13 : decode cX4_wish 13 = .ok (.getfield 85, 3) := by decide +kernel
theorem dX4_wish_16 : decode cX4_wish 16 = .ok (.iload_n 2, 1) := by decide +kernel
theorem dX4_wish_17 : decode cX4_wish 17 = .ok (.if_icmp .ne 5, 3) := by decide +kernel
theorem dX4_wish_20 : decode cX4_wish 20 = .ok (.iconst 0, 1) := by decide +kernel
theorem dX4_wish_21 : decode cX4_wish 21 = .ok (.ireturn, 1) := by decide +kernel
theorem dX4_wish_22 : decode cX4_wish 22 = .ok (.aload_n 3, 1) := by decide +kernel
theorem dX4_wish_23 : decode cX4_wish 23 = .ok (.iload_n 2, 1) := by decide +kernel
theorem dX4_wish_24 : decode cX4_wish 24 = .ok (.putfield 85, 3) := by decide +kernel
theorem dX4_wish_27 : decode cX4_wish 27 = .ok (.iconst 1, 1) := by decide +kernel
theorem dX4_wish_28 : decode cX4_wish 28 = .ok (.ireturn, 1) := by decide +kernel
set_option maxRecDepth 20000 in
theorem ggX4_draw_X4_isSheet : GoodIn wsX4_draw wsX4_isSheet := goodIn_r _ [7] (by decide +kernel) (by decide +kernel)
set_option maxRecDepth 20000 in
theorem gX4_draw_X4_isSheet : GoodIn wsX4_draw (va_wsS RX4 40 yX4_isSheet wsX4_isSheet) := goodIn_app (goodIn_of _ (by decide +kernel)) ggX4_draw_X4_isSheet
set_option maxRecDepth 20000 in
theorem ggX4_draw_X4_isLane : GoodIn wsX4_draw wsX4_isLane := goodIn_r _ [10] (by decide +kernel) (by decide +kernel)
set_option maxRecDepth 20000 in
theorem gX4_draw_X4_isLane : GoodIn wsX4_draw (va_wsS RX4 44 yX4_isLane wsX4_isLane) := goodIn_app (goodIn_of _ (by decide +kernel)) ggX4_draw_X4_isLane
set_option maxRecDepth 20000 in
theorem ggX4_draw_X4_rowOf : GoodIn wsX4_draw wsX4_rowOf := goodIn_r _ [14, 15, 16, 17, 6, 18, 19, 4, 5, 7, 120, 121, 122, 123, 110, 111, 112, 113, 114, 115, 116, 117, 118, 119] (by decide +kernel) (by decide +kernel)
set_option maxRecDepth 20000 in
theorem gX4_draw_X4_rowOf : GoodIn wsX4_draw (wsV RX4 47 RX4 yX4_rowOf wsX4_rowOf) := goodIn_app (goodIn_of _ (by decide +kernel)) ggX4_draw_X4_rowOf
set_option maxRecDepth 20000 in
theorem ggX4_draw_X4_faultOf : GoodIn wsX4_draw wsX4_faultOf := goodIn_r _ [22, 23, 24, 25, 26, 27, 120, 121, 122, 123] (by decide +kernel) (by decide +kernel)
set_option maxRecDepth 20000 in
theorem gX4_draw_X4_faultOf : GoodIn wsX4_draw (va_wsS RX4 51 yX4_faultOf wsX4_faultOf) := goodIn_app (goodIn_of _ (by decide +kernel)) ggX4_draw_X4_faultOf
set_option maxRecDepth 20000 in
theorem ggX4_draw_X4_faulted : GoodIn wsX4_draw wsX4_faulted := goodIn_r _ [31, 1, 110, 111, 112, 113, 114, 115, 116, 117, 118, 119] (by decide +kernel) (by decide +kernel)
set_option maxRecDepth 20000 in
theorem gX4_draw_X4_faulted : GoodIn wsX4_draw (wsV RX4 55 RX4 yX4_faulted wsX4_faulted) := goodIn_app (goodIn_of _ (by decide +kernel)) ggX4_draw_X4_faulted
set_option maxRecDepth 20000 in
theorem ggX4_draw_X4_firstWrong : GoodIn wsX4_draw wsX4_firstWrong := goodIn_r _ [35, 36, 24, 37, 38, 39, 40, 41, 42, 6, 43, 2, 44, 45, 46, 47, 48, 49, 50, 51, 52, 53, 54, 55, 56, 57, 58, 59, 60, 120, 121, 122, 123, 110, 111, 112, 113, 114, 115, 116, 117, 118, 119, 124, 125, 126, 127] (by decide +kernel) (by decide +kernel)
set_option maxRecDepth 20000 in
theorem gX4_draw_X4_firstWrong : GoodIn wsX4_draw (wsV RX4 102 RX4 yX4_firstWrong wsX4_firstWrong) := goodIn_app (goodIn_of _ (by decide +kernel)) ggX4_draw_X4_firstWrong
set_option maxRecDepth 20000 in
theorem ggX4_draw_X4_rulersBy : GoodIn wsX4_draw wsX4_rulersBy := goodIn_r _ [64, 2, 36, 24, 37, 38, 39, 40, 41, 42, 6, 43, 44, 45, 46, 47, 48, 49, 50, 51, 52, 53, 54, 55, 56, 110, 111, 112, 113, 114, 115, 116, 117, 118, 119, 120, 121, 122, 123, 124, 125, 126, 127] (by decide +kernel) (by decide +kernel)
set_option maxRecDepth 20000 in
theorem gX4_draw_X4_rulersBy : GoodIn wsX4_draw (wsV RX4 105 RX4 yX4_rulersBy wsX4_rulersBy) := goodIn_app (goodIn_of _ (by decide +kernel)) ggX4_draw_X4_rulersBy
set_option maxRecDepth 20000 in
theorem ggX4_draw_X4_fillDrum : GoodIn wsX4_draw wsX4_fillDrum := goodIn_r _ [68, 3, 2, 69, 70, 71, 72, 73, 74, 75, 76, 77, 78, 79, 80, 81, 82, 83, 84, 85, 86, 87, 88, 89, 44, 45, 46, 6, 47, 48, 49, 50, 51, 52, 53, 54, 55, 56, 90, 91, 92, 93, 94, 95, 96, 97, 98, 99, 110, 111, 112, 113, 114, 115, 116, 117, 118, 119, 124, 125, 126, 127, 128, 129, 130, 131, 132, 133, 134] (by decide +kernel) (by decide +kernel)
set_option maxRecDepth 20000 in
theorem gX4_draw_X4_fillDrum : GoodIn wsX4_draw (wsV RX4 108 RX4 yX4_fillDrum wsX4_fillDrum) := goodIn_app (goodIn_of _ (by decide +kernel)) ggX4_draw_X4_fillDrum
set_option maxRecDepth 20000 in
theorem ggX4_draw_X1_passesUnder : GoodIn wsX4_draw wsX1_passesUnder := goodIn_r _ [102, 82, 103, 104, 105, 106, 107, 108, 109, 128, 129, 130, 131, 132, 133, 134] (by decide +kernel) (by decide +kernel)
set_option maxRecDepth 20000 in
theorem gX4_draw_X1_passesUnder_n111 : GoodIn wsX4_draw (wsX1_passesUnder) := ggX4_draw_X1_passesUnder
theorem dX4_draw_0 : decode cX4_draw 0 = .ok (.aload_n 0, 1) := by decide +kernel
theorem dX4_draw_1 : decode cX4_draw 1 = .ok (.iconst 0, 1) := by decide +kernel
theorem dX4_draw_2 : decode cX4_draw 2 = .ok (.putfield 36, 3) := by decide +kernel
theorem dX4_draw_5 : decode cX4_draw 5 = .ok (.iload_n 1, 1) := by decide +kernel
theorem dX4_draw_6 : decode cX4_draw 6 = .ok (.invokestatic 40, 3) := by decide +kernel
theorem dX4_draw_9 : decode cX4_draw 9 = .ok (.ifCond .ne 5, 3) := by decide +kernel
theorem dX4_draw_12 : decode cX4_draw 12 = .ok (.iconst (-1), 1) := by decide +kernel
theorem dX4_draw_13 : decode cX4_draw 13 = .ok (.ireturn, 1) := by decide +kernel
theorem dX4_draw_14 : decode cX4_draw 14 = .ok (.iload_n 2, 1) := by decide +kernel
theorem dX4_draw_15 : decode cX4_draw 15 = .ok (.invokestatic 44, 3) := by decide +kernel
theorem dX4_draw_18 : decode cX4_draw 18 = .ok (.ifCond .eq 26, 3) := by decide +kernel
theorem dX4_draw_21 : decode cX4_draw 21 = .ok (.iload 4, 2) := by decide +kernel
theorem dX4_draw_23 : decode cX4_draw 23 = .ok (.ifCond .lt 21, 3) := by decide +kernel
theorem dX4_draw_26 : decode cX4_draw 26 = .ok (.iload 4, 2) := by decide +kernel
theorem dX4_draw_28 : decode cX4_draw 28 = .ok (.bipush 20, 2) := by decide +kernel
theorem dX4_draw_30 : decode cX4_draw 30 = .ok (.if_icmp .gt 14, 3) := by decide +kernel
theorem dX4_draw_33 : decode cX4_draw 33 = .ok (.iload 5, 2) := by decide +kernel
theorem dX4_draw_35 : decode cX4_draw 35 = .ok (.ifCond .lt 9, 3) := by decide +kernel
theorem dX4_draw_38 : decode cX4_draw 38 = .ok (.iload 5, 2) := by decide +kernel
theorem dX4_draw_40 : decode cX4_draw 40 = .ok (.iconst 2, 1) := by decide +kernel
theorem dX4_draw_41 : decode cX4_draw 41 = .ok (.if_icmp .le 6, 3) := by decide +kernel
theorem dX4_draw_44 : decode cX4_draw 44 = .ok (.bipush (-2), 2) := by decide +kernel
theorem dX4_draw_46 : decode cX4_draw 46 = .ok (.ireturn, 1) := by decide +kernel
theorem dX4_draw_47 : decode cX4_draw 47 = .ok (.aload_n 0, 1) := by decide +kernel
theorem dX4_draw_48 : decode cX4_draw 48 = .ok (.getfield 69, 3) := by decide +kernel
theorem dX4_draw_51 : decode cX4_draw 51 = .ok (.ifCond .ne 6, 3) := by decide +kernel
theorem dX4_draw_54 : decode cX4_draw 54 = .ok (.bipush (-3), 2) := by decide +kernel
theorem dX4_draw_56 : decode cX4_draw 56 = .ok (.ireturn, 1) := by decide +kernel
theorem dX4_draw_57 : decode cX4_draw 57 = .ok (.aload_n 0, 1) := by decide +kernel
theorem dX4_draw_58 : decode cX4_draw 58 = .ok (.iload_n 1, 1) := by decide +kernel
theorem dX4_draw_59 : decode cX4_draw 59 = .ok (.invokevirtual 47, 3) := by decide +kernel
theorem dX4_draw_62 : decode cX4_draw 62 = .ok (.astore 6, 2) := by decide +kernel
theorem dX4_draw_64 : decode cX4_draw 64 = .ok (.aload 6, 2) := by decide +kernel
theorem dX4_draw_66 : decode cX4_draw 66 = .ok (.iload_n 2, 1) := by decide +kernel
theorem dX4_draw_67 : decode cX4_draw 67 = .ok (.iload_n 3, 1) := by decide +kernel
theorem dX4_draw_68 : decode cX4_draw 68 = .ok (.iload 4, 2) := by decide +kernel
theorem dX4_draw_70 : decode cX4_draw 70 = .ok (.invokestatic 51, 3) := by decide +kernel
theorem dX4_draw_73 : decode cX4_draw 73 = .ok (.istore 7, 2) := by decide +kernel
theorem dX4_draw_75 : decode cX4_draw 75 = .ok (.aload 6, 2) := by decide +kernel
theorem dX4_draw_77 : decode cX4_draw 77 = .ok (.ifnull 8, 3) := by decide +kernel
theorem dX4_draw_80 : decode cX4_draw 80 = .ok (.iload 7, 2) := by decide +kernel
theorem dX4_draw_82 : decode cX4_draw 82 = .ok (.ifCond .eq 10, 3) := by decide +kernel
theorem dX4_draw_85 : decode cX4_draw 85 = .ok (.aload_n 0, 1) := by decide +kernel
theorem dX4_draw_86 : decode cX4_draw 86 = .ok (.iload 7, 2) := by decide +kernel
theorem dX4_draw_88 : decode cX4_draw 88 = .ok (.invokevirtual 55, 3) := by decide +kernel
theorem dX4_draw_91 : decode cX4_draw 91 = .ok (.ireturn, 1) := by decide +kernel
theorem dX4_draw_92 : decode cX4_draw 92 = .ok (.aload_n 0, 1) := by decide +kernel
theorem dX4_draw_93 : decode cX4_draw 93 = .ok (.aload 6, 2) := by decide +kernel
theorem dX4_draw_95 : decode cX4_draw 95 = .ok (.iload_n 3, 1) := by decide +kernel
theorem dX4_draw_96 : decode cX4_draw 96 = .ok (.iload 4, 2) := by decide +kernel
theorem dX4_draw_98 : decode cX4_draw 98 = .ok (.invokevirtual 102, 3) := by decide +kernel
theorem dX4_draw_101 : decode cX4_draw 101 = .ok (.istore 8, 2) := by decide +kernel
theorem dX4_draw_103 : decode cX4_draw 103 = .ok (.iload 5, 2) := by decide +kernel
theorem dX4_draw_105 : decode cX4_draw 105 = .ok (.iconst 1, 1) := by decide +kernel
theorem dX4_draw_106 : decode cX4_draw 106 = .ok (.if_icmp .ne 6, 3) := by decide +kernel
theorem dX4_draw_109 : decode cX4_draw 109 = .ok (.iload 8, 2) := by decide +kernel
theorem dX4_draw_111 : decode cX4_draw 111 = .ok (.ireturn, 1) := by decide +kernel
theorem dX4_draw_112 : decode cX4_draw 112 = .ok (.iload 8, 2) := by decide +kernel
theorem dX4_draw_114 : decode cX4_draw 114 = .ok (.bipush (-9), 2) := by decide +kernel
theorem dX4_draw_116 : decode cX4_draw 116 = .ok (.if_icmp .eq 9, 3) := by decide +kernel
theorem dX4_draw_119 : decode cX4_draw 119 = .ok (.bipush (-100), 2) := by decide +kernel
theorem dX4_draw_121 : decode cX4_draw 121 = .ok (.iload 8, 2) := by decide +kernel
theorem dX4_draw_123 : decode cX4_draw 123 = .ok (.isub, 1) := by decide +kernel
theorem dX4_draw_124 : decode cX4_draw 124 = .ok (.ireturn, 1) := by decide +kernel
theorem dX4_draw_125 : decode cX4_draw 125 = .ok (.aload_n 0, 1) := by decide +kernel
theorem dX4_draw_126 : decode cX4_draw 126 = .ok (.aload 6, 2) := by decide +kernel
theorem dX4_draw_128 : decode cX4_draw 128 = .ok (.iload_n 3, 1) := by decide +kernel
theorem dX4_draw_129 : decode cX4_draw 129 = .ok (.iload 4, 2) := by decide +kernel
theorem dX4_draw_131 : decode cX4_draw 131 = .ok (.invokevirtual 105, 3) := by decide +kernel
theorem dX4_draw_134 : decode cX4_draw 134 = .ok (.istore 9, 2) := by decide +kernel
theorem dX4_draw_136 : decode cX4_draw 136 = .ok (.iload 5, 2) := by decide +kernel
theorem dX4_draw_138 : decode cX4_draw 138 = .ok (.ifCond .ne 6, 3) := by decide +kernel
theorem dX4_draw_141 : decode cX4_draw 141 = .ok (.iload 9, 2) := by decide +kernel
theorem dX4_draw_143 : decode cX4_draw 143 = .ok (.ireturn, 1) := by decide +kernel
theorem dX4_draw_144 : decode cX4_draw 144 = .ok (.aload_n 0, 1) := by decide +kernel
theorem dX4_draw_145 : decode cX4_draw 145 = .ok (.invokevirtual 108, 3) := by decide +kernel
theorem dX4_draw_148 : decode cX4_draw 148 = .ok (.aload_n 0, 1) := by decide +kernel
theorem dX4_draw_149 : decode cX4_draw 149 = .ok (.getfield 30, 3) := by decide +kernel
theorem dX4_draw_152 : decode cX4_draw 152 = .ok (.iload 9, 2) := by decide +kernel
theorem dX4_draw_154 : decode cX4_draw 154 = .ok (.invokevirtual 111, 3) := by decide +kernel
theorem dX4_draw_157 : decode cX4_draw 157 = .ok (.ifCond .eq 7, 3) := by decide +kernel
theorem dX4_draw_160 : decode cX4_draw 160 = .ok (.iconst 1, 1) := by decide +kernel
theorem dX4_draw_161 : decode cX4_draw 161 = .ok (.goto 4, 3) := by decide +kernel
theorem dX4_draw_164 : decode cX4_draw 164 = .ok (.iconst 0, 1) := by decide +kernel
theorem dX4_draw_165 : decode cX4_draw 165 = .ok (.ireturn, 1) := by decide +kernel
set_option maxRecDepth 20000 in
theorem ggX4_rules_X4_citizen : GoodIn wsX4_rules wsX4_citizen := goodIn_r _ [7, 8, 9, 73, 74, 75, 76, 77, 78, 79, 80, 81, 82] (by decide +kernel) (by decide +kernel)
set_option maxRecDepth 20000 in
theorem gX4_rules_X4_citizen : GoodIn wsX4_rules (wsV RX4 72 RX4 yX4_citizen wsX4_citizen) := goodIn_app (goodIn_of _ (by decide +kernel)) ggX4_rules_X4_citizen
set_option maxRecDepth 20000 in
theorem ggX4_rules_X4_isWhich : GoodIn wsX4_rules wsX4_isWhich := goodIn_r _ [12] (by decide +kernel) (by decide +kernel)
set_option maxRecDepth 20000 in
theorem gX4_rules_X4_isWhich : GoodIn wsX4_rules (va_wsS RX4 114 yX4_isWhich wsX4_isWhich) := goodIn_app (goodIn_of _ (by decide +kernel)) ggX4_rules_X4_isWhich
set_option maxRecDepth 20000 in
theorem ggX4_rules_X4_fillDrum : GoodIn wsX4_rules wsX4_fillDrum := goodIn_r _ [16, 2, 8, 17, 18, 19, 20, 21, 22, 23, 24, 25, 26, 27, 28, 29, 30, 31, 32, 33, 34, 35, 36, 37, 3, 4, 5, 6, 7, 9, 38, 39, 40, 41, 42, 43, 44, 45, 46, 47, 48, 49, 50, 51, 52, 53, 54, 55, 73, 74, 75, 76, 77, 78, 79, 80, 81, 82, 83, 84, 85, 86, 87, 88, 89, 90, 91, 92, 93] (by decide +kernel) (by decide +kernel)
set_option maxRecDepth 20000 in
theorem gX4_rules_X4_fillDrum : GoodIn wsX4_rules (wsV RX4 108 RX4 yX4_fillDrum wsX4_fillDrum) := goodIn_app (goodIn_of _ (by decide +kernel)) ggX4_rules_X4_fillDrum
set_option maxRecDepth 20000 in
theorem ggX4_rules_X1_drawsSparing : GoodIn wsX4_rules wsX1_drawsSparing := goodIn_r _ [58, 31, 59, 60, 61, 19, 62, 32, 63, 64, 65, 66, 37, 22, 23, 24, 25, 50, 51, 52, 87, 88, 89, 90, 91, 92, 93] (by decide +kernel) (by decide +kernel)
set_option maxRecDepth 20000 in
theorem gX4_rules_X1_drawsSparing_n119 : GoodIn wsX4_rules (wsX1_drawsSparing) := ggX4_rules_X1_drawsSparing
set_option maxRecDepth 20000 in
theorem ggX4_rules_X1_draws : GoodIn wsX4_rules wsX1_draws := goodIn_r _ [69, 31, 63, 64, 65, 19, 66, 37, 22, 23, 24, 25, 50, 51, 52, 87, 88, 89, 90, 91, 92, 93] (by decide +kernel) (by decide +kernel)
set_option maxRecDepth 20000 in
theorem gX4_rules_X1_draws_n123 : GoodIn wsX4_rules (wsX1_draws) := ggX4_rules_X1_draws
set_option maxRecDepth 20000 in
theorem ggX4_rules_X4_partOf : GoodIn wsX4_rules wsX4_partOf := goodIn_r _ [72] (by decide +kernel) (by decide +kernel)
set_option maxRecDepth 20000 in
theorem gX4_rules_X4_partOf : GoodIn wsX4_rules (va_wsS RX4 127 yX4_partOf wsX4_partOf) := goodIn_app (goodIn_of _ (by decide +kernel)) ggX4_rules_X4_partOf
theorem dX4_rules_0 : decode cX4_rules 0 = .ok (.aload_n 0, 1) := by decide +kernel
theorem dX4_rules_1 : decode cX4_rules 1 = .ok (.iload_n 1, 1) := by decide +kernel
theorem dX4_rules_2 : decode cX4_rules 2 = .ok (.invokevirtual 72, 3) := by decide +kernel
theorem dX4_rules_5 : decode cX4_rules 5 = .ok (.ifnull 10, 3) := by decide +kernel
theorem dX4_rules_8 : decode cX4_rules 8 = .ok (.iload_n 2, 1) := by decide +kernel
theorem dX4_rules_9 : decode cX4_rules 9 = .ok (.invokestatic 114, 3) := by decide +kernel
theorem dX4_rules_12 : decode cX4_rules 12 = .ok (.ifCond .ne 7, 3) := by decide +kernel
theorem dX4_rules_15 : decode cX4_rules 15 = .ok (.ldc2_w 117, 3) := by decide +kernel
theorem dX4_rules_18 : decode cX4_rules 18 = .ok (.lreturn, 1) := by decide +kernel
theorem dX4_rules_19 : decode cX4_rules 19 = .ok (.aload_n 0, 1) := by decide +kernel
theorem dX4_rules_20 : decode cX4_rules 20 = .ok (.invokevirtual 108, 3) := by decide +kernel
theorem dX4_rules_23 : decode cX4_rules 23 = .ok (.aload_n 0, 1) := by decide +kernel
theorem dX4_rules_24 : decode cX4_rules 24 = .ok (.getfield 30, 3) := by decide +kernel
theorem dX4_rules_27 : decode cX4_rules 27 = .ok (.iload_n 1, 1) := by decide +kernel
theorem dX4_rules_28 : decode cX4_rules 28 = .ok (.invokevirtual 119, 3) := by decide +kernel
theorem dX4_rules_31 : decode cX4_rules 31 = .ok (.aload_n 0, 1) := by decide +kernel
theorem dX4_rules_32 : decode cX4_rules 32 = .ok (.getfield 30, 3) := by decide +kernel
theorem dX4_rules_35 : decode cX4_rules 35 = .ok (.invokevirtual 123, 3) := by decide +kernel
theorem dX4_rules_38 : decode cX4_rules 38 = .ok (.iload_n 2, 1) := by decide +kernel
theorem dX4_rules_39 : decode cX4_rules 39 = .ok (.invokestatic 127, 3) := by decide +kernel
theorem dX4_rules_42 : decode cX4_rules 42 = .ok (.lreturn, 1) := by decide +kernel
set_option maxRecDepth 20000 in
theorem ggX4_just_X4_isSet : GoodIn wsX4_just wsX4_isSet := goodIn_r _ [8, 1, 101, 102, 103, 104, 105, 106, 107, 108, 109, 110] (by decide +kernel) (by decide +kernel)
set_option maxRecDepth 20000 in
theorem gX4_just_X4_isSet : GoodIn wsX4_just (wsV RX4 131 RX4 yX4_isSet wsX4_isSet) := goodIn_app (goodIn_of _ (by decide +kernel)) ggX4_just_X4_isSet
set_option maxRecDepth 20000 in
theorem ggX4_just_X4_isWhich : GoodIn wsX4_just wsX4_isWhich := goodIn_r _ [11] (by decide +kernel) (by decide +kernel)
set_option maxRecDepth 20000 in
theorem gX4_just_X4_isWhich : GoodIn wsX4_just (va_wsS RX4 114 yX4_isWhich wsX4_isWhich) := goodIn_app (goodIn_of _ (by decide +kernel)) ggX4_just_X4_isWhich
set_option maxRecDepth 20000 in
theorem ggX4_just_X4_fillDrum : GoodIn wsX4_just wsX4_fillDrum := goodIn_r _ [15, 3, 1, 16, 17, 18, 19, 20, 21, 22, 23, 24, 25, 26, 27, 28, 29, 30, 31, 32, 33, 34, 35, 36, 37, 38, 39, 7, 40, 41, 42, 43, 44, 45, 46, 47, 48, 49, 50, 51, 52, 53, 54, 55, 56, 57, 58, 59, 101, 102, 103, 104, 105, 106, 107, 108, 109, 110, 111, 112, 113, 114, 115, 116, 117, 118, 119, 120, 121] (by decide +kernel) (by decide +kernel)
set_option maxRecDepth 20000 in
theorem gX4_just_X4_fillDrum : GoodIn wsX4_just (wsV RX4 108 RX4 yX4_fillDrum wsX4_fillDrum) := goodIn_app (goodIn_of _ (by decide +kernel)) ggX4_just_X4_fillDrum
set_option maxRecDepth 20000 in
theorem ggX4_just_X1_drawsLeavingJust : GoodIn wsX4_just wsX1_drawsLeavingJust := goodIn_r _ [62, 63, 64, 65, 18, 66, 28, 67, 68, 69, 70, 71, 72, 73, 74, 75, 36, 30, 21, 22, 23, 24, 76, 77, 78, 79, 80, 81, 82, 83, 84, 85, 86, 53, 87, 88, 89, 90, 91, 92, 93, 94, 115, 116, 117, 118, 119, 120, 121] (by decide +kernel) (by decide +kernel)
set_option maxRecDepth 20000 in
theorem gX4_just_X1_drawsLeavingJust_n134 : GoodIn wsX4_just (wsX1_drawsLeavingJust) := ggX4_just_X1_drawsLeavingJust
set_option maxRecDepth 20000 in
theorem ggX4_just_X1_draws : GoodIn wsX4_just wsX1_draws := goodIn_r _ [97, 30, 72, 73, 74, 18, 75, 36, 21, 22, 23, 24, 54, 55, 56, 115, 116, 117, 118, 119, 120, 121] (by decide +kernel) (by decide +kernel)
set_option maxRecDepth 20000 in
theorem gX4_just_X1_draws_n123 : GoodIn wsX4_just (wsX1_draws) := ggX4_just_X1_draws
set_option maxRecDepth 20000 in
theorem ggX4_just_X4_partOf : GoodIn wsX4_just wsX4_partOf := goodIn_r _ [100] (by decide +kernel) (by decide +kernel)
set_option maxRecDepth 20000 in
theorem gX4_just_X4_partOf : GoodIn wsX4_just (va_wsS RX4 127 yX4_partOf wsX4_partOf) := goodIn_app (goodIn_of _ (by decide +kernel)) ggX4_just_X4_partOf
theorem dX4_just_0 : decode cX4_just 0 = .ok (.aload_n 0, 1) := by decide +kernel
theorem dX4_just_1 : decode cX4_just 1 = .ok (.getfield 69, 3) := by decide +kernel
theorem dX4_just_4 : decode cX4_just 4 = .ok (.ifCond .eq 18, 3) := by decide +kernel
theorem dX4_just_7 : decode cX4_just 7 = .ok (.aload_n 0, 1) := by decide +kernel
theorem dX4_just_8 : decode cX4_just 8 = .ok (.iload_n 1, 1) := by decide +kernel
theorem dX4_just_9 : decode cX4_just 9 = .ok (.invokevirtual 131, 3) := by decide +kernel
theorem dX4_just_12 : decode cX4_just 12 = .ok (.ifCond .eq 10, 3) := by decide +kernel
theorem dX4_just_15 : decode cX4_just 15 = .ok (.iload_n 2, 1) := by decide +kernel
theorem dX4_just_16 : decode cX4_just 16 = .ok (.invokestatic 114, 3) := by decide +kernel
theorem dX4_just_19 : decode cX4_just 19 = .ok (.ifCond .ne 7, 3) := by decide +kernel
theorem dX4_just_22 : decode cX4_just 22 = .ok (.ldc2_w 117, 3) := by decide +kernel
theorem dX4_just_25 : decode cX4_just 25 = .ok (.lreturn, 1) := by decide +kernel
theorem dX4_just_26 : decode cX4_just 26 = .ok (.aload_n 0, 1) := by decide +kernel
theorem dX4_just_27 : decode cX4_just 27 = .ok (.invokevirtual 108, 3) := by decide +kernel
theorem dX4_just_30 : decode cX4_just 30 = .ok (.aload_n 0, 1) := by decide +kernel
theorem dX4_just_31 : decode cX4_just 31 = .ok (.getfield 30, 3) := by decide +kernel
theorem dX4_just_34 : decode cX4_just 34 = .ok (.iload_n 1, 1) := by decide +kernel
theorem dX4_just_35 : decode cX4_just 35 = .ok (.invokevirtual 134, 3) := by decide +kernel
theorem dX4_just_38 : decode cX4_just 38 = .ok (.aload_n 0, 1) := by decide +kernel
theorem dX4_just_39 : decode cX4_just 39 = .ok (.getfield 30, 3) := by decide +kernel
theorem dX4_just_42 : decode cX4_just 42 = .ok (.invokevirtual 123, 3) := by decide +kernel
theorem dX4_just_45 : decode cX4_just 45 = .ok (.iload_n 2, 1) := by decide +kernel
theorem dX4_just_46 : decode cX4_just 46 = .ok (.invokestatic 127, 3) := by decide +kernel
theorem dX4_just_49 : decode cX4_just 49 = .ok (.lreturn, 1) := by decide +kernel
set_option maxRecDepth 20000 in
theorem ggX4_mean_X4_isWhich : GoodIn wsX4_mean wsX4_isWhich := goodIn_r _ [7] (by decide +kernel) (by decide +kernel)
set_option maxRecDepth 20000 in
theorem gX4_mean_X4_isWhich : GoodIn wsX4_mean (va_wsS RX4 114 yX4_isWhich wsX4_isWhich) := goodIn_app (goodIn_of _ (by decide +kernel)) ggX4_mean_X4_isWhich
set_option maxRecDepth 20000 in
theorem ggX4_mean_X4_fillDrum : GoodIn wsX4_mean wsX4_fillDrum := goodIn_r _ [11, 3, 1, 12, 13, 14, 15, 16, 17, 18, 19, 20, 21, 22, 23, 24, 25, 26, 27, 28, 29, 30, 31, 32, 33, 34, 35, 6, 36, 37, 38, 39, 40, 41, 42, 43, 44, 45, 46, 47, 48, 49, 50, 51, 52, 53, 54, 55, 73, 74, 75, 76, 77, 78, 79, 80, 81, 82, 83, 84, 85, 86, 87, 88, 89, 90, 91, 92, 93] (by decide +kernel) (by decide +kernel)
set_option maxRecDepth 20000 in
theorem gX4_mean_X4_fillDrum : GoodIn wsX4_mean (wsV RX4 108 RX4 yX4_fillDrum wsX4_fillDrum) := goodIn_app (goodIn_of _ (by decide +kernel)) ggX4_mean_X4_fillDrum
set_option maxRecDepth 20000 in
theorem ggX4_mean_X1_drawsSparing : GoodIn wsX4_mean wsX1_drawsSparing := goodIn_r _ [58, 26, 59, 60, 61, 14, 62, 27, 63, 64, 65, 66, 32, 17, 18, 19, 20, 50, 51, 52, 87, 88, 89, 90, 91, 92, 93] (by decide +kernel) (by decide +kernel)
set_option maxRecDepth 20000 in
theorem gX4_mean_X1_drawsSparing_n119 : GoodIn wsX4_mean (wsX1_drawsSparing) := ggX4_mean_X1_drawsSparing
set_option maxRecDepth 20000 in
theorem ggX4_mean_X1_draws : GoodIn wsX4_mean wsX1_draws := goodIn_r _ [69, 26, 63, 64, 65, 14, 66, 32, 17, 18, 19, 20, 50, 51, 52, 87, 88, 89, 90, 91, 92, 93] (by decide +kernel) (by decide +kernel)
set_option maxRecDepth 20000 in
theorem gX4_mean_X1_draws_n123 : GoodIn wsX4_mean (wsX1_draws) := ggX4_mean_X1_draws
set_option maxRecDepth 20000 in
theorem ggX4_mean_X4_partOf : GoodIn wsX4_mean wsX4_partOf := goodIn_r _ [72] (by decide +kernel) (by decide +kernel)
set_option maxRecDepth 20000 in
theorem gX4_mean_X4_partOf : GoodIn wsX4_mean (va_wsS RX4 127 yX4_partOf wsX4_partOf) := goodIn_app (goodIn_of _ (by decide +kernel)) ggX4_mean_X4_partOf
theorem dX4_mean_0 : decode cX4_mean 0 = .ok (.aload_n 0, 1) := by decide +kernel
theorem dX4_mean_1 : decode cX4_mean 1 = .ok (.getfield 69, 3) := by decide +kernel
theorem dX4_mean_4 : decode cX4_mean 4 = .ok (.ifCond .eq 10, 3) := by decide +kernel
theorem dX4_mean_7 : decode cX4_mean 7 = .ok (.iload_n 1, 1) := by decide +kernel
theorem dX4_mean_8 : decode cX4_mean 8 = .ok (.invokestatic 114, 3) := by decide +kernel
theorem dX4_mean_11 : decode cX4_mean 11 = .ok (.ifCond .ne 7, 3) := by decide +kernel
theorem dX4_mean_14 : decode cX4_mean 14 = .ok (.ldc2_w 117, 3) := by decide +kernel
theorem dX4_mean_17 : decode cX4_mean 17 = .ok (.lreturn, 1) := by decide +kernel
theorem dX4_mean_18 : decode cX4_mean 18 = .ok (.aload_n 0, 1) := by decide +kernel
theorem dX4_mean_19 : decode cX4_mean 19 = .ok (.invokevirtual 108, 3) := by decide +kernel
theorem dX4_mean_22 : decode cX4_mean 22 = .ok (.lconst 0, 1) := by decide +kernel
theorem dX4_mean_23 : decode cX4_mean 23 = .ok (.lstore_n 2, 1) := by decide +kernel
theorem dX4_mean_24 : decode cX4_mean 24 = .ok (.iconst 0, 1) := by decide +kernel
theorem dX4_mean_25 : decode cX4_mean 25 = .ok (.istore 4, 2) := by decide +kernel
theorem dX4_mean_27 : decode cX4_mean 27 = .ok (.iload 4, 2) := by decide +kernel
theorem dX4_mean_29 : decode cX4_mean 29 = .ok (.aload_n 0, 1) := by decide +kernel
theorem dX4_mean_30 : decode cX4_mean 30 = .ok (.getfield 69, 3) := by decide +kernel
theorem dX4_mean_33 : decode cX4_mean 33 = .ok (.if_icmp .ge 21, 3) := by decide +kernel
theorem dX4_mean_36 : decode cX4_mean 36 = .ok (.lload_n 2, 1) := by decide +kernel
theorem dX4_mean_37 : decode cX4_mean 37 = .ok (.aload_n 0, 1) := by decide +kernel
theorem dX4_mean_38 : decode cX4_mean 38 = .ok (.getfield 30, 3) := by decide +kernel
theorem dX4_mean_41 : decode cX4_mean 41 = .ok (.iload 4, 2) := by decide +kernel
theorem dX4_mean_43 : decode cX4_mean 43 = .ok (.invokevirtual 119, 3) := by decide +kernel
theorem dX4_mean_46 : decode cX4_mean 46 = .ok (.ladd, 1) := by decide +kernel
theorem dX4_mean_47 : decode cX4_mean 47 = .ok (.lstore_n 2, 1) := by decide +kernel
theorem dX4_mean_48 : decode cX4_mean 48 = .ok (.iinc 4 1, 3) := by decide +kernel
theorem dX4_mean_51 : decode cX4_mean 51 = .ok (.goto (-24), 3) := by decide +kernel
theorem dX4_mean_54 : decode cX4_mean 54 = .ok (.lload_n 2, 1) := by decide +kernel
theorem dX4_mean_55 : decode cX4_mean 55 = .ok (.aload_n 0, 1) := by decide +kernel
theorem dX4_mean_56 : decode cX4_mean 56 = .ok (.getfield 30, 3) := by decide +kernel
theorem dX4_mean_59 : decode cX4_mean 59 = .ok (.invokevirtual 123, 3) := by decide +kernel
theorem dX4_mean_62 : decode cX4_mean 62 = .ok (.iload_n 1, 1) := by decide +kernel
theorem dX4_mean_63 : decode cX4_mean 63 = .ok (.invokestatic 127, 3) := by decide +kernel
theorem dX4_mean_66 : decode cX4_mean 66 = .ok (.lreturn, 1) := by decide +kernel
set_option maxRecDepth 20000 in
theorem ggX4_passes_X4_isWhich : GoodIn wsX4_passes wsX4_isWhich := goodIn_r _ [7] (by decide +kernel) (by decide +kernel)
set_option maxRecDepth 20000 in
theorem gX4_passes_X4_isWhich : GoodIn wsX4_passes (va_wsS RX4 114 yX4_isWhich wsX4_isWhich) := goodIn_app (goodIn_of _ (by decide +kernel)) ggX4_passes_X4_isWhich
set_option maxRecDepth 20000 in
theorem ggX4_passes_X4_fillDrum : GoodIn wsX4_passes wsX4_fillDrum := goodIn_r _ [11, 3, 1, 12, 13, 14, 15, 16, 17, 18, 19, 20, 21, 22, 23, 24, 25, 26, 27, 28, 29, 30, 31, 32, 33, 34, 35, 6, 36, 37, 38, 39, 40, 41, 42, 43, 44, 45, 46, 47, 48, 49, 50, 51, 52, 53, 54, 55, 101, 102, 103, 104, 105, 106, 107, 108, 109, 110, 111, 112, 113, 114, 115, 116, 117, 118, 119, 120, 121] (by decide +kernel) (by decide +kernel)
set_option maxRecDepth 20000 in
theorem gX4_passes_X4_fillDrum : GoodIn wsX4_passes (wsV RX4 108 RX4 yX4_fillDrum wsX4_fillDrum) := goodIn_app (goodIn_of _ (by decide +kernel)) ggX4_passes_X4_fillDrum
set_option maxRecDepth 20000 in
theorem ggX4_passes_X1_drawsPassing : GoodIn wsX4_passes wsX1_drawsPassing := goodIn_r _ [58, 59, 60, 61, 14, 62, 24, 63, 64, 65, 66, 67, 68, 69, 70, 71, 32, 26, 17, 18, 19, 20, 72, 73, 74, 75, 76, 77, 78, 79, 80, 81, 82, 49, 83, 84, 85, 86, 87, 88, 89, 90, 25, 91, 92, 93, 94, 115, 116, 117, 118, 119, 120, 121] (by decide +kernel) (by decide +kernel)
set_option maxRecDepth 20000 in
theorem gX4_passes_X1_drawsPassing_n137 : GoodIn wsX4_passes (wsX1_drawsPassing) := ggX4_passes_X1_drawsPassing
set_option maxRecDepth 20000 in
theorem ggX4_passes_X1_draws : GoodIn wsX4_passes wsX1_draws := goodIn_r _ [97, 26, 68, 69, 70, 14, 71, 32, 17, 18, 19, 20, 50, 51, 52, 115, 116, 117, 118, 119, 120, 121] (by decide +kernel) (by decide +kernel)
set_option maxRecDepth 20000 in
theorem gX4_passes_X1_draws_n123 : GoodIn wsX4_passes (wsX1_draws) := ggX4_passes_X1_draws
set_option maxRecDepth 20000 in
theorem ggX4_passes_X4_partOf : GoodIn wsX4_passes wsX4_partOf := goodIn_r _ [100] (by decide +kernel) (by decide +kernel)
set_option maxRecDepth 20000 in
theorem gX4_passes_X4_partOf : GoodIn wsX4_passes (va_wsS RX4 127 yX4_partOf wsX4_partOf) := goodIn_app (goodIn_of _ (by decide +kernel)) ggX4_passes_X4_partOf
theorem dX4_passes_0 : decode cX4_passes 0 = .ok (.aload_n 0, 1) := by decide +kernel
theorem dX4_passes_1 : decode cX4_passes 1 = .ok (.getfield 69, 3) := by decide +kernel
theorem dX4_passes_4 : decode cX4_passes 4 = .ok (.ifCond .eq 10, 3) := by decide +kernel
theorem dX4_passes_7 : decode cX4_passes 7 = .ok (.iload_n 1, 1) := by decide +kernel
theorem dX4_passes_8 : decode cX4_passes 8 = .ok (.invokestatic 114, 3) := by decide +kernel
theorem dX4_passes_11 : decode cX4_passes 11 = .ok (.ifCond .ne 7, 3) := by decide +kernel
theorem dX4_passes_14 : decode cX4_passes 14 = .ok (.ldc2_w 117, 3) := by decide +kernel
theorem dX4_passes_17 : decode cX4_passes 17 = .ok (.lreturn, 1) := by decide +kernel
theorem dX4_passes_18 : decode cX4_passes 18 = .ok (.aload_n 0, 1) := by decide +kernel
theorem dX4_passes_19 : decode cX4_passes 19 = .ok (.invokevirtual 108, 3) := by decide +kernel
theorem dX4_passes_22 : decode cX4_passes 22 = .ok (.aload_n 0, 1) := by decide +kernel
theorem dX4_passes_23 : decode cX4_passes 23 = .ok (.getfield 30, 3) := by decide +kernel
theorem dX4_passes_26 : decode cX4_passes 26 = .ok (.invokevirtual 137, 3) := by decide +kernel
theorem dX4_passes_29 : decode cX4_passes 29 = .ok (.aload_n 0, 1) := by decide +kernel
theorem dX4_passes_30 : decode cX4_passes 30 = .ok (.getfield 30, 3) := by decide +kernel
theorem dX4_passes_33 : decode cX4_passes 33 = .ok (.invokevirtual 123, 3) := by decide +kernel
theorem dX4_passes_36 : decode cX4_passes 36 = .ok (.iload_n 1, 1) := by decide +kernel
theorem dX4_passes_37 : decode cX4_passes 37 = .ok (.invokestatic 127, 3) := by decide +kernel
theorem dX4_passes_40 : decode cX4_passes 40 = .ok (.lreturn, 1) := by decide +kernel
set_option maxRecDepth 20000 in
theorem ggX4_buy_X4_citizen : GoodIn wsX4_buy wsX4_citizen := goodIn_r _ [7, 8, 9, 67, 68, 69, 70, 71, 72, 73, 74, 75, 76] (by decide +kernel) (by decide +kernel)
set_option maxRecDepth 20000 in
theorem gX4_buy_X4_citizen : GoodIn wsX4_buy (wsV RX4 72 RX4 yX4_citizen wsX4_citizen) := goodIn_app (goodIn_of _ (by decide +kernel)) ggX4_buy_X4_citizen
set_option maxRecDepth 20000 in
theorem ggX4_buy_X4_fillDrum : GoodIn wsX4_buy wsX4_fillDrum := goodIn_r _ [13, 2, 8, 14, 15, 16, 17, 18, 19, 20, 21, 22, 23, 24, 25, 26, 27, 28, 29, 30, 31, 32, 33, 34, 3, 4, 5, 6, 7, 9, 35, 36, 37, 38, 39, 40, 41, 42, 43, 44, 45, 46, 47, 48, 49, 50, 51, 52, 67, 68, 69, 70, 71, 72, 73, 74, 75, 76, 77, 78, 79, 80, 81, 82, 83, 84, 85, 86, 87] (by decide +kernel) (by decide +kernel)
set_option maxRecDepth 20000 in
theorem gX4_buy_X4_fillDrum : GoodIn wsX4_buy (wsV RX4 108 RX4 yX4_fillDrum wsX4_fillDrum) := goodIn_app (goodIn_of _ (by decide +kernel)) ggX4_buy_X4_fillDrum
set_option maxRecDepth 20000 in
theorem ggX4_buy_X0_slips : GoodIn wsX4_buy wsX0_slips := goodIn_r _ [38, 39, 40, 41, 6, 42, 77, 78, 79, 80] (by decide +kernel) (by decide +kernel)
set_option maxRecDepth 20000 in
theorem gX4_buy_X0_slips_n89 : GoodIn wsX4_buy (wsX0_slips) := ggX4_buy_X0_slips
set_option maxRecDepth 20000 in
theorem ggX4_buy_X1_setSlips : GoodIn wsX4_buy wsX1_setSlips := goodIn_r _ [45, 29, 28, 46, 47, 48, 16, 49, 81, 82, 83, 84, 85, 86, 87] (by decide +kernel) (by decide +kernel)
set_option maxRecDepth 20000 in
theorem gX4_buy_X1_setSlips_n140 : GoodIn wsX4_buy (wsX1_setSlips) := ggX4_buy_X1_setSlips
set_option maxRecDepth 20000 in
theorem ggX4_buy_X1_draws : GoodIn wsX4_buy wsX1_draws := goodIn_r _ [55, 28, 56, 57, 58, 16, 59, 34, 19, 20, 21, 22, 47, 48, 49, 81, 82, 83, 84, 85, 86, 87] (by decide +kernel) (by decide +kernel)
set_option maxRecDepth 20000 in
theorem gX4_buy_X1_draws_n123 : GoodIn wsX4_buy (wsX1_draws) := ggX4_buy_X1_draws
set_option maxRecDepth 20000 in
theorem ggX4_buy_X1_drawsSparing : GoodIn wsX4_buy wsX1_drawsSparing := goodIn_r _ [62, 28, 63, 64, 65, 16, 66, 29, 56, 57, 58, 59, 34, 19, 20, 21, 22, 47, 48, 49, 81, 82, 83, 84, 85, 86, 87] (by decide +kernel) (by decide +kernel)
set_option maxRecDepth 20000 in
theorem gX4_buy_X1_drawsSparing_n119 : GoodIn wsX4_buy (wsX1_drawsSparing) := ggX4_buy_X1_drawsSparing
theorem dX4_buy_0 : decode cX4_buy 0 = .ok (.aload_n 0, 1) := by decide +kernel
theorem dX4_buy_1 : decode cX4_buy 1 = .ok (.iload_n 1, 1) := by decide +kernel
theorem dX4_buy_2 : decode cX4_buy 2 = .ok (.invokevirtual 72, 3) := by decide +kernel
theorem dX4_buy_5 : decode cX4_buy 5 = .ok (.astore 4, 2) := by decide +kernel
theorem dX4_buy_7 : decode cX4_buy 7 = .ok (.aload 4, 2) := by decide +kernel
theorem dX4_buy_9 : decode cX4_buy 9 = .ok (.ifnonnull 5, 3) := by decide +kernel
theorem dX4_buy_12 : decode cX4_buy 12 = .ok (.iconst (-1), 1) := by decide +kernel
theorem dX4_buy_13 : decode cX4_buy 13 = .ok (.ireturn, 1) := by decide +kernel
theorem dX4_buy_14 : decode cX4_buy 14 = .ok (.iload_n 2, 1) := by decide +kernel
theorem dX4_buy_15 : decode cX4_buy 15 = .ok (.ifCond .lt 22, 3) := by decide +kernel
theorem dX4_buy_18 : decode cX4_buy 18 = .ok (.iload_n 2, 1) := by decide +kernel
theorem dX4_buy_19 : decode cX4_buy 19 = .ok (.sipush 999, 3) := by decide +kernel
theorem dX4_buy_22 : decode cX4_buy 22 = .ok (.if_icmp .gt 15, 3) := by decide +kernel
theorem dX4_buy_25 : decode cX4_buy 25 = .ok (.iload_n 3, 1) := by decide +kernel
theorem dX4_buy_26 : decode cX4_buy 26 = .ok (.iconst 1, 1) := by decide +kernel
theorem dX4_buy_27 : decode cX4_buy 27 = .ok (.if_icmp .lt 10, 3) := by decide +kernel
theorem dX4_buy_30 : decode cX4_buy 30 = .ok (.iload_n 3, 1) := by decide +kernel
theorem dX4_buy_31 : decode cX4_buy 31 = .ok (.sipush 999, 3) := by decide +kernel
theorem dX4_buy_34 : decode cX4_buy 34 = .ok (.if_icmp .le 6, 3) := by decide +kernel
theorem dX4_buy_37 : decode cX4_buy 37 = .ok (.bipush (-2), 2) := by decide +kernel
theorem dX4_buy_39 : decode cX4_buy 39 = .ok (.ireturn, 1) := by decide +kernel
theorem dX4_buy_40 : decode cX4_buy 40 = .ok (.aload_n 0, 1) := by decide +kernel
theorem dX4_buy_41 : decode cX4_buy 41 = .ok (.invokevirtual 108, 3) := by decide +kernel
theorem dX4_buy_44 : decode cX4_buy 44 = .ok (.iconst 0, 1) := by decide +kernel
theorem dX4_buy_45 : decode cX4_buy 45 = .ok (.istore 5, 2) := by decide +kernel
theorem dX4_buy_47 : decode cX4_buy 47 = .ok (.iload 5, 2) := by decide +kernel
theorem dX4_buy_49 : decode cX4_buy 49 = .ok (.bipush 20, 2) := by decide +kernel
theorem dX4_buy_51 : decode cX4_buy 51 = .ok (.if_icmp .gt 80, 3) := by decide +kernel
theorem dX4_buy_54 : decode cX4_buy 54 = .ok (.iload 5, 2) := by decide +kernel
theorem dX4_buy_56 : decode cX4_buy 56 = .ok (.aload_n 0, 1) := by decide +kernel
theorem dX4_buy_57 : decode cX4_buy 57 = .ok (.getfield 99, 3) := by decide +kernel
theorem dX4_buy_60 : decode cX4_buy 60 = .ok (.imul, 1) := by decide +kernel
theorem dX4_buy_61 : decode cX4_buy 61 = .ok (.aload 4, 2) := by decide +kernel
theorem dX4_buy_63 : decode cX4_buy 63 = .ok (.getfield 82, 3) := by decide +kernel
theorem dX4_buy_66 : decode cX4_buy 66 = .ok (.if_icmp .gt 65, 3) := by decide +kernel
theorem dX4_buy_69 : decode cX4_buy 69 = .ok (.aload_n 0, 1) := by decide +kernel
theorem dX4_buy_70 : decode cX4_buy 70 = .ok (.getfield 30, 3) := by decide +kernel
theorem dX4_buy_73 : decode cX4_buy 73 = .ok (.iload_n 1, 1) := by decide +kernel
theorem dX4_buy_74 : decode cX4_buy 74 = .ok (.aload 4, 2) := by decide +kernel
theorem dX4_buy_76 : decode cX4_buy 76 = .ok (.invokevirtual 89, 3) := by decide +kernel
theorem dX4_buy_79 : decode cX4_buy 79 = .ok (.iload 5, 2) := by decide +kernel
theorem dX4_buy_81 : decode cX4_buy 81 = .ok (.iadd, 1) := by decide +kernel
theorem dX4_buy_82 : decode cX4_buy 82 = .ok (.invokevirtual 140, 3) := by decide +kernel
theorem dX4_buy_85 : decode cX4_buy 85 = .ok (.aload_n 0, 1) := by decide +kernel
theorem dX4_buy_86 : decode cX4_buy 86 = .ok (.getfield 30, 3) := by decide +kernel
theorem dX4_buy_89 : decode cX4_buy 89 = .ok (.invokevirtual 123, 3) := by decide +kernel
theorem dX4_buy_92 : decode cX4_buy 92 = .ok (.aload_n 0, 1) := by decide +kernel
theorem dX4_buy_93 : decode cX4_buy 93 = .ok (.getfield 30, 3) := by decide +kernel
theorem dX4_buy_96 : decode cX4_buy 96 = .ok (.iload_n 1, 1) := by decide +kernel
theorem dX4_buy_97 : decode cX4_buy 97 = .ok (.invokevirtual 119, 3) := by decide +kernel
theorem dX4_buy_100 : decode cX4_buy 100 = .ok (.lsub, 1) := by decide +kernel
theorem dX4_buy_101 : decode cX4_buy 101 = .ok (.lstore 6, 2) := by decide +kernel
theorem dX4_buy_103 : decode cX4_buy 103 = .ok (.lload 6, 2) := by decide +kernel
theorem dX4_buy_105 : decode cX4_buy 105 = .ok (.iload_n 3, 1) := by decide +kernel
theorem dX4_buy_106 : decode cX4_buy 106 = .ok (.i2l, 1) := by decide +kernel
theorem dX4_buy_107 : decode cX4_buy 107 = .ok (.lmul, 1) := by decide +kernel
theorem dX4_buy_108 : decode cX4_buy 108 = .ok (.iload_n 2, 1) := by decide +kernel
theorem dX4_buy_109 : decode cX4_buy 109 = .ok (.i2l, 1) := by decide +kernel
theorem dX4_buy_110 : decode cX4_buy 110 = .ok (.aload_n 0, 1) := by decide +kernel
theorem dX4_buy_111 : decode cX4_buy 111 = .ok (.getfield 30, 3) := by decide +kernel
theorem dX4_buy_114 : decode cX4_buy 114 = .ok (.invokevirtual 123, 3) := by decide +kernel
theorem dX4_buy_117 : decode cX4_buy 117 = .ok (.lmul, 1) := by decide +kernel
theorem dX4_buy_118 : decode cX4_buy 118 = .ok (.lcmp, 1) := by decide +kernel
theorem dX4_buy_119 : decode cX4_buy 119 = .ok (.ifCond .lt 6, 3) := by decide +kernel
theorem dX4_buy_122 : decode cX4_buy 122 = .ok (.iload 5, 2) := by decide +kernel
theorem dX4_buy_124 : decode cX4_buy 124 = .ok (.ireturn, 1) := by decide +kernel
theorem dX4_buy_125 : decode cX4_buy 125 = .ok (.iinc 5 1, 3) := by decide +kernel
theorem dX4_buy_128 : decode cX4_buy 128 = .ok (.goto (-81), 3) := by decide +kernel
theorem dX4_buy_131 : decode cX4_buy 131 = .ok (.bipush (-9), 2) := by decide +kernel
theorem dX4_buy_133 : decode cX4_buy 133 = .ok (.ireturn, 1) := by decide +kernel
set_option maxRecDepth 20000 in
theorem ggX4_lend_X4_citizen : GoodIn wsX4_lend wsX4_citizen := goodIn_r _ [7, 2, 8, 103, 104, 105, 106, 107, 108, 109, 110, 111, 112] (by decide +kernel) (by decide +kernel)
set_option maxRecDepth 20000 in
theorem gX4_lend_X4_citizen : GoodIn wsX4_lend (wsV RX4 72 RX4 yX4_citizen wsX4_citizen) := goodIn_app (goodIn_of _ (by decide +kernel)) ggX4_lend_X4_citizen
set_option maxRecDepth 20000 in
theorem ggX4_lend_X4_fillDrum : GoodIn wsX4_lend wsX4_fillDrum := goodIn_r _ [12, 1, 2, 13, 14, 15, 16, 17, 18, 19, 20, 21, 22, 23, 24, 25, 26, 27, 28, 29, 30, 31, 32, 33, 3, 4, 5, 6, 7, 8, 34, 35, 36, 37, 38, 39, 40, 41, 42, 43, 44, 45, 46, 47, 48, 49, 50, 51, 103, 104, 105, 106, 107, 108, 109, 110, 111, 112, 99, 100, 101, 102, 113, 114, 115, 116, 117, 118, 119] (by decide +kernel) (by decide +kernel)
set_option maxRecDepth 20000 in
theorem gX4_lend_X4_fillDrum : GoodIn wsX4_lend (wsV RX4 108 RX4 yX4_fillDrum wsX4_fillDrum) := goodIn_app (goodIn_of _ (by decide +kernel)) ggX4_lend_X4_fillDrum
set_option maxRecDepth 20000 in
theorem ggX4_lend_X1_drawsPassing : GoodIn wsX4_lend wsX1_drawsPassing := goodIn_r _ [54, 55, 56, 57, 15, 58, 25, 59, 60, 61, 62, 63, 64, 65, 66, 67, 33, 27, 18, 19, 20, 21, 68, 69, 70, 71, 72, 73, 74, 75, 76, 77, 78, 45, 79, 80, 81, 82, 83, 84, 85, 86, 26, 87, 88, 89, 90, 113, 114, 115, 116, 117, 118, 119] (by decide +kernel) (by decide +kernel)
set_option maxRecDepth 20000 in
theorem gX4_lend_X1_drawsPassing_n137 : GoodIn wsX4_lend (wsX1_drawsPassing) := ggX4_lend_X1_drawsPassing
set_option maxRecDepth 20000 in
theorem ggX4_lend_X1_draws : GoodIn wsX4_lend wsX1_draws := goodIn_r _ [93, 27, 64, 65, 66, 15, 67, 33, 18, 19, 20, 21, 46, 47, 48, 113, 114, 115, 116, 117, 118, 119] (by decide +kernel) (by decide +kernel)
set_option maxRecDepth 20000 in
theorem gX4_lend_X1_draws_n123 : GoodIn wsX4_lend (wsX1_draws) := ggX4_lend_X1_draws
set_option maxRecDepth 20000 in
theorem ggX4_lend_X4_slipsOf : GoodIn wsX4_lend wsX4_slipsOf := goodIn_r _ [41] (by decide +kernel) (by decide +kernel)
set_option maxRecDepth 20000 in
theorem gX4_lend_X4_slipsOf : GoodIn wsX4_lend (va_wsS RX4 144 yX4_slipsOf wsX4_slipsOf) := goodIn_app (goodIn_of _ (by decide +kernel)) ggX4_lend_X4_slipsOf
set_option maxRecDepth 20000 in
theorem ggX4_lend_X1_setSlips : GoodIn wsX4_lend wsX1_setSlips := goodIn_r _ [44, 28, 27, 45, 46, 47, 15, 48, 113, 114, 115, 116, 117, 118, 119] (by decide +kernel) (by decide +kernel)
set_option maxRecDepth 20000 in
theorem gX4_lend_X1_setSlips_n140 : GoodIn wsX4_lend (wsX1_setSlips) := ggX4_lend_X1_setSlips
set_option maxRecDepth 20000 in
theorem ggX4_lend_X4_isMore : GoodIn wsX4_lend wsX4_isMore := goodIn_r _ [97, 98] (by decide +kernel) (by decide +kernel)
set_option maxRecDepth 20000 in
theorem gX4_lend_X4_isMore : GoodIn wsX4_lend (va_wsS RX4 148 yX4_isMore wsX4_isMore) := goodIn_app (goodIn_of _ (by decide +kernel)) ggX4_lend_X4_isMore
set_option maxRecDepth 20000 in
theorem ggX4_lend_X0_slips : GoodIn wsX4_lend wsX0_slips := goodIn_r _ [37, 38, 39, 40, 6, 41, 99, 100, 101, 102] (by decide +kernel) (by decide +kernel)
set_option maxRecDepth 20000 in
theorem gX4_lend_X0_slips_n89 : GoodIn wsX4_lend (wsX0_slips) := ggX4_lend_X0_slips
theorem dX4_lend_0 : decode cX4_lend 0 = .ok (.aload_n 0, 1) := by decide +kernel
theorem dX4_lend_1 : decode cX4_lend 1 = .ok (.iload_n 1, 1) := by decide +kernel
theorem dX4_lend_2 : decode cX4_lend 2 = .ok (.invokevirtual 72, 3) := by decide +kernel
theorem dX4_lend_5 : decode cX4_lend 5 = .ok (.astore_n 2, 1) := by decide +kernel
theorem dX4_lend_6 : decode cX4_lend 6 = .ok (.aload_n 2, 1) := by decide +kernel
theorem dX4_lend_7 : decode cX4_lend 7 = .ok (.ifnonnull 5, 3) := by decide +kernel
theorem dX4_lend_10 : decode cX4_lend 10 = .ok (.iconst (-1), 1) := by decide +kernel
theorem dX4_lend_11 : decode cX4_lend 11 = .ok (.ireturn, 1) := by decide +kernel
theorem dX4_lend_12 : decode cX4_lend 12 = .ok (.aload_n 2, 1) := by decide +kernel
theorem dX4_lend_13 : decode cX4_lend 13 = .ok (.getfield 79, 3) := by decide +kernel
theorem dX4_lend_16 : decode cX4_lend 16 = .ok (.iconst 2, 1) := by decide +kernel
theorem dX4_lend_17 : decode cX4_lend 17 = .ok (.if_icmp .ge 6, 3) := by decide +kernel
theorem dX4_lend_20 : decode cX4_lend 20 = .ok (.bipush (-3), 2) := by decide +kernel
theorem dX4_lend_22 : decode cX4_lend 22 = .ok (.ireturn, 1) := by decide +kernel
theorem dX4_lend_23 : decode cX4_lend 23 = .ok (.aload_n 0, 1) := by decide +kernel
theorem dX4_lend_24 : decode cX4_lend 24 = .ok (.invokevirtual 108, 3) := by decide +kernel
theorem dX4_lend_27 : decode cX4_lend 27 = .ok (.aload_n 0, 1) := by decide +kernel
theorem dX4_lend_28 : decode cX4_lend 28 = .ok (.getfield 30, 3) := by decide +kernel
theorem dX4_lend_31 : decode cX4_lend 31 = .ok (.invokevirtual 137, 3) := by decide +kernel
theorem dX4_lend_34 : decode cX4_lend 34 = .ok (.lstore_n 3, 1) := by decide +kernel
theorem dX4_lend_35 : decode cX4_lend 35 = .ok (.aload_n 0, 1) := by decide +kernel
theorem dX4_lend_36 : decode cX4_lend 36 = .ok (.getfield 30, 3) := by decide +kernel
theorem dX4_lend_39 : decode cX4_lend 39 = .ok (.invokevirtual 123, 3) := by decide +kernel
theorem dX4_lend_42 : decode cX4_lend 42 = .ok (.lstore 5, 2) := by decide +kernel
theorem dX4_lend_44 : decode cX4_lend 44 = .ok (.bipush (-9), 2) := by decide +kernel
theorem dX4_lend_46 : decode cX4_lend 46 = .ok (.istore 7, 2) := by decide +kernel
theorem dX4_lend_48 : decode cX4_lend 48 = .ok (.aload_n 0, 1) := by decide +kernel
theorem dX4_lend_49 : decode cX4_lend 49 = .ok (.getfield 30, 3) := by decide +kernel
theorem dX4_lend_52 : decode cX4_lend 52 = .ok (.iload_n 1, 1) := by decide +kernel
theorem dX4_lend_53 : decode cX4_lend 53 = .ok (.aload_n 2, 1) := by decide +kernel
theorem dX4_lend_54 : decode cX4_lend 54 = .ok (.getfield 76, 3) := by decide +kernel
theorem dX4_lend_57 : decode cX4_lend 57 = .ok (.aload_n 2, 1) := by decide +kernel
theorem dX4_lend_58 : decode cX4_lend 58 = .ok (.getfield 79, 3) := by decide +kernel
theorem dX4_lend_61 : decode cX4_lend 61 = .ok (.iconst 1, 1) := by decide +kernel
theorem dX4_lend_62 : decode cX4_lend 62 = .ok (.isub, 1) := by decide +kernel
theorem dX4_lend_63 : decode cX4_lend 63 = .ok (.invokestatic 144, 3) := by decide +kernel
theorem dX4_lend_66 : decode cX4_lend 66 = .ok (.invokevirtual 140, 3) := by decide +kernel
theorem dX4_lend_69 : decode cX4_lend 69 = .ok (.iconst 0, 1) := by decide +kernel
theorem dX4_lend_70 : decode cX4_lend 70 = .ok (.istore 8, 2) := by decide +kernel
theorem dX4_lend_72 : decode cX4_lend 72 = .ok (.iload 8, 2) := by decide +kernel
theorem dX4_lend_74 : decode cX4_lend 74 = .ok (.aload_n 0, 1) := by decide +kernel
theorem dX4_lend_75 : decode cX4_lend 75 = .ok (.getfield 69, 3) := by decide +kernel
theorem dX4_lend_78 : decode cX4_lend 78 = .ok (.if_icmp .ge 111, 3) := by decide +kernel
theorem dX4_lend_81 : decode cX4_lend 81 = .ok (.aload_n 0, 1) := by decide +kernel
theorem dX4_lend_82 : decode cX4_lend 82 = .ok (.iload 8, 2) := by decide +kernel
theorem dX4_lend_84 : decode cX4_lend 84 = .ok (.invokevirtual 72, 3) := by decide +kernel
theorem dX4_lend_87 : decode cX4_lend 87 = .ok (.astore 9, 2) := by decide +kernel
theorem dX4_lend_89 : decode cX4_lend 89 = .ok (.iload 8, 2) := by decide +kernel
theorem dX4_lend_91 : decode cX4_lend 91 = .ok (.iload_n 1, 1) := by decide +kernel
theorem dX4_lend_92 : decode cX4_lend 92 = .ok (.if_icmp .eq 91, 3) := by decide +kernel
theorem dX4_lend_95 : decode cX4_lend 95 = .ok (.aload 9, 2) := by decide +kernel
theorem dX4_lend_97 : decode cX4_lend 97 = .ok (.ifnonnull 6, 3) := by decide +kernel
theorem dX4_lend_100 : decode cX4_lend 100 = .ok (.goto 83, 3) := by decide +kernel
theorem dX4_lend_103 : decode cX4_lend 103 = .ok (.aload_n 0, 1) := by decide +kernel
theorem dX4_lend_104 : decode cX4_lend 104 = .ok (.getfield 30, 3) := by decide +kernel
theorem dX4_lend_107 : decode cX4_lend 107 = .ok (.iload 8, 2) := by decide +kernel
theorem dX4_lend_109 : decode cX4_lend 109 = .ok (.aload 9, 2) := by decide +kernel
theorem dX4_lend_111 : decode cX4_lend 111 = .ok (.getfield 76, 3) := by decide +kernel
theorem dX4_lend_114 : decode cX4_lend 114 = .ok (.aload 9, 2) := by decide +kernel
theorem dX4_lend_116 : decode cX4_lend 116 = .ok (.getfield 79, 3) := by decide +kernel
theorem dX4_lend_119 : decode cX4_lend 119 = .ok (.iconst 1, 1) := by decide +kernel
theorem dX4_lend_120 : decode cX4_lend 120 = .ok (.iadd, 1) := by decide +kernel
theorem dX4_lend_121 : decode cX4_lend 121 = .ok (.invokestatic 144, 3) := by decide +kernel
theorem dX4_lend_124 : decode cX4_lend 124 = .ok (.invokevirtual 140, 3) := by decide +kernel
theorem dX4_lend_127 : decode cX4_lend 127 = .ok (.aload_n 0, 1) := by decide +kernel
theorem dX4_lend_128 : decode cX4_lend 128 = .ok (.getfield 30, 3) := by decide +kernel
theorem dX4_lend_131 : decode cX4_lend 131 = .ok (.invokevirtual 137, 3) := by decide +kernel
theorem dX4_lend_134 : decode cX4_lend 134 = .ok (.lstore 10, 2) := by decide +kernel
theorem dX4_lend_136 : decode cX4_lend 136 = .ok (.aload_n 0, 1) := by decide +kernel
theorem dX4_lend_137 : decode cX4_lend 137 = .ok (.getfield 30, 3) := by decide +kernel
theorem dX4_lend_140 : decode cX4_lend 140 = .ok (.invokevirtual 123, 3) := by decide +kernel
theorem dX4_lend_143 : decode cX4_lend 143 = .ok (.lstore 12, 2) := by decide +kernel
theorem dX4_lend_145 : decode cX4_lend 145 = .ok (.lload 10, 2) := by decide +kernel
theorem dX4_lend_147 : decode cX4_lend 147 = .ok (.lload 12, 2) := by decide +kernel
theorem dX4_lend_149 : decode cX4_lend 149 = .ok (.lload_n 3, 1) := by decide +kernel
theorem dX4_lend_150 : decode cX4_lend 150 = .ok (.lload 5, 2) := by decide +kernel
theorem dX4_lend_152 : decode cX4_lend 152 = .ok (.invokestatic 148, 3) := by decide +kernel
theorem dX4_lend_155 : decode cX4_lend 155 = .ok (.ifCond .eq 14, 3) := by decide +kernel
theorem dX4_lend_158 : decode cX4_lend 158 = .ok (.lload 10, 2) := by decide +kernel
theorem dX4_lend_160 : decode cX4_lend 160 = .ok (.lstore_n 3, 1) := by decide +kernel
theorem dX4_lend_161 : decode cX4_lend 161 = .ok (.lload 12, 2) := by decide +kernel
theorem dX4_lend_163 : decode cX4_lend 163 = .ok (.lstore 5, 2) := by decide +kernel
theorem dX4_lend_165 : decode cX4_lend 165 = .ok (.iload 8, 2) := by decide +kernel
theorem dX4_lend_167 : decode cX4_lend 167 = .ok (.istore 7, 2) := by decide +kernel
theorem dX4_lend_169 : decode cX4_lend 169 = .ok (.aload_n 0, 1) := by decide +kernel
theorem dX4_lend_170 : decode cX4_lend 170 = .ok (.getfield 30, 3) := by decide +kernel
theorem dX4_lend_173 : decode cX4_lend 173 = .ok (.iload 8, 2) := by decide +kernel
theorem dX4_lend_175 : decode cX4_lend 175 = .ok (.aload 9, 2) := by decide +kernel
theorem dX4_lend_177 : decode cX4_lend 177 = .ok (.invokevirtual 89, 3) := by decide +kernel
theorem dX4_lend_180 : decode cX4_lend 180 = .ok (.invokevirtual 140, 3) := by decide +kernel
theorem dX4_lend_183 : decode cX4_lend 183 = .ok (.iinc 8 1, 3) := by decide +kernel
theorem dX4_lend_186 : decode cX4_lend 186 = .ok (.goto (-114), 3) := by decide +kernel
theorem dX4_lend_189 : decode cX4_lend 189 = .ok (.iload 7, 2) := by decide +kernel
theorem dX4_lend_191 : decode cX4_lend 191 = .ok (.ireturn, 1) := by decide +kernel
