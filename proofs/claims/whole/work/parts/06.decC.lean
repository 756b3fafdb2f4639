set_option maxRecDepth 20000 in
theorem ggX4_least_X4_fillDrum : GoodIn wsX4_least wsX4_fillDrum := goodIn_r _ [8, 2, 1, 9, 10, 11, 12, 13, 14, 15, 16, 17, 18, 19, 20, 21, 22, 23, 24, 25, 26, 27, 28, 29, 30, 31, 32, 7, 33, 34, 35, 36, 37, 38, 39, 40, 41, 42, 43, 44, 45, 46, 47, 48, 49, 50, 51, 52, 101, 102, 103, 104, 105, 106, 107, 108, 109, 110, 111, 112, 113, 114, 115, 116, 117, 118, 119, 120, 121] (by decide +kernel) (by decide +kernel)
set_option maxRecDepth 20000 in
theorem gX4_least_X4_fillDrum : GoodIn wsX4_least (wsV RX4 108 RX4 yX4_fillDrum wsX4_fillDrum) := goodIn_app (goodIn_of _ (by decide +kernel)) ggX4_least_X4_fillDrum
set_option maxRecDepth 20000 in
theorem ggX4_least_X1_passesByHalf : GoodIn wsX4_least wsX1_passesByHalf := goodIn_r _ [55, 56, 57, 58, 59, 11, 60, 61, 62, 63, 64, 21, 65, 66, 67, 68, 69, 70, 71, 72, 73, 29, 23, 14, 15, 16, 17, 74, 75, 76, 77, 78, 79, 80, 81, 82, 83, 84, 46, 85, 86, 87, 88, 89, 90, 91, 92, 22, 93, 94, 95, 96, 97, 98, 99, 100, 47, 48, 49, 115, 116, 117, 118, 119, 120, 121] (by decide +kernel) (by decide +kernel)
set_option maxRecDepth 20000 in
theorem gX4_least_X1_passesByHalf_n152 : GoodIn wsX4_least (wsX1_passesByHalf) := ggX4_least_X1_passesByHalf
set_option maxRecDepth 20000 in
theorem ggX4_least_X4_citizen : GoodIn wsX4_least wsX4_citizen := goodIn_r _ [33, 1, 34, 101, 102, 103, 104, 105, 106, 107, 108, 109, 110] (by decide +kernel) (by decide +kernel)
set_option maxRecDepth 20000 in
theorem gX4_least_X4_citizen : GoodIn wsX4_least (wsV RX4 72 RX4 yX4_citizen wsX4_citizen) := goodIn_app (goodIn_of _ (by decide +kernel)) ggX4_least_X4_citizen
set_option maxRecDepth 20000 in
theorem ggX4_least_X1_setWishes : GoodIn wsX4_least wsX1_setWishes := goodIn_r _ [52, 22, 115, 116, 117, 118, 119, 120, 121] (by decide +kernel) (by decide +kernel)
set_option maxRecDepth 20000 in
theorem gX4_least_X1_setWishes_n156 : GoodIn wsX4_least (wsX1_setWishes) := ggX4_least_X1_setWishes
theorem dX4_least_0 : decode cX4_least 0 = .ok (.iload_n 1, 1) := by decide +kernel
theorem dX4_least_1 : decode cX4_least 1 = .ok (.ifCond .lt 8, 3) := by decide +kernel
theorem dX4_least_4 : decode cX4_least 4 = .ok (.iload_n 1, 1) := by decide +kernel
theorem dX4_least_5 : decode cX4_least 5 = .ok (.iconst 1, 1) := by decide +kernel
theorem dX4_least_6 : decode cX4_least 6 = .ok (.if_icmp .le 6, 3) := by decide +kernel
theorem dX4_least_9 : decode cX4_least 9 = .ok (.bipush (-2), 2) := by decide +kernel
theorem dX4_least_11 : decode cX4_least 11 = .ok (.ireturn, 1) := by decide +kernel
theorem dX4_least_12 : decode cX4_least 12 = .ok (.aload_n 0, 1) := by decide +kernel
theorem dX4_least_13 : decode cX4_least 13 = .ok (.getfield 69, 3) := by decide +kernel
theorem dX4_least_16 : decode cX4_least 16 = .ok (.ifCond .ne 6, 3) := by decide +kernel
theorem dX4_least_19 : decode cX4_least 19 = .ok (.bipush (-3), 2) := by decide +kernel
theorem dX4_least_21 : decode cX4_least 21 = .ok (.ireturn, 1) := by decide +kernel
theorem dX4_least_22 : decode cX4_least 22 = .ok (.aload_n 0, 1) := by decide +kernel
theorem dX4_least_23 : decode cX4_least 23 = .ok (.invokevirtual 108, 3) := by decide +kernel
theorem dX4_least_26 : decode cX4_least 26 = .ok (.aload_n 0, 1) := by decide +kernel
theorem dX4_least_27 : decode cX4_least 27 = .ok (.getfield 30, 3) := by decide +kernel
theorem dX4_least_30 : decode cX4_least 30 = .ok (.invokevirtual 152, 3) := by decide +kernel
theorem dX4_least_33 : decode cX4_least 33 = .ok (.ifCond .eq 14, 3) := by decide +kernel
theorem dX4_least_36 : decode cX4_least 36 = .ok (.iload_n 1, 1) := by decide +kernel
theorem dX4_least_37 : decode cX4_least 37 = .ok (.ifCond .ne 7, 3) := by decide +kernel
theorem dX4_least_40 : decode cX4_least 40 = .ok (.iconst 0, 1) := by decide +kernel
theorem dX4_least_41 : decode cX4_least 41 = .ok (.goto 5, 3) := by decide +kernel
theorem dX4_least_44 : decode cX4_least 44 = .ok (.bipush (-9), 2) := by decide +kernel
theorem dX4_least_46 : decode cX4_least 46 = .ok (.ireturn, 1) := by decide +kernel
theorem dX4_least_47 : decode cX4_least 47 = .ok (.bipush (-9), 2) := by decide +kernel
theorem dX4_least_49 : decode cX4_least 49 = .ok (.istore_n 2, 1) := by decide +kernel
theorem dX4_least_50 : decode cX4_least 50 = .ok (.bipush (-9), 2) := by decide +kernel
theorem dX4_least_52 : decode cX4_least 52 = .ok (.istore_n 3, 1) := by decide +kernel
theorem dX4_least_53 : decode cX4_least 53 = .ok (.iconst 0, 1) := by decide +kernel
theorem dX4_least_54 : decode cX4_least 54 = .ok (.istore 4, 2) := by decide +kernel
theorem dX4_least_56 : decode cX4_least 56 = .ok (.iload 4, 2) := by decide +kernel
theorem dX4_least_58 : decode cX4_least 58 = .ok (.aload_n 0, 1) := by decide +kernel
theorem dX4_least_59 : decode cX4_least 59 = .ok (.getfield 69, 3) := by decide +kernel
theorem dX4_least_62 : decode cX4_least 62 = .ok (.if_icmp .ge 99, 3) := by decide +kernel
theorem dX4_least_65 : decode cX4_least 65 = .ok (.aload_n 0, 1) := by decide +kernel
theorem dX4_least_66 : decode cX4_least 66 = .ok (.iload 4, 2) := by decide +kernel
theorem dX4_least_68 : decode cX4_least 68 = .ok (.invokevirtual 72, 3) := by decide +kernel
theorem dX4_least_71 : decode cX4_least 71 = .ok (.astore 5, 2) := by decide +kernel
theorem dX4_least_73 : decode cX4_least 73 = .ok (.aload 5, 2) := by decide +kernel
theorem dX4_least_75 : decode cX4_least 75 = .ok (.ifnull 80, 3) := by decide +kernel
theorem dX4_least_78 : decode cX4_least 78 = .ok (.aload 5, 2) := by decide +kernel
theorem dX4_least_80 : decode cX4_least 80 = .ok (.getfield 85, 3) := by decide +kernel
theorem dX4_least_83 : decode cX4_least 83 = .ok (.ifCond .eq 6, 3) := by decide +kernel
theorem dX4_least_86 : decode cX4_least 86 = .ok (.goto 69, 3) := by decide +kernel
theorem dX4_least_89 : decode cX4_least 89 = .ok (.aload 5, 2) := by decide +kernel
theorem dX4_least_91 : decode cX4_least 91 = .ok (.getfield 82, 3) := by decide +kernel
theorem dX4_least_94 : decode cX4_least 94 = .ok (.aload_n 0, 1) := by decide +kernel
theorem dX4_least_95 : decode cX4_least 95 = .ok (.getfield 99, 3) := by decide +kernel
theorem dX4_least_98 : decode cX4_least 98 = .ok (.aload 5, 2) := by decide +kernel
theorem dX4_least_100 : decode cX4_least 100 = .ok (.getfield 79, 3) := by decide +kernel
theorem dX4_least_103 : decode cX4_least 103 = .ok (.imul, 1) := by decide +kernel
theorem dX4_least_104 : decode cX4_least 104 = .ok (.iadd, 1) := by decide +kernel
theorem dX4_least_105 : decode cX4_least 105 = .ok (.istore 6, 2) := by decide +kernel
theorem dX4_least_107 : decode cX4_least 107 = .ok (.aload_n 0, 1) := by decide +kernel
theorem dX4_least_108 : decode cX4_least 108 = .ok (.getfield 30, 3) := by decide +kernel
theorem dX4_least_111 : decode cX4_least 111 = .ok (.iload 4, 2) := by decide +kernel
theorem dX4_least_113 : decode cX4_least 113 = .ok (.iconst 1, 1) := by decide +kernel
theorem dX4_least_114 : decode cX4_least 114 = .ok (.invokevirtual 156, 3) := by decide +kernel
theorem dX4_least_117 : decode cX4_least 117 = .ok (.aload_n 0, 1) := by decide +kernel
theorem dX4_least_118 : decode cX4_least 118 = .ok (.getfield 30, 3) := by decide +kernel
theorem dX4_least_121 : decode cX4_least 121 = .ok (.invokevirtual 152, 3) := by decide +kernel
theorem dX4_least_124 : decode cX4_least 124 = .ok (.ifCond .eq 21, 3) := by decide +kernel
theorem dX4_least_127 : decode cX4_least 127 = .ok (.iload_n 3, 1) := by decide +kernel
theorem dX4_least_128 : decode cX4_least 128 = .ok (.bipush (-9), 2) := by decide +kernel
theorem dX4_least_130 : decode cX4_least 130 = .ok (.if_icmp .eq 9, 3) := by decide +kernel
theorem dX4_least_133 : decode cX4_least 133 = .ok (.iload 6, 2) := by decide +kernel
theorem dX4_least_135 : decode cX4_least 135 = .ok (.iload_n 2, 1) := by decide +kernel
theorem dX4_least_136 : decode cX4_least 136 = .ok (.if_icmp .ge 9, 3) := by decide +kernel
theorem dX4_least_139 : decode cX4_least 139 = .ok (.iload 6, 2) := by decide +kernel
theorem dX4_least_141 : decode cX4_least 141 = .ok (.istore_n 2, 1) := by decide +kernel
theorem dX4_least_142 : decode cX4_least 142 = .ok (.iload 4, 2) := by decide +kernel
theorem dX4_least_144 : decode cX4_least 144 = .ok (.istore_n 3, 1) := by decide +kernel
theorem dX4_least_145 : decode cX4_least 145 = .ok (.aload_n 0, 1) := by decide +kernel
theorem dX4_least_146 : decode cX4_least 146 = .ok (.getfield 30, 3) := by decide +kernel
theorem dX4_least_149 : decode cX4_least 149 = .ok (.iload 4, 2) := by decide +kernel
theorem dX4_least_151 : decode cX4_least 151 = .ok (.iconst 0, 1) := by decide +kernel
theorem dX4_least_152 : decode cX4_least 152 = .ok (.invokevirtual 156, 3) := by decide +kernel
theorem dX4_least_155 : decode cX4_least 155 = .ok (.iinc 4 1, 3) := by decide +kernel
theorem dX4_least_158 : decode cX4_least 158 = .ok (.goto (-102), 3) := by decide +kernel
theorem dX4_least_161 : decode cX4_least 161 = .ok (.iload_n 1, 1) := by decide +kernel
theorem dX4_least_162 : decode cX4_least 162 = .ok (.ifCond .ne 7, 3) := by decide +kernel
theorem dX4_least_165 : decode cX4_least 165 = .ok (.iload_n 2, 1) := by decide +kernel
theorem dX4_least_166 : decode cX4_least 166 = .ok (.goto 4, 3) := by decide +kernel
theorem dX4_least_169 : decode cX4_least 169 = .ok (.iload_n 3, 1) := by decide +kernel
theorem dX4_least_170 : decode cX4_least 170 = .ok (.ireturn, 1) := by decide +kernel
set_option maxRecDepth 20000 in
theorem ggX4_reading_X4_isSet : GoodIn wsX4_reading wsX4_isSet := goodIn_r _ [8, 1, 9, 10, 11, 12, 13, 14, 15, 16, 17, 18] (by decide +kernel) (by decide +kernel)
set_option maxRecDepth 20000 in
theorem gX4_reading_X4_isSet : GoodIn wsX4_reading (wsV RX4 131 RX4 yX4_isSet wsX4_isSet) := goodIn_app (goodIn_of _ (by decide +kernel)) ggX4_reading_X4_isSet
theorem dX4_reading_0 : decode cX4_reading 0 = .ok (.aload_n 0, 1) := by decide +kernel
theorem dX4_reading_1 : decode cX4_reading 1 = .ok (.getfield 69, 3) := by decide +kernel
theorem dX4_reading_4 : decode cX4_reading 4 = .ok (.ifCond .ne 6, 3) := by decide +kernel
theorem dX4_reading_7 : decode cX4_reading 7 = .ok (.bipush (-3), 2) := by decide +kernel
theorem dX4_reading_9 : decode cX4_reading 9 = .ok (.ireturn, 1) := by decide +kernel
theorem dX4_reading_10 : decode cX4_reading 10 = .ok (.aload_n 0, 1) := by decide +kernel
theorem dX4_reading_11 : decode cX4_reading 11 = .ok (.iload_n 1, 1) := by decide +kernel
theorem dX4_reading_12 : decode cX4_reading 12 = .ok (.invokevirtual 131, 3) := by decide +kernel
theorem dX4_reading_15 : decode cX4_reading 15 = .ok (.ifCond .ne 6, 3) := by decide +kernel
theorem dX4_reading_18 : decode cX4_reading 18 = .ok (.bipush (-2), 2) := by decide +kernel
theorem dX4_reading_20 : decode cX4_reading 20 = .ok (.ireturn, 1) := by decide +kernel
theorem dX4_reading_21 : decode cX4_reading 21 = .ok (.aload_n 0, 1) := by decide +kernel
theorem dX4_reading_22 : decode cX4_reading 22 = .ok (.getfield 160, 3) := by decide +kernel
theorem dX4_reading_25 : decode cX4_reading 25 = .ok (.ifCond .lt 15, 3) := by decide +kernel
theorem dX4_reading_28 : decode cX4_reading 28 = .ok (.aload_n 0, 1) := by decide +kernel
theorem dX4_reading_29 : decode cX4_reading 29 = .ok (.getfield 160, 3) := by decide +kernel
theorem dX4_reading_32 : decode cX4_reading 32 = .ok (.aload_n 0, 1) := by decide +kernel
theorem dX4_reading_33 : decode cX4_reading 33 = .ok (.getfield 17, 3) := by decide +kernel
theorem dX4_reading_36 : decode cX4_reading 36 = .ok (.arraylength, 1) := by decide +kernel
theorem dX4_reading_37 : decode cX4_reading 37 = .ok (.if_icmp .lt 6, 3) := by decide +kernel
theorem dX4_reading_40 : decode cX4_reading 40 = .ok (.bipush (-4), 2) := by decide +kernel
theorem dX4_reading_42 : decode cX4_reading 42 = .ok (.ireturn, 1) := by decide +kernel
theorem dX4_reading_43 : decode cX4_reading 43 = .ok (.aload_n 0, 1) := by decide +kernel
theorem dX4_reading_44 : decode cX4_reading 44 = .ok (.getfield 17, 3) := by decide +kernel
theorem dX4_reading_47 : decode cX4_reading 47 = .ok (.aload_n 0, 1) := by decide +kernel
theorem dX4_reading_48 : decode cX4_reading 48 = .ok (.getfield 160, 3) := by decide +kernel
theorem dX4_reading_51 : decode cX4_reading 51 = .ok (.iload_n 1, 1) := by decide +kernel
theorem dX4_reading_52 : decode cX4_reading 52 = .ok (.iastore, 1) := by decide +kernel
theorem dX4_reading_53 : decode cX4_reading 53 = .ok (.aload_n 0, 1) := by decide +kernel
theorem dX4_reading_54 : decode cX4_reading 54 = .ok (.dup, 1) := by decide +kernel
theorem dX4_reading_55 : decode cX4_reading 55 = .ok (.getfield 160, 3) := by decide +kernel
theorem dX4_reading_58 : decode cX4_reading 58 = .ok (.iconst 1, 1) := by decide +kernel
theorem dX4_reading_59 : decode cX4_reading 59 = .ok (.iadd, 1) := by decide +kernel
theorem dX4_reading_60 : decode cX4_reading 60 = .ok (.putfield 160, 3) := by decide +kernel
theorem dX4_reading_63 : decode cX4_reading 63 = .ok (.aload_n 0, 1) := by decide +kernel
theorem dX4_reading_64 : decode cX4_reading 64 = .ok (.getfield 160, 3) := by decide +kernel
theorem dX4_reading_67 : decode cX4_reading 67 = .ok (.iconst 1, 1) := by decide +kernel
theorem dX4_reading_68 : decode cX4_reading 68 = .ok (.isub, 1) := by decide +kernel
theorem dX4_reading_69 : decode cX4_reading 69 = .ok (.ireturn, 1) := by decide +kernel
theorem dX4_back_0 : decode cX4_back 0 = .ok (.iload_n 1, 1) := by decide +kernel
theorem dX4_back_1 : decode cX4_back 1 = .ok (.ifCond .lt 11, 3) := by decide +kernel
theorem dX4_back_4 : decode cX4_back 4 = .ok (.iload_n 1, 1) := by decide +kernel
theorem dX4_back_5 : decode cX4_back 5 = .ok (.aload_n 0, 1) := by decide +kernel
theorem dX4_back_6 : decode cX4_back 6 = .ok (.getfield 160, 3) := by decide +kernel
theorem dX4_back_9 : decode cX4_back 9 = .ok (.if_icmp .le 6, 3) := by decide +kernel
theorem dX4_back_12 : decode cX4_back 12 = .ok (.bipush (-2), 2) := by decide +kernel
theorem dX4_back_14 : decode cX4_back 14 = .ok (.ireturn, 1) := by decide +kernel
theorem dX4_back_15 : decode cX4_back 15 = .ok (.aload_n 0, 1) := by decide +kernel
theorem dX4_back_16 : decode cX4_back 16 = .ok (.dup, 1) := by decide +kernel
theorem dX4_back_17 : decode cX4_back 17 = .ok (.getfield 160, 3) := by decide +kernel
theorem dX4_back_20 : decode cX4_back 20 = .ok (.iload_n 1, 1) := by decide +kernel
theorem dX4_back_21 : decode cX4_back 21 = .ok (.isub, 1) := by decide +kernel
theorem dX4_back_22 : decode cX4_back 22 = .ok (.putfield 160, 3) := by decide +kernel
theorem dX4_back_25 : decode cX4_back 25 = .ok (.aload_n 0, 1) := by decide +kernel
theorem dX4_back_26 : decode cX4_back 26 = .ok (.getfield 160, 3) := by decide +kernel
theorem dX4_back_29 : decode cX4_back 29 = .ok (.ireturn, 1) := by decide +kernel
set_option maxRecDepth 20000 in
theorem ggX4_tickets_X4_citizen : GoodIn wsX4_tickets wsX4_citizen := goodIn_r _ [6, 7, 8, 81, 82, 83, 84, 85, 86, 87, 88, 89, 90] (by decide +kernel) (by decide +kernel)
set_option maxRecDepth 20000 in
theorem gX4_tickets_X4_citizen : GoodIn wsX4_tickets (wsV RX4 72 RX4 yX4_citizen wsX4_citizen) := goodIn_app (goodIn_of _ (by decide +kernel)) ggX4_tickets_X4_citizen
set_option maxRecDepth 20000 in
theorem ggX4_tickets_X4_fillDrum : GoodIn wsX4_tickets wsX4_fillDrum := goodIn_r _ [12, 1, 7, 13, 14, 15, 16, 17, 18, 19, 20, 21, 22, 23, 24, 25, 26, 27, 28, 29, 30, 31, 32, 33, 2, 3, 4, 5, 6, 8, 34, 35, 36, 37, 38, 39, 40, 41, 42, 43, 44, 45, 46, 47, 48, 49, 50, 51, 81, 82, 83, 84, 85, 86, 87, 88, 89, 90, 91, 92, 93, 94, 95, 96, 97, 98, 99, 100, 101] (by decide +kernel) (by decide +kernel)
set_option maxRecDepth 20000 in
theorem gX4_tickets_X4_fillDrum : GoodIn wsX4_tickets (wsV RX4 108 RX4 yX4_fillDrum wsX4_fillDrum) := goodIn_app (goodIn_of _ (by decide +kernel)) ggX4_tickets_X4_fillDrum
set_option maxRecDepth 20000 in
theorem ggX4_tickets_X4_slipsOf : GoodIn wsX4_tickets wsX4_slipsOf := goodIn_r _ [41] (by decide +kernel) (by decide +kernel)
set_option maxRecDepth 20000 in
theorem gX4_tickets_X4_slipsOf : GoodIn wsX4_tickets (va_wsS RX4 144 yX4_slipsOf wsX4_slipsOf) := goodIn_app (goodIn_of _ (by decide +kernel)) ggX4_tickets_X4_slipsOf
set_option maxRecDepth 20000 in
theorem ggX4_tickets_X1_setSlips : GoodIn wsX4_tickets wsX1_setSlips := goodIn_r _ [44, 28, 27, 45, 46, 47, 15, 48, 95, 96, 97, 98, 99, 100, 101] (by decide +kernel) (by decide +kernel)
set_option maxRecDepth 20000 in
theorem gX4_tickets_X1_setSlips_n140 : GoodIn wsX4_tickets (wsX1_setSlips) := ggX4_tickets_X1_setSlips
set_option maxRecDepth 20000 in
theorem ggX4_tickets_X4_allReadingsCanBe : GoodIn wsX4_tickets wsX4_allReadingsCanBe := goodIn_r _ [56, 57, 58, 1, 59, 15, 60, 61, 25, 62, 63, 64, 65, 66, 67, 68, 69, 28, 70, 71, 72, 73, 74, 75, 76, 77, 78, 79, 80, 33, 27, 18, 19, 20, 21, 81, 82, 83, 84, 85, 86, 87, 88, 89, 90, 95, 96, 97, 98, 99, 100, 101] (by decide +kernel) (by decide +kernel)
set_option maxRecDepth 20000 in
theorem gX4_tickets_X4_allReadingsCanBe : GoodIn wsX4_tickets (wsV RX4 163 RX4 yX4_allReadingsCanBe wsX4_allReadingsCanBe) := goodIn_app (goodIn_of _ (by decide +kernel)) ggX4_tickets_X4_allReadingsCanBe
theorem dX4_tickets_0 : decode cX4_tickets 0 = .ok (.aload_n 0, 1) := by decide +kernel
theorem dX4_tickets_1 : decode cX4_tickets 1 = .ok (.iload_n 1, 1) := by decide +kernel
theorem dX4_tickets_2 : decode cX4_tickets 2 = .ok (.invokevirtual 72, 3) := by decide +kernel
theorem dX4_tickets_5 : decode cX4_tickets 5 = .ok (.astore_n 2, 1) := by decide +kernel
theorem dX4_tickets_6 : decode cX4_tickets 6 = .ok (.aload_n 2, 1) := by decide +kernel
theorem dX4_tickets_7 : decode cX4_tickets 7 = .ok (.ifnonnull 5, 3) := by decide +kernel
theorem dX4_tickets_10 : decode cX4_tickets 10 = .ok (.iconst (-1), 1) := by decide +kernel
theorem dX4_tickets_11 : decode cX4_tickets 11 = .ok (.ireturn, 1) := by decide +kernel
theorem dX4_tickets_12 : decode cX4_tickets 12 = .ok (.aload_n 0, 1) := by decide +kernel
theorem dX4_tickets_13 : decode cX4_tickets 13 = .ok (.invokevirtual 108, 3) := by decide +kernel
theorem dX4_tickets_16 : decode cX4_tickets 16 = .ok (.iconst 0, 1) := by decide +kernel
theorem dX4_tickets_17 : decode cX4_tickets 17 = .ok (.istore_n 3, 1) := by decide +kernel
theorem dX4_tickets_18 : decode cX4_tickets 18 = .ok (.iconst 1, 1) := by decide +kernel
theorem dX4_tickets_19 : decode cX4_tickets 19 = .ok (.istore 4, 2) := by decide +kernel
theorem dX4_tickets_21 : decode cX4_tickets 21 = .ok (.iload 4, 2) := by decide +kernel
theorem dX4_tickets_23 : decode cX4_tickets 23 = .ok (.bipush 9, 2) := by decide +kernel
theorem dX4_tickets_25 : decode cX4_tickets 25 = .ok (.if_icmp .gt 40, 3) := by decide +kernel
theorem dX4_tickets_28 : decode cX4_tickets 28 = .ok (.aload_n 0, 1) := by decide +kernel
theorem dX4_tickets_29 : decode cX4_tickets 29 = .ok (.getfield 30, 3) := by decide +kernel
theorem dX4_tickets_32 : decode cX4_tickets 32 = .ok (.iload_n 1, 1) := by decide +kernel
theorem dX4_tickets_33 : decode cX4_tickets 33 = .ok (.aload_n 2, 1) := by decide +kernel
theorem dX4_tickets_34 : decode cX4_tickets 34 = .ok (.getfield 76, 3) := by decide +kernel
theorem dX4_tickets_37 : decode cX4_tickets 37 = .ok (.iload 4, 2) := by decide +kernel
theorem dX4_tickets_39 : decode cX4_tickets 39 = .ok (.invokestatic 144, 3) := by decide +kernel
theorem dX4_tickets_42 : decode cX4_tickets 42 = .ok (.invokevirtual 140, 3) := by decide +kernel
theorem dX4_tickets_45 : decode cX4_tickets 45 = .ok (.aload_n 0, 1) := by decide +kernel
theorem dX4_tickets_46 : decode cX4_tickets 46 = .ok (.invokevirtual 163, 3) := by decide +kernel
theorem dX4_tickets_49 : decode cX4_tickets 49 = .ok (.ifCond .eq 10, 3) := by decide +kernel
theorem dX4_tickets_52 : decode cX4_tickets 52 = .ok (.iload_n 3, 1) := by decide +kernel
theorem dX4_tickets_53 : decode cX4_tickets 53 = .ok (.iconst 1, 1) := by decide +kernel
theorem dX4_tickets_54 : decode cX4_tickets 54 = .ok (.iload 4, 2) := by decide +kernel
theorem dX4_tickets_56 : decode cX4_tickets 56 = .ok (.ishl, 1) := by decide +kernel
theorem dX4_tickets_57 : decode cX4_tickets 57 = .ok (.ior, 1) := by decide +kernel
theorem dX4_tickets_58 : decode cX4_tickets 58 = .ok (.istore_n 3, 1) := by decide +kernel
theorem dX4_tickets_59 : decode cX4_tickets 59 = .ok (.iinc 4 1, 3) := by decide +kernel
theorem dX4_tickets_62 : decode cX4_tickets 62 = .ok (.goto (-41), 3) := by decide +kernel
theorem dX4_tickets_65 : decode cX4_tickets 65 = .ok (.iload_n 3, 1) := by decide +kernel
theorem dX4_tickets_66 : decode cX4_tickets 66 = .ok (.ireturn, 1) := by decide +kernel
set_option maxRecDepth 20000 in
theorem ggX4_kinds_X4_citizen : GoodIn wsX4_kinds wsX4_citizen := goodIn_r _ [6, 7, 8, 81, 82, 83, 84, 85, 86, 87, 88, 89, 90] (by decide +kernel) (by decide +kernel)
set_option maxRecDepth 20000 in
theorem gX4_kinds_X4_citizen : GoodIn wsX4_kinds (wsV RX4 72 RX4 yX4_citizen wsX4_citizen) := goodIn_app (goodIn_of _ (by decide +kernel)) ggX4_kinds_X4_citizen
set_option maxRecDepth 20000 in
theorem ggX4_kinds_X4_fillDrum : GoodIn wsX4_kinds wsX4_fillDrum := goodIn_r _ [12, 1, 7, 13, 14, 15, 16, 17, 18, 19, 20, 21, 22, 23, 24, 25, 26, 27, 28, 29, 30, 31, 32, 33, 2, 3, 4, 5, 6, 8, 34, 35, 36, 37, 38, 39, 40, 41, 42, 43, 44, 45, 46, 47, 48, 49, 50, 51, 81, 82, 83, 84, 85, 86, 87, 88, 89, 90, 91, 92, 93, 94, 95, 96, 97, 98, 99, 100, 101] (by decide +kernel) (by decide +kernel)
set_option maxRecDepth 20000 in
theorem gX4_kinds_X4_fillDrum : GoodIn wsX4_kinds (wsV RX4 108 RX4 yX4_fillDrum wsX4_fillDrum) := goodIn_app (goodIn_of _ (by decide +kernel)) ggX4_kinds_X4_fillDrum
set_option maxRecDepth 20000 in
theorem ggX4_kinds_X4_slipsOf : GoodIn wsX4_kinds wsX4_slipsOf := goodIn_r _ [41] (by decide +kernel) (by decide +kernel)
set_option maxRecDepth 20000 in
theorem gX4_kinds_X4_slipsOf : GoodIn wsX4_kinds (va_wsS RX4 144 yX4_slipsOf wsX4_slipsOf) := goodIn_app (goodIn_of _ (by decide +kernel)) ggX4_kinds_X4_slipsOf
set_option maxRecDepth 20000 in
theorem ggX4_kinds_X1_setSlips : GoodIn wsX4_kinds wsX1_setSlips := goodIn_r _ [44, 28, 27, 45, 46, 47, 15, 48, 95, 96, 97, 98, 99, 100, 101] (by decide +kernel) (by decide +kernel)
set_option maxRecDepth 20000 in
theorem gX4_kinds_X1_setSlips_n140 : GoodIn wsX4_kinds (wsX1_setSlips) := ggX4_kinds_X1_setSlips
set_option maxRecDepth 20000 in
theorem ggX4_kinds_X4_allReadingsCanBe : GoodIn wsX4_kinds wsX4_allReadingsCanBe := goodIn_r _ [56, 57, 58, 1, 59, 15, 60, 61, 25, 62, 63, 64, 65, 66, 67, 68, 69, 28, 70, 71, 72, 73, 74, 75, 76, 77, 78, 79, 80, 33, 27, 18, 19, 20, 21, 81, 82, 83, 84, 85, 86, 87, 88, 89, 90, 95, 96, 97, 98, 99, 100, 101] (by decide +kernel) (by decide +kernel)
set_option maxRecDepth 20000 in
theorem gX4_kinds_X4_allReadingsCanBe : GoodIn wsX4_kinds (wsV RX4 163 RX4 yX4_allReadingsCanBe wsX4_allReadingsCanBe) := goodIn_app (goodIn_of _ (by decide +kernel)) ggX4_kinds_X4_allReadingsCanBe
theorem dX4_kinds_0 : decode cX4_kinds 0 = .ok (.aload_n 0, 1) := by decide +kernel
theorem dX4_kinds_1 : decode cX4_kinds 1 = .ok (.iload_n 1, 1) := by decide +kernel
theorem dX4_kinds_2 : decode cX4_kinds 2 = .ok (.invokevirtual 72, 3) := by decide +kernel
theorem dX4_kinds_5 : decode cX4_kinds 5 = .ok (.astore_n 2, 1) := by decide +kernel
theorem dX4_kinds_6 : decode cX4_kinds 6 = .ok (.aload_n 2, 1) := by decide +kernel
theorem dX4_kinds_7 : decode cX4_kinds 7 = .ok (.ifnonnull 5, 3) := by decide +kernel
theorem dX4_kinds_10 : decode cX4_kinds 10 = .ok (.iconst (-1), 1) := by decide +kernel
theorem dX4_kinds_11 : decode cX4_kinds 11 = .ok (.ireturn, 1) := by decide +kernel
theorem dX4_kinds_12 : decode cX4_kinds 12 = .ok (.aload_n 0, 1) := by decide +kernel
theorem dX4_kinds_13 : decode cX4_kinds 13 = .ok (.invokevirtual 108, 3) := by decide +kernel
theorem dX4_kinds_16 : decode cX4_kinds 16 = .ok (.iconst 0, 1) := by decide +kernel
theorem dX4_kinds_17 : decode cX4_kinds 17 = .ok (.istore_n 3, 1) := by decide +kernel
theorem dX4_kinds_18 : decode cX4_kinds 18 = .ok (.iconst 0, 1) := by decide +kernel
theorem dX4_kinds_19 : decode cX4_kinds 19 = .ok (.istore 4, 2) := by decide +kernel
theorem dX4_kinds_21 : decode cX4_kinds 21 = .ok (.iload 4, 2) := by decide +kernel
theorem dX4_kinds_23 : decode cX4_kinds 23 = .ok (.iconst 2, 1) := by decide +kernel
theorem dX4_kinds_24 : decode cX4_kinds 24 = .ok (.if_icmp .gt 40, 3) := by decide +kernel
theorem dX4_kinds_27 : decode cX4_kinds 27 = .ok (.aload_n 0, 1) := by decide +kernel
theorem dX4_kinds_28 : decode cX4_kinds 28 = .ok (.getfield 30, 3) := by decide +kernel
theorem dX4_kinds_31 : decode cX4_kinds 31 = .ok (.iload_n 1, 1) := by decide +kernel
theorem dX4_kinds_32 : decode cX4_kinds 32 = .ok (.iload 4, 2) := by decide +kernel
theorem dX4_kinds_34 : decode cX4_kinds 34 = .ok (.aload_n 2, 1) := by decide +kernel
theorem dX4_kinds_35 : decode cX4_kinds 35 = .ok (.getfield 79, 3) := by decide +kernel
theorem dX4_kinds_38 : decode cX4_kinds 38 = .ok (.invokestatic 144, 3) := by decide +kernel
theorem dX4_kinds_41 : decode cX4_kinds 41 = .ok (.invokevirtual 140, 3) := by decide +kernel
theorem dX4_kinds_44 : decode cX4_kinds 44 = .ok (.aload_n 0, 1) := by decide +kernel
theorem dX4_kinds_45 : decode cX4_kinds 45 = .ok (.invokevirtual 163, 3) := by decide +kernel
theorem dX4_kinds_48 : decode cX4_kinds 48 = .ok (.ifCond .eq 10, 3) := by decide +kernel
theorem dX4_kinds_51 : decode cX4_kinds 51 = .ok (.iload_n 3, 1) := by decide +kernel
theorem dX4_kinds_52 : decode cX4_kinds 52 = .ok (.iconst 1, 1) := by decide +kernel
theorem dX4_kinds_53 : decode cX4_kinds 53 = .ok (.iload 4, 2) := by decide +kernel
theorem dX4_kinds_55 : decode cX4_kinds 55 = .ok (.ishl, 1) := by decide +kernel
theorem dX4_kinds_56 : decode cX4_kinds 56 = .ok (.ior, 1) := by decide +kernel
theorem dX4_kinds_57 : decode cX4_kinds 57 = .ok (.istore_n 3, 1) := by decide +kernel
theorem dX4_kinds_58 : decode cX4_kinds 58 = .ok (.iinc 4 1, 3) := by decide +kernel
theorem dX4_kinds_61 : decode cX4_kinds 61 = .ok (.goto (-40), 3) := by decide +kernel
theorem dX4_kinds_64 : decode cX4_kinds 64 = .ok (.iload_n 3, 1) := by decide +kernel
theorem dX4_kinds_65 : decode cX4_kinds 65 = .ok (.ireturn, 1) := by decide +kernel
set_option maxRecDepth 20000 in
theorem ggX4_counts_X4_fillDrum : GoodIn wsX4_counts wsX4_fillDrum := goodIn_r _ [7, 2, 1, 8, 9, 10, 11, 12, 13, 14, 15, 16, 17, 18, 19, 20, 21, 22, 23, 24, 25, 26, 27, 28, 29, 30, 31, 6, 32, 33, 34, 35, 36, 37, 38, 39, 40, 41, 42, 43, 44, 45, 46, 47, 48, 49, 50, 51, 80, 81, 82, 83, 84, 85, 86, 87, 88, 89, 90, 91, 92, 93, 94, 95, 96, 97, 98, 99, 100] (by decide +kernel) (by decide +kernel)
set_option maxRecDepth 20000 in
theorem gX4_counts_X4_fillDrum : GoodIn wsX4_counts (wsV RX4 108 RX4 yX4_fillDrum wsX4_fillDrum) := goodIn_app (goodIn_of _ (by decide +kernel)) ggX4_counts_X4_fillDrum
set_option maxRecDepth 20000 in
theorem ggX4_counts_X1_setDrawn : GoodIn wsX4_counts wsX1_setDrawn := goodIn_r _ [27, 13, 14, 15, 16, 17, 18, 19, 28, 94, 95, 96, 97, 98, 99, 100] (by decide +kernel) (by decide +kernel)
set_option maxRecDepth 20000 in
theorem gX4_counts_X1_setDrawn_n166 : GoodIn wsX4_counts (wsX1_setDrawn) := ggX4_counts_X1_setDrawn
set_option maxRecDepth 20000 in
theorem ggX4_counts_X4_allReadingsCanBe : GoodIn wsX4_counts wsX4_allReadingsCanBe := goodIn_r _ [55, 56, 57, 2, 58, 10, 59, 60, 20, 61, 62, 63, 64, 65, 66, 67, 68, 23, 69, 70, 71, 72, 73, 74, 75, 76, 77, 78, 79, 28, 22, 13, 14, 15, 16, 80, 81, 82, 83, 84, 85, 86, 87, 88, 89, 94, 95, 96, 97, 98, 99, 100] (by decide +kernel) (by decide +kernel)
set_option maxRecDepth 20000 in
theorem gX4_counts_X4_allReadingsCanBe : GoodIn wsX4_counts (wsV RX4 163 RX4 yX4_allReadingsCanBe wsX4_allReadingsCanBe) := goodIn_app (goodIn_of _ (by decide +kernel)) ggX4_counts_X4_allReadingsCanBe
theorem dX4_counts_0 : decode cX4_counts 0 = .ok (.aload_n 0, 1) := by decide +kernel
theorem dX4_counts_1 : decode cX4_counts 1 = .ok (.getfield 69, 3) := by decide +kernel
theorem dX4_counts_4 : decode cX4_counts 4 = .ok (.ifCond .ne 6, 3) := by decide +kernel
theorem dX4_counts_7 : decode cX4_counts 7 = .ok (.bipush (-3), 2) := by decide +kernel
theorem dX4_counts_9 : decode cX4_counts 9 = .ok (.ireturn, 1) := by decide +kernel
theorem dX4_counts_10 : decode cX4_counts 10 = .ok (.aload_n 0, 1) := by decide +kernel
theorem dX4_counts_11 : decode cX4_counts 11 = .ok (.invokevirtual 108, 3) := by decide +kernel
theorem dX4_counts_14 : decode cX4_counts 14 = .ok (.iconst 0, 1) := by decide +kernel
theorem dX4_counts_15 : decode cX4_counts 15 = .ok (.istore_n 1, 1) := by decide +kernel
theorem dX4_counts_16 : decode cX4_counts 16 = .ok (.iconst 0, 1) := by decide +kernel
theorem dX4_counts_17 : decode cX4_counts 17 = .ok (.istore_n 2, 1) := by decide +kernel
theorem dX4_counts_18 : decode cX4_counts 18 = .ok (.iload_n 2, 1) := by decide +kernel
theorem dX4_counts_19 : decode cX4_counts 19 = .ok (.bipush 6, 2) := by decide +kernel
theorem dX4_counts_21 : decode cX4_counts 21 = .ok (.if_icmp .gt 30, 3) := by decide +kernel
theorem dX4_counts_24 : decode cX4_counts 24 = .ok (.aload_n 0, 1) := by decide +kernel
theorem dX4_counts_25 : decode cX4_counts 25 = .ok (.getfield 30, 3) := by decide +kernel
theorem dX4_counts_28 : decode cX4_counts 28 = .ok (.iload_n 2, 1) := by decide +kernel
theorem dX4_counts_29 : decode cX4_counts 29 = .ok (.invokevirtual 166, 3) := by decide +kernel
theorem dX4_counts_32 : decode cX4_counts 32 = .ok (.aload_n 0, 1) := by decide +kernel
theorem dX4_counts_33 : decode cX4_counts 33 = .ok (.invokevirtual 163, 3) := by decide +kernel
theorem dX4_counts_36 : decode cX4_counts 36 = .ok (.ifCond .eq 9, 3) := by decide +kernel
theorem dX4_counts_39 : decode cX4_counts 39 = .ok (.iload_n 1, 1) := by decide +kernel
theorem dX4_counts_40 : decode cX4_counts 40 = .ok (.iconst 1, 1) := by decide +kernel
theorem dX4_counts_41 : decode cX4_counts 41 = .ok (.iload_n 2, 1) := by decide +kernel
theorem dX4_counts_42 : decode cX4_counts 42 = .ok (.ishl, 1) := by decide +kernel
theorem dX4_counts_43 : decode cX4_counts 43 = .ok (.ior, 1) := by decide +kernel
theorem dX4_counts_44 : decode cX4_counts 44 = .ok (.istore_n 1, 1) := by decide +kernel
theorem dX4_counts_45 : decode cX4_counts 45 = .ok (.iinc 2 1, 3) := by decide +kernel
theorem dX4_counts_48 : decode cX4_counts 48 = .ok (.goto (-30), 3) := by decide +kernel
theorem dX4_counts_51 : decode cX4_counts 51 = .ok (.iload_n 1, 1) := by decide +kernel
theorem dX4_counts_52 : decode cX4_counts 52 = .ok (.ireturn, 1) := by decide +kernel
set_option maxRecDepth 20000 in
theorem ggX4_sheet_X4_placeOf : GoodIn wsX4_sheet wsX4_placeOf := goodIn_r _ [6, 7, 8, 9, 5, 10, 33, 34, 35, 36, 37, 38, 39, 40, 41, 42] (by decide +kernel) (by decide +kernel)
set_option maxRecDepth 20000 in
theorem gX4_sheet_X4_placeOf : GoodIn wsX4_sheet (wsV RX4 170 RX4 yX4_placeOf wsX4_placeOf) := goodIn_app (goodIn_of _ (by decide +kernel)) ggX4_sheet_X4_placeOf
set_option maxRecDepth 20000 in
theorem ggX4_sheet_X4_isLane : GoodIn wsX4_sheet wsX4_isLane := goodIn_r _ [13] (by decide +kernel) (by decide +kernel)
set_option maxRecDepth 20000 in
theorem gX4_sheet_X4_isLane : GoodIn wsX4_sheet (va_wsS RX4 44 yX4_isLane wsX4_isLane) := goodIn_app (goodIn_of _ (by decide +kernel)) ggX4_sheet_X4_isLane
set_option maxRecDepth 20000 in
theorem ggX4_sheet_X4_faulted : GoodIn wsX4_sheet wsX4_faulted := goodIn_r _ [17, 1, 33, 34, 35, 36, 37, 38, 39, 40, 41, 42] (by decide +kernel) (by decide +kernel)
set_option maxRecDepth 20000 in
theorem gX4_sheet_X4_faulted : GoodIn wsX4_sheet (wsV RX4 55 RX4 yX4_faulted wsX4_faulted) := goodIn_app (goodIn_of _ (by decide +kernel)) ggX4_sheet_X4_faulted
set_option maxRecDepth 20000 in
theorem ggX4_sheet_X2_begin : GoodIn wsX4_sheet wsX2_begin := goodIn_r _ [21, 22, 23, 24, 25, 26, 27, 28, 29, 30, 31, 32, 43, 44, 45, 46] (by decide +kernel) (by decide +kernel)
set_option maxRecDepth 20000 in
theorem gX4_sheet_X2_begin_n173 : GoodIn wsX4_sheet (wsX2_begin) := ggX4_sheet_X2_begin
theorem dX4_sheet_0 : decode cX4_sheet 0 = .ok (.aload_n 0, 1) := by decide +kernel
theorem dX4_sheet_1 : decode cX4_sheet 1 = .ok (.iconst 0, 1) := by decide +kernel
theorem dX4_sheet_2 : decode cX4_sheet 2 = .ok (.putfield 36, 3) := by decide +kernel
theorem dX4_sheet_5 : decode cX4_sheet 5 = .ok (.aload_n 0, 1) := by decide +kernel
theorem dX4_sheet_6 : decode cX4_sheet 6 = .ok (.iload_n 1, 1) := by decide +kernel
theorem dX4_sheet_7 : decode cX4_sheet 7 = .ok (.invokevirtual 170, 3) := by decide +kernel
theorem dX4_sheet_10 : decode cX4_sheet 10 = .ok (.astore 4, 2) := by decide +kernel
theorem dX4_sheet_12 : decode cX4_sheet 12 = .ok (.aload 4, 2) := by decide +kernel
theorem dX4_sheet_14 : decode cX4_sheet 14 = .ok (.ifnonnull 5, 3) := by decide +kernel
theorem dX4_sheet_17 : decode cX4_sheet 17 = .ok (.iconst (-1), 1) := by decide +kernel
theorem dX4_sheet_18 : decode cX4_sheet 18 = .ok (.ireturn, 1) := by decide +kernel
theorem dX4_sheet_19 : decode cX4_sheet 19 = .ok (.iload_n 2, 1) := by decide +kernel
theorem dX4_sheet_20 : decode cX4_sheet 20 = .ok (.invokestatic 44, 3) := by decide +kernel
theorem dX4_sheet_23 : decode cX4_sheet 23 = .ok (.ifCond .eq 9, 3) := by decide +kernel
theorem dX4_sheet_26 : decode cX4_sheet 26 = .ok (.iload_n 3, 1) := by decide +kernel
theorem dX4_sheet_27 : decode cX4_sheet 27 = .ok (.bipush 60, 2) := by decide +kernel
theorem dX4_sheet_29 : decode cX4_sheet 29 = .ok (.if_icmp .le 6, 3) := by decide +kernel
theorem dX4_sheet_32 : decode cX4_sheet 32 = .ok (.bipush (-2), 2) := by decide +kernel
theorem dX4_sheet_34 : decode cX4_sheet 34 = .ok (.ireturn, 1) := by decide +kernel
theorem dX4_sheet_35 : decode cX4_sheet 35 = .ok (.iload_n 3, 1) := by decide +kernel
theorem dX4_sheet_36 : decode cX4_sheet 36 = .ok (.ifCond .ge 9, 3) := by decide +kernel
theorem dX4_sheet_39 : decode cX4_sheet 39 = .ok (.aload_n 0, 1) := by decide +kernel
theorem dX4_sheet_40 : decode cX4_sheet 40 = .ok (.iconst 4, 1) := by decide +kernel
theorem dX4_sheet_41 : decode cX4_sheet 41 = .ok (.invokevirtual 55, 3) := by decide +kernel
theorem dX4_sheet_44 : decode cX4_sheet 44 = .ok (.ireturn, 1) := by decide +kernel
theorem dX4_sheet_45 : decode cX4_sheet 45 = .ok (.aload 4, 2) := by decide +kernel
theorem dX4_sheet_47 : decode cX4_sheet 47 = .ok (.iload_n 2, 1) := by decide +kernel
theorem dX4_sheet_48 : decode cX4_sheet 48 = .ok (.iload_n 3, 1) := by decide +kernel
theorem dX4_sheet_49 : decode cX4_sheet 49 = .ok (.invokevirtual 173, 3) := by decide +kernel
theorem dX4_sheet_52 : decode cX4_sheet 52 = .ok (.iconst 1, 1) := by decide +kernel
theorem dX4_sheet_53 : decode cX4_sheet 53 = .ok (.ireturn, 1) := by decide +kernel
set_option maxRecDepth 20000 in
theorem ggX4_lose_X4_isSheet : GoodIn wsX4_lose wsX4_isSheet := goodIn_r _ [4] (by decide +kernel) (by decide +kernel)
set_option maxRecDepth 20000 in
theorem gX4_lose_X4_isSheet : GoodIn wsX4_lose (va_wsS RX4 40 yX4_isSheet wsX4_isSheet) := goodIn_app (goodIn_of _ (by decide +kernel)) ggX4_lose_X4_isSheet
set_option maxRecDepth 20000 in
theorem ggX4_lose_X4_rowOf : GoodIn wsX4_lose wsX4_rowOf := goodIn_r _ [8, 9, 10, 11, 3, 12, 13, 1, 2, 4, 19, 20, 21, 22, 23, 24, 25, 26, 27, 28, 29, 30, 31, 32] (by decide +kernel) (by decide +kernel)
set_option maxRecDepth 20000 in
theorem gX4_lose_X4_rowOf : GoodIn wsX4_lose (wsV RX4 47 RX4 yX4_rowOf wsX4_rowOf) := goodIn_app (goodIn_of _ (by decide +kernel)) ggX4_lose_X4_rowOf
set_option maxRecDepth 20000 in
theorem ggX4_lose_X2_end : GoodIn wsX4_lose wsX2_end := goodIn_r _ [17, 18, 19, 20, 21, 22] (by decide +kernel) (by decide +kernel)
set_option maxRecDepth 20000 in
theorem gX4_lose_X2_end_n176 : GoodIn wsX4_lose (wsX2_end) := ggX4_lose_X2_end
theorem dX4_lose_0 : decode cX4_lose 0 = .ok (.iload_n 1, 1) := by decide +kernel
theorem dX4_lose_1 : decode cX4_lose 1 = .ok (.invokestatic 40, 3) := by decide +kernel
theorem dX4_lose_4 : decode cX4_lose 4 = .ok (.ifCond .ne 5, 3) := by decide +kernel
theorem dX4_lose_7 : decode cX4_lose 7 = .ok (.iconst (-1), 1) := by decide +kernel
theorem dX4_lose_8 : decode cX4_lose 8 = .ok (.ireturn, 1) := by decide +kernel
theorem dX4_lose_9 : decode cX4_lose 9 = .ok (.aload_n 0, 1) := by decide +kernel
theorem dX4_lose_10 : decode cX4_lose 10 = .ok (.iload_n 1, 1) := by decide +kernel
theorem dX4_lose_11 : decode cX4_lose 11 = .ok (.invokevirtual 47, 3) := by decide +kernel
theorem dX4_lose_14 : decode cX4_lose 14 = .ok (.astore_n 2, 1) := by decide +kernel
theorem dX4_lose_15 : decode cX4_lose 15 = .ok (.aload_n 2, 1) := by decide +kernel
theorem dX4_lose_16 : decode cX4_lose 16 = .ok (.ifnonnull 5, 3) := by decide +kernel
theorem dX4_lose_19 : decode cX4_lose 19 = .ok (.iconst 0, 1) := by decide +kernel
theorem dX4_lose_20 : decode cX4_lose 20 = .ok (.ireturn, 1) := by decide +kernel
theorem dX4_lose_21 : decode cX4_lose 21 = .ok (.aload_n 2, 1) := by decide +kernel
theorem dX4_lose_22 : decode cX4_lose 22 = .ok (.invokevirtual 176, 3) := by decide +kernel
theorem dX4_lose_25 : decode cX4_lose 25 = .ok (.iconst 1, 1) := by decide +kernel
theorem dX4_lose_26 : decode cX4_lose 26 = .ok (.ireturn, 1) := by decide +kernel
set_option maxRecDepth 20000 in
theorem ggX4_put_X4_isSheet : GoodIn wsX4_put wsX4_isSheet := goodIn_r _ [5] (by decide +kernel) (by decide +kernel)
set_option maxRecDepth 20000 in
theorem gX4_put_X4_isSheet : GoodIn wsX4_put (va_wsS RX4 40 yX4_isSheet wsX4_isSheet) := goodIn_app (goodIn_of _ (by decide +kernel)) ggX4_put_X4_isSheet
set_option maxRecDepth 20000 in
theorem ggX4_put_X4_rowOf : GoodIn wsX4_put wsX4_rowOf := goodIn_r _ [9, 10, 11, 12, 4, 13, 14, 2, 3, 5, 43, 44, 45, 46, 33, 34, 35, 36, 37, 38, 39, 40, 41, 42] (by decide +kernel) (by decide +kernel)
set_option maxRecDepth 20000 in
theorem gX4_put_X4_rowOf : GoodIn wsX4_put (wsV RX4 47 RX4 yX4_rowOf wsX4_rowOf) := goodIn_app (goodIn_of _ (by decide +kernel)) ggX4_put_X4_rowOf
set_option maxRecDepth 20000 in
theorem ggX4_put_X4_faulted : GoodIn wsX4_put wsX4_faulted := goodIn_r _ [18, 1, 33, 34, 35, 36, 37, 38, 39, 40, 41, 42] (by decide +kernel) (by decide +kernel)
set_option maxRecDepth 20000 in
theorem gX4_put_X4_faulted : GoodIn wsX4_put (wsV RX4 55 RX4 yX4_faulted wsX4_faulted) := goodIn_app (goodIn_of _ (by decide +kernel)) ggX4_put_X4_faulted
set_option maxRecDepth 20000 in
theorem ggX4_put_X2_holds : GoodIn wsX4_put wsX2_holds := goodIn_r _ [22, 23, 43, 44, 45, 46] (by decide +kernel) (by decide +kernel)
set_option maxRecDepth 20000 in
theorem gX4_put_X2_holds_n179 : GoodIn wsX4_put (wsX2_holds) := ggX4_put_X2_holds
set_option maxRecDepth 20000 in
theorem ggX4_put_X2_set : GoodIn wsX4_put wsX2_set := goodIn_r _ [26, 27, 28, 29, 30, 20, 31, 32, 43, 44, 45, 46] (by decide +kernel) (by decide +kernel)
set_option maxRecDepth 20000 in
theorem gX4_put_X2_set_n183 : GoodIn wsX4_put (wsX2_set) := ggX4_put_X2_set
theorem dX4_put_0 : decode cX4_put 0 = .ok (.aload_n 0, 1) := by decide +kernel
theorem dX4_put_1 : decode cX4_put 1 = .ok (.iconst 0, 1) := by decide +kernel
theorem dX4_put_2 : decode cX4_put 2 = .ok (.putfield 36, 3) := by decide +kernel
theorem dX4_put_5 : decode cX4_put 5 = .ok (.iload_n 1, 1) := by decide +kernel
theorem dX4_put_6 : decode cX4_put 6 = .ok (.invokestatic 40, 3) := by decide +kernel
theorem dX4_put_9 : decode cX4_put 9 = .ok (.ifCond .ne 5, 3) := by decide +kernel
theorem dX4_put_12 : decode cX4_put 12 = .ok (.iconst (-1), 1) := by decide +kernel
theorem dX4_put_13 : decode cX4_put 13 = .ok (.ireturn, 1) := by decide +kernel
theorem dX4_put_14 : decode cX4_put 14 = .ok (.aload_n 0, 1) := by decide +kernel
theorem dX4_put_15 : decode cX4_put 15 = .ok (.iload_n 1, 1) := by decide +kernel
theorem dX4_put_16 : decode cX4_put 16 = .ok (.invokevirtual 47, 3) := by decide +kernel
theorem dX4_put_19 : decode cX4_put 19 = .ok (.astore 4, 2) := by decide +kernel
theorem dX4_put_21 : decode cX4_put 21 = .ok (.aload 4, 2) := by decide +kernel
theorem dX4_put_23 : decode cX4_put 23 = .ok (.ifnonnull 9, 3) := by decide +kernel
theorem dX4_put_26 : decode cX4_put 26 = .ok (.aload_n 0, 1) := by decide +kernel
theorem dX4_put_27 : decode cX4_put 27 = .ok (.iconst 1, 1) := by decide +kernel
theorem dX4_put_28 : decode cX4_put 28 = .ok (.invokevirtual 55, 3) := by decide +kernel
theorem dX4_put_31 : decode cX4_put 31 = .ok (.ireturn, 1) := by decide +kernel
theorem dX4_put_32 : decode cX4_put 32 = .ok (.aload 4, 2) := by decide +kernel
theorem dX4_put_34 : decode cX4_put 34 = .ok (.iload_n 2, 1) := by decide +kernel
theorem dX4_put_35 : decode cX4_put 35 = .ok (.iconst 1, 1) := by decide +kernel
theorem dX4_put_36 : decode cX4_put 36 = .ok (.invokevirtual 179, 3) := by decide +kernel
theorem dX4_put_39 : decode cX4_put 39 = .ok (.ifCond .ne 9, 3) := by decide +kernel
theorem dX4_put_42 : decode cX4_put 42 = .ok (.aload_n 0, 1) := by decide +kernel
theorem dX4_put_43 : decode cX4_put 43 = .ok (.iconst 3, 1) := by decide +kernel
theorem dX4_put_44 : decode cX4_put 44 = .ok (.invokevirtual 55, 3) := by decide +kernel
theorem dX4_put_47 : decode cX4_put 47 = .ok (.ireturn, 1) := by decide +kernel
theorem dX4_put_48 : decode cX4_put 48 = .ok (.aload 4, 2) := by decide +kernel
theorem dX4_put_50 : decode cX4_put 50 = .ok (.iload_n 2, 1) := by decide +kernel
theorem dX4_put_51 : decode cX4_put 51 = .ok (.iload_n 3, 1) := by decide +kernel
theorem dX4_put_52 : decode cX4_put 52 = .ok (.invokevirtual 183, 3) := by decide +kernel
theorem dX4_put_55 : decode cX4_put 55 = .ok (.iconst 1, 1) := by decide +kernel
theorem dX4_put_56 : decode cX4_put 56 = .ok (.ireturn, 1) := by decide +kernel
set_option maxRecDepth 20000 in
theorem ggX4_cell_X4_isSheet : GoodIn wsX4_cell wsX4_isSheet := goodIn_r _ [6] (by decide +kernel) (by decide +kernel)
set_option maxRecDepth 20000 in
theorem gX4_cell_X4_isSheet : GoodIn wsX4_cell (va_wsS RX4 40 yX4_isSheet wsX4_isSheet) := goodIn_app (goodIn_of _ (by decide +kernel)) ggX4_cell_X4_isSheet
set_option maxRecDepth 20000 in
theorem ggX4_cell_X4_isLane : GoodIn wsX4_cell wsX4_isLane := goodIn_r _ [9] (by decide +kernel) (by decide +kernel)
set_option maxRecDepth 20000 in
theorem gX4_cell_X4_isLane : GoodIn wsX4_cell (va_wsS RX4 44 yX4_isLane wsX4_isLane) := goodIn_app (goodIn_of _ (by decide +kernel)) ggX4_cell_X4_isLane
set_option maxRecDepth 20000 in
theorem ggX4_cell_X4_rowOf : GoodIn wsX4_cell wsX4_rowOf := goodIn_r _ [13, 14, 15, 16, 5, 17, 18, 3, 4, 6, 41, 42, 43, 44, 31, 32, 33, 34, 35, 36, 37, 38, 39, 40] (by decide +kernel) (by decide +kernel)
set_option maxRecDepth 20000 in
theorem gX4_cell_X4_rowOf : GoodIn wsX4_cell (wsV RX4 47 RX4 yX4_rowOf wsX4_rowOf) := goodIn_app (goodIn_of _ (by decide +kernel)) ggX4_cell_X4_rowOf
set_option maxRecDepth 20000 in
theorem ggX4_cell_X4_faultOf : GoodIn wsX4_cell wsX4_faultOf := goodIn_r _ [21, 22, 23, 24, 25, 26, 41, 42, 43, 44] (by decide +kernel) (by decide +kernel)
set_option maxRecDepth 20000 in
theorem gX4_cell_X4_faultOf : GoodIn wsX4_cell (va_wsS RX4 51 yX4_faultOf wsX4_faultOf) := goodIn_app (goodIn_of _ (by decide +kernel)) ggX4_cell_X4_faultOf
set_option maxRecDepth 20000 in
theorem ggX4_cell_X2_at : GoodIn wsX4_cell wsX2_at := goodIn_r _ [29, 30, 41, 42, 43, 44] (by decide +kernel) (by decide +kernel)
set_option maxRecDepth 20000 in
theorem gX4_cell_X2_at_n186 : GoodIn wsX4_cell (wsX2_at) := ggX4_cell_X2_at
theorem dX4_cell_0 : decode cX4_cell 0 = .ok (.aload_n 0, 1) := by decide +kernel
theorem dX4_cell_1 : decode cX4_cell 1 = .ok (.iconst 0, 1) := by decide +kernel
theorem dX4_cell_2 : decode cX4_cell 2 = .ok (.putfield 36, 3) := by decide +kernel
theorem dX4_cell_5 : decode cX4_cell 5 = .ok (.iload_n 1, 1) := by decide +kernel
theorem dX4_cell_6 : decode cX4_cell 6 = .ok (.invokestatic 40, 3) := by decide +kernel
theorem dX4_cell_9 : decode cX4_cell 9 = .ok (.ifCond .eq 10, 3) := by decide +kernel
theorem dX4_cell_12 : decode cX4_cell 12 = .ok (.iload_n 3, 1) := by decide +kernel
theorem dX4_cell_13 : decode cX4_cell 13 = .ok (.invokestatic 44, 3) := by decide +kernel
theorem dX4_cell_16 : decode cX4_cell 16 = .ok (.ifCond .ne 7, 3) := by decide +kernel
theorem dX4_cell_19 : decode cX4_cell 19 = .ok (.ldc2_w 117, 3) := by decide +kernel
theorem dX4_cell_22 : decode cX4_cell 22 = .ok (.lreturn, 1) := by decide +kernel
theorem dX4_cell_23 : decode cX4_cell 23 = .ok (.aload_n 0, 1) := by decide +kernel
theorem dX4_cell_24 : decode cX4_cell 24 = .ok (.iload_n 1, 1) := by decide +kernel
theorem dX4_cell_25 : decode cX4_cell 25 = .ok (.invokevirtual 47, 3) := by decide +kernel
theorem dX4_cell_28 : decode cX4_cell 28 = .ok (.astore 4, 2) := by decide +kernel
theorem dX4_cell_30 : decode cX4_cell 30 = .ok (.aload 4, 2) := by decide +kernel
theorem dX4_cell_32 : decode cX4_cell 32 = .ok (.iload_n 3, 1) := by decide +kernel
theorem dX4_cell_33 : decode cX4_cell 33 = .ok (.iload_n 2, 1) := by decide +kernel
theorem dX4_cell_34 : decode cX4_cell 34 = .ok (.iconst 1, 1) := by decide +kernel
theorem dX4_cell_35 : decode cX4_cell 35 = .ok (.invokestatic 51, 3) := by decide +kernel
theorem dX4_cell_38 : decode cX4_cell 38 = .ok (.istore 5, 2) := by decide +kernel
theorem dX4_cell_40 : decode cX4_cell 40 = .ok (.aload 4, 2) := by decide +kernel
theorem dX4_cell_42 : decode cX4_cell 42 = .ok (.ifnull 8, 3) := by decide +kernel
theorem dX4_cell_45 : decode cX4_cell 45 = .ok (.iload 5, 2) := by decide +kernel
theorem dX4_cell_47 : decode cX4_cell 47 = .ok (.ifCond .eq 13, 3) := by decide +kernel
theorem dX4_cell_50 : decode cX4_cell 50 = .ok (.aload_n 0, 1) := by decide +kernel
theorem dX4_cell_51 : decode cX4_cell 51 = .ok (.iload 5, 2) := by decide +kernel
theorem dX4_cell_53 : decode cX4_cell 53 = .ok (.putfield 36, 3) := by decide +kernel
theorem dX4_cell_56 : decode cX4_cell 56 = .ok (.ldc2_w 117, 3) := by decide +kernel
theorem dX4_cell_59 : decode cX4_cell 59 = .ok (.lreturn, 1) := by decide +kernel
theorem dX4_cell_60 : decode cX4_cell 60 = .ok (.aload 4, 2) := by decide +kernel
theorem dX4_cell_62 : decode cX4_cell 62 = .ok (.iload_n 2, 1) := by decide +kernel
theorem dX4_cell_63 : decode cX4_cell 63 = .ok (.invokevirtual 186, 3) := by decide +kernel
theorem dX4_cell_66 : decode cX4_cell 66 = .ok (.i2l, 1) := by decide +kernel
theorem dX4_cell_67 : decode cX4_cell 67 = .ok (.lreturn, 1) := by decide +kernel
set_option maxRecDepth 20000 in
theorem ggX4_copy_X4_isSheet : GoodIn wsX4_copy wsX4_isSheet := goodIn_r _ [9] (by decide +kernel) (by decide +kernel)
set_option maxRecDepth 20000 in
theorem gX4_copy_X4_isSheet : GoodIn wsX4_copy (va_wsS RX4 40 yX4_isSheet wsX4_isSheet) := goodIn_app (goodIn_of _ (by decide +kernel)) ggX4_copy_X4_isSheet
set_option maxRecDepth 20000 in
theorem ggX4_copy_X4_rowOf : GoodIn wsX4_copy wsX4_rowOf := goodIn_r _ [13, 14, 15, 16, 8, 17, 18, 6, 7, 9, 38, 39, 40, 41, 28, 29, 30, 31, 32, 33, 34, 35, 36, 37] (by decide +kernel) (by decide +kernel)
set_option maxRecDepth 20000 in
theorem gX4_copy_X4_rowOf : GoodIn wsX4_copy (wsV RX4 47 RX4 yX4_rowOf wsX4_rowOf) := goodIn_app (goodIn_of _ (by decide +kernel)) ggX4_copy_X4_rowOf
set_option maxRecDepth 20000 in
theorem ggX4_copy_X4_faulted : GoodIn wsX4_copy wsX4_faulted := goodIn_r _ [22, 1, 28, 29, 30, 31, 32, 33, 34, 35, 36, 37] (by decide +kernel) (by decide +kernel)
set_option maxRecDepth 20000 in
theorem gX4_copy_X4_faulted : GoodIn wsX4_copy (wsV RX4 55 RX4 yX4_faulted wsX4_faulted) := goodIn_app (goodIn_of _ (by decide +kernel)) ggX4_copy_X4_faulted
set_option maxRecDepth 20000 in
theorem ggX4_copy_X2_holds : GoodIn wsX4_copy wsX2_holds := goodIn_r _ [26, 27, 38, 39, 40, 41] (by decide +kernel) (by decide +kernel)
set_option maxRecDepth 20000 in
theorem gX4_copy_X2_holds_n179 : GoodIn wsX4_copy (wsX2_holds) := ggX4_copy_X2_holds
theorem dX4_copy_0 : decode cX4_copy 0 = .ok (.aload_n 0, 1) := by decide +kernel
theorem dX4_copy_1 : decode cX4_copy 1 = .ok (.iconst 0, 1) := by decide +kernel
theorem dX4_copy_2 : decode cX4_copy 2 = .ok (.putfield 36, 3) := by decide +kernel
theorem dX4_copy_5 : decode cX4_copy 5 = .ok (.iload_n 1, 1) := by decide +kernel
theorem dX4_copy_6 : decode cX4_copy 6 = .ok (.invokestatic 40, 3) := by decide +kernel
theorem dX4_copy_9 : decode cX4_copy 9 = .ok (.ifCond .eq 10, 3) := by decide +kernel
theorem dX4_copy_12 : decode cX4_copy 12 = .ok (.iload_n 3, 1) := by decide +kernel
theorem dX4_copy_13 : decode cX4_copy 13 = .ok (.invokestatic 40, 3) := by decide +kernel
theorem dX4_copy_16 : decode cX4_copy 16 = .ok (.ifCond .ne 5, 3) := by decide +kernel
theorem dX4_copy_19 : decode cX4_copy 19 = .ok (.iconst (-1), 1) := by decide +kernel
theorem dX4_copy_20 : decode cX4_copy 20 = .ok (.ireturn, 1) := by decide +kernel
theorem dX4_copy_21 : decode cX4_copy 21 = .ok (.aload_n 0, 1) := by decide +kernel
theorem dX4_copy_22 : decode cX4_copy 22 = .ok (.iload_n 1, 1) := by decide +kernel
theorem dX4_copy_23 : decode cX4_copy 23 = .ok (.invokevirtual 47, 3) := by decide +kernel
theorem dX4_copy_26 : decode cX4_copy 26 = .ok (.astore 6, 2) := by decide +kernel
theorem dX4_copy_28 : decode cX4_copy 28 = .ok (.aload_n 0, 1) := by decide +kernel
theorem dX4_copy_29 : decode cX4_copy 29 = .ok (.iload_n 3, 1) := by decide +kernel
theorem dX4_copy_30 : decode cX4_copy 30 = .ok (.invokevirtual 47, 3) := by decide +kernel
theorem dX4_copy_33 : decode cX4_copy 33 = .ok (.astore 7, 2) := by decide +kernel
theorem dX4_copy_35 : decode cX4_copy 35 = .ok (.aload 6, 2) := by decide +kernel
theorem dX4_copy_37 : decode cX4_copy 37 = .ok (.ifnull 8, 3) := by decide +kernel
theorem dX4_copy_40 : decode cX4_copy 40 = .ok (.aload 7, 2) := by decide +kernel
theorem dX4_copy_42 : decode cX4_copy 42 = .ok (.ifnonnull 9, 3) := by decide +kernel
theorem dX4_copy_45 : decode cX4_copy 45 = .ok (.aload_n 0, 1) := by decide +kernel
theorem dX4_copy_46 : decode cX4_copy 46 = .ok (.iconst 1, 1) := by decide +kernel
theorem dX4_copy_47 : decode cX4_copy 47 = .ok (.invokevirtual 55, 3) := by decide +kernel
theorem dX4_copy_50 : decode cX4_copy 50 = .ok (.ireturn, 1) := by decide +kernel
theorem dX4_copy_51 : decode cX4_copy 51 = .ok (.aload 6, 2) := by decide +kernel
theorem dX4_copy_53 : decode cX4_copy 53 = .ok (.getfield 189, 3) := by decide +kernel
theorem dX4_copy_56 : decode cX4_copy 56 = .ok (.aload 7, 2) := by decide +kernel
theorem dX4_copy_58 : decode cX4_copy 58 = .ok (.getfield 189, 3) := by decide +kernel
theorem dX4_copy_61 : decode cX4_copy 61 = .ok (.if_icmp .eq 9, 3) := by decide +kernel
theorem dX4_copy_64 : decode cX4_copy 64 = .ok (.aload_n 0, 1) := by decide +kernel
theorem dX4_copy_65 : decode cX4_copy 65 = .ok (.iconst 2, 1) := by decide +kernel
theorem dX4_copy_66 : decode cX4_copy 66 = .ok (.invokevirtual 55, 3) := by decide +kernel
theorem dX4_copy_69 : decode cX4_copy 69 = .ok (.ireturn, 1) := by decide +kernel
theorem dX4_copy_70 : decode cX4_copy 70 = .ok (.aload 6, 2) := by decide +kernel
theorem dX4_copy_72 : decode cX4_copy 72 = .ok (.iload_n 2, 1) := by decide +kernel
theorem dX4_copy_73 : decode cX4_copy 73 = .ok (.iload 5, 2) := by decide +kernel
theorem dX4_copy_75 : decode cX4_copy 75 = .ok (.invokevirtual 179, 3) := by decide +kernel
theorem dX4_copy_78 : decode cX4_copy 78 = .ok (.ifCond .eq 15, 3) := by decide +kernel
theorem dX4_copy_81 : decode cX4_copy 81 = .ok (.aload 7, 2) := by decide +kernel
theorem dX4_copy_83 : decode cX4_copy 83 = .ok (.iload 4, 2) := by decide +kernel
theorem dX4_copy_85 : decode cX4_copy 85 = .ok (.iload 5, 2) := by decide +kernel
theorem dX4_copy_87 : decode cX4_copy 87 = .ok (.invokevirtual 179, 3) := by decide +kernel
theorem dX4_copy_90 : decode cX4_copy 90 = .ok (.ifCond .ne 9, 3) := by decide +kernel
theorem dX4_copy_93 : decode cX4_copy 93 = .ok (.aload_n 0, 1) := by decide +kernel
theorem dX4_copy_94 : decode cX4_copy 94 = .ok (.iconst 3, 1) := by decide +kernel
theorem dX4_copy_95 : decode cX4_copy 95 = .ok (.invokevirtual 55, 3) := by decide +kernel
theorem dX4_copy_98 : decode cX4_copy 98 = .ok (.ireturn, 1) := by decide +kernel
theorem dX4_copy_99 : decode cX4_copy 99 = .ok (.aload 6, 2) := by decide +kernel
theorem dX4_copy_101 : decode cX4_copy 101 = .ok (.getfield 192, 3) := by decide +kernel
theorem dX4_copy_104 : decode cX4_copy 104 = .ok (.iload_n 2, 1) := by decide +kernel
theorem dX4_copy_105 : decode cX4_copy 105 = .ok (.aload 7, 2) := by decide +kernel
theorem dX4_copy_107 : decode cX4_copy 107 = .ok (.getfield 192, 3) := by decide +kernel
theorem dX4_copy_110 : decode cX4_copy 110 = .ok (.iload 4, 2) := by decide +kernel
theorem dX4_copy_112 : decode cX4_copy 112 = .ok (.iload 5, 2) := by decide +kernel
theorem dX4_copy_114 : decode cX4_copy 114 = .ok (.invokestatic 195, 3) := by decide +kernel
theorem dX4_copy_117 : decode cX4_copy 117 = .ok (.iload 5, 2) := by decide +kernel
theorem dX4_copy_119 : decode cX4_copy 119 = .ok (.ireturn, 1) := by decide +kernel
set_option maxRecDepth 20000 in
theorem ggX4_tell_X4_citizen : GoodIn wsX4_tell wsX4_citizen := goodIn_r _ [5, 6, 7, 29, 30, 31, 32, 33, 34, 35, 36, 37, 38] (by decide +kernel) (by decide +kernel)
set_option maxRecDepth 20000 in
theorem gX4_tell_X4_citizen : GoodIn wsX4_tell (wsV RX4 72 RX4 yX4_citizen wsX4_citizen) := goodIn_app (goodIn_of _ (by decide +kernel)) ggX4_tell_X4_citizen
set_option maxRecDepth 20000 in
theorem ggX4_tell_X4_miserTells : GoodIn wsX4_tell wsX4_miserTells := goodIn_r _ [11, 12, 13, 14, 4, 15, 16, 17, 18, 19, 20, 21, 22, 23, 24, 29, 30, 31, 32, 33, 34, 35, 36, 37, 38] (by decide +kernel) (by decide +kernel)
set_option maxRecDepth 20000 in
theorem gX4_tell_X4_miserTells : GoodIn wsX4_tell (wsV RX4 201 RX4 yX4_miserTells wsX4_miserTells) := goodIn_app (goodIn_of _ (by decide +kernel)) ggX4_tell_X4_miserTells
set_option maxRecDepth 20000 in
theorem ggX4_tell_X4_richTells : GoodIn wsX4_tell wsX4_richTells := goodIn_r _ [20, 12, 13, 14, 4, 15, 16, 21, 22, 23, 24, 29, 30, 31, 32, 33, 34, 35, 36, 37, 38] (by decide +kernel) (by decide +kernel)
set_option maxRecDepth 20000 in
theorem gX4_tell_X4_richTells : GoodIn wsX4_tell (wsV RX4 204 RX4 yX4_richTells wsX4_richTells) := goodIn_app (goodIn_of _ (by decide +kernel)) ggX4_tell_X4_richTells
set_option maxRecDepth 20000 in
theorem ggX4_tell_X4_citizenTells : GoodIn wsX4_tell wsX4_citizenTells := goodIn_r _ [24, 12, 13, 14, 4, 15, 16, 29, 30, 31, 32, 33, 34, 35, 36, 37, 38] (by decide +kernel) (by decide +kernel)
set_option maxRecDepth 20000 in
theorem gX4_tell_X4_citizenTells : GoodIn wsX4_tell (wsV RX4 207 RX4 yX4_citizenTells wsX4_citizenTells) := goodIn_app (goodIn_of _ (by decide +kernel)) ggX4_tell_X4_citizenTells
theorem dX4_tell_0 : decode cX4_tell 0 = .ok (.aload_n 0, 1) := by decide +kernel
theorem dX4_tell_1 : decode cX4_tell 1 = .ok (.iload_n 1, 1) := by decide +kernel
theorem dX4_tell_2 : decode cX4_tell 2 = .ok (.invokevirtual 72, 3) := by decide +kernel
theorem dX4_tell_5 : decode cX4_tell 5 = .ok (.astore_n 2, 1) := by decide +kernel
theorem dX4_tell_6 : decode cX4_tell 6 = .ok (.aload_n 2, 1) := by decide +kernel
theorem dX4_tell_7 : decode cX4_tell 7 = .ok (.ifnonnull 5, 3) := by decide +kernel
theorem dX4_tell_10 : decode cX4_tell 10 = .ok (.iconst (-1), 1) := by decide +kernel
theorem dX4_tell_11 : decode cX4_tell 11 = .ok (.ireturn, 1) := by decide +kernel
theorem dX4_tell_12 : decode cX4_tell 12 = .ok (.aload_n 2, 1) := by decide +kernel
theorem dX4_tell_13 : decode cX4_tell 13 = .ok (.getfield 76, 3) := by decide +kernel
theorem dX4_tell_16 : decode cX4_tell 16 = .ok (.lookupswitch 46 #[(1, 37), (2, 28)], 28) := by decide +kernel
theorem dX4_tell_44 : decode cX4_tell 44 = .ok (.aload_n 0, 1) := by decide +kernel
theorem dX4_tell_45 : decode cX4_tell 45 = .ok (.aload_n 2, 1) := by decide +kernel
theorem dX4_tell_46 : decode cX4_tell 46 = .ok (.getfield 79, 3) := by decide +kernel
theorem dX4_tell_49 : decode cX4_tell 49 = .ok (.invokevirtual 201, 3) := by decide +kernel
theorem dX4_tell_52 : decode cX4_tell 52 = .ok (.ireturn, 1) := by decide +kernel
theorem dX4_tell_53 : decode cX4_tell 53 = .ok (.aload_n 0, 1) := by decide +kernel
theorem dX4_tell_54 : decode cX4_tell 54 = .ok (.aload_n 2, 1) := by decide +kernel
theorem dX4_tell_55 : decode cX4_tell 55 = .ok (.getfield 79, 3) := by decide +kernel
theorem dX4_tell_58 : decode cX4_tell 58 = .ok (.invokevirtual 204, 3) := by decide +kernel
theorem dX4_tell_61 : decode cX4_tell 61 = .ok (.ireturn, 1) := by decide +kernel
theorem dX4_tell_62 : decode cX4_tell 62 = .ok (.aload_n 0, 1) := by decide +kernel
theorem dX4_tell_63 : decode cX4_tell 63 = .ok (.aload_n 2, 1) := by decide +kernel
theorem dX4_tell_64 : decode cX4_tell 64 = .ok (.getfield 79, 3) := by decide +kernel
theorem dX4_tell_67 : decode cX4_tell 67 = .ok (.invokevirtual 207, 3) := by decide +kernel
theorem dX4_tell_70 : decode cX4_tell 70 = .ok (.ireturn, 1) := by decide +kernel
set_option maxRecDepth 20000 in
theorem ggX4_call_X4_citizen : GoodIn wsX4_call wsX4_citizen := goodIn_r _ [5, 6, 7, 17, 18, 19, 20, 21, 22, 23, 24, 25, 26] (by decide +kernel) (by decide +kernel)
set_option maxRecDepth 20000 in
theorem gX4_call_X4_citizen : GoodIn wsX4_call (wsV RX4 72 RX4 yX4_citizen wsX4_citizen) := goodIn_app (goodIn_of _ (by decide +kernel)) ggX4_call_X4_citizen
set_option maxRecDepth 20000 in
theorem ggX4_call_X4_leaveInTrace : GoodIn wsX4_call wsX4_leaveInTrace := goodIn_r _ [11, 12, 17, 18, 19, 20, 21, 22, 23, 24, 25, 26] (by decide +kernel) (by decide +kernel)
set_option maxRecDepth 20000 in
theorem gX4_call_X4_leaveInTrace : GoodIn wsX4_call (wsV RX4 210 RX4 yX4_leaveInTrace wsX4_leaveInTrace) := goodIn_app (goodIn_of _ (by decide +kernel)) ggX4_call_X4_leaveInTrace
theorem dX4_call_0 : decode cX4_call 0 = .ok (.aload_n 0, 1) := by decide +kernel
theorem dX4_call_1 : decode cX4_call 1 = .ok (.iload_n 1, 1) := by decide +kernel
theorem dX4_call_2 : decode cX4_call 2 = .ok (.invokevirtual 72, 3) := by decide +kernel
theorem dX4_call_5 : decode cX4_call 5 = .ok (.astore_n 2, 1) := by decide +kernel
theorem dX4_call_6 : decode cX4_call 6 = .ok (.aload_n 2, 1) := by decide +kernel
theorem dX4_call_7 : decode cX4_call 7 = .ok (.ifnonnull 5, 3) := by decide +kernel
theorem dX4_call_10 : decode cX4_call 10 = .ok (.iconst (-1), 1) := by decide +kernel
theorem dX4_call_11 : decode cX4_call 11 = .ok (.ireturn, 1) := by decide +kernel
theorem dX4_call_12 : decode cX4_call 12 = .ok (.aload_n 2, 1) := by decide +kernel
theorem dX4_call_13 : decode cX4_call 13 = .ok (.getfield 76, 3) := by decide +kernel
theorem dX4_call_16 : decode cX4_call 16 = .ok (.iconst 2, 1) := by decide +kernel
theorem dX4_call_17 : decode cX4_call 17 = .ok (.if_icmp .ne 11, 3) := by decide +kernel
theorem dX4_call_20 : decode cX4_call 20 = .ok (.aload_n 0, 1) := by decide +kernel
theorem dX4_call_21 : decode cX4_call 21 = .ok (.iconst 5, 1) := by decide +kernel
theorem dX4_call_22 : decode cX4_call 22 = .ok (.invokevirtual 210, 3) := by decide +kernel
theorem dX4_call_25 : decode cX4_call 25 = .ok (.bipush 20, 2) := by decide +kernel
theorem dX4_call_27 : decode cX4_call 27 = .ok (.ireturn, 1) := by decide +kernel
theorem dX4_call_28 : decode cX4_call 28 = .ok (.aload_n 0, 1) := by decide +kernel
theorem dX4_call_29 : decode cX4_call 29 = .ok (.iconst 4, 1) := by decide +kernel
theorem dX4_call_30 : decode cX4_call 30 = .ok (.invokevirtual 210, 3) := by decide +kernel
theorem dX4_call_33 : decode cX4_call 33 = .ok (.iload_n 1, 1) := by decide +kernel
theorem dX4_call_34 : decode cX4_call 34 = .ok (.ireturn, 1) := by decide +kernel
set_option maxRecDepth 20000 in
theorem ggX4_as_X4_citizen : GoodIn wsX4_as wsX4_citizen := goodIn_r _ [6, 7, 8, 13, 14, 15, 16, 17, 18, 19, 20, 21, 22] (by decide +kernel) (by decide +kernel)
set_option maxRecDepth 20000 in
theorem gX4_as_X4_citizen : GoodIn wsX4_as (wsV RX4 72 RX4 yX4_citizen wsX4_citizen) := goodIn_app (goodIn_of _ (by decide +kernel)) ggX4_as_X4_citizen
set_option maxRecDepth 20000 in
theorem ggX4_as_X4_faulted : GoodIn wsX4_as wsX4_faulted := goodIn_r _ [12, 1, 13, 14, 15, 16, 17, 18, 19, 20, 21, 22] (by decide +kernel) (by decide +kernel)
set_option maxRecDepth 20000 in
theorem gX4_as_X4_faulted : GoodIn wsX4_as (wsV RX4 55 RX4 yX4_faulted wsX4_faulted) := goodIn_app (goodIn_of _ (by decide +kernel)) ggX4_as_X4_faulted
theorem dX4_as_0 : decode cX4_as 0 = .ok (.aload_n 0, 1) := by decide +kernel
theorem dX4_as_1 : decode cX4_as 1 = .ok (.iconst 0, 1) := by decide +kernel
theorem dX4_as_2 : decode cX4_as 2 = .ok (.putfield 36, 3) := by decide +kernel
theorem dX4_as_5 : decode cX4_as 5 = .ok (.aload_n 0, 1) := by decide +kernel
theorem dX4_as_6 : decode cX4_as 6 = .ok (.iload_n 1, 1) := by decide +kernel
theorem dX4_as_7 : decode cX4_as 7 = .ok (.invokevirtual 72, 3) := by decide +kernel
theorem dX4_as_10 : decode cX4_as 10 = .ok (.astore_n 3, 1) := by decide +kernel
theorem dX4_as_11 : decode cX4_as 11 = .ok (.aload_n 3, 1) := by decide +kernel
theorem dX4_as_12 : decode cX4_as 12 = .ok (.ifnonnull 5, 3) := by decide +kernel
theorem dX4_as_15 : decode cX4_as 15 = .ok (.iconst (-1), 1) := by decide +kernel
theorem dX4_as_16 : decode cX4_as 16 = .ok (.ireturn, 1) := by decide +kernel
theorem dX4_as_17 : decode cX4_as 17 = .ok (.iload_n 2, 1) := by decide +kernel
theorem dX4_as_18 : decode cX4_as 18 = .ok (.ifCond .lt 8, 3) := by decide +kernel
theorem dX4_as_21 : decode cX4_as 21 = .ok (.iload_n 2, 1) := by decide +kernel
theorem dX4_as_22 : decode cX4_as 22 = .ok (.iconst 2, 1) := by decide +kernel
theorem dX4_as_23 : decode cX4_as 23 = .ok (.if_icmp .le 6, 3) := by decide +kernel
theorem dX4_as_26 : decode cX4_as 26 = .ok (.bipush (-2), 2) := by decide +kernel
theorem dX4_as_28 : decode cX4_as 28 = .ok (.ireturn, 1) := by decide +kernel
theorem dX4_as_29 : decode cX4_as 29 = .ok (.aload_n 3, 1) := by decide +kernel
theorem dX4_as_30 : decode cX4_as 30 = .ok (.getfield 76, 3) := by decide +kernel
theorem dX4_as_33 : decode cX4_as 33 = .ok (.iload_n 2, 1) := by decide +kernel
theorem dX4_as_34 : decode cX4_as 34 = .ok (.if_icmp .ge 11, 3) := by decide +kernel
theorem dX4_as_37 : decode cX4_as 37 = .ok (.aload_n 0, 1) := by decide +kernel
theorem dX4_as_38 : decode cX4_as 38 = .ok (.iconst 2, 1) := by decide +kernel
theorem dX4_as_39 : decode cX4_as 39 = .ok (.invokevirtual 55, 3) := by decide +kernel
theorem dX4_as_42 : decode cX4_as 42 = .ok (.goto 4, 3) := by decide +kernel
theorem dX4_as_45 : decode cX4_as 45 = .ok (.iconst 1, 1) := by decide +kernel
theorem dX4_as_46 : decode cX4_as 46 = .ok (.ireturn, 1) := by decide +kernel
theorem dX4_trace_0 : decode cX4_trace 0 = .ok (.aload_n 0, 1) := by decide +kernel
theorem dX4_trace_1 : decode cX4_trace 1 = .ok (.getfield 213, 3) := by decide +kernel
theorem dX4_trace_4 : decode cX4_trace 4 = .ok (.ireturn, 1) := by decide +kernel
theorem dX4_fault_0 : decode cX4_fault 0 = .ok (.aload_n 0, 1) := by decide +kernel
theorem dX4_fault_1 : decode cX4_fault 1 = .ok (.getfield 36, 3) := by decide +kernel
theorem dX4_fault_4 : decode cX4_fault 4 = .ok (.ireturn, 1) := by decide +kernel
set_option maxRecDepth 20000 in
theorem ggX4_many_X4_slipsAhead : GoodIn wsX4_many wsX4_slipsAhead := goodIn_r _ [9, 10, 11, 12, 8, 13, 1, 14, 15, 16, 17, 18, 19, 20, 21, 22, 23, 24, 25, 26, 27, 28, 29, 30, 31, 32, 33, 34, 35, 36] (by decide +kernel) (by decide +kernel)
set_option maxRecDepth 20000 in
theorem gX4_many_X4_slipsAhead : GoodIn wsX4_many (wsV RX4 93 RX4 yX4_slipsAhead wsX4_slipsAhead) := goodIn_app (goodIn_of _ (by decide +kernel)) ggX4_many_X4_slipsAhead
theorem dX4_many_0 : decode cX4_many 0 = .ok (.iload_n 1, 1) := by decide +kernel
theorem dX4_many_1 : decode cX4_many 1 = .ok (.tableswitch 64 0 4 #[35, 40, 49, 54, 59], 35) := by decide +kernel
theorem dX4_many_36 : decode cX4_many 36 = .ok (.aload_n 0, 1) := by decide +kernel
theorem dX4_many_37 : decode cX4_many 37 = .ok (.getfield 69, 3) := by decide +kernel
theorem dX4_many_40 : decode cX4_many 40 = .ok (.ireturn, 1) := by decide +kernel
theorem dX4_many_41 : decode cX4_many 41 = .ok (.aload_n 0, 1) := by decide +kernel
theorem dX4_many_42 : decode cX4_many 42 = .ok (.aload_n 0, 1) := by decide +kernel
theorem dX4_many_43 : decode cX4_many 43 = .ok (.getfield 69, 3) := by decide +kernel
theorem dX4_many_46 : decode cX4_many 46 = .ok (.invokevirtual 93, 3) := by decide +kernel
theorem dX4_many_49 : decode cX4_many 49 = .ok (.ireturn, 1) := by decide +kernel
theorem dX4_many_50 : decode cX4_many 50 = .ok (.aload_n 0, 1) := by decide +kernel
theorem dX4_many_51 : decode cX4_many 51 = .ok (.getfield 96, 3) := by decide +kernel
theorem dX4_many_54 : decode cX4_many 54 = .ok (.ireturn, 1) := by decide +kernel
theorem dX4_many_55 : decode cX4_many 55 = .ok (.aload_n 0, 1) := by decide +kernel
theorem dX4_many_56 : decode cX4_many 56 = .ok (.getfield 99, 3) := by decide +kernel
theorem dX4_many_59 : decode cX4_many 59 = .ok (.ireturn, 1) := by decide +kernel
theorem dX4_many_60 : decode cX4_many 60 = .ok (.aload_n 0, 1) := by decide +kernel
theorem dX4_many_61 : decode cX4_many 61 = .ok (.getfield 160, 3) := by decide +kernel
theorem dX4_many_64 : decode cX4_many 64 = .ok (.ireturn, 1) := by decide +kernel
theorem dX4_many_65 : decode cX4_many 65 = .ok (.bipush (-2), 2) := by decide +kernel
theorem dX4_many_67 : decode cX4_many 67 = .ok (.ireturn, 1) := by decide +kernel
theorem dX4_isSheet_0 : decode cX4_isSheet 0 = .ok (.iload_n 0, 1) := by decide +kernel
theorem dX4_isSheet_1 : decode cX4_isSheet 1 = .ok (.ifCond .lt 12, 3) := by decide +kernel
theorem dX4_isSheet_4 : decode cX4_isSheet 4 = .ok (.iload_n 0, 1) := by decide +kernel
theorem dX4_isSheet_5 : decode cX4_isSheet 5 = .ok (.iconst 4, 1) := by decide +kernel
theorem dX4_isSheet_6 : decode cX4_isSheet 6 = .ok (.if_icmp .ge 7, 3) := by decide +kernel
theorem dX4_isSheet_9 : decode cX4_isSheet 9 = .ok (.iconst 1, 1) := by decide +kernel
theorem dX4_isSheet_10 : decode cX4_isSheet 10 = .ok (.goto 4, 3) := by decide +kernel
theorem dX4_isSheet_13 : decode cX4_isSheet 13 = .ok (.iconst 0, 1) := by decide +kernel
theorem dX4_isSheet_14 : decode cX4_isSheet 14 = .ok (.ireturn, 1) := by decide +kernel
theorem dX4_isLane_0 : decode cX4_isLane 0 = .ok (.iload_n 0, 1) := by decide +kernel
theorem dX4_isLane_1 : decode cX4_isLane 1 = .ok (.ifCond .lt 12, 3) := by decide +kernel
theorem dX4_isLane_4 : decode cX4_isLane 4 = .ok (.iload_n 0, 1) := by decide +kernel
theorem dX4_isLane_5 : decode cX4_isLane 5 = .ok (.iconst 3, 1) := by decide +kernel
theorem dX4_isLane_6 : decode cX4_isLane 6 = .ok (.if_icmp .ge 7, 3) := by decide +kernel
theorem dX4_isLane_9 : decode cX4_isLane 9 = .ok (.iconst 1, 1) := by decide +kernel
theorem dX4_isLane_10 : decode cX4_isLane 10 = .ok (.goto 4, 3) := by decide +kernel
theorem dX4_isLane_13 : decode cX4_isLane 13 = .ok (.iconst 0, 1) := by decide +kernel
theorem dX4_isLane_14 : decode cX4_isLane 14 = .ok (.ireturn, 1) := by decide +kernel
theorem dX4_isWhich_0 : decode cX4_isWhich 0 = .ok (.iload_n 0, 1) := by decide +kernel
theorem dX4_isWhich_1 : decode cX4_isWhich 1 = .ok (.ifCond .eq 8, 3) := by decide +kernel
theorem dX4_isWhich_4 : decode cX4_isWhich 4 = .ok (.iload_n 0, 1) := by decide +kernel
theorem dX4_isWhich_5 : decode cX4_isWhich 5 = .ok (.iconst 1, 1) := by decide +kernel
theorem dX4_isWhich_6 : decode cX4_isWhich 6 = .ok (.if_icmp .ne 7, 3) := by decide +kernel
theorem dX4_isWhich_9 : decode cX4_isWhich 9 = .ok (.iconst 1, 1) := by decide +kernel
theorem dX4_isWhich_10 : decode cX4_isWhich 10 = .ok (.goto 4, 3) := by decide +kernel
theorem dX4_isWhich_13 : decode cX4_isWhich 13 = .ok (.iconst 0, 1) := by decide +kernel
theorem dX4_isWhich_14 : decode cX4_isWhich 14 = .ok (.ireturn, 1) := by decide +kernel
theorem dX4_isSet_0 : decode cX4_isSet 0 = .ok (.iload_n 1, 1) := by decide +kernel
theorem dX4_isSet_1 : decode cX4_isSet 1 = .ok (.ifCond .lt 17, 3) := by decide +kernel
theorem dX4_isSet_4 : decode cX4_isSet 4 = .ok (.iload_n 1, 1) := by decide +kernel
theorem dX4_isSet_5 : decode cX4_isSet 5 = .ok (.iconst 1, 1) := by decide +kernel
theorem dX4_isSet_6 : decode cX4_isSet 6 = .ok (.aload_n 0, 1) := by decide +kernel
theorem dX4_isSet_7 : decode cX4_isSet 7 = .ok (.getfield 69, 3) := by decide +kernel
theorem dX4_isSet_10 : decode cX4_isSet 10 = .ok (.ishl, 1) := by decide +kernel
theorem dX4_isSet_11 : decode cX4_isSet 11 = .ok (.if_icmp .ge 7, 3) := by decide +kernel
theorem dX4_isSet_14 : decode cX4_isSet 14 = .ok (.iconst 1, 1) := by decide +kernel
theorem dX4_isSet_15 : decode cX4_isSet 15 = .ok (.goto 4, 3) := by decide +kernel
theorem dX4_isSet_18 : decode cX4_isSet 18 = .ok (.iconst 0, 1) := by decide +kernel
theorem dX4_isSet_19 : decode cX4_isSet 19 = .ok (.ireturn, 1) := by decide +kernel
theorem dX4_citizen_0 : decode cX4_citizen 0 = .ok (.iload_n 1, 1) := by decide +kernel
theorem dX4_citizen_1 : decode cX4_citizen 1 = .ok (.ifCond .lt 29, 3) := by decide +kernel
theorem dX4_citizen_4 : decode cX4_citizen 4 = .ok (.iload_n 1, 1) := by decide +kernel
theorem dX4_citizen_5 : decode cX4_citizen 5 = .ok (.aload_n 0, 1) := by decide +kernel
theorem dX4_citizen_6 : decode cX4_citizen 6 = .ok (.getfield 69, 3) := by decide +kernel
theorem dX4_citizen_9 : decode cX4_citizen 9 = .ok (.if_icmp .ge 21, 3) := by decide +kernel
theorem dX4_citizen_12 : decode cX4_citizen 12 = .ok (.iload_n 1, 1) := by decide +kernel
theorem dX4_citizen_13 : decode cX4_citizen 13 = .ok (.aload_n 0, 1) := by decide +kernel
theorem dX4_citizen_14 : decode cX4_citizen 14 = .ok (.getfield 13, 3) := by decide +kernel
theorem dX4_citizen_17 : decode cX4_citizen 17 = .ok (.arraylength, 1) := by decide +kernel
theorem dX4_citizen_18 : decode cX4_citizen 18 = .ok (.if_icmp .ge 12, 3) := by decide +kernel
theorem dX4_citizen_21 : decode cX4_citizen 21 = .ok (.aload_n 0, 1) := by decide +kernel
theorem dX4_citizen_22 : decode cX4_citizen 22 = .ok (.getfield 13, 3) := by decide +kernel
theorem dX4_citizen_25 : decode cX4_citizen 25 = .ok (.iload_n 1, 1) := by decide +kernel
theorem dX4_citizen_26 : decode cX4_citizen 26 = .ok (.aaload, 1) := by decide +kernel
theorem dX4_citizen_27 : decode cX4_citizen 27 = .ok (.goto 4, 3) := by decide +kernel
theorem dX4_citizen_30 : decode cX4_citizen 30 = .ok (.aconst_null, 1) := by decide +kernel
theorem dX4_citizen_31 : decode cX4_citizen 31 = .ok (.areturn, 1) := by decide +kernel
set_option maxRecDepth 20000 in
theorem ggX4_placeOf_X4_isSheet : GoodIn wsX4_placeOf wsX4_isSheet := goodIn_r _ [5] (by decide +kernel) (by decide +kernel)
set_option maxRecDepth 20000 in
theorem gX4_placeOf_X4_isSheet : GoodIn wsX4_placeOf (va_wsS RX4 40 yX4_isSheet wsX4_isSheet) := goodIn_app (goodIn_of _ (by decide +kernel)) ggX4_placeOf_X4_isSheet
theorem dX4_placeOf_0 : decode cX4_placeOf 0 = .ok (.iload_n 1, 1) := by decide +kernel
theorem dX4_placeOf_1 : decode cX4_placeOf 1 = .ok (.invokestatic 40, 3) := by decide +kernel
theorem dX4_placeOf_4 : decode cX4_placeOf 4 = .ok (.ifCond .eq 21, 3) := by decide +kernel
theorem dX4_placeOf_7 : decode cX4_placeOf 7 = .ok (.iload_n 1, 1) := by decide +kernel
theorem dX4_placeOf_8 : decode cX4_placeOf 8 = .ok (.aload_n 0, 1) := by decide +kernel
theorem dX4_placeOf_9 : decode cX4_placeOf 9 = .ok (.getfield 23, 3) := by decide +kernel
theorem dX4_placeOf_12 : decode cX4_placeOf 12 = .ok (.arraylength, 1) := by decide +kernel
theorem dX4_placeOf_13 : decode cX4_placeOf 13 = .ok (.if_icmp .ge 12, 3) := by decide +kernel
theorem dX4_placeOf_16 : decode cX4_placeOf 16 = .ok (.aload_n 0, 1) := by decide +kernel
theorem dX4_placeOf_17 : decode cX4_placeOf 17 = .ok (.getfield 23, 3) := by decide +kernel
theorem dX4_placeOf_20 : decode cX4_placeOf 20 = .ok (.iload_n 1, 1) := by decide +kernel
theorem dX4_placeOf_21 : decode cX4_placeOf 21 = .ok (.aaload, 1) := by decide +kernel
theorem dX4_placeOf_22 : decode cX4_placeOf 22 = .ok (.goto 4, 3) := by decide +kernel
theorem dX4_placeOf_25 : decode cX4_placeOf 25 = .ok (.aconst_null, 1) := by decide +kernel
theorem dX4_placeOf_26 : decode cX4_placeOf 26 = .ok (.areturn, 1) := by decide +kernel
set_option maxRecDepth 20000 in
theorem ggX4_rowOf_X4_placeOf : GoodIn wsX4_rowOf wsX4_placeOf := goodIn_r _ [5, 6, 7, 8, 4, 9, 14, 15, 16, 17, 18, 19, 20, 21, 22, 23] (by decide +kernel) (by decide +kernel)
set_option maxRecDepth 20000 in
theorem gX4_rowOf_X4_placeOf : GoodIn wsX4_rowOf (wsV RX4 170 RX4 yX4_placeOf wsX4_placeOf) := goodIn_app (goodIn_of _ (by decide +kernel)) ggX4_rowOf_X4_placeOf
theorem dX4_rowOf_0 : decode cX4_rowOf 0 = .ok (.aload_n 0, 1) := by decide +kernel
theorem dX4_rowOf_1 : decode cX4_rowOf 1 = .ok (.iload_n 1, 1) := by decide +kernel
theorem dX4_rowOf_2 : decode cX4_rowOf 2 = .ok (.invokevirtual 170, 3) := by decide +kernel
theorem dX4_rowOf_5 : decode cX4_rowOf 5 = .ok (.astore_n 2, 1) := by decide +kernel
theorem dX4_rowOf_6 : decode cX4_rowOf 6 = .ok (.aload_n 2, 1) := by decide +kernel
theorem dX4_rowOf_7 : decode cX4_rowOf 7 = .ok (.ifnull 14, 3) := by decide +kernel
theorem dX4_rowOf_10 : decode cX4_rowOf 10 = .ok (.aload_n 2, 1) := by decide +kernel
theorem dX4_rowOf_11 : decode cX4_rowOf 11 = .ok (.getfield 216, 3) := by decide +kernel
theorem dX4_rowOf_14 : decode cX4_rowOf 14 = .ok (.ifCond .eq 7, 3) := by decide +kernel
theorem dX4_rowOf_17 : decode cX4_rowOf 17 = .ok (.aload_n 2, 1) := by decide +kernel
theorem dX4_rowOf_18 : decode cX4_rowOf 18 = .ok (.goto 4, 3) := by decide +kernel
theorem dX4_rowOf_21 : decode cX4_rowOf 21 = .ok (.aconst_null, 1) := by decide +kernel
theorem dX4_rowOf_22 : decode cX4_rowOf 22 = .ok (.areturn, 1) := by decide +kernel
theorem dX4_faulted_0 : decode cX4_faulted 0 = .ok (.aload_n 0, 1) := by decide +kernel
theorem dX4_faulted_1 : decode cX4_faulted 1 = .ok (.iload_n 1, 1) := by decide +kernel
theorem dX4_faulted_2 : decode cX4_faulted 2 = .ok (.putfield 36, 3) := by decide +kernel
theorem dX4_faulted_5 : decode cX4_faulted 5 = .ok (.bipush (-10), 2) := by decide +kernel
theorem dX4_faulted_7 : decode cX4_faulted 7 = .ok (.iload_n 1, 1) := by decide +kernel
theorem dX4_faulted_8 : decode cX4_faulted 8 = .ok (.isub, 1) := by decide +kernel
theorem dX4_faulted_9 : decode cX4_faulted 9 = .ok (.ireturn, 1) := by decide +kernel
set_option maxRecDepth 20000 in
theorem ggX4_faultOf_X2_holds : GoodIn wsX4_faultOf wsX2_holds := goodIn_r _ [4, 5, 6, 7, 8, 9] (by decide +kernel) (by decide +kernel)
set_option maxRecDepth 20000 in
theorem gX4_faultOf_X2_holds_n179 : GoodIn wsX4_faultOf (wsX2_holds) := ggX4_faultOf_X2_holds
theorem dX4_faultOf_0 : decode cX4_faultOf 0 = .ok (.aload_n 0, 1) := by decide +kernel
theorem dX4_faultOf_1 : decode cX4_faultOf 1 = .ok (.ifnonnull 5, 3) := by decide +kernel
theorem dX4_faultOf_4 : decode cX4_faultOf 4 = .ok (.iconst 1, 1) := by decide +kernel
theorem dX4_faultOf_5 : decode cX4_faultOf 5 = .ok (.ireturn, 1) := by decide +kernel
theorem dX4_faultOf_6 : decode cX4_faultOf 6 = .ok (.aload_n 0, 1) := by decide +kernel
theorem dX4_faultOf_7 : decode cX4_faultOf 7 = .ok (.getfield 189, 3) := by decide +kernel
theorem dX4_faultOf_10 : decode cX4_faultOf 10 = .ok (.iload_n 1, 1) := by decide +kernel
theorem dX4_faultOf_11 : decode cX4_faultOf 11 = .ok (.if_icmp .eq 5, 3) := by decide +kernel
theorem dX4_faultOf_14 : decode cX4_faultOf 14 = .ok (.iconst 2, 1) := by decide +kernel
theorem dX4_faultOf_15 : decode cX4_faultOf 15 = .ok (.ireturn, 1) := by decide +kernel
theorem dX4_faultOf_16 : decode cX4_faultOf 16 = .ok (.iload_n 3, 1) := by decide +kernel
theorem dX4_faultOf_17 : decode cX4_faultOf 17 = .ok (.ifCond .ge 5, 3) := by decide +kernel
theorem dX4_faultOf_20 : decode cX4_faultOf 20 = .ok (.iconst 4, 1) := by decide +kernel
theorem dX4_faultOf_21 : decode cX4_faultOf 21 = .ok (.ireturn, 1) := by decide +kernel
theorem dX4_faultOf_22 : decode cX4_faultOf 22 = .ok (.aload_n 0, 1) := by decide +kernel
theorem dX4_faultOf_23 : decode cX4_faultOf 23 = .ok (.iload_n 2, 1) := by decide +kernel
theorem dX4_faultOf_24 : decode cX4_faultOf 24 = .ok (.iload_n 3, 1) := by decide +kernel
theorem dX4_faultOf_25 : decode cX4_faultOf 25 = .ok (.invokevirtual 179, 3) := by decide +kernel
theorem dX4_faultOf_28 : decode cX4_faultOf 28 = .ok (.ifCond .eq 7, 3) := by decide +kernel
theorem dX4_faultOf_31 : decode cX4_faultOf 31 = .ok (.iconst 0, 1) := by decide +kernel
theorem dX4_faultOf_32 : decode cX4_faultOf 32 = .ok (.goto 4, 3) := by decide +kernel
theorem dX4_faultOf_35 : decode cX4_faultOf 35 = .ok (.iconst 3, 1) := by decide +kernel
theorem dX4_faultOf_36 : decode cX4_faultOf 36 = .ok (.ireturn, 1) := by decide +kernel
theorem dX4_slipsOf_0 : decode cX4_slipsOf 0 = .ok (.iload_n 0, 1) := by decide +kernel
theorem dX4_slipsOf_1 : decode cX4_slipsOf 1 = .ok (.iconst 1, 1) := by decide +kernel
theorem dX4_slipsOf_2 : decode cX4_slipsOf 2 = .ok (.if_icmp .lt 9, 3) := by decide +kernel
theorem dX4_slipsOf_5 : decode cX4_slipsOf 5 = .ok (.iload_n 1, 1) := by decide +kernel
theorem dX4_slipsOf_6 : decode cX4_slipsOf 6 = .ok (.iconst 1, 1) := by decide +kernel
theorem dX4_slipsOf_7 : decode cX4_slipsOf 7 = .ok (.iadd, 1) := by decide +kernel
theorem dX4_slipsOf_8 : decode cX4_slipsOf 8 = .ok (.goto 4, 3) := by decide +kernel
theorem dX4_slipsOf_11 : decode cX4_slipsOf 11 = .ok (.iload_n 1, 1) := by decide +kernel
theorem dX4_slipsOf_12 : decode cX4_slipsOf 12 = .ok (.istore_n 2, 1) := by decide +kernel
theorem dX4_slipsOf_13 : decode cX4_slipsOf 13 = .ok (.iload_n 0, 1) := by decide +kernel
theorem dX4_slipsOf_14 : decode cX4_slipsOf 14 = .ok (.iconst 2, 1) := by decide +kernel
theorem dX4_slipsOf_15 : decode cX4_slipsOf 15 = .ok (.if_icmp .lt 9, 3) := by decide +kernel
theorem dX4_slipsOf_18 : decode cX4_slipsOf 18 = .ok (.iconst 2, 1) := by decide +kernel
theorem dX4_slipsOf_19 : decode cX4_slipsOf 19 = .ok (.iload_n 2, 1) := by decide +kernel
theorem dX4_slipsOf_20 : decode cX4_slipsOf 20 = .ok (.imul, 1) := by decide +kernel
theorem dX4_slipsOf_21 : decode cX4_slipsOf 21 = .ok (.goto 4, 3) := by decide +kernel
theorem dX4_slipsOf_24 : decode cX4_slipsOf 24 = .ok (.iload_n 2, 1) := by decide +kernel
theorem dX4_slipsOf_25 : decode cX4_slipsOf 25 = .ok (.ireturn, 1) := by decide +kernel
set_option maxRecDepth 20000 in
theorem ggX4_slipsAhead_X4_citizen : GoodIn wsX4_slipsAhead wsX4_citizen := goodIn_r _ [5, 6, 7, 16, 17, 18, 19, 20, 21, 22, 23, 24, 25] (by decide +kernel) (by decide +kernel)
set_option maxRecDepth 20000 in
theorem gX4_slipsAhead_X4_citizen : GoodIn wsX4_slipsAhead (wsV RX4 72 RX4 yX4_citizen wsX4_citizen) := goodIn_app (goodIn_of _ (by decide +kernel)) ggX4_slipsAhead_X4_citizen
set_option maxRecDepth 20000 in
theorem ggX4_slipsAhead_X0_slips : GoodIn wsX4_slipsAhead wsX0_slips := goodIn_r _ [11, 12, 13, 14, 4, 15, 26, 27, 28, 29] (by decide +kernel) (by decide +kernel)
set_option maxRecDepth 20000 in
theorem gX4_slipsAhead_X0_slips_n89 : GoodIn wsX4_slipsAhead (wsX0_slips) := ggX4_slipsAhead_X0_slips
theorem dX4_slipsAhead_0 : decode cX4_slipsAhead 0 = .ok (.iconst 0, 1) := by decide +kernel
theorem dX4_slipsAhead_1 : decode cX4_slipsAhead 1 = .ok (.istore_n 2, 1) := by decide +kernel
theorem dX4_slipsAhead_2 : decode cX4_slipsAhead 2 = .ok (.iconst 0, 1) := by decide +kernel
theorem dX4_slipsAhead_3 : decode cX4_slipsAhead 3 = .ok (.istore_n 3, 1) := by decide +kernel
theorem dX4_slipsAhead_4 : decode cX4_slipsAhead 4 = .ok (.iload_n 3, 1) := by decide +kernel
theorem dX4_slipsAhead_5 : decode cX4_slipsAhead 5 = .ok (.iload_n 1, 1) := by decide +kernel
theorem dX4_slipsAhead_6 : decode cX4_slipsAhead 6 = .ok (.if_icmp .ge 33, 3) := by decide +kernel
theorem dX4_slipsAhead_9 : decode cX4_slipsAhead 9 = .ok (.aload_n 0, 1) := by decide +kernel
theorem dX4_slipsAhead_10 : decode cX4_slipsAhead 10 = .ok (.iload_n 3, 1) := by decide +kernel
theorem dX4_slipsAhead_11 : decode cX4_slipsAhead 11 = .ok (.invokevirtual 72, 3) := by decide +kernel
theorem dX4_slipsAhead_14 : decode cX4_slipsAhead 14 = .ok (.astore 4, 2) := by decide +kernel
theorem dX4_slipsAhead_16 : decode cX4_slipsAhead 16 = .ok (.iload_n 2, 1) := by decide +kernel
theorem dX4_slipsAhead_17 : decode cX4_slipsAhead 17 = .ok (.aload 4, 2) := by decide +kernel
theorem dX4_slipsAhead_19 : decode cX4_slipsAhead 19 = .ok (.ifnonnull 7, 3) := by decide +kernel
theorem dX4_slipsAhead_22 : decode cX4_slipsAhead 22 = .ok (.iconst 0, 1) := by decide +kernel
theorem dX4_slipsAhead_23 : decode cX4_slipsAhead 23 = .ok (.goto 8, 3) := by decide +kernel
theorem dX4_slipsAhead_26 : decode cX4_slipsAhead 26 = .ok (.aload 4, 2) := by decide +kernel
theorem dX4_slipsAhead_28 : decode cX4_slipsAhead 28 = .ok (.invokevirtual 89, 3) := by decide +kernel
theorem dX4_slipsAhead_31 : decode cX4_slipsAhead 31 = .ok (.iadd, 1) := by decide +kernel
theorem dX4_slipsAhead_32 : decode cX4_slipsAhead 32 = .ok (.istore_n 2, 1) := by decide +kernel
theorem dX4_slipsAhead_33 : decode cX4_slipsAhead 33 = .ok (.iinc 3 1, 3) := by decide +kernel
theorem dX4_slipsAhead_36 : decode cX4_slipsAhead 36 = .ok (.goto (-32), 3) := by decide +kernel
theorem dX4_slipsAhead_39 : decode cX4_slipsAhead 39 = .ok (.iload_n 2, 1) := by decide +kernel
theorem dX4_slipsAhead_40 : decode cX4_slipsAhead 40 = .ok (.ireturn, 1) := by decide +kernel
set_option maxRecDepth 20000 in
theorem ggX4_ownerOf_X4_citizen : GoodIn wsX4_ownerOf wsX4_citizen := goodIn_r _ [6, 1, 7, 16, 17, 18, 19, 20, 21, 22, 23, 24, 25] (by decide +kernel) (by decide +kernel)
set_option maxRecDepth 20000 in
theorem gX4_ownerOf_X4_citizen : GoodIn wsX4_ownerOf (wsV RX4 72 RX4 yX4_citizen wsX4_citizen) := goodIn_app (goodIn_of _ (by decide +kernel)) ggX4_ownerOf_X4_citizen
set_option maxRecDepth 20000 in
theorem ggX4_ownerOf_X0_slips : GoodIn wsX4_ownerOf wsX0_slips := goodIn_r _ [11, 12, 13, 14, 5, 15, 26, 27, 28, 29] (by decide +kernel) (by decide +kernel)
set_option maxRecDepth 20000 in
theorem gX4_ownerOf_X0_slips_n89 : GoodIn wsX4_ownerOf (wsX0_slips) := ggX4_ownerOf_X0_slips
theorem dX4_ownerOf_0 : decode cX4_ownerOf 0 = .ok (.iconst 0, 1) := by decide +kernel
theorem dX4_ownerOf_1 : decode cX4_ownerOf 1 = .ok (.istore_n 2, 1) := by decide +kernel
theorem dX4_ownerOf_2 : decode cX4_ownerOf 2 = .ok (.iconst 0, 1) := by decide +kernel
theorem dX4_ownerOf_3 : decode cX4_ownerOf 3 = .ok (.istore_n 3, 1) := by decide +kernel
theorem dX4_ownerOf_4 : decode cX4_ownerOf 4 = .ok (.iload_n 3, 1) := by decide +kernel
theorem dX4_ownerOf_5 : decode cX4_ownerOf 5 = .ok (.aload_n 0, 1) := by decide +kernel
theorem dX4_ownerOf_6 : decode cX4_ownerOf 6 = .ok (.getfield 69, 3) := by decide +kernel
theorem dX4_ownerOf_9 : decode cX4_ownerOf 9 = .ok (.if_icmp .ge 45, 3) := by decide +kernel
theorem dX4_ownerOf_12 : decode cX4_ownerOf 12 = .ok (.iload_n 1, 1) := by decide +kernel
theorem dX4_ownerOf_13 : decode cX4_ownerOf 13 = .ok (.iload_n 2, 1) := by decide +kernel
theorem dX4_ownerOf_14 : decode cX4_ownerOf 14 = .ok (.if_icmp .lt 40, 3) := by decide +kernel
theorem dX4_ownerOf_17 : decode cX4_ownerOf 17 = .ok (.aload_n 0, 1) := by decide +kernel
theorem dX4_ownerOf_18 : decode cX4_ownerOf 18 = .ok (.iload_n 3, 1) := by decide +kernel
theorem dX4_ownerOf_19 : decode cX4_ownerOf 19 = .ok (.invokevirtual 72, 3) := by decide +kernel
theorem dX4_ownerOf_22 : decode cX4_ownerOf 22 = .ok (.astore 4, 2) := by decide +kernel
theorem dX4_ownerOf_24 : decode cX4_ownerOf 24 = .ok (.iload_n 2, 1) := by decide +kernel
theorem dX4_ownerOf_25 : decode cX4_ownerOf 25 = .ok (.aload 4, 2) := by decide +kernel
theorem dX4_ownerOf_27 : decode cX4_ownerOf 27 = .ok (.ifnonnull 7, 3) := by decide +kernel
theorem dX4_ownerOf_30 : decode cX4_ownerOf 30 = .ok (.iconst 0, 1) := by decide +kernel
theorem dX4_ownerOf_31 : decode cX4_ownerOf 31 = .ok (.goto 8, 3) := by decide +kernel
theorem dX4_ownerOf_34 : decode cX4_ownerOf 34 = .ok (.aload 4, 2) := by decide +kernel
theorem dX4_ownerOf_36 : decode cX4_ownerOf 36 = .ok (.invokevirtual 89, 3) := by decide +kernel
theorem dX4_ownerOf_39 : decode cX4_ownerOf 39 = .ok (.iadd, 1) := by decide +kernel
theorem dX4_ownerOf_40 : decode cX4_ownerOf 40 = .ok (.istore_n 2, 1) := by decide +kernel
theorem dX4_ownerOf_41 : decode cX4_ownerOf 41 = .ok (.iload_n 1, 1) := by decide +kernel
theorem dX4_ownerOf_42 : decode cX4_ownerOf 42 = .ok (.iload_n 2, 1) := by decide +kernel
theorem dX4_ownerOf_43 : decode cX4_ownerOf 43 = .ok (.if_icmp .ge 5, 3) := by decide +kernel
theorem dX4_ownerOf_46 : decode cX4_ownerOf 46 = .ok (.iload_n 3, 1) := by decide +kernel
theorem dX4_ownerOf_47 : decode cX4_ownerOf 47 = .ok (.ireturn, 1) := by decide +kernel
theorem dX4_ownerOf_48 : decode cX4_ownerOf 48 = .ok (.iinc 3 1, 3) := by decide +kernel
theorem dX4_ownerOf_51 : decode cX4_ownerOf 51 = .ok (.goto (-47), 3) := by decide +kernel
theorem dX4_ownerOf_54 : decode cX4_ownerOf 54 = .ok (.bipush (-9), 2) := by decide +kernel
theorem dX4_ownerOf_56 : decode cX4_ownerOf 56 = .ok (.ireturn, 1) := by decide +kernel
set_option maxRecDepth 20000 in
theorem ggX4_takeText_X3_citizensIn : GoodIn wsX4_takeText wsX3_citizensIn := goodIn_r _ [7, 8, 9, 10, 11] (by decide +kernel) (by decide +kernel)
set_option maxRecDepth 20000 in
theorem gX4_takeText_X3_citizensIn_n219 : GoodIn wsX4_takeText (wsX3_citizensIn) := ggX4_takeText_X3_citizensIn
set_option maxRecDepth 20000 in
theorem ggX4_takeText_X2_at : GoodIn wsX4_takeText wsX2_at := goodIn_r _ [15, 16, 38, 39, 40, 41] (by decide +kernel) (by decide +kernel)
set_option maxRecDepth 20000 in
theorem gX4_takeText_X2_at_n186 : GoodIn wsX4_takeText (wsX2_at) := ggX4_takeText_X2_at
set_option maxRecDepth 20000 in
theorem ggX4_takeText_X3_digit : GoodIn wsX4_takeText wsX3_digit := goodIn_r _ [18] (by decide +kernel) (by decide +kernel)
set_option maxRecDepth 20000 in
theorem gX4_takeText_X3_digit_n222 : GoodIn wsX4_takeText (wsX3_digit) := ggX4_takeText_X3_digit
set_option maxRecDepth 20000 in
theorem ggX4_takeText_X4_citizen : GoodIn wsX4_takeText wsX4_citizen := goodIn_r _ [23, 1, 24, 28, 29, 30, 31, 32, 33, 34, 35, 36, 37] (by decide +kernel) (by decide +kernel)
set_option maxRecDepth 20000 in
theorem gX4_takeText_X4_citizen : GoodIn wsX4_takeText (wsV RX4 72 RX4 yX4_citizen wsX4_citizen) := goodIn_app (goodIn_of _ (by decide +kernel)) ggX4_takeText_X4_citizen
set_option maxRecDepth 20000 in
theorem ggX4_takeText_X3_tellCitizen : GoodIn wsX4_takeText wsX3_tellCitizen := goodIn_r _ [26, 12, 13, 14, 15, 16, 27, 17, 6, 18, 42, 43, 44, 45, 38, 39, 40, 41] (by decide +kernel) (by decide +kernel)
set_option maxRecDepth 20000 in
theorem gX4_takeText_X3_tellCitizen_n225 : GoodIn wsX4_takeText (wsX3_tellCitizen) := ggX4_takeText_X3_tellCitizen
theorem dX4_takeText_0 : decode cX4_takeText 0 = .ok (.aload_n 0, 1) := by decide +kernel
theorem dX4_takeText_1 : decode cX4_takeText 1 = .ok (.iload_n 3, 1) := by decide +kernel
theorem dX4_takeText_2 : decode cX4_takeText 2 = .ok (.invokestatic 219, 3) := by decide +kernel
theorem dX4_takeText_5 : decode cX4_takeText 5 = .ok (.putfield 69, 3) := by decide +kernel
theorem dX4_takeText_8 : decode cX4_takeText 8 = .ok (.aload_n 0, 1) := by decide +kernel
theorem dX4_takeText_9 : decode cX4_takeText 9 = .ok (.aload_n 1, 1) := by decide +kernel
theorem dX4_takeText_10 : decode cX4_takeText 10 = .ok (.iload_n 2, 1) := by decide +kernel
theorem dX4_takeText_11 : decode cX4_takeText 11 = .ok (.iconst 1, 1) := by decide +kernel
theorem dX4_takeText_12 : decode cX4_takeText 12 = .ok (.iadd, 1) := by decide +kernel
theorem dX4_takeText_13 : decode cX4_takeText 13 = .ok (.invokevirtual 186, 3) := by decide +kernel
theorem dX4_takeText_16 : decode cX4_takeText 16 = .ok (.invokestatic 222, 3) := by decide +kernel
theorem dX4_takeText_19 : decode cX4_takeText 19 = .ok (.putfield 96, 3) := by decide +kernel
theorem dX4_takeText_22 : decode cX4_takeText 22 = .ok (.aload_n 0, 1) := by decide +kernel
theorem dX4_takeText_23 : decode cX4_takeText 23 = .ok (.aload_n 1, 1) := by decide +kernel
theorem dX4_takeText_24 : decode cX4_takeText 24 = .ok (.iload_n 2, 1) := by decide +kernel
theorem dX4_takeText_25 : decode cX4_takeText 25 = .ok (.iconst 2, 1) := by decide +kernel
theorem dX4_takeText_26 : decode cX4_takeText 26 = .ok (.iadd, 1) := by decide +kernel
theorem dX4_takeText_27 : decode cX4_takeText 27 = .ok (.invokevirtual 186, 3) := by decide +kernel
theorem dX4_takeText_30 : decode cX4_takeText 30 = .ok (.invokestatic 222, 3) := by decide +kernel
theorem dX4_takeText_33 : decode cX4_takeText 33 = .ok (.putfield 99, 3) := by decide +kernel
theorem dX4_takeText_36 : decode cX4_takeText 36 = .ok (.aload_n 0, 1) := by decide +kernel
theorem dX4_takeText_37 : decode cX4_takeText 37 = .ok (.iconst 0, 1) := by decide +kernel
theorem dX4_takeText_38 : decode cX4_takeText 38 = .ok (.putfield 160, 3) := by decide +kernel
theorem dX4_takeText_41 : decode cX4_takeText 41 = .ok (.iconst 0, 1) := by decide +kernel
theorem dX4_takeText_42 : decode cX4_takeText 42 = .ok (.istore 4, 2) := by decide +kernel
theorem dX4_takeText_44 : decode cX4_takeText 44 = .ok (.iload 4, 2) := by decide +kernel
theorem dX4_takeText_46 : decode cX4_takeText 46 = .ok (.aload_n 0, 1) := by decide +kernel
theorem dX4_takeText_47 : decode cX4_takeText 47 = .ok (.getfield 69, 3) := by decide +kernel
theorem dX4_takeText_50 : decode cX4_takeText 50 = .ok (.if_icmp .ge 37, 3) := by decide +kernel
theorem dX4_takeText_53 : decode cX4_takeText 53 = .ok (.aload_n 0, 1) := by decide +kernel
theorem dX4_takeText_54 : decode cX4_takeText 54 = .ok (.iload 4, 2) := by decide +kernel
theorem dX4_takeText_56 : decode cX4_takeText 56 = .ok (.invokevirtual 72, 3) := by decide +kernel
theorem dX4_takeText_59 : decode cX4_takeText 59 = .ok (.astore 5, 2) := by decide +kernel
theorem dX4_takeText_61 : decode cX4_takeText 61 = .ok (.aload 5, 2) := by decide +kernel
theorem dX4_takeText_63 : decode cX4_takeText 63 = .ok (.ifnull 18, 3) := by decide +kernel
theorem dX4_takeText_66 : decode cX4_takeText 66 = .ok (.aload_n 1, 1) := by decide +kernel
theorem dX4_takeText_67 : decode cX4_takeText 67 = .ok (.iload_n 2, 1) := by decide +kernel
theorem dX4_takeText_68 : decode cX4_takeText 68 = .ok (.iconst 3, 1) := by decide +kernel
theorem dX4_takeText_69 : decode cX4_takeText 69 = .ok (.iadd, 1) := by decide +kernel
theorem dX4_takeText_70 : decode cX4_takeText 70 = .ok (.iload 4, 2) := by decide +kernel
theorem dX4_takeText_72 : decode cX4_takeText 72 = .ok (.bipush 6, 2) := by decide +kernel
theorem dX4_takeText_74 : decode cX4_takeText 74 = .ok (.imul, 1) := by decide +kernel
theorem dX4_takeText_75 : decode cX4_takeText 75 = .ok (.iadd, 1) := by decide +kernel
theorem dX4_takeText_76 : decode cX4_takeText 76 = .ok (.aload 5, 2) := by decide +kernel
theorem dX4_takeText_78 : decode cX4_takeText 78 = .ok (.invokestatic 225, 3) := by decide +kernel
theorem dX4_takeText_81 : decode cX4_takeText 81 = .ok (.iinc 4 1, 3) := by decide +kernel
theorem dX4_takeText_84 : decode cX4_takeText 84 = .ok (.goto (-40), 3) := by decide +kernel
theorem dX4_takeText_87 : decode cX4_takeText 87 = .ok (.return_, 1) := by decide +kernel
set_option maxRecDepth 20000 in
theorem ggX4_firstWrong_X2_at : GoodIn wsX4_firstWrong wsX2_at := goodIn_r _ [4, 5, 29, 30, 31, 32] (by decide +kernel) (by decide +kernel)
set_option maxRecDepth 20000 in
theorem gX4_firstWrong_X2_at_n186 : GoodIn wsX4_firstWrong (wsX2_at) := ggX4_firstWrong_X2_at
set_option maxRecDepth 20000 in
theorem ggX4_firstWrong_X4_ownerOf : GoodIn wsX4_firstWrong wsX4_ownerOf := goodIn_r _ [10, 11, 12, 13, 14, 9, 15, 16, 17, 18, 19, 20, 21, 22, 23, 24, 33, 34, 35, 36, 37, 38, 39, 40, 41, 42, 43, 44, 45, 46] (by decide +kernel) (by decide +kernel)
set_option maxRecDepth 20000 in
theorem gX4_firstWrong_X4_ownerOf : GoodIn wsX4_firstWrong (wsV RX4 229 RX4 yX4_ownerOf wsX4_ownerOf) := goodIn_app (goodIn_of _ (by decide +kernel)) ggX4_firstWrong_X4_ownerOf
set_option maxRecDepth 20000 in
theorem ggX4_firstWrong_X2_has : GoodIn wsX4_firstWrong wsX2_has := goodIn_r _ [27, 28, 1, 3, 2, 4, 5, 29, 30, 31, 32] (by decide +kernel) (by decide +kernel)
set_option maxRecDepth 20000 in
theorem gX4_firstWrong_X2_has_n232 : GoodIn wsX4_firstWrong (wsX2_has) := ggX4_firstWrong_X2_has
theorem dX4_firstWrong_0 : decode cX4_firstWrong 0 = .ok (.iconst 0, 1) := by decide +kernel
theorem dX4_firstWrong_1 : decode cX4_firstWrong 1 = .ok (.istore 4, 2) := by decide +kernel
theorem dX4_firstWrong_3 : decode cX4_firstWrong 3 = .ok (.iload 4, 2) := by decide +kernel
theorem dX4_firstWrong_5 : decode cX4_firstWrong 5 = .ok (.iload_n 3, 1) := by decide +kernel
theorem dX4_firstWrong_6 : decode cX4_firstWrong 6 = .ok (.if_icmp .ge 45, 3) := by decide +kernel
theorem dX4_firstWrong_9 : decode cX4_firstWrong 9 = .ok (.aload_n 1, 1) := by decide +kernel
theorem dX4_firstWrong_10 : decode cX4_firstWrong 10 = .ok (.iload_n 2, 1) := by decide +kernel
theorem dX4_firstWrong_11 : decode cX4_firstWrong 11 = .ok (.iload 4, 2) := by decide +kernel
theorem dX4_firstWrong_13 : decode cX4_firstWrong 13 = .ok (.iadd, 1) := by decide +kernel
theorem dX4_firstWrong_14 : decode cX4_firstWrong 14 = .ok (.invokevirtual 186, 3) := by decide +kernel
theorem dX4_firstWrong_17 : decode cX4_firstWrong 17 = .ok (.istore 5, 2) := by decide +kernel
theorem dX4_firstWrong_19 : decode cX4_firstWrong 19 = .ok (.aload_n 0, 1) := by decide +kernel
theorem dX4_firstWrong_20 : decode cX4_firstWrong 20 = .ok (.iload 5, 2) := by decide +kernel
theorem dX4_firstWrong_22 : decode cX4_firstWrong 22 = .ok (.invokevirtual 229, 3) := by decide +kernel
theorem dX4_firstWrong_25 : decode cX4_firstWrong 25 = .ok (.bipush (-9), 2) := by decide +kernel
theorem dX4_firstWrong_27 : decode cX4_firstWrong 27 = .ok (.if_icmp .eq 15, 3) := by decide +kernel
theorem dX4_firstWrong_30 : decode cX4_firstWrong 30 = .ok (.aload_n 1, 1) := by decide +kernel
theorem dX4_firstWrong_31 : decode cX4_firstWrong 31 = .ok (.iload 5, 2) := by decide +kernel
theorem dX4_firstWrong_33 : decode cX4_firstWrong 33 = .ok (.iload_n 2, 1) := by decide +kernel
theorem dX4_firstWrong_34 : decode cX4_firstWrong 34 = .ok (.iload 4, 2) := by decide +kernel
theorem dX4_firstWrong_36 : decode cX4_firstWrong 36 = .ok (.invokevirtual 232, 3) := by decide +kernel
theorem dX4_firstWrong_39 : decode cX4_firstWrong 39 = .ok (.ifCond .eq 6, 3) := by decide +kernel
theorem dX4_firstWrong_42 : decode cX4_firstWrong 42 = .ok (.iload 4, 2) := by decide +kernel
theorem dX4_firstWrong_44 : decode cX4_firstWrong 44 = .ok (.ireturn, 1) := by decide +kernel
theorem dX4_firstWrong_45 : decode cX4_firstWrong 45 = .ok (.iinc 4 1, 3) := by decide +kernel
theorem dX4_firstWrong_48 : decode cX4_firstWrong 48 = .ok (.goto (-45), 3) := by decide +kernel
theorem dX4_firstWrong_51 : decode cX4_firstWrong 51 = .ok (.bipush (-9), 2) := by decide +kernel
theorem dX4_firstWrong_53 : decode cX4_firstWrong 53 = .ok (.ireturn, 1) := by decide +kernel
set_option maxRecDepth 20000 in
theorem ggX4_rulersBy_X2_at : GoodIn wsX4_rulersBy wsX2_at := goodIn_r _ [5, 6, 35, 36, 37, 38] (by decide +kernel) (by decide +kernel)
set_option maxRecDepth 20000 in
theorem gX4_rulersBy_X2_at_n186 : GoodIn wsX4_rulersBy (wsX2_at) := ggX4_rulersBy_X2_at
set_option maxRecDepth 20000 in
theorem ggX4_rulersBy_X4_ownerOf : GoodIn wsX4_rulersBy wsX4_ownerOf := goodIn_r _ [11, 1, 12, 13, 14, 10, 15, 16, 17, 18, 19, 20, 21, 22, 23, 24, 25, 26, 27, 28, 29, 30, 31, 32, 33, 34, 39, 40, 41, 42] (by decide +kernel) (by decide +kernel)
set_option maxRecDepth 20000 in
theorem gX4_rulersBy_X4_ownerOf : GoodIn wsX4_rulersBy (wsV RX4 229 RX4 yX4_ownerOf wsX4_ownerOf) := goodIn_app (goodIn_of _ (by decide +kernel)) ggX4_rulersBy_X4_ownerOf
theorem dX4_rulersBy_0 : decode cX4_rulersBy 0 = .ok (.iconst 1, 1) := by decide +kernel
theorem dX4_rulersBy_1 : decode cX4_rulersBy 1 = .ok (.aload_n 0, 1) := by decide +kernel
theorem dX4_rulersBy_2 : decode cX4_rulersBy 2 = .ok (.getfield 69, 3) := by decide +kernel
theorem dX4_rulersBy_5 : decode cX4_rulersBy 5 = .ok (.ishl, 1) := by decide +kernel
theorem dX4_rulersBy_6 : decode cX4_rulersBy 6 = .ok (.iconst 1, 1) := by decide +kernel
theorem dX4_rulersBy_7 : decode cX4_rulersBy 7 = .ok (.isub, 1) := by decide +kernel
theorem dX4_rulersBy_8 : decode cX4_rulersBy 8 = .ok (.istore 4, 2) := by decide +kernel
theorem dX4_rulersBy_10 : decode cX4_rulersBy 10 = .ok (.iconst 0, 1) := by decide +kernel
theorem dX4_rulersBy_11 : decode cX4_rulersBy 11 = .ok (.istore 5, 2) := by decide +kernel
theorem dX4_rulersBy_13 : decode cX4_rulersBy 13 = .ok (.iload 5, 2) := by decide +kernel
theorem dX4_rulersBy_15 : decode cX4_rulersBy 15 = .ok (.iload_n 3, 1) := by decide +kernel
theorem dX4_rulersBy_16 : decode cX4_rulersBy 16 = .ok (.if_icmp .ge 41, 3) := by decide +kernel
theorem dX4_rulersBy_19 : decode cX4_rulersBy 19 = .ok (.aload_n 0, 1) := by decide +kernel
theorem dX4_rulersBy_20 : decode cX4_rulersBy 20 = .ok (.aload_n 1, 1) := by decide +kernel
theorem dX4_rulersBy_21 : decode cX4_rulersBy 21 = .ok (.iload_n 2, 1) := by decide +kernel
theorem dX4_rulersBy_22 : decode cX4_rulersBy 22 = .ok (.iload 5, 2) := by decide +kernel
theorem dX4_rulersBy_24 : decode cX4_rulersBy 24 = .ok (.iadd, 1) := by decide +kernel
theorem dX4_rulersBy_25 : decode cX4_rulersBy 25 = .ok (.invokevirtual 186, 3) := by decide +kernel
theorem dX4_rulersBy_28 : decode cX4_rulersBy 28 = .ok (.invokevirtual 229, 3) := by decide +kernel
theorem dX4_rulersBy_31 : decode cX4_rulersBy 31 = .ok (.istore 6, 2) := by decide +kernel
theorem dX4_rulersBy_33 : decode cX4_rulersBy 33 = .ok (.iload 6, 2) := by decide +kernel
theorem dX4_rulersBy_35 : decode cX4_rulersBy 35 = .ok (.bipush (-9), 2) := by decide +kernel
theorem dX4_rulersBy_37 : decode cX4_rulersBy 37 = .ok (.if_icmp .eq 14, 3) := by decide +kernel
theorem dX4_rulersBy_40 : decode cX4_rulersBy 40 = .ok (.iload 4, 2) := by decide +kernel
theorem dX4_rulersBy_42 : decode cX4_rulersBy 42 = .ok (.iconst 1, 1) := by decide +kernel
theorem dX4_rulersBy_43 : decode cX4_rulersBy 43 = .ok (.iload 6, 2) := by decide +kernel
theorem dX4_rulersBy_45 : decode cX4_rulersBy 45 = .ok (.ishl, 1) := by decide +kernel
theorem dX4_rulersBy_46 : decode cX4_rulersBy 46 = .ok (.iconst (-1), 1) := by decide +kernel
theorem dX4_rulersBy_47 : decode cX4_rulersBy 47 = .ok (.ixor, 1) := by decide +kernel
theorem dX4_rulersBy_48 : decode cX4_rulersBy 48 = .ok (.iand, 1) := by decide +kernel
theorem dX4_rulersBy_49 : decode cX4_rulersBy 49 = .ok (.istore 4, 2) := by decide +kernel
theorem dX4_rulersBy_51 : decode cX4_rulersBy 51 = .ok (.iinc 5 1, 3) := by decide +kernel
theorem dX4_rulersBy_54 : decode cX4_rulersBy 54 = .ok (.goto (-41), 3) := by decide +kernel
theorem dX4_rulersBy_57 : decode cX4_rulersBy 57 = .ok (.iload 4, 2) := by decide +kernel
theorem dX4_rulersBy_59 : decode cX4_rulersBy 59 = .ok (.ireturn, 1) := by decide +kernel
set_option maxRecDepth 20000 in
theorem ggX4_fillDrum_X1_empty : GoodIn wsX4_fillDrum wsX1_empty := goodIn_r _ [7, 8, 9, 10, 11, 12, 13, 14, 15, 16, 17, 18, 19, 20, 21, 5, 22, 23, 62, 63, 64, 65, 66, 67, 68] (by decide +kernel) (by decide +kernel)
set_option maxRecDepth 20000 in
theorem gX4_fillDrum_X1_empty_n236 : GoodIn wsX4_fillDrum (wsX1_empty) := ggX4_fillDrum_X1_empty
set_option maxRecDepth 20000 in
theorem ggX4_fillDrum_X4_citizen : GoodIn wsX4_fillDrum wsX4_citizen := goodIn_r _ [28, 2, 29, 48, 49, 50, 51, 52, 53, 54, 55, 56, 57] (by decide +kernel) (by decide +kernel)
set_option maxRecDepth 20000 in
theorem gX4_fillDrum_X4_citizen : GoodIn wsX4_fillDrum (wsV RX4 72 RX4 yX4_citizen wsX4_citizen) := goodIn_app (goodIn_of _ (by decide +kernel)) ggX4_fillDrum_X4_citizen
set_option maxRecDepth 20000 in
theorem ggX4_fillDrum_X0_slips : GoodIn wsX4_fillDrum wsX0_slips := goodIn_r _ [33, 34, 35, 36, 27, 37, 58, 59, 60, 61] (by decide +kernel) (by decide +kernel)
set_option maxRecDepth 20000 in
theorem gX4_fillDrum_X0_slips_n89 : GoodIn wsX4_fillDrum (wsX0_slips) := ggX4_fillDrum_X0_slips
set_option maxRecDepth 20000 in
theorem ggX4_fillDrum_X1_setSlips : GoodIn wsX4_fillDrum wsX1_setSlips := goodIn_r _ [40, 18, 17, 41, 42, 43, 5, 44, 62, 63, 64, 65, 66, 67, 68] (by decide +kernel) (by decide +kernel)
set_option maxRecDepth 20000 in
theorem gX4_fillDrum_X1_setSlips_n140 : GoodIn wsX4_fillDrum (wsX1_setSlips) := ggX4_fillDrum_X1_setSlips
set_option maxRecDepth 20000 in
theorem ggX4_fillDrum_X1_setWishes : GoodIn wsX4_fillDrum wsX1_setWishes := goodIn_r _ [47, 16, 62, 63, 64, 65, 66, 67, 68] (by decide +kernel) (by decide +kernel)
set_option maxRecDepth 20000 in
theorem gX4_fillDrum_X1_setWishes_n156 : GoodIn wsX4_fillDrum (wsX1_setWishes) := ggX4_fillDrum_X1_setWishes
theorem dX4_fillDrum_0 : decode cX4_fillDrum 0 = .ok (.aload_n 0, 1) := by decide +kernel
theorem dX4_fillDrum_1 : decode cX4_fillDrum 1 = .ok (.getfield 30, 3) := by decide +kernel
theorem dX4_fillDrum_4 : decode cX4_fillDrum 4 = .ok (.aload_n 0, 1) := by decide +kernel
theorem dX4_fillDrum_5 : decode cX4_fillDrum 5 = .ok (.getfield 69, 3) := by decide +kernel
theorem dX4_fillDrum_8 : decode cX4_fillDrum 8 = .ok (.aload_n 0, 1) := by decide +kernel
theorem dX4_fillDrum_9 : decode cX4_fillDrum 9 = .ok (.getfield 96, 3) := by decide +kernel
theorem dX4_fillDrum_12 : decode cX4_fillDrum 12 = .ok (.invokevirtual 236, 3) := by decide +kernel
theorem dX4_fillDrum_15 : decode cX4_fillDrum 15 = .ok (.iconst 0, 1) := by decide +kernel
theorem dX4_fillDrum_16 : decode cX4_fillDrum 16 = .ok (.istore_n 1, 1) := by decide +kernel
theorem dX4_fillDrum_17 : decode cX4_fillDrum 17 = .ok (.iload_n 1, 1) := by decide +kernel
theorem dX4_fillDrum_18 : decode cX4_fillDrum 18 = .ok (.aload_n 0, 1) := by decide +kernel
theorem dX4_fillDrum_19 : decode cX4_fillDrum 19 = .ok (.getfield 69, 3) := by decide +kernel
theorem dX4_fillDrum_22 : decode cX4_fillDrum 22 = .ok (.if_icmp .ge 43, 3) := by decide +kernel
theorem dX4_fillDrum_25 : decode cX4_fillDrum 25 = .ok (.aload_n 0, 1) := by decide +kernel
theorem dX4_fillDrum_26 : decode cX4_fillDrum 26 = .ok (.iload_n 1, 1) := by decide +kernel
theorem dX4_fillDrum_27 : decode cX4_fillDrum 27 = .ok (.invokevirtual 72, 3) := by decide +kernel
theorem dX4_fillDrum_30 : decode cX4_fillDrum 30 = .ok (.astore_n 2, 1) := by decide +kernel
theorem dX4_fillDrum_31 : decode cX4_fillDrum 31 = .ok (.aload_n 2, 1) := by decide +kernel
theorem dX4_fillDrum_32 : decode cX4_fillDrum 32 = .ok (.ifnull 27, 3) := by decide +kernel
theorem dX4_fillDrum_35 : decode cX4_fillDrum 35 = .ok (.aload_n 0, 1) := by decide +kernel
theorem dX4_fillDrum_36 : decode cX4_fillDrum 36 = .ok (.getfield 30, 3) := by decide +kernel
theorem dX4_fillDrum_39 : decode cX4_fillDrum 39 = .ok (.iload_n 1, 1) := by decide +kernel
theorem dX4_fillDrum_40 : decode cX4_fillDrum 40 = .ok (.aload_n 2, 1) := by decide +kernel
theorem dX4_fillDrum_41 : decode cX4_fillDrum 41 = .ok (.invokevirtual 89, 3) := by decide +kernel
theorem dX4_fillDrum_44 : decode cX4_fillDrum 44 = .ok (.invokevirtual 140, 3) := by decide +kernel
theorem dX4_fillDrum_47 : decode cX4_fillDrum 47 = .ok (.aload_n 0, 1) := by decide +kernel
theorem dX4_fillDrum_48 : decode cX4_fillDrum 48 = .ok (.getfield 30, 3) := by decide +kernel
theorem dX4_fillDrum_51 : decode cX4_fillDrum 51 = .ok (.iload_n 1, 1) := by decide +kernel
theorem dX4_fillDrum_52 : decode cX4_fillDrum 52 = .ok (.aload_n 2, 1) := by decide +kernel
theorem dX4_fillDrum_53 : decode cX4_fillDrum 53 = .ok (.getfield 85, 3) := by decide +kernel
theorem dX4_fillDrum_56 : decode cX4_fillDrum 56 = .ok (.invokevirtual 156, 3) := by decide +kernel
theorem dX4_fillDrum_59 : decode cX4_fillDrum 59 = .ok (.iinc 1 1, 3) := by decide +kernel
theorem dX4_fillDrum_62 : decode cX4_fillDrum 62 = .ok (.goto (-45), 3) := by decide +kernel
theorem dX4_fillDrum_65 : decode cX4_fillDrum 65 = .ok (.return_, 1) := by decide +kernel
set_option maxRecDepth 20000 in
theorem ggX4_allReadingsCanBe_X1_canLeaveJust : GoodIn wsX4_allReadingsCanBe wsX1_canLeaveJust := goodIn_r _ [7, 8, 9, 10, 11, 5, 12, 13, 14, 15, 16, 17, 18, 19, 20, 21, 22, 23, 24, 25, 26, 27, 28, 29, 30, 31, 32, 33, 34, 45, 46, 47, 48, 49, 50, 51] (by decide +kernel) (by decide +kernel)
set_option maxRecDepth 20000 in
theorem gX4_allReadingsCanBe_X1_canLeaveJust_n239 : GoodIn wsX4_allReadingsCanBe (wsX1_canLeaveJust) := ggX4_allReadingsCanBe_X1_canLeaveJust
theorem dX4_allReadingsCanBe_0 : decode cX4_allReadingsCanBe 0 = .ok (.iconst 0, 1) := by decide +kernel
theorem dX4_allReadingsCanBe_1 : decode cX4_allReadingsCanBe 1 = .ok (.istore_n 1, 1) := by decide +kernel
theorem dX4_allReadingsCanBe_2 : decode cX4_allReadingsCanBe 2 = .ok (.iload_n 1, 1) := by decide +kernel
theorem dX4_allReadingsCanBe_3 : decode cX4_allReadingsCanBe 3 = .ok (.aload_n 0, 1) := by decide +kernel
theorem dX4_allReadingsCanBe_4 : decode cX4_allReadingsCanBe 4 = .ok (.getfield 160, 3) := by decide +kernel
theorem dX4_allReadingsCanBe_7 : decode cX4_allReadingsCanBe 7 = .ok (.if_icmp .ge 36, 3) := by decide +kernel
theorem dX4_allReadingsCanBe_10 : decode cX4_allReadingsCanBe 10 = .ok (.iload_n 1, 1) := by decide +kernel
theorem dX4_allReadingsCanBe_11 : decode cX4_allReadingsCanBe 11 = .ok (.aload_n 0, 1) := by decide +kernel
theorem dX4_allReadingsCanBe_12 : decode cX4_allReadingsCanBe 12 = .ok (.getfield 17, 3) := by decide +kernel
theorem dX4_allReadingsCanBe_15 : decode cX4_allReadingsCanBe 15 = .ok (.arraylength, 1) := by decide +kernel
theorem dX4_allReadingsCanBe_16 : decode cX4_allReadingsCanBe 16 = .ok (.if_icmp .ge 27, 3) := by decide +kernel
theorem dX4_allReadingsCanBe_19 : decode cX4_allReadingsCanBe 19 = .ok (.aload_n 0, 1) := by decide +kernel
theorem dX4_allReadingsCanBe_20 : decode cX4_allReadingsCanBe 20 = .ok (.getfield 30, 3) := by decide +kernel
theorem dX4_allReadingsCanBe_23 : decode cX4_allReadingsCanBe 23 = .ok (.aload_n 0, 1) := by decide +kernel
theorem dX4_allReadingsCanBe_24 : decode cX4_allReadingsCanBe 24 = .ok (.getfield 17, 3) := by decide +kernel
theorem dX4_allReadingsCanBe_27 : decode cX4_allReadingsCanBe 27 = .ok (.iload_n 1, 1) := by decide +kernel
theorem dX4_allReadingsCanBe_28 : decode cX4_allReadingsCanBe 28 = .ok (.iaload, 1) := by decide +kernel
theorem dX4_allReadingsCanBe_29 : decode cX4_allReadingsCanBe 29 = .ok (.invokevirtual 239, 3) := by decide +kernel
theorem dX4_allReadingsCanBe_32 : decode cX4_allReadingsCanBe 32 = .ok (.ifCond .ne 5, 3) := by decide +kernel
theorem dX4_allReadingsCanBe_35 : decode cX4_allReadingsCanBe 35 = .ok (.iconst 0, 1) := by decide +kernel
theorem dX4_allReadingsCanBe_36 : decode cX4_allReadingsCanBe 36 = .ok (.ireturn, 1) := by decide +kernel
theorem dX4_allReadingsCanBe_37 : decode cX4_allReadingsCanBe 37 = .ok (.iinc 1 1, 3) := by decide +kernel
theorem dX4_allReadingsCanBe_40 : decode cX4_allReadingsCanBe 40 = .ok (.goto (-38), 3) := by decide +kernel
theorem dX4_allReadingsCanBe_43 : decode cX4_allReadingsCanBe 43 = .ok (.iconst 1, 1) := by decide +kernel
theorem dX4_allReadingsCanBe_44 : decode cX4_allReadingsCanBe 44 = .ok (.ireturn, 1) := by decide +kernel
theorem dX4_partOf_0 : decode cX4_partOf 0 = .ok (.lload_n 0, 1) := by decide +kernel
theorem dX4_partOf_1 : decode cX4_partOf 1 = .ok (.lstore 5, 2) := by decide +kernel
theorem dX4_partOf_3 : decode cX4_partOf 3 = .ok (.lload_n 2, 1) := by decide +kernel
theorem dX4_partOf_4 : decode cX4_partOf 4 = .ok (.lstore 7, 2) := by decide +kernel
theorem dX4_partOf_6 : decode cX4_partOf 6 = .ok (.iconst 0, 1) := by decide +kernel
theorem dX4_partOf_7 : decode cX4_partOf 7 = .ok (.istore 9, 2) := by decide +kernel
theorem dX4_partOf_9 : decode cX4_partOf 9 = .ok (.iload 9, 2) := by decide +kernel
theorem dX4_partOf_11 : decode cX4_partOf 11 = .ok (.bipush 100, 2) := by decide +kernel
theorem dX4_partOf_13 : decode cX4_partOf 13 = .ok (.if_icmp .ge 31, 3) := by decide +kernel
theorem dX4_partOf_16 : decode cX4_partOf 16 = .ok (.lload 7, 2) := by decide +kernel
theorem dX4_partOf_18 : decode cX4_partOf 18 = .ok (.lconst 0, 1) := by decide +kernel
theorem dX4_partOf_19 : decode cX4_partOf 19 = .ok (.lcmp, 1) := by decide +kernel
theorem dX4_partOf_20 : decode cX4_partOf 20 = .ok (.ifCond .eq 24, 3) := by decide +kernel
theorem dX4_partOf_23 : decode cX4_partOf 23 = .ok (.lload 5, 2) := by decide +kernel
theorem dX4_partOf_25 : decode cX4_partOf 25 = .ok (.lload 7, 2) := by decide +kernel
theorem dX4_partOf_27 : decode cX4_partOf 27 = .ok (.lrem, 1) := by decide +kernel
theorem dX4_partOf_28 : decode cX4_partOf 28 = .ok (.lstore 10, 2) := by decide +kernel
theorem dX4_partOf_30 : decode cX4_partOf 30 = .ok (.lload 7, 2) := by decide +kernel
theorem dX4_partOf_32 : decode cX4_partOf 32 = .ok (.lstore 5, 2) := by decide +kernel
theorem dX4_partOf_34 : decode cX4_partOf 34 = .ok (.lload 10, 2) := by decide +kernel
theorem dX4_partOf_36 : decode cX4_partOf 36 = .ok (.lstore 7, 2) := by decide +kernel
theorem dX4_partOf_38 : decode cX4_partOf 38 = .ok (.iinc 9 1, 3) := by decide +kernel
theorem dX4_partOf_41 : decode cX4_partOf 41 = .ok (.goto (-32), 3) := by decide +kernel
theorem dX4_partOf_44 : decode cX4_partOf 44 = .ok (.iload 4, 2) := by decide +kernel
theorem dX4_partOf_46 : decode cX4_partOf 46 = .ok (.ifCond .ne 7, 3) := by decide +kernel
theorem dX4_partOf_49 : decode cX4_partOf 49 = .ok (.lload_n 0, 1) := by decide +kernel
theorem dX4_partOf_50 : decode cX4_partOf 50 = .ok (.goto 4, 3) := by decide +kernel
theorem dX4_partOf_53 : decode cX4_partOf 53 = .ok (.lload_n 2, 1) := by decide +kernel
theorem dX4_partOf_54 : decode cX4_partOf 54 = .ok (.lstore 9, 2) := by decide +kernel
theorem dX4_partOf_56 : decode cX4_partOf 56 = .ok (.lload 5, 2) := by decide +kernel
theorem dX4_partOf_58 : decode cX4_partOf 58 = .ok (.lconst 0, 1) := by decide +kernel
theorem dX4_partOf_59 : decode cX4_partOf 59 = .ok (.lcmp, 1) := by decide +kernel
theorem dX4_partOf_60 : decode cX4_partOf 60 = .ok (.ifCond .ne 8, 3) := by decide +kernel
theorem dX4_partOf_63 : decode cX4_partOf 63 = .ok (.lload 9, 2) := by decide +kernel
theorem dX4_partOf_65 : decode cX4_partOf 65 = .ok (.goto 8, 3) := by decide +kernel
theorem dX4_partOf_68 : decode cX4_partOf 68 = .ok (.lload 9, 2) := by decide +kernel
theorem dX4_partOf_70 : decode cX4_partOf 70 = .ok (.lload 5, 2) := by decide +kernel
theorem dX4_partOf_72 : decode cX4_partOf 72 = .ok (.ldiv, 1) := by decide +kernel
theorem dX4_partOf_73 : decode cX4_partOf 73 = .ok (.lreturn, 1) := by decide +kernel
theorem dX4_isMore_0 : decode cX4_isMore 0 = .ok (.lload_n 0, 1) := by decide +kernel
theorem dX4_isMore_1 : decode cX4_isMore 1 = .ok (.lload 6, 2) := by decide +kernel
theorem dX4_isMore_3 : decode cX4_isMore 3 = .ok (.lmul, 1) := by decide +kernel
theorem dX4_isMore_4 : decode cX4_isMore 4 = .ok (.ldc2_w 117, 3) := by decide +kernel
theorem dX4_isMore_7 : decode cX4_isMore 7 = .ok (.lxor, 1) := by decide +kernel
theorem dX4_isMore_8 : decode cX4_isMore 8 = .ok (.lload 4, 2) := by decide +kernel
theorem dX4_isMore_10 : decode cX4_isMore 10 = .ok (.lload_n 2, 1) := by decide +kernel
theorem dX4_isMore_11 : decode cX4_isMore 11 = .ok (.lmul, 1) := by decide +kernel
theorem dX4_isMore_12 : decode cX4_isMore 12 = .ok (.ldc2_w 117, 3) := by decide +kernel
theorem dX4_isMore_15 : decode cX4_isMore 15 = .ok (.lxor, 1) := by decide +kernel
theorem dX4_isMore_16 : decode cX4_isMore 16 = .ok (.lcmp, 1) := by decide +kernel
theorem dX4_isMore_17 : decode cX4_isMore 17 = .ok (.ifCond .le 7, 3) := by decide +kernel
theorem dX4_isMore_20 : decode cX4_isMore 20 = .ok (.iconst 1, 1) := by decide +kernel
theorem dX4_isMore_21 : decode cX4_isMore 21 = .ok (.goto 4, 3) := by decide +kernel
theorem dX4_isMore_24 : decode cX4_isMore 24 = .ok (.iconst 0, 1) := by decide +kernel
theorem dX4_isMore_25 : decode cX4_isMore 25 = .ok (.ireturn, 1) := by decide +kernel
theorem dX4_leaveInTrace_0 : decode cX4_leaveInTrace 0 = .ok (.aload_n 0, 1) := by decide +kernel
theorem dX4_leaveInTrace_1 : decode cX4_leaveInTrace 1 = .ok (.bipush 31, 2) := by decide +kernel
theorem dX4_leaveInTrace_3 : decode cX4_leaveInTrace 3 = .ok (.aload_n 0, 1) := by decide +kernel
theorem dX4_leaveInTrace_4 : decode cX4_leaveInTrace 4 = .ok (.getfield 213, 3) := by decide +kernel
theorem dX4_leaveInTrace_7 : decode cX4_leaveInTrace 7 = .ok (.imul, 1) := by decide +kernel
theorem dX4_leaveInTrace_8 : decode cX4_leaveInTrace 8 = .ok (.iload_n 1, 1) := by decide +kernel
theorem dX4_leaveInTrace_9 : decode cX4_leaveInTrace 9 = .ok (.iadd, 1) := by decide +kernel
theorem dX4_leaveInTrace_10 : decode cX4_leaveInTrace 10 = .ok (.putfield 213, 3) := by decide +kernel
theorem dX4_leaveInTrace_13 : decode cX4_leaveInTrace 13 = .ok (.return_, 1) := by decide +kernel
set_option maxRecDepth 20000 in
theorem ggX4_citizenTells_X4_leaveInTrace : GoodIn wsX4_citizenTells wsX4_leaveInTrace := goodIn_r _ [5, 6, 7, 8, 9, 10, 11, 12, 13, 14, 15, 16] (by decide +kernel) (by decide +kernel)
set_option maxRecDepth 20000 in
theorem gX4_citizenTells_X4_leaveInTrace : GoodIn wsX4_citizenTells (wsV RX4 210 RX4 yX4_leaveInTrace wsX4_leaveInTrace) := goodIn_app (goodIn_of _ (by decide +kernel)) ggX4_citizenTells_X4_leaveInTrace
theorem dX4_citizenTells_0 : decode cX4_citizenTells 0 = .ok (.aload_n 0, 1) := by decide +kernel
theorem dX4_citizenTells_1 : decode cX4_citizenTells 1 = .ok (.iconst 1, 1) := by decide +kernel
theorem dX4_citizenTells_2 : decode cX4_citizenTells 2 = .ok (.invokevirtual 210, 3) := by decide +kernel
theorem dX4_citizenTells_5 : decode cX4_citizenTells 5 = .ok (.iload_n 1, 1) := by decide +kernel
theorem dX4_citizenTells_6 : decode cX4_citizenTells 6 = .ok (.ireturn, 1) := by decide +kernel
set_option maxRecDepth 20000 in
theorem ggX4_richTells_X4_leaveInTrace : GoodIn wsX4_richTells wsX4_leaveInTrace := goodIn_r _ [5, 6, 11, 12, 13, 14, 15, 16, 17, 18, 19, 20] (by decide +kernel) (by decide +kernel)
set_option maxRecDepth 20000 in
theorem gX4_richTells_X4_leaveInTrace : GoodIn wsX4_richTells (wsV RX4 210 RX4 yX4_leaveInTrace wsX4_leaveInTrace) := goodIn_app (goodIn_of _ (by decide +kernel)) ggX4_richTells_X4_leaveInTrace
set_option maxRecDepth 20000 in
theorem ggX4_richTells_X4_citizenTells : GoodIn wsX4_richTells wsX4_citizenTells := goodIn_r _ [10, 1, 2, 3, 4, 5, 6, 11, 12, 13, 14, 15, 16, 17, 18, 19, 20] (by decide +kernel) (by decide +kernel)
set_option maxRecDepth 20000 in
theorem gX4_richTells_X4_citizenTells : GoodIn wsX4_richTells (wsV RX4 207 RX4 yX4_citizenTells wsX4_citizenTells) := goodIn_app (goodIn_of _ (by decide +kernel)) ggX4_richTells_X4_citizenTells
theorem dX4_richTells_0 : decode cX4_richTells 0 = .ok (.aload_n 0, 1) := by decide +kernel
theorem dX4_richTells_1 : decode cX4_richTells 1 = .ok (.iconst 2, 1) := by decide +kernel
theorem dX4_richTells_2 : decode cX4_richTells 2 = .ok (.invokevirtual 210, 3) := by decide +kernel
theorem dX4_richTells_5 : decode cX4_richTells 5 = .ok (.aload_n 0, 1) := by decide +kernel
theorem dX4_richTells_6 : decode cX4_richTells 6 = .ok (.iload_n 1, 1) := by decide +kernel
theorem dX4_richTells_7 : decode cX4_richTells 7 = .ok (.invokevirtual 207, 3) := by decide +kernel
theorem dX4_richTells_10 : decode cX4_richTells 10 = .ok (.bipush 100, 2) := by decide +kernel
theorem dX4_richTells_12 : decode cX4_richTells 12 = .ok (.iadd, 1) := by decide +kernel
theorem dX4_richTells_13 : decode cX4_richTells 13 = .ok (.ireturn, 1) := by decide +kernel
set_option maxRecDepth 20000 in
theorem ggX4_miserTells_X4_leaveInTrace : GoodIn wsX4_miserTells wsX4_leaveInTrace := goodIn_r _ [5, 6, 15, 16, 17, 18, 19, 20, 21, 22, 23, 24] (by decide +kernel) (by decide +kernel)
set_option maxRecDepth 20000 in
theorem gX4_miserTells_X4_leaveInTrace : GoodIn wsX4_miserTells (wsV RX4 210 RX4 yX4_leaveInTrace wsX4_leaveInTrace) := goodIn_app (goodIn_of _ (by decide +kernel)) ggX4_miserTells_X4_leaveInTrace
set_option maxRecDepth 20000 in
theorem ggX4_miserTells_X4_richTells : GoodIn wsX4_miserTells wsX4_richTells := goodIn_r _ [10, 1, 2, 3, 4, 5, 6, 11, 12, 13, 14, 15, 16, 17, 18, 19, 20, 21, 22, 23, 24] (by decide +kernel) (by decide +kernel)
set_option maxRecDepth 20000 in
theorem gX4_miserTells_X4_richTells : GoodIn wsX4_miserTells (wsV RX4 204 RX4 yX4_richTells wsX4_richTells) := goodIn_app (goodIn_of _ (by decide +kernel)) ggX4_miserTells_X4_richTells
set_option maxRecDepth 20000 in
theorem ggX4_miserTells_X4_citizenTells : GoodIn wsX4_miserTells wsX4_citizenTells := goodIn_r _ [14, 1, 2, 3, 4, 5, 6, 15, 16, 17, 18, 19, 20, 21, 22, 23, 24] (by decide +kernel) (by decide +kernel)
set_option maxRecDepth 20000 in
theorem gX4_miserTells_X4_citizenTells : GoodIn wsX4_miserTells (wsV RX4 207 RX4 yX4_citizenTells wsX4_citizenTells) := goodIn_app (goodIn_of _ (by decide +kernel)) ggX4_miserTells_X4_citizenTells
theorem dX4_miserTells_0 : decode cX4_miserTells 0 = .ok (.aload_n 0, 1) := by decide +kernel
theorem dX4_miserTells_1 : decode cX4_miserTells 1 = .ok (.iconst 3, 1) := by decide +kernel
theorem dX4_miserTells_2 : decode cX4_miserTells 2 = .ok (.invokevirtual 210, 3) := by decide +kernel
theorem dX4_miserTells_5 : decode cX4_miserTells 5 = .ok (.aload_n 0, 1) := by decide +kernel
theorem dX4_miserTells_6 : decode cX4_miserTells 6 = .ok (.iload_n 1, 1) := by decide +kernel
theorem dX4_miserTells_7 : decode cX4_miserTells 7 = .ok (.invokevirtual 204, 3) := by decide +kernel
theorem dX4_miserTells_10 : decode cX4_miserTells 10 = .ok (.istore_n 2, 1) := by decide +kernel
theorem dX4_miserTells_11 : decode cX4_miserTells 11 = .ok (.iload_n 2, 1) := by decide +kernel
theorem dX4_miserTells_12 : decode cX4_miserTells 12 = .ok (.aload_n 0, 1) := by decide +kernel
theorem dX4_miserTells_13 : decode cX4_miserTells 13 = .ok (.iload_n 1, 1) := by decide +kernel
theorem dX4_miserTells_14 : decode cX4_miserTells 14 = .ok (.invokevirtual 207, 3) := by decide +kernel
theorem dX4_miserTells_17 : decode cX4_miserTells 17 = .ok (.iadd, 1) := by decide +kernel
theorem dX4_miserTells_18 : decode cX4_miserTells 18 = .ok (.ireturn, 1) := by decide +kernel
