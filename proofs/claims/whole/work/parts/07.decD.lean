theorem dX5_init_0 : decode cX5_init 0 = .ok (.aload_n 0, 1) := by decide +kernel
theorem dX5_init_1 : decode cX5_init 1 = .ok (.invokespecial 1, 3) := by decide +kernel
theorem dX5_init_4 : decode cX5_init 4 = .ok (.aload_n 0, 1) := by decide +kernel
theorem dX5_init_5 : decode cX5_init 5 = .ok (.bipush 6, 2) := by decide +kernel
theorem dX5_init_7 : decode cX5_init 7 = .ok (.newarray .int, 2) := by decide +kernel
theorem dX5_init_9 : decode cX5_init 9 = .ok (.putfield 7, 3) := by decide +kernel
theorem dX5_init_12 : decode cX5_init 12 = .ok (.aload_n 0, 1) := by decide +kernel
theorem dX5_init_13 : decode cX5_init 13 = .ok (.bipush 6, 2) := by decide +kernel
theorem dX5_init_15 : decode cX5_init 15 = .ok (.newarray .int, 2) := by decide +kernel
theorem dX5_init_17 : decode cX5_init 17 = .ok (.putfield 13, 3) := by decide +kernel
theorem dX5_init_20 : decode cX5_init 20 = .ok (.aload_n 0, 1) := by decide +kernel
theorem dX5_init_21 : decode cX5_init 21 = .ok (.bipush 6, 2) := by decide +kernel
theorem dX5_init_23 : decode cX5_init 23 = .ok (.newarray .int, 2) := by decide +kernel
theorem dX5_init_25 : decode cX5_init 25 = .ok (.putfield 16, 3) := by decide +kernel
theorem dX5_init_28 : decode cX5_init 28 = .ok (.aload_n 0, 1) := by decide +kernel
theorem dX5_init_29 : decode cX5_init 29 = .ok (.bipush 6, 2) := by decide +kernel
theorem dX5_init_31 : decode cX5_init 31 = .ok (.newarray .int, 2) := by decide +kernel
theorem dX5_init_33 : decode cX5_init 33 = .ok (.putfield 19, 3) := by decide +kernel
theorem dX5_init_36 : decode cX5_init 36 = .ok (.aload_n 0, 1) := by decide +kernel
theorem dX5_init_37 : decode cX5_init 37 = .ok (.bipush 6, 2) := by decide +kernel
theorem dX5_init_39 : decode cX5_init 39 = .ok (.newarray .int, 2) := by decide +kernel
theorem dX5_init_41 : decode cX5_init 41 = .ok (.putfield 22, 3) := by decide +kernel
theorem dX5_init_44 : decode cX5_init 44 = .ok (.aload_n 0, 1) := by decide +kernel
theorem dX5_init_45 : decode cX5_init 45 = .ok (.bipush 6, 2) := by decide +kernel
theorem dX5_init_47 : decode cX5_init 47 = .ok (.newarray .int, 2) := by decide +kernel
theorem dX5_init_49 : decode cX5_init 49 = .ok (.putfield 25, 3) := by decide +kernel
theorem dX5_init_52 : decode cX5_init 52 = .ok (.aload_n 0, 1) := by decide +kernel
theorem dX5_init_53 : decode cX5_init 53 = .ok (.bipush 8, 2) := by decide +kernel
theorem dX5_init_55 : decode cX5_init 55 = .ok (.newarray .int, 2) := by decide +kernel
theorem dX5_init_57 : decode cX5_init 57 = .ok (.putfield 28, 3) := by decide +kernel
theorem dX5_init_60 : decode cX5_init 60 = .ok (.aload_n 0, 1) := by decide +kernel
theorem dX5_init_61 : decode cX5_init 61 = .ok (.iconst 4, 1) := by decide +kernel
theorem dX5_init_62 : decode cX5_init 62 = .ok (.newarray .int, 2) := by decide +kernel
theorem dX5_init_64 : decode cX5_init 64 = .ok (.putfield 31, 3) := by decide +kernel
theorem dX5_init_67 : decode cX5_init 67 = .ok (.aload_n 0, 1) := by decide +kernel
theorem dX5_init_68 : decode cX5_init 68 = .ok (.iconst 4, 1) := by decide +kernel
theorem dX5_init_69 : decode cX5_init 69 = .ok (.newarray .int, 2) := by decide +kernel
theorem dX5_init_71 : decode cX5_init 71 = .ok (.putfield 34, 3) := by decide +kernel
theorem dX5_init_74 : decode cX5_init 74 = .ok (.aload_n 0, 1) := by decide +kernel
theorem dX5_init_75 : decode cX5_init 75 = .ok (.sipush 240, 3) := by decide +kernel
theorem dX5_init_78 : decode cX5_init 78 = .ok (.newarray .int, 2) := by decide +kernel
theorem dX5_init_80 : decode cX5_init 80 = .ok (.putfield 37, 3) := by decide +kernel
theorem dX5_init_83 : decode cX5_init 83 = .ok (.aload_n 0, 1) := by decide +kernel
theorem dX5_init_84 : decode cX5_init 84 = .ok (.bipush 60, 2) := by decide +kernel
theorem dX5_init_86 : decode cX5_init 86 = .ok (.newarray .int, 2) := by decide +kernel
theorem dX5_init_88 : decode cX5_init 88 = .ok (.putfield 40, 3) := by decide +kernel
theorem dX5_init_91 : decode cX5_init 91 = .ok (.iconst 0, 1) := by decide +kernel
theorem dX5_init_92 : decode cX5_init 92 = .ok (.istore_n 1, 1) := by decide +kernel
theorem dX5_init_93 : decode cX5_init 93 = .ok (.iload_n 1, 1) := by decide +kernel
theorem dX5_init_94 : decode cX5_init 94 = .ok (.iconst 4, 1) := by decide +kernel
theorem dX5_init_95 : decode cX5_init 95 = .ok (.if_icmp .ge 16, 3) := by decide +kernel
theorem dX5_init_98 : decode cX5_init 98 = .ok (.aload_n 0, 1) := by decide +kernel
theorem dX5_init_99 : decode cX5_init 99 = .ok (.getfield 31, 3) := by decide +kernel
theorem dX5_init_102 : decode cX5_init 102 = .ok (.iload_n 1, 1) := by decide +kernel
theorem dX5_init_103 : decode cX5_init 103 = .ok (.iconst (-1), 1) := by decide +kernel
theorem dX5_init_104 : decode cX5_init 104 = .ok (.iastore, 1) := by decide +kernel
theorem dX5_init_105 : decode cX5_init 105 = .ok (.iinc 1 1, 3) := by decide +kernel
theorem dX5_init_108 : decode cX5_init 108 = .ok (.goto (-15), 3) := by decide +kernel
theorem dX5_init_111 : decode cX5_init 111 = .ok (.return_, 1) := by decide +kernel
theorem dX5_in_0 : decode cX5_in 0 = .ok (.lload_n 0, 1) := by decide +kernel
theorem dX5_in_1 : decode cX5_in 1 = .ok (.lload_n 2, 1) := by decide +kernel
theorem dX5_in_2 : decode cX5_in 2 = .ok (.lcmp, 1) := by decide +kernel
theorem dX5_in_3 : decode cX5_in 3 = .ok (.ifCond .lt 14, 3) := by decide +kernel
theorem dX5_in_6 : decode cX5_in 6 = .ok (.lload_n 0, 1) := by decide +kernel
theorem dX5_in_7 : decode cX5_in 7 = .ok (.lload 4, 2) := by decide +kernel
theorem dX5_in_9 : decode cX5_in 9 = .ok (.lcmp, 1) := by decide +kernel
theorem dX5_in_10 : decode cX5_in 10 = .ok (.ifCond .gt 7, 3) := by decide +kernel
theorem dX5_in_13 : decode cX5_in 13 = .ok (.iconst 1, 1) := by decide +kernel
theorem dX5_in_14 : decode cX5_in 14 = .ok (.goto 4, 3) := by decide +kernel
theorem dX5_in_17 : decode cX5_in 17 = .ok (.iconst 0, 1) := by decide +kernel
theorem dX5_in_18 : decode cX5_in 18 = .ok (.ireturn, 1) := by decide +kernel
theorem dX5_lost_0 : decode cX5_lost 0 = .ok (.ldc2_w 43, 3) := by decide +kernel
theorem dX5_lost_3 : decode cX5_lost 3 = .ok (.lreturn, 1) := by decide +kernel
theorem dX5_isIn_0 : decode cX5_isIn 0 = .ok (.iload_n 0, 1) := by decide +kernel
theorem dX5_isIn_1 : decode cX5_isIn 1 = .ok (.iload_n 1, 1) := by decide +kernel
theorem dX5_isIn_2 : decode cX5_isIn 2 = .ok (.ishr, 1) := by decide +kernel
theorem dX5_isIn_3 : decode cX5_isIn 3 = .ok (.iconst 1, 1) := by decide +kernel
theorem dX5_isIn_4 : decode cX5_isIn 4 = .ok (.iand, 1) := by decide +kernel
theorem dX5_isIn_5 : decode cX5_isIn 5 = .ok (.iconst 1, 1) := by decide +kernel
theorem dX5_isIn_6 : decode cX5_isIn 6 = .ok (.if_icmp .ne 7, 3) := by decide +kernel
theorem dX5_isIn_9 : decode cX5_isIn 9 = .ok (.iconst 1, 1) := by decide +kernel
theorem dX5_isIn_10 : decode cX5_isIn 10 = .ok (.goto 4, 3) := by decide +kernel
theorem dX5_isIn_13 : decode cX5_isIn 13 = .ok (.iconst 0, 1) := by decide +kernel
theorem dX5_isIn_14 : decode cX5_isIn 14 = .ok (.ireturn, 1) := by decide +kernel
theorem dX5_bits_0 : decode cX5_bits 0 = .ok (.iconst 0, 1) := by decide +kernel
theorem dX5_bits_1 : decode cX5_bits 1 = .ok (.istore_n 1, 1) := by decide +kernel
theorem dX5_bits_2 : decode cX5_bits 2 = .ok (.iload_n 0, 1) := by decide +kernel
theorem dX5_bits_3 : decode cX5_bits 3 = .ok (.istore_n 2, 1) := by decide +kernel
theorem dX5_bits_4 : decode cX5_bits 4 = .ok (.iload_n 2, 1) := by decide +kernel
theorem dX5_bits_5 : decode cX5_bits 5 = .ok (.ifCond .le 16, 3) := by decide +kernel
theorem dX5_bits_8 : decode cX5_bits 8 = .ok (.iload_n 1, 1) := by decide +kernel
theorem dX5_bits_9 : decode cX5_bits 9 = .ok (.iload_n 2, 1) := by decide +kernel
theorem dX5_bits_10 : decode cX5_bits 10 = .ok (.iconst 1, 1) := by decide +kernel
theorem dX5_bits_11 : decode cX5_bits 11 = .ok (.iand, 1) := by decide +kernel
theorem dX5_bits_12 : decode cX5_bits 12 = .ok (.iadd, 1) := by decide +kernel
theorem dX5_bits_13 : decode cX5_bits 13 = .ok (.istore_n 1, 1) := by decide +kernel
theorem dX5_bits_14 : decode cX5_bits 14 = .ok (.iload_n 2, 1) := by decide +kernel
theorem dX5_bits_15 : decode cX5_bits 15 = .ok (.iconst 1, 1) := by decide +kernel
theorem dX5_bits_16 : decode cX5_bits 16 = .ok (.ishr, 1) := by decide +kernel
theorem dX5_bits_17 : decode cX5_bits 17 = .ok (.istore_n 2, 1) := by decide +kernel
theorem dX5_bits_18 : decode cX5_bits 18 = .ok (.goto (-14), 3) := by decide +kernel
theorem dX5_bits_21 : decode cX5_bits 21 = .ok (.iload_n 1, 1) := by decide +kernel
theorem dX5_bits_22 : decode cX5_bits 22 = .ok (.ireturn, 1) := by decide +kernel
theorem dX5_share_0 : decode cX5_share 0 = .ok (.lload_n 0, 1) := by decide +kernel
theorem dX5_share_1 : decode cX5_share 1 = .ok (.lstore 5, 2) := by decide +kernel
theorem dX5_share_3 : decode cX5_share 3 = .ok (.lload_n 2, 1) := by decide +kernel
theorem dX5_share_4 : decode cX5_share 4 = .ok (.lstore 7, 2) := by decide +kernel
theorem dX5_share_6 : decode cX5_share 6 = .ok (.lload 7, 2) := by decide +kernel
theorem dX5_share_8 : decode cX5_share 8 = .ok (.lconst 0, 1) := by decide +kernel
theorem dX5_share_9 : decode cX5_share 9 = .ok (.lcmp, 1) := by decide +kernel
theorem dX5_share_10 : decode cX5_share 10 = .ok (.ifCond .eq 21, 3) := by decide +kernel
theorem dX5_share_13 : decode cX5_share 13 = .ok (.lload 5, 2) := by decide +kernel
theorem dX5_share_15 : decode cX5_share 15 = .ok (.lload 7, 2) := by decide +kernel
theorem dX5_share_17 : decode cX5_share 17 = .ok (.lrem, 1) := by decide +kernel
theorem dX5_share_18 : decode cX5_share 18 = .ok (.lstore 9, 2) := by decide +kernel
theorem dX5_share_20 : decode cX5_share 20 = .ok (.lload 7, 2) := by decide +kernel
theorem dX5_share_22 : decode cX5_share 22 = .ok (.lstore 5, 2) := by decide +kernel
theorem dX5_share_24 : decode cX5_share 24 = .ok (.lload 9, 2) := by decide +kernel
theorem dX5_share_26 : decode cX5_share 26 = .ok (.lstore 7, 2) := by decide +kernel
theorem dX5_share_28 : decode cX5_share 28 = .ok (.goto (-22), 3) := by decide +kernel
theorem dX5_share_31 : decode cX5_share 31 = .ok (.iload 4, 2) := by decide +kernel
theorem dX5_share_33 : decode cX5_share 33 = .ok (.ifCond .ne 7, 3) := by decide +kernel
theorem dX5_share_36 : decode cX5_share 36 = .ok (.lload_n 0, 1) := by decide +kernel
theorem dX5_share_37 : decode cX5_share 37 = .ok (.goto 4, 3) := by decide +kernel
theorem dX5_share_40 : decode cX5_share 40 = .ok (.lload_n 2, 1) := by decide +kernel
theorem dX5_share_41 : decode cX5_share 41 = .ok (.lload 5, 2) := by decide +kernel
theorem dX5_share_43 : decode cX5_share 43 = .ok (.ldiv, 1) := by decide +kernel
theorem dX5_share_44 : decode cX5_share 44 = .ok (.lreturn, 1) := by decide +kernel
theorem dX5_isAbove_0 : decode cX5_isAbove 0 = .ok (.lload_n 0, 1) := by decide +kernel
theorem dX5_isAbove_1 : decode cX5_isAbove 1 = .ok (.lstore 8, 2) := by decide +kernel
theorem dX5_isAbove_3 : decode cX5_isAbove 3 = .ok (.lload_n 2, 1) := by decide +kernel
theorem dX5_isAbove_4 : decode cX5_isAbove 4 = .ok (.lstore 10, 2) := by decide +kernel
theorem dX5_isAbove_6 : decode cX5_isAbove 6 = .ok (.lload 4, 2) := by decide +kernel
theorem dX5_isAbove_8 : decode cX5_isAbove 8 = .ok (.lstore 12, 2) := by decide +kernel
theorem dX5_isAbove_10 : decode cX5_isAbove 10 = .ok (.lload 6, 2) := by decide +kernel
theorem dX5_isAbove_12 : decode cX5_isAbove 12 = .ok (.lstore 14, 2) := by decide +kernel
theorem dX5_isAbove_14 : decode cX5_isAbove 14 = .ok (.iconst 0, 1) := by decide +kernel
theorem dX5_isAbove_15 : decode cX5_isAbove 15 = .ok (.istore 16, 2) := by decide +kernel
theorem dX5_isAbove_17 : decode cX5_isAbove 17 = .ok (.lload 8, 2) := by decide +kernel
theorem dX5_isAbove_19 : decode cX5_isAbove 19 = .ok (.lload 10, 2) := by decide +kernel
theorem dX5_isAbove_21 : decode cX5_isAbove 21 = .ok (.ldiv, 1) := by decide +kernel
theorem dX5_isAbove_22 : decode cX5_isAbove 22 = .ok (.lload 12, 2) := by decide +kernel
theorem dX5_isAbove_24 : decode cX5_isAbove 24 = .ok (.lload 14, 2) := by decide +kernel
theorem dX5_isAbove_26 : decode cX5_isAbove 26 = .ok (.ldiv, 1) := by decide +kernel
theorem dX5_isAbove_27 : decode cX5_isAbove 27 = .ok (.lcmp, 1) := by decide +kernel
theorem dX5_isAbove_28 : decode cX5_isAbove 28 = .ok (.ifCond .ne 68, 3) := by decide +kernel
theorem dX5_isAbove_31 : decode cX5_isAbove 31 = .ok (.lload 8, 2) := by decide +kernel
theorem dX5_isAbove_33 : decode cX5_isAbove 33 = .ok (.lload 10, 2) := by decide +kernel
theorem dX5_isAbove_35 : decode cX5_isAbove 35 = .ok (.lrem, 1) := by decide +kernel
theorem dX5_isAbove_36 : decode cX5_isAbove 36 = .ok (.lconst 0, 1) := by decide +kernel
theorem dX5_isAbove_37 : decode cX5_isAbove 37 = .ok (.lcmp, 1) := by decide +kernel
theorem dX5_isAbove_38 : decode cX5_isAbove 38 = .ok (.ifCond .eq 58, 3) := by decide +kernel
theorem dX5_isAbove_41 : decode cX5_isAbove 41 = .ok (.lload 12, 2) := by decide +kernel
theorem dX5_isAbove_43 : decode cX5_isAbove 43 = .ok (.lload 14, 2) := by decide +kernel
theorem dX5_isAbove_45 : decode cX5_isAbove 45 = .ok (.lrem, 1) := by decide +kernel
theorem dX5_isAbove_46 : decode cX5_isAbove 46 = .ok (.lconst 0, 1) := by decide +kernel
theorem dX5_isAbove_47 : decode cX5_isAbove 47 = .ok (.lcmp, 1) := by decide +kernel
theorem dX5_isAbove_48 : decode cX5_isAbove 48 = .ok (.ifCond .eq 48, 3) := by decide +kernel
theorem dX5_isAbove_51 : decode cX5_isAbove 51 = .ok (.lload 8, 2) := by decide +kernel
theorem dX5_isAbove_53 : decode cX5_isAbove 53 = .ok (.lload 10, 2) := by decide +kernel
theorem dX5_isAbove_55 : decode cX5_isAbove 55 = .ok (.lrem, 1) := by decide +kernel
theorem dX5_isAbove_56 : decode cX5_isAbove 56 = .ok (.lstore 17, 2) := by decide +kernel
theorem dX5_isAbove_58 : decode cX5_isAbove 58 = .ok (.lload 12, 2) := by decide +kernel
theorem dX5_isAbove_60 : decode cX5_isAbove 60 = .ok (.lload 14, 2) := by decide +kernel
theorem dX5_isAbove_62 : decode cX5_isAbove 62 = .ok (.lrem, 1) := by decide +kernel
theorem dX5_isAbove_63 : decode cX5_isAbove 63 = .ok (.lstore 19, 2) := by decide +kernel
theorem dX5_isAbove_65 : decode cX5_isAbove 65 = .ok (.lload 10, 2) := by decide +kernel
theorem dX5_isAbove_67 : decode cX5_isAbove 67 = .ok (.lstore 8, 2) := by decide +kernel
theorem dX5_isAbove_69 : decode cX5_isAbove 69 = .ok (.lload 17, 2) := by decide +kernel
theorem dX5_isAbove_71 : decode cX5_isAbove 71 = .ok (.lstore 10, 2) := by decide +kernel
theorem dX5_isAbove_73 : decode cX5_isAbove 73 = .ok (.lload 14, 2) := by decide +kernel
theorem dX5_isAbove_75 : decode cX5_isAbove 75 = .ok (.lstore 12, 2) := by decide +kernel
theorem dX5_isAbove_77 : decode cX5_isAbove 77 = .ok (.lload 19, 2) := by decide +kernel
theorem dX5_isAbove_79 : decode cX5_isAbove 79 = .ok (.lstore 14, 2) := by decide +kernel
theorem dX5_isAbove_81 : decode cX5_isAbove 81 = .ok (.iload 16, 2) := by decide +kernel
theorem dX5_isAbove_83 : decode cX5_isAbove 83 = .ok (.ifCond .ne 7, 3) := by decide +kernel
theorem dX5_isAbove_86 : decode cX5_isAbove 86 = .ok (.iconst 1, 1) := by decide +kernel
theorem dX5_isAbove_87 : decode cX5_isAbove 87 = .ok (.goto 4, 3) := by decide +kernel
theorem dX5_isAbove_90 : decode cX5_isAbove 90 = .ok (.iconst 0, 1) := by decide +kernel
theorem dX5_isAbove_91 : decode cX5_isAbove 91 = .ok (.istore 16, 2) := by decide +kernel
theorem dX5_isAbove_93 : decode cX5_isAbove 93 = .ok (.goto (-76), 3) := by decide +kernel
theorem dX5_isAbove_96 : decode cX5_isAbove 96 = .ok (.lload 8, 2) := by decide +kernel
theorem dX5_isAbove_98 : decode cX5_isAbove 98 = .ok (.lload 10, 2) := by decide +kernel
theorem dX5_isAbove_100 : decode cX5_isAbove 100 = .ok (.ldiv, 1) := by decide +kernel
theorem dX5_isAbove_101 : decode cX5_isAbove 101 = .ok (.lload 12, 2) := by decide +kernel
theorem dX5_isAbove_103 : decode cX5_isAbove 103 = .ok (.lload 14, 2) := by decide +kernel
theorem dX5_isAbove_105 : decode cX5_isAbove 105 = .ok (.ldiv, 1) := by decide +kernel
theorem dX5_isAbove_106 : decode cX5_isAbove 106 = .ok (.lcmp, 1) := by decide +kernel
theorem dX5_isAbove_107 : decode cX5_isAbove 107 = .ok (.ifCond .eq 50, 3) := by decide +kernel
theorem dX5_isAbove_110 : decode cX5_isAbove 110 = .ok (.iload 16, 2) := by decide +kernel
theorem dX5_isAbove_112 : decode cX5_isAbove 112 = .ok (.ifCond .eq 25, 3) := by decide +kernel
theorem dX5_isAbove_115 : decode cX5_isAbove 115 = .ok (.lload 8, 2) := by decide +kernel
theorem dX5_isAbove_117 : decode cX5_isAbove 117 = .ok (.lload 10, 2) := by decide +kernel
theorem dX5_isAbove_119 : decode cX5_isAbove 119 = .ok (.ldiv, 1) := by decide +kernel
theorem dX5_isAbove_120 : decode cX5_isAbove 120 = .ok (.lload 12, 2) := by decide +kernel
theorem dX5_isAbove_122 : decode cX5_isAbove 122 = .ok (.lload 14, 2) := by decide +kernel
theorem dX5_isAbove_124 : decode cX5_isAbove 124 = .ok (.ldiv, 1) := by decide +kernel
theorem dX5_isAbove_125 : decode cX5_isAbove 125 = .ok (.lcmp, 1) := by decide +kernel
theorem dX5_isAbove_126 : decode cX5_isAbove 126 = .ok (.ifCond .ge 7, 3) := by decide +kernel
theorem dX5_isAbove_129 : decode cX5_isAbove 129 = .ok (.iconst 1, 1) := by decide +kernel
theorem dX5_isAbove_130 : decode cX5_isAbove 130 = .ok (.goto 26, 3) := by decide +kernel
theorem dX5_isAbove_133 : decode cX5_isAbove 133 = .ok (.iconst 0, 1) := by decide +kernel
theorem dX5_isAbove_134 : decode cX5_isAbove 134 = .ok (.goto 22, 3) := by decide +kernel
theorem dX5_isAbove_137 : decode cX5_isAbove 137 = .ok (.lload 8, 2) := by decide +kernel
theorem dX5_isAbove_139 : decode cX5_isAbove 139 = .ok (.lload 10, 2) := by decide +kernel
theorem dX5_isAbove_141 : decode cX5_isAbove 141 = .ok (.ldiv, 1) := by decide +kernel
theorem dX5_isAbove_142 : decode cX5_isAbove 142 = .ok (.lload 12, 2) := by decide +kernel
theorem dX5_isAbove_144 : decode cX5_isAbove 144 = .ok (.lload 14, 2) := by decide +kernel
theorem dX5_isAbove_146 : decode cX5_isAbove 146 = .ok (.ldiv, 1) := by decide +kernel
theorem dX5_isAbove_147 : decode cX5_isAbove 147 = .ok (.lcmp, 1) := by decide +kernel
theorem dX5_isAbove_148 : decode cX5_isAbove 148 = .ok (.ifCond .le 7, 3) := by decide +kernel
theorem dX5_isAbove_151 : decode cX5_isAbove 151 = .ok (.iconst 1, 1) := by decide +kernel
theorem dX5_isAbove_152 : decode cX5_isAbove 152 = .ok (.goto 4, 3) := by decide +kernel
theorem dX5_isAbove_155 : decode cX5_isAbove 155 = .ok (.iconst 0, 1) := by decide +kernel
theorem dX5_isAbove_156 : decode cX5_isAbove 156 = .ok (.ireturn, 1) := by decide +kernel
theorem dX5_isAbove_157 : decode cX5_isAbove 157 = .ok (.iload 16, 2) := by decide +kernel
theorem dX5_isAbove_159 : decode cX5_isAbove 159 = .ok (.ifCond .eq 25, 3) := by decide +kernel
theorem dX5_isAbove_162 : decode cX5_isAbove 162 = .ok (.lload 8, 2) := by decide +kernel
theorem dX5_isAbove_164 : decode cX5_isAbove 164 = .ok (.lload 10, 2) := by decide +kernel
theorem dX5_isAbove_166 : decode cX5_isAbove 166 = .ok (.lrem, 1) := by decide +kernel
theorem dX5_isAbove_167 : decode cX5_isAbove 167 = .ok (.lload 12, 2) := by decide +kernel
theorem dX5_isAbove_169 : decode cX5_isAbove 169 = .ok (.lload 14, 2) := by decide +kernel
theorem dX5_isAbove_171 : decode cX5_isAbove 171 = .ok (.lrem, 1) := by decide +kernel
theorem dX5_isAbove_172 : decode cX5_isAbove 172 = .ok (.lcmp, 1) := by decide +kernel
theorem dX5_isAbove_173 : decode cX5_isAbove 173 = .ok (.ifCond .ge 7, 3) := by decide +kernel
theorem dX5_isAbove_176 : decode cX5_isAbove 176 = .ok (.iconst 1, 1) := by decide +kernel
theorem dX5_isAbove_177 : decode cX5_isAbove 177 = .ok (.goto 26, 3) := by decide +kernel
theorem dX5_isAbove_180 : decode cX5_isAbove 180 = .ok (.iconst 0, 1) := by decide +kernel
theorem dX5_isAbove_181 : decode cX5_isAbove 181 = .ok (.goto 22, 3) := by decide +kernel
theorem dX5_isAbove_184 : decode cX5_isAbove 184 = .ok (.lload 8, 2) := by decide +kernel
theorem dX5_isAbove_186 : decode cX5_isAbove 186 = .ok (.lload 10, 2) := by decide +kernel
theorem dX5_isAbove_188 : decode cX5_isAbove 188 = .ok (.lrem, 1) := by decide +kernel
theorem dX5_isAbove_189 : decode cX5_isAbove 189 = .ok (.lload 12, 2) := by decide +kernel
theorem dX5_isAbove_191 : decode cX5_isAbove 191 = .ok (.lload 14, 2) := by decide +kernel
theorem dX5_isAbove_193 : decode cX5_isAbove 193 = .ok (.lrem, 1) := by decide +kernel
theorem dX5_isAbove_194 : decode cX5_isAbove 194 = .ok (.lcmp, 1) := by decide +kernel
theorem dX5_isAbove_195 : decode cX5_isAbove 195 = .ok (.ifCond .le 7, 3) := by decide +kernel
theorem dX5_isAbove_198 : decode cX5_isAbove 198 = .ok (.iconst 1, 1) := by decide +kernel
theorem dX5_isAbove_199 : decode cX5_isAbove 199 = .ok (.goto 4, 3) := by decide +kernel
theorem dX5_isAbove_202 : decode cX5_isAbove 202 = .ok (.iconst 0, 1) := by decide +kernel
theorem dX5_isAbove_203 : decode cX5_isAbove 203 = .ok (.ireturn, 1) := by decide +kernel
theorem dX5_waysOf_0 : decode cX5_waysOf 0 = .ok (.iload_n 1, 1) := by decide +kernel
theorem dX5_waysOf_1 : decode cX5_waysOf 1 = .ok (.iload_n 0, 1) := by decide +kernel
theorem dX5_waysOf_2 : decode cX5_waysOf 2 = .ok (.if_icmp .le 7, 3) := by decide +kernel
theorem dX5_waysOf_5 : decode cX5_waysOf 5 = .ok (.lconst 0, 1) := by decide +kernel
theorem dX5_waysOf_6 : decode cX5_waysOf 6 = .ok (.goto 4, 3) := by decide +kernel
theorem dX5_waysOf_9 : decode cX5_waysOf 9 = .ok (.lconst 1, 1) := by decide +kernel
theorem dX5_waysOf_10 : decode cX5_waysOf 10 = .ok (.lstore_n 2, 1) := by decide +kernel
theorem dX5_waysOf_11 : decode cX5_waysOf 11 = .ok (.iconst 0, 1) := by decide +kernel
theorem dX5_waysOf_12 : decode cX5_waysOf 12 = .ok (.istore 4, 2) := by decide +kernel
theorem dX5_waysOf_14 : decode cX5_waysOf 14 = .ok (.iload 4, 2) := by decide +kernel
theorem dX5_waysOf_16 : decode cX5_waysOf 16 = .ok (.iload_n 1, 1) := by decide +kernel
theorem dX5_waysOf_17 : decode cX5_waysOf 17 = .ok (.if_icmp .ge 29, 3) := by decide +kernel
theorem dX5_waysOf_20 : decode cX5_waysOf 20 = .ok (.lload_n 2, 1) := by decide +kernel
theorem dX5_waysOf_21 : decode cX5_waysOf 21 = .ok (.lconst 0, 1) := by decide +kernel
theorem dX5_waysOf_22 : decode cX5_waysOf 22 = .ok (.lcmp, 1) := by decide +kernel
theorem dX5_waysOf_23 : decode cX5_waysOf 23 = .ok (.ifCond .le 23, 3) := by decide +kernel
theorem dX5_waysOf_26 : decode cX5_waysOf 26 = .ok (.lload_n 2, 1) := by decide +kernel
theorem dX5_waysOf_27 : decode cX5_waysOf 27 = .ok (.iload_n 0, 1) := by decide +kernel
theorem dX5_waysOf_28 : decode cX5_waysOf 28 = .ok (.iload 4, 2) := by decide +kernel
theorem dX5_waysOf_30 : decode cX5_waysOf 30 = .ok (.isub, 1) := by decide +kernel
theorem dX5_waysOf_31 : decode cX5_waysOf 31 = .ok (.i2l, 1) := by decide +kernel
theorem dX5_waysOf_32 : decode cX5_waysOf 32 = .ok (.lmul, 1) := by decide +kernel
theorem dX5_waysOf_33 : decode cX5_waysOf 33 = .ok (.iload 4, 2) := by decide +kernel
theorem dX5_waysOf_35 : decode cX5_waysOf 35 = .ok (.iconst 1, 1) := by decide +kernel
theorem dX5_waysOf_36 : decode cX5_waysOf 36 = .ok (.iadd, 1) := by decide +kernel
theorem dX5_waysOf_37 : decode cX5_waysOf 37 = .ok (.i2l, 1) := by decide +kernel
theorem dX5_waysOf_38 : decode cX5_waysOf 38 = .ok (.ldiv, 1) := by decide +kernel
theorem dX5_waysOf_39 : decode cX5_waysOf 39 = .ok (.lstore_n 2, 1) := by decide +kernel
theorem dX5_waysOf_40 : decode cX5_waysOf 40 = .ok (.iinc 4 1, 3) := by decide +kernel
theorem dX5_waysOf_43 : decode cX5_waysOf 43 = .ok (.goto (-29), 3) := by decide +kernel
theorem dX5_waysOf_46 : decode cX5_waysOf 46 = .ok (.lload_n 2, 1) := by decide +kernel
theorem dX5_waysOf_47 : decode cX5_waysOf 47 = .ok (.lreturn, 1) := by decide +kernel
theorem dX5_refused_0 : decode cX5_refused 0 = .ok (.aload_n 0, 1) := by decide +kernel
theorem dX5_refused_1 : decode cX5_refused 1 = .ok (.iconst 0, 1) := by decide +kernel
theorem dX5_refused_2 : decode cX5_refused 2 = .ok (.putfield 45, 3) := by decide +kernel
theorem dX5_refused_5 : decode cX5_refused 5 = .ok (.iload_n 1, 1) := by decide +kernel
theorem dX5_refused_6 : decode cX5_refused 6 = .ok (.ireturn, 1) := by decide +kernel
theorem dX5_failed_0 : decode cX5_failed 0 = .ok (.aload_n 0, 1) := by decide +kernel
theorem dX5_failed_1 : decode cX5_failed 1 = .ok (.iload_n 1, 1) := by decide +kernel
theorem dX5_failed_2 : decode cX5_failed 2 = .ok (.putfield 45, 3) := by decide +kernel
theorem dX5_failed_5 : decode cX5_failed 5 = .ok (.bipush (-10), 2) := by decide +kernel
theorem dX5_failed_7 : decode cX5_failed 7 = .ok (.iload_n 1, 1) := by decide +kernel
theorem dX5_failed_8 : decode cX5_failed 8 = .ok (.isub, 1) := by decide +kernel
theorem dX5_failed_9 : decode cX5_failed 9 = .ok (.ireturn, 1) := by decide +kernel
set_option maxRecDepth 20000 in
theorem ggX5_failedLong_X5_lost : GoodIn wsX5_failedLong wsX5_lost := goodIn_r _ [5, 6] (by decide +kernel) (by decide +kernel)
set_option maxRecDepth 20000 in
theorem gX5_failedLong_X5_lost : GoodIn wsX5_failedLong (va_wsS RX5 49 yX5_lost wsX5_lost) := goodIn_app (goodIn_of _ (by decide +kernel)) ggX5_failedLong_X5_lost
theorem dX5_failedLong_0 : decode cX5_failedLong 0 = .ok (.aload_n 0, 1) := by decide +kernel
theorem dX5_failedLong_1 : decode cX5_failedLong 1 = .ok (.iload_n 1, 1) := by decide +kernel
theorem dX5_failedLong_2 : decode cX5_failedLong 2 = .ok (.putfield 45, 3) := by decide +kernel
theorem dX5_failedLong_5 : decode cX5_failedLong 5 = .ok (.invokestatic 49, 3) := by decide +kernel
theorem dX5_failedLong_8 : decode cX5_failedLong 8 = .ok (.lreturn, 1) := by decide +kernel
set_option maxRecDepth 20000 in
theorem ggX5_noCitizen_X5_in : GoodIn wsX5_noCitizen wsX5_in := goodIn_r _ [5] (by decide +kernel) (by decide +kernel)
set_option maxRecDepth 20000 in
theorem gX5_noCitizen_X5_in : GoodIn wsX5_noCitizen (va_wsS RX5 56 yX5_in wsX5_in) := goodIn_app (goodIn_of _ (by decide +kernel)) ggX5_noCitizen_X5_in
theorem dX5_noCitizen_0 : decode cX5_noCitizen 0 = .ok (.iload_n 1, 1) := by decide +kernel
theorem dX5_noCitizen_1 : decode cX5_noCitizen 1 = .ok (.i2l, 1) := by decide +kernel
theorem dX5_noCitizen_2 : decode cX5_noCitizen 2 = .ok (.lconst 0, 1) := by decide +kernel
theorem dX5_noCitizen_3 : decode cX5_noCitizen 3 = .ok (.aload_n 0, 1) := by decide +kernel
theorem dX5_noCitizen_4 : decode cX5_noCitizen 4 = .ok (.getfield 53, 3) := by decide +kernel
theorem dX5_noCitizen_7 : decode cX5_noCitizen 7 = .ok (.i2l, 1) := by decide +kernel
theorem dX5_noCitizen_8 : decode cX5_noCitizen 8 = .ok (.lconst 1, 1) := by decide +kernel
theorem dX5_noCitizen_9 : decode cX5_noCitizen 9 = .ok (.lsub, 1) := by decide +kernel
theorem dX5_noCitizen_10 : decode cX5_noCitizen 10 = .ok (.invokestatic 56, 3) := by decide +kernel
theorem dX5_noCitizen_13 : decode cX5_noCitizen 13 = .ok (.ifCond .ne 7, 3) := by decide +kernel
theorem dX5_noCitizen_16 : decode cX5_noCitizen 16 = .ok (.iconst 1, 1) := by decide +kernel
theorem dX5_noCitizen_17 : decode cX5_noCitizen 17 = .ok (.goto 4, 3) := by decide +kernel
theorem dX5_noCitizen_20 : decode cX5_noCitizen 20 = .ok (.iconst 0, 1) := by decide +kernel
theorem dX5_noCitizen_21 : decode cX5_noCitizen 21 = .ok (.ireturn, 1) := by decide +kernel
theorem dX5_everybody_0 : decode cX5_everybody 0 = .ok (.iconst 1, 1) := by decide +kernel
theorem dX5_everybody_1 : decode cX5_everybody 1 = .ok (.aload_n 0, 1) := by decide +kernel
theorem dX5_everybody_2 : decode cX5_everybody 2 = .ok (.getfield 53, 3) := by decide +kernel
theorem dX5_everybody_5 : decode cX5_everybody 5 = .ok (.ishl, 1) := by decide +kernel
theorem dX5_everybody_6 : decode cX5_everybody 6 = .ok (.iconst 1, 1) := by decide +kernel
theorem dX5_everybody_7 : decode cX5_everybody 7 = .ok (.isub, 1) := by decide +kernel
theorem dX5_everybody_8 : decode cX5_everybody 8 = .ok (.ireturn, 1) := by decide +kernel
theorem dX5_codeAt_0 : decode cX5_codeAt 0 = .ok (.aload_n 0, 1) := by decide +kernel
theorem dX5_codeAt_1 : decode cX5_codeAt 1 = .ok (.getfield 60, 3) := by decide +kernel
theorem dX5_codeAt_4 : decode cX5_codeAt 4 = .ok (.iload_n 2, 1) := by decide +kernel
theorem dX5_codeAt_5 : decode cX5_codeAt 5 = .ok (.if_icmp .ge 17, 3) := by decide +kernel
theorem dX5_codeAt_8 : decode cX5_codeAt 8 = .ok (.aload_n 0, 1) := by decide +kernel
theorem dX5_codeAt_9 : decode cX5_codeAt 9 = .ok (.getfield 37, 3) := by decide +kernel
theorem dX5_codeAt_12 : decode cX5_codeAt 12 = .ok (.iload_n 1, 1) := by decide +kernel
theorem dX5_codeAt_13 : decode cX5_codeAt 13 = .ok (.aload_n 0, 1) := by decide +kernel
theorem dX5_codeAt_14 : decode cX5_codeAt 14 = .ok (.getfield 60, 3) := by decide +kernel
theorem dX5_codeAt_17 : decode cX5_codeAt 17 = .ok (.iadd, 1) := by decide +kernel
theorem dX5_codeAt_18 : decode cX5_codeAt 18 = .ok (.iaload, 1) := by decide +kernel
theorem dX5_codeAt_19 : decode cX5_codeAt 19 = .ok (.goto 5, 3) := by decide +kernel
theorem dX5_codeAt_22 : decode cX5_codeAt 22 = .ok (.bipush (-9), 2) := by decide +kernel
theorem dX5_codeAt_24 : decode cX5_codeAt 24 = .ok (.ireturn, 1) := by decide +kernel
set_option maxRecDepth 20000 in
theorem ggX5_figure_X5_codeAt : GoodIn wsX5_figure wsX5_codeAt := goodIn_r _ [6, 1, 7, 11, 12, 13, 14, 15, 16, 17, 18, 19, 20, 21, 22, 23, 24, 25, 26, 27, 28, 29, 30, 31, 32, 33, 34] (by decide +kernel) (by decide +kernel)
set_option maxRecDepth 20000 in
theorem gX5_figure_X5_codeAt : GoodIn wsX5_figure (wsV RX5 63 RX5 yX5_codeAt wsX5_codeAt) := goodIn_app (goodIn_of _ (by decide +kernel)) ggX5_figure_X5_codeAt
set_option maxRecDepth 20000 in
theorem ggX5_figure_X5_in : GoodIn wsX5_figure wsX5_in := goodIn_r _ [10] (by decide +kernel) (by decide +kernel)
set_option maxRecDepth 20000 in
theorem gX5_figure_X5_in : GoodIn wsX5_figure (va_wsS RX5 56 yX5_in wsX5_in) := goodIn_app (goodIn_of _ (by decide +kernel)) ggX5_figure_X5_in
theorem dX5_figure_0 : decode cX5_figure 0 = .ok (.aload_n 0, 1) := by decide +kernel
theorem dX5_figure_1 : decode cX5_figure 1 = .ok (.iload_n 1, 1) := by decide +kernel
theorem dX5_figure_2 : decode cX5_figure 2 = .ok (.iload_n 2, 1) := by decide +kernel
theorem dX5_figure_3 : decode cX5_figure 3 = .ok (.invokevirtual 63, 3) := by decide +kernel
theorem dX5_figure_6 : decode cX5_figure 6 = .ok (.bipush 48, 2) := by decide +kernel
theorem dX5_figure_8 : decode cX5_figure 8 = .ok (.isub, 1) := by decide +kernel
theorem dX5_figure_9 : decode cX5_figure 9 = .ok (.istore 5, 2) := by decide +kernel
theorem dX5_figure_11 : decode cX5_figure 11 = .ok (.iload 5, 2) := by decide +kernel
theorem dX5_figure_13 : decode cX5_figure 13 = .ok (.i2l, 1) := by decide +kernel
theorem dX5_figure_14 : decode cX5_figure 14 = .ok (.iload_n 3, 1) := by decide +kernel
theorem dX5_figure_15 : decode cX5_figure 15 = .ok (.i2l, 1) := by decide +kernel
theorem dX5_figure_16 : decode cX5_figure 16 = .ok (.iload 4, 2) := by decide +kernel
theorem dX5_figure_18 : decode cX5_figure 18 = .ok (.i2l, 1) := by decide +kernel
theorem dX5_figure_19 : decode cX5_figure 19 = .ok (.invokestatic 56, 3) := by decide +kernel
theorem dX5_figure_22 : decode cX5_figure 22 = .ok (.istore 6, 2) := by decide +kernel
theorem dX5_figure_24 : decode cX5_figure 24 = .ok (.aload_n 0, 1) := by decide +kernel
theorem dX5_figure_25 : decode cX5_figure 25 = .ok (.dup, 1) := by decide +kernel
theorem dX5_figure_26 : decode cX5_figure 26 = .ok (.getfield 60, 3) := by decide +kernel
theorem dX5_figure_29 : decode cX5_figure 29 = .ok (.iload 6, 2) := by decide +kernel
theorem dX5_figure_31 : decode cX5_figure 31 = .ok (.ifCond .eq 7, 3) := by decide +kernel
theorem dX5_figure_34 : decode cX5_figure 34 = .ok (.iconst 1, 1) := by decide +kernel
theorem dX5_figure_35 : decode cX5_figure 35 = .ok (.goto 4, 3) := by decide +kernel
theorem dX5_figure_38 : decode cX5_figure 38 = .ok (.iconst 0, 1) := by decide +kernel
theorem dX5_figure_39 : decode cX5_figure 39 = .ok (.iadd, 1) := by decide +kernel
theorem dX5_figure_40 : decode cX5_figure 40 = .ok (.putfield 60, 3) := by decide +kernel
theorem dX5_figure_43 : decode cX5_figure 43 = .ok (.iload 6, 2) := by decide +kernel
theorem dX5_figure_45 : decode cX5_figure 45 = .ok (.ifCond .eq 8, 3) := by decide +kernel
theorem dX5_figure_48 : decode cX5_figure 48 = .ok (.iload 5, 2) := by decide +kernel
theorem dX5_figure_50 : decode cX5_figure 50 = .ok (.goto 5, 3) := by decide +kernel
theorem dX5_figure_53 : decode cX5_figure 53 = .ok (.bipush (-9), 2) := by decide +kernel
theorem dX5_figure_55 : decode cX5_figure 55 = .ok (.ireturn, 1) := by decide +kernel
set_option maxRecDepth 20000 in
theorem ggX5_readsCitizen_X5_codeAt : GoodIn wsX5_readsCitizen wsX5_codeAt := goodIn_r _ [11, 2, 12, 20, 21, 22, 23, 24, 25, 26, 27, 28, 29, 30, 31, 32, 33, 34, 35, 36, 37, 38, 39, 40, 41, 42, 43] (by decide +kernel) (by decide +kernel)
set_option maxRecDepth 20000 in
theorem gX5_readsCitizen_X5_codeAt : GoodIn wsX5_readsCitizen (wsV RX5 63 RX5 yX5_codeAt wsX5_codeAt) := goodIn_app (goodIn_of _ (by decide +kernel)) ggX5_readsCitizen_X5_codeAt
set_option maxRecDepth 20000 in
theorem ggX5_readsCitizen_X5_figure : GoodIn wsX5_readsCitizen wsX5_figure := goodIn_r _ [16, 2, 7, 8, 9, 10, 11, 12, 17, 18, 19, 20, 21, 22, 23, 24, 25, 26, 27, 28, 29, 30, 31, 32, 33, 34, 35, 36, 37, 38, 39, 40, 41, 42, 43] (by decide +kernel) (by decide +kernel)
set_option maxRecDepth 20000 in
theorem gX5_readsCitizen_X5_figure : GoodIn wsX5_readsCitizen (wsV RX5 70 RX5 yX5_figure wsX5_figure) := goodIn_app (goodIn_of _ (by decide +kernel)) ggX5_readsCitizen_X5_figure
theorem dX5_readsCitizen_0 : decode cX5_readsCitizen 0 = .ok (.aload_n 0, 1) := by decide +kernel
theorem dX5_readsCitizen_1 : decode cX5_readsCitizen 1 = .ok (.getfield 67, 3) := by decide +kernel
theorem dX5_readsCitizen_4 : decode cX5_readsCitizen 4 = .ok (.bipush 6, 2) := by decide +kernel
theorem dX5_readsCitizen_6 : decode cX5_readsCitizen 6 = .ok (.if_icmp .eq 14, 3) := by decide +kernel
theorem dX5_readsCitizen_9 : decode cX5_readsCitizen 9 = .ok (.aload_n 0, 1) := by decide +kernel
theorem dX5_readsCitizen_10 : decode cX5_readsCitizen 10 = .ok (.iload_n 1, 1) := by decide +kernel
theorem dX5_readsCitizen_11 : decode cX5_readsCitizen 11 = .ok (.iload_n 2, 1) := by decide +kernel
theorem dX5_readsCitizen_12 : decode cX5_readsCitizen 12 = .ok (.invokevirtual 63, 3) := by decide +kernel
theorem dX5_readsCitizen_15 : decode cX5_readsCitizen 15 = .ok (.bipush 59, 2) := by decide +kernel
theorem dX5_readsCitizen_17 : decode cX5_readsCitizen 17 = .ok (.if_icmp .eq 5, 3) := by decide +kernel
theorem dX5_readsCitizen_20 : decode cX5_readsCitizen 20 = .ok (.iconst 0, 1) := by decide +kernel
theorem dX5_readsCitizen_21 : decode cX5_readsCitizen 21 = .ok (.ireturn, 1) := by decide +kernel
theorem dX5_readsCitizen_22 : decode cX5_readsCitizen 22 = .ok (.aload_n 0, 1) := by decide +kernel
theorem dX5_readsCitizen_23 : decode cX5_readsCitizen 23 = .ok (.dup, 1) := by decide +kernel
theorem dX5_readsCitizen_24 : decode cX5_readsCitizen 24 = .ok (.getfield 60, 3) := by decide +kernel
theorem dX5_readsCitizen_27 : decode cX5_readsCitizen 27 = .ok (.iconst 1, 1) := by decide +kernel
theorem dX5_readsCitizen_28 : decode cX5_readsCitizen 28 = .ok (.iadd, 1) := by decide +kernel
theorem dX5_readsCitizen_29 : decode cX5_readsCitizen 29 = .ok (.putfield 60, 3) := by decide +kernel
theorem dX5_readsCitizen_32 : decode cX5_readsCitizen 32 = .ok (.aload_n 0, 1) := by decide +kernel
theorem dX5_readsCitizen_33 : decode cX5_readsCitizen 33 = .ok (.iload_n 1, 1) := by decide +kernel
theorem dX5_readsCitizen_34 : decode cX5_readsCitizen 34 = .ok (.iload_n 2, 1) := by decide +kernel
theorem dX5_readsCitizen_35 : decode cX5_readsCitizen 35 = .ok (.invokevirtual 63, 3) := by decide +kernel
theorem dX5_readsCitizen_38 : decode cX5_readsCitizen 38 = .ok (.istore_n 3, 1) := by decide +kernel
theorem dX5_readsCitizen_39 : decode cX5_readsCitizen 39 = .ok (.iload_n 3, 1) := by decide +kernel
theorem dX5_readsCitizen_40 : decode cX5_readsCitizen 40 = .ok (.bipush 99, 2) := by decide +kernel
theorem dX5_readsCitizen_42 : decode cX5_readsCitizen 42 = .ok (.if_icmp .eq 17, 3) := by decide +kernel
theorem dX5_readsCitizen_45 : decode cX5_readsCitizen 45 = .ok (.iload_n 3, 1) := by decide +kernel
theorem dX5_readsCitizen_46 : decode cX5_readsCitizen 46 = .ok (.bipush 114, 2) := by decide +kernel
theorem dX5_readsCitizen_48 : decode cX5_readsCitizen 48 = .ok (.if_icmp .eq 11, 3) := by decide +kernel
theorem dX5_readsCitizen_51 : decode cX5_readsCitizen 51 = .ok (.iload_n 3, 1) := by decide +kernel
theorem dX5_readsCitizen_52 : decode cX5_readsCitizen 52 = .ok (.bipush 109, 2) := by decide +kernel
theorem dX5_readsCitizen_54 : decode cX5_readsCitizen 54 = .ok (.if_icmp .eq 5, 3) := by decide +kernel
theorem dX5_readsCitizen_57 : decode cX5_readsCitizen 57 = .ok (.iconst 0, 1) := by decide +kernel
theorem dX5_readsCitizen_58 : decode cX5_readsCitizen 58 = .ok (.ireturn, 1) := by decide +kernel
theorem dX5_readsCitizen_59 : decode cX5_readsCitizen 59 = .ok (.aload_n 0, 1) := by decide +kernel
theorem dX5_readsCitizen_60 : decode cX5_readsCitizen 60 = .ok (.dup, 1) := by decide +kernel
theorem dX5_readsCitizen_61 : decode cX5_readsCitizen 61 = .ok (.getfield 60, 3) := by decide +kernel
theorem dX5_readsCitizen_64 : decode cX5_readsCitizen 64 = .ok (.iconst 1, 1) := by decide +kernel
theorem dX5_readsCitizen_65 : decode cX5_readsCitizen 65 = .ok (.iadd, 1) := by decide +kernel
theorem dX5_readsCitizen_66 : decode cX5_readsCitizen 66 = .ok (.putfield 60, 3) := by decide +kernel
theorem dX5_readsCitizen_69 : decode cX5_readsCitizen 69 = .ok (.aload_n 0, 1) := by decide +kernel
theorem dX5_readsCitizen_70 : decode cX5_readsCitizen 70 = .ok (.iload_n 1, 1) := by decide +kernel
theorem dX5_readsCitizen_71 : decode cX5_readsCitizen 71 = .ok (.iload_n 2, 1) := by decide +kernel
theorem dX5_readsCitizen_72 : decode cX5_readsCitizen 72 = .ok (.iconst 1, 1) := by decide +kernel
theorem dX5_readsCitizen_73 : decode cX5_readsCitizen 73 = .ok (.bipush 9, 2) := by decide +kernel
theorem dX5_readsCitizen_75 : decode cX5_readsCitizen 75 = .ok (.invokevirtual 70, 3) := by decide +kernel
theorem dX5_readsCitizen_78 : decode cX5_readsCitizen 78 = .ok (.istore 4, 2) := by decide +kernel
theorem dX5_readsCitizen_80 : decode cX5_readsCitizen 80 = .ok (.iload 4, 2) := by decide +kernel
theorem dX5_readsCitizen_82 : decode cX5_readsCitizen 82 = .ok (.ifCond .ge 8, 3) := by decide +kernel
theorem dX5_readsCitizen_85 : decode cX5_readsCitizen 85 = .ok (.bipush (-9), 2) := by decide +kernel
theorem dX5_readsCitizen_87 : decode cX5_readsCitizen 87 = .ok (.goto 12, 3) := by decide +kernel
theorem dX5_readsCitizen_90 : decode cX5_readsCitizen 90 = .ok (.aload_n 0, 1) := by decide +kernel
theorem dX5_readsCitizen_91 : decode cX5_readsCitizen 91 = .ok (.iload_n 1, 1) := by decide +kernel
theorem dX5_readsCitizen_92 : decode cX5_readsCitizen 92 = .ok (.iload_n 2, 1) := by decide +kernel
theorem dX5_readsCitizen_93 : decode cX5_readsCitizen 93 = .ok (.iconst 0, 1) := by decide +kernel
theorem dX5_readsCitizen_94 : decode cX5_readsCitizen 94 = .ok (.bipush 9, 2) := by decide +kernel
theorem dX5_readsCitizen_96 : decode cX5_readsCitizen 96 = .ok (.invokevirtual 70, 3) := by decide +kernel
theorem dX5_readsCitizen_99 : decode cX5_readsCitizen 99 = .ok (.istore 5, 2) := by decide +kernel
theorem dX5_readsCitizen_101 : decode cX5_readsCitizen 101 = .ok (.iload 5, 2) := by decide +kernel
theorem dX5_readsCitizen_103 : decode cX5_readsCitizen 103 = .ok (.ifCond .ge 8, 3) := by decide +kernel
theorem dX5_readsCitizen_106 : decode cX5_readsCitizen 106 = .ok (.bipush (-9), 2) := by decide +kernel
theorem dX5_readsCitizen_108 : decode cX5_readsCitizen 108 = .ok (.goto 12, 3) := by decide +kernel
theorem dX5_readsCitizen_111 : decode cX5_readsCitizen 111 = .ok (.aload_n 0, 1) := by decide +kernel
theorem dX5_readsCitizen_112 : decode cX5_readsCitizen 112 = .ok (.iload_n 1, 1) := by decide +kernel
theorem dX5_readsCitizen_113 : decode cX5_readsCitizen 113 = .ok (.iload_n 2, 1) := by decide +kernel
theorem dX5_readsCitizen_114 : decode cX5_readsCitizen 114 = .ok (.iconst 0, 1) := by decide +kernel
theorem dX5_readsCitizen_115 : decode cX5_readsCitizen 115 = .ok (.bipush 9, 2) := by decide +kernel
theorem dX5_readsCitizen_117 : decode cX5_readsCitizen 117 = .ok (.invokevirtual 70, 3) := by decide +kernel
theorem dX5_readsCitizen_120 : decode cX5_readsCitizen 120 = .ok (.istore 6, 2) := by decide +kernel
theorem dX5_readsCitizen_122 : decode cX5_readsCitizen 122 = .ok (.iload 6, 2) := by decide +kernel
theorem dX5_readsCitizen_124 : decode cX5_readsCitizen 124 = .ok (.ifCond .ge 8, 3) := by decide +kernel
theorem dX5_readsCitizen_127 : decode cX5_readsCitizen 127 = .ok (.bipush (-9), 2) := by decide +kernel
theorem dX5_readsCitizen_129 : decode cX5_readsCitizen 129 = .ok (.goto 9, 3) := by decide +kernel
theorem dX5_readsCitizen_132 : decode cX5_readsCitizen 132 = .ok (.aload_n 0, 1) := by decide +kernel
theorem dX5_readsCitizen_133 : decode cX5_readsCitizen 133 = .ok (.iload_n 1, 1) := by decide +kernel
theorem dX5_readsCitizen_134 : decode cX5_readsCitizen 134 = .ok (.iload_n 2, 1) := by decide +kernel
theorem dX5_readsCitizen_135 : decode cX5_readsCitizen 135 = .ok (.invokevirtual 63, 3) := by decide +kernel
theorem dX5_readsCitizen_138 : decode cX5_readsCitizen 138 = .ok (.istore 7, 2) := by decide +kernel
theorem dX5_readsCitizen_140 : decode cX5_readsCitizen 140 = .ok (.iload 7, 2) := by decide +kernel
theorem dX5_readsCitizen_142 : decode cX5_readsCitizen 142 = .ok (.bipush 121, 2) := by decide +kernel
theorem dX5_readsCitizen_144 : decode cX5_readsCitizen 144 = .ok (.if_icmp .eq 12, 3) := by decide +kernel
theorem dX5_readsCitizen_147 : decode cX5_readsCitizen 147 = .ok (.iload 7, 2) := by decide +kernel
theorem dX5_readsCitizen_149 : decode cX5_readsCitizen 149 = .ok (.bipush 110, 2) := by decide +kernel
theorem dX5_readsCitizen_151 : decode cX5_readsCitizen 151 = .ok (.if_icmp .eq 5, 3) := by decide +kernel
theorem dX5_readsCitizen_154 : decode cX5_readsCitizen 154 = .ok (.iconst 0, 1) := by decide +kernel
theorem dX5_readsCitizen_155 : decode cX5_readsCitizen 155 = .ok (.ireturn, 1) := by decide +kernel
theorem dX5_readsCitizen_156 : decode cX5_readsCitizen 156 = .ok (.aload_n 0, 1) := by decide +kernel
theorem dX5_readsCitizen_157 : decode cX5_readsCitizen 157 = .ok (.dup, 1) := by decide +kernel
theorem dX5_readsCitizen_158 : decode cX5_readsCitizen 158 = .ok (.getfield 60, 3) := by decide +kernel
theorem dX5_readsCitizen_161 : decode cX5_readsCitizen 161 = .ok (.iconst 1, 1) := by decide +kernel
theorem dX5_readsCitizen_162 : decode cX5_readsCitizen 162 = .ok (.iadd, 1) := by decide +kernel
theorem dX5_readsCitizen_163 : decode cX5_readsCitizen 163 = .ok (.putfield 60, 3) := by decide +kernel
theorem dX5_readsCitizen_166 : decode cX5_readsCitizen 166 = .ok (.aload_n 0, 1) := by decide +kernel
theorem dX5_readsCitizen_167 : decode cX5_readsCitizen 167 = .ok (.getfield 19, 3) := by decide +kernel
theorem dX5_readsCitizen_170 : decode cX5_readsCitizen 170 = .ok (.aload_n 0, 1) := by decide +kernel
theorem dX5_readsCitizen_171 : decode cX5_readsCitizen 171 = .ok (.getfield 67, 3) := by decide +kernel
theorem dX5_readsCitizen_174 : decode cX5_readsCitizen 174 = .ok (.iload_n 3, 1) := by decide +kernel
theorem dX5_readsCitizen_175 : decode cX5_readsCitizen 175 = .ok (.bipush 99, 2) := by decide +kernel
theorem dX5_readsCitizen_177 : decode cX5_readsCitizen 177 = .ok (.if_icmp .ne 7, 3) := by decide +kernel
theorem dX5_readsCitizen_180 : decode cX5_readsCitizen 180 = .ok (.iconst 0, 1) := by decide +kernel
theorem dX5_readsCitizen_181 : decode cX5_readsCitizen 181 = .ok (.goto 14, 3) := by decide +kernel
theorem dX5_readsCitizen_184 : decode cX5_readsCitizen 184 = .ok (.iload_n 3, 1) := by decide +kernel
theorem dX5_readsCitizen_185 : decode cX5_readsCitizen 185 = .ok (.bipush 114, 2) := by decide +kernel
theorem dX5_readsCitizen_187 : decode cX5_readsCitizen 187 = .ok (.if_icmp .ne 7, 3) := by decide +kernel
theorem dX5_readsCitizen_190 : decode cX5_readsCitizen 190 = .ok (.iconst 1, 1) := by decide +kernel
theorem dX5_readsCitizen_191 : decode cX5_readsCitizen 191 = .ok (.goto 4, 3) := by decide +kernel
theorem dX5_readsCitizen_194 : decode cX5_readsCitizen 194 = .ok (.iconst 2, 1) := by decide +kernel
theorem dX5_readsCitizen_195 : decode cX5_readsCitizen 195 = .ok (.iastore, 1) := by decide +kernel
theorem dX5_readsCitizen_196 : decode cX5_readsCitizen 196 = .ok (.aload_n 0, 1) := by decide +kernel
theorem dX5_readsCitizen_197 : decode cX5_readsCitizen 197 = .ok (.getfield 22, 3) := by decide +kernel
theorem dX5_readsCitizen_200 : decode cX5_readsCitizen 200 = .ok (.aload_n 0, 1) := by decide +kernel
theorem dX5_readsCitizen_201 : decode cX5_readsCitizen 201 = .ok (.getfield 67, 3) := by decide +kernel
theorem dX5_readsCitizen_204 : decode cX5_readsCitizen 204 = .ok (.iload 4, 2) := by decide +kernel
theorem dX5_readsCitizen_206 : decode cX5_readsCitizen 206 = .ok (.iastore, 1) := by decide +kernel
theorem dX5_readsCitizen_207 : decode cX5_readsCitizen 207 = .ok (.aload_n 0, 1) := by decide +kernel
theorem dX5_readsCitizen_208 : decode cX5_readsCitizen 208 = .ok (.getfield 25, 3) := by decide +kernel
theorem dX5_readsCitizen_211 : decode cX5_readsCitizen 211 = .ok (.aload_n 0, 1) := by decide +kernel
theorem dX5_readsCitizen_212 : decode cX5_readsCitizen 212 = .ok (.getfield 67, 3) := by decide +kernel
theorem dX5_readsCitizen_215 : decode cX5_readsCitizen 215 = .ok (.bipush 10, 2) := by decide +kernel
theorem dX5_readsCitizen_217 : decode cX5_readsCitizen 217 = .ok (.iload 5, 2) := by decide +kernel
theorem dX5_readsCitizen_219 : decode cX5_readsCitizen 219 = .ok (.imul, 1) := by decide +kernel
theorem dX5_readsCitizen_220 : decode cX5_readsCitizen 220 = .ok (.iload 6, 2) := by decide +kernel
theorem dX5_readsCitizen_222 : decode cX5_readsCitizen 222 = .ok (.iadd, 1) := by decide +kernel
theorem dX5_readsCitizen_223 : decode cX5_readsCitizen 223 = .ok (.iastore, 1) := by decide +kernel
theorem dX5_readsCitizen_224 : decode cX5_readsCitizen 224 = .ok (.aload_n 0, 1) := by decide +kernel
theorem dX5_readsCitizen_225 : decode cX5_readsCitizen 225 = .ok (.dup, 1) := by decide +kernel
theorem dX5_readsCitizen_226 : decode cX5_readsCitizen 226 = .ok (.getfield 74, 3) := by decide +kernel
theorem dX5_readsCitizen_229 : decode cX5_readsCitizen 229 = .ok (.iload 7, 2) := by decide +kernel
theorem dX5_readsCitizen_231 : decode cX5_readsCitizen 231 = .ok (.bipush 121, 2) := by decide +kernel
theorem dX5_readsCitizen_233 : decode cX5_readsCitizen 233 = .ok (.if_icmp .ne 12, 3) := by decide +kernel
theorem dX5_readsCitizen_236 : decode cX5_readsCitizen 236 = .ok (.iconst 1, 1) := by decide +kernel
theorem dX5_readsCitizen_237 : decode cX5_readsCitizen 237 = .ok (.aload_n 0, 1) := by decide +kernel
theorem dX5_readsCitizen_238 : decode cX5_readsCitizen 238 = .ok (.getfield 67, 3) := by decide +kernel
theorem dX5_readsCitizen_241 : decode cX5_readsCitizen 241 = .ok (.ishl, 1) := by decide +kernel
theorem dX5_readsCitizen_242 : decode cX5_readsCitizen 242 = .ok (.goto 4, 3) := by decide +kernel
theorem dX5_readsCitizen_245 : decode cX5_readsCitizen 245 = .ok (.iconst 0, 1) := by decide +kernel
theorem dX5_readsCitizen_246 : decode cX5_readsCitizen 246 = .ok (.ior, 1) := by decide +kernel
theorem dX5_readsCitizen_247 : decode cX5_readsCitizen 247 = .ok (.putfield 74, 3) := by decide +kernel
theorem dX5_readsCitizen_250 : decode cX5_readsCitizen 250 = .ok (.aload_n 0, 1) := by decide +kernel
theorem dX5_readsCitizen_251 : decode cX5_readsCitizen 251 = .ok (.dup, 1) := by decide +kernel
theorem dX5_readsCitizen_252 : decode cX5_readsCitizen 252 = .ok (.getfield 67, 3) := by decide +kernel
theorem dX5_readsCitizen_255 : decode cX5_readsCitizen 255 = .ok (.iconst 1, 1) := by decide +kernel
theorem dX5_readsCitizen_256 : decode cX5_readsCitizen 256 = .ok (.iadd, 1) := by decide +kernel
theorem dX5_readsCitizen_257 : decode cX5_readsCitizen 257 = .ok (.putfield 67, 3) := by decide +kernel
theorem dX5_readsCitizen_260 : decode cX5_readsCitizen 260 = .ok (.iconst 1, 1) := by decide +kernel
theorem dX5_readsCitizen_261 : decode cX5_readsCitizen 261 = .ok (.ireturn, 1) := by decide +kernel
set_option maxRecDepth 20000 in
theorem ggX5_readsRepublic_X5_codeAt : GoodIn wsX5_readsRepublic wsX5_codeAt := goodIn_r _ [10, 1, 11, 26, 27, 28, 29, 30, 31, 32, 33, 34, 35, 36, 37, 38, 39, 40, 41, 42, 43, 44, 45, 46, 47, 48, 49] (by decide +kernel) (by decide +kernel)
set_option maxRecDepth 20000 in
theorem gX5_readsRepublic_X5_codeAt : GoodIn wsX5_readsRepublic (wsV RX5 63 RX5 yX5_codeAt wsX5_codeAt) := goodIn_app (goodIn_of _ (by decide +kernel)) ggX5_readsRepublic_X5_codeAt
set_option maxRecDepth 20000 in
theorem ggX5_readsRepublic_X5_figure : GoodIn wsX5_readsRepublic wsX5_figure := goodIn_r _ [15, 1, 6, 7, 8, 9, 10, 11, 16, 17, 18, 26, 27, 28, 29, 30, 31, 32, 33, 34, 35, 36, 37, 38, 39, 40, 41, 42, 43, 44, 45, 46, 47, 48, 49] (by decide +kernel) (by decide +kernel)
set_option maxRecDepth 20000 in
theorem gX5_readsRepublic_X5_figure : GoodIn wsX5_readsRepublic (wsV RX5 70 RX5 yX5_figure wsX5_figure) := goodIn_app (goodIn_of _ (by decide +kernel)) ggX5_readsRepublic_X5_figure
set_option maxRecDepth 20000 in
theorem ggX5_readsRepublic_X5_readsCitizen : GoodIn wsX5_readsRepublic wsX5_readsCitizen := goodIn_r _ [22, 2, 1, 23, 24, 25, 3, 6, 7, 8, 9, 10, 11, 12, 13, 14, 15, 16, 17, 18, 26, 27, 28, 29, 30, 31, 32, 33, 34, 35, 36, 37, 38, 39, 40, 41, 42, 43, 44, 45, 46, 47, 48, 49] (by decide +kernel) (by decide +kernel)
set_option maxRecDepth 20000 in
theorem gX5_readsRepublic_X5_readsCitizen : GoodIn wsX5_readsRepublic (wsV RX5 83 RX5 yX5_readsCitizen wsX5_readsCitizen) := goodIn_app (goodIn_of _ (by decide +kernel)) ggX5_readsRepublic_X5_readsCitizen
theorem dX5_readsRepublic_0 : decode cX5_readsRepublic 0 = .ok (.aload_n 0, 1) := by decide +kernel
theorem dX5_readsRepublic_1 : decode cX5_readsRepublic 1 = .ok (.iconst 0, 1) := by decide +kernel
theorem dX5_readsRepublic_2 : decode cX5_readsRepublic 2 = .ok (.putfield 60, 3) := by decide +kernel
theorem dX5_readsRepublic_5 : decode cX5_readsRepublic 5 = .ok (.aload_n 0, 1) := by decide +kernel
theorem dX5_readsRepublic_6 : decode cX5_readsRepublic 6 = .ok (.iconst 0, 1) := by decide +kernel
theorem dX5_readsRepublic_7 : decode cX5_readsRepublic 7 = .ok (.putfield 67, 3) := by decide +kernel
theorem dX5_readsRepublic_10 : decode cX5_readsRepublic 10 = .ok (.aload_n 0, 1) := by decide +kernel
theorem dX5_readsRepublic_11 : decode cX5_readsRepublic 11 = .ok (.iconst 0, 1) := by decide +kernel
theorem dX5_readsRepublic_12 : decode cX5_readsRepublic 12 = .ok (.putfield 74, 3) := by decide +kernel
theorem dX5_readsRepublic_15 : decode cX5_readsRepublic 15 = .ok (.aload_n 0, 1) := by decide +kernel
theorem dX5_readsRepublic_16 : decode cX5_readsRepublic 16 = .ok (.iload_n 1, 1) := by decide +kernel
theorem dX5_readsRepublic_17 : decode cX5_readsRepublic 17 = .ok (.iload_n 2, 1) := by decide +kernel
theorem dX5_readsRepublic_18 : decode cX5_readsRepublic 18 = .ok (.invokevirtual 63, 3) := by decide +kernel
theorem dX5_readsRepublic_21 : decode cX5_readsRepublic 21 = .ok (.bipush 108, 2) := by decide +kernel
theorem dX5_readsRepublic_23 : decode cX5_readsRepublic 23 = .ok (.if_icmp .ne 7, 3) := by decide +kernel
theorem dX5_readsRepublic_26 : decode cX5_readsRepublic 26 = .ok (.iconst 1, 1) := by decide +kernel
theorem dX5_readsRepublic_27 : decode cX5_readsRepublic 27 = .ok (.goto 4, 3) := by decide +kernel
theorem dX5_readsRepublic_30 : decode cX5_readsRepublic 30 = .ok (.iconst 0, 1) := by decide +kernel
theorem dX5_readsRepublic_31 : decode cX5_readsRepublic 31 = .ok (.istore_n 3, 1) := by decide +kernel
theorem dX5_readsRepublic_32 : decode cX5_readsRepublic 32 = .ok (.aload_n 0, 1) := by decide +kernel
theorem dX5_readsRepublic_33 : decode cX5_readsRepublic 33 = .ok (.dup, 1) := by decide +kernel
theorem dX5_readsRepublic_34 : decode cX5_readsRepublic 34 = .ok (.getfield 60, 3) := by decide +kernel
theorem dX5_readsRepublic_37 : decode cX5_readsRepublic 37 = .ok (.iload_n 3, 1) := by decide +kernel
theorem dX5_readsRepublic_38 : decode cX5_readsRepublic 38 = .ok (.ifCond .eq 7, 3) := by decide +kernel
theorem dX5_readsRepublic_41 : decode cX5_readsRepublic 41 = .ok (.iconst 1, 1) := by decide +kernel
theorem dX5_readsRepublic_42 : decode cX5_readsRepublic 42 = .ok (.goto 4, 3) := by decide +kernel
theorem dX5_readsRepublic_45 : decode cX5_readsRepublic 45 = .ok (.iconst 0, 1) := by decide +kernel
theorem dX5_readsRepublic_46 : decode cX5_readsRepublic 46 = .ok (.iadd, 1) := by decide +kernel
theorem dX5_readsRepublic_47 : decode cX5_readsRepublic 47 = .ok (.putfield 60, 3) := by decide +kernel
theorem dX5_readsRepublic_50 : decode cX5_readsRepublic 50 = .ok (.aload_n 0, 1) := by decide +kernel
theorem dX5_readsRepublic_51 : decode cX5_readsRepublic 51 = .ok (.iload_n 3, 1) := by decide +kernel
theorem dX5_readsRepublic_52 : decode cX5_readsRepublic 52 = .ok (.ifCond .eq 15, 3) := by decide +kernel
theorem dX5_readsRepublic_55 : decode cX5_readsRepublic 55 = .ok (.aload_n 0, 1) := by decide +kernel
theorem dX5_readsRepublic_56 : decode cX5_readsRepublic 56 = .ok (.iload_n 1, 1) := by decide +kernel
theorem dX5_readsRepublic_57 : decode cX5_readsRepublic 57 = .ok (.iload_n 2, 1) := by decide +kernel
theorem dX5_readsRepublic_58 : decode cX5_readsRepublic 58 = .ok (.iconst 0, 1) := by decide +kernel
theorem dX5_readsRepublic_59 : decode cX5_readsRepublic 59 = .ok (.bipush 6, 2) := by decide +kernel
theorem dX5_readsRepublic_61 : decode cX5_readsRepublic 61 = .ok (.invokevirtual 70, 3) := by decide +kernel
theorem dX5_readsRepublic_64 : decode cX5_readsRepublic 64 = .ok (.goto 5, 3) := by decide +kernel
theorem dX5_readsRepublic_67 : decode cX5_readsRepublic 67 = .ok (.bipush (-9), 2) := by decide +kernel
theorem dX5_readsRepublic_69 : decode cX5_readsRepublic 69 = .ok (.putfield 77, 3) := by decide +kernel
theorem dX5_readsRepublic_72 : decode cX5_readsRepublic 72 = .ok (.aload_n 0, 1) := by decide +kernel
theorem dX5_readsRepublic_73 : decode cX5_readsRepublic 73 = .ok (.aload_n 0, 1) := by decide +kernel
theorem dX5_readsRepublic_74 : decode cX5_readsRepublic 74 = .ok (.getfield 77, 3) := by decide +kernel
theorem dX5_readsRepublic_77 : decode cX5_readsRepublic 77 = .ok (.ifCond .lt 15, 3) := by decide +kernel
theorem dX5_readsRepublic_80 : decode cX5_readsRepublic 80 = .ok (.aload_n 0, 1) := by decide +kernel
theorem dX5_readsRepublic_81 : decode cX5_readsRepublic 81 = .ok (.iload_n 1, 1) := by decide +kernel
theorem dX5_readsRepublic_82 : decode cX5_readsRepublic 82 = .ok (.iload_n 2, 1) := by decide +kernel
theorem dX5_readsRepublic_83 : decode cX5_readsRepublic 83 = .ok (.iconst 1, 1) := by decide +kernel
theorem dX5_readsRepublic_84 : decode cX5_readsRepublic 84 = .ok (.bipush 9, 2) := by decide +kernel
theorem dX5_readsRepublic_86 : decode cX5_readsRepublic 86 = .ok (.invokevirtual 70, 3) := by decide +kernel
theorem dX5_readsRepublic_89 : decode cX5_readsRepublic 89 = .ok (.goto 5, 3) := by decide +kernel
theorem dX5_readsRepublic_92 : decode cX5_readsRepublic 92 = .ok (.bipush (-9), 2) := by decide +kernel
theorem dX5_readsRepublic_94 : decode cX5_readsRepublic 94 = .ok (.putfield 80, 3) := by decide +kernel
theorem dX5_readsRepublic_97 : decode cX5_readsRepublic 97 = .ok (.aload_n 0, 1) := by decide +kernel
theorem dX5_readsRepublic_98 : decode cX5_readsRepublic 98 = .ok (.getfield 80, 3) := by decide +kernel
theorem dX5_readsRepublic_101 : decode cX5_readsRepublic 101 = .ok (.ifCond .le 7, 3) := by decide +kernel
theorem dX5_readsRepublic_104 : decode cX5_readsRepublic 104 = .ok (.iconst 1, 1) := by decide +kernel
theorem dX5_readsRepublic_105 : decode cX5_readsRepublic 105 = .ok (.goto 4, 3) := by decide +kernel
theorem dX5_readsRepublic_108 : decode cX5_readsRepublic 108 = .ok (.iconst 0, 1) := by decide +kernel
theorem dX5_readsRepublic_109 : decode cX5_readsRepublic 109 = .ok (.istore_n 3, 1) := by decide +kernel
theorem dX5_readsRepublic_110 : decode cX5_readsRepublic 110 = .ok (.iload_n 3, 1) := by decide +kernel
theorem dX5_readsRepublic_111 : decode cX5_readsRepublic 111 = .ok (.ifCond .eq 28, 3) := by decide +kernel
theorem dX5_readsRepublic_114 : decode cX5_readsRepublic 114 = .ok (.aload_n 0, 1) := by decide +kernel
theorem dX5_readsRepublic_115 : decode cX5_readsRepublic 115 = .ok (.getfield 67, 3) := by decide +kernel
theorem dX5_readsRepublic_118 : decode cX5_readsRepublic 118 = .ok (.ifCond .eq 11, 3) := by decide +kernel
theorem dX5_readsRepublic_121 : decode cX5_readsRepublic 121 = .ok (.aload_n 0, 1) := by decide +kernel
theorem dX5_readsRepublic_122 : decode cX5_readsRepublic 122 = .ok (.getfield 60, 3) := by decide +kernel
theorem dX5_readsRepublic_125 : decode cX5_readsRepublic 125 = .ok (.iload_n 2, 1) := by decide +kernel
theorem dX5_readsRepublic_126 : decode cX5_readsRepublic 126 = .ok (.if_icmp .ge 13, 3) := by decide +kernel
theorem dX5_readsRepublic_129 : decode cX5_readsRepublic 129 = .ok (.aload_n 0, 1) := by decide +kernel
theorem dX5_readsRepublic_130 : decode cX5_readsRepublic 130 = .ok (.iload_n 1, 1) := by decide +kernel
theorem dX5_readsRepublic_131 : decode cX5_readsRepublic 131 = .ok (.iload_n 2, 1) := by decide +kernel
theorem dX5_readsRepublic_132 : decode cX5_readsRepublic 132 = .ok (.invokevirtual 83, 3) := by decide +kernel
theorem dX5_readsRepublic_135 : decode cX5_readsRepublic 135 = .ok (.istore_n 3, 1) := by decide +kernel
theorem dX5_readsRepublic_136 : decode cX5_readsRepublic 136 = .ok (.goto (-26), 3) := by decide +kernel
theorem dX5_readsRepublic_139 : decode cX5_readsRepublic 139 = .ok (.iload_n 3, 1) := by decide +kernel
theorem dX5_readsRepublic_140 : decode cX5_readsRepublic 140 = .ok (.ireturn, 1) := by decide +kernel
set_option maxRecDepth 20000 in
theorem ggX5_cellsBarred_X5_failed : GoodIn wsX5_cellsBarred wsX5_failed := goodIn_r _ [7, 8, 12, 13, 14, 15, 16, 17, 18, 19, 20, 21, 22, 23, 24, 25, 26, 27, 28, 29, 30, 31, 32, 33, 34, 35] (by decide +kernel) (by decide +kernel)
set_option maxRecDepth 20000 in
theorem gX5_cellsBarred_X5_failed : GoodIn wsX5_cellsBarred (wsV RX5 87 RX5 yX5_failed wsX5_failed) := goodIn_app (goodIn_of _ (by decide +kernel)) ggX5_cellsBarred_X5_failed
set_option maxRecDepth 20000 in
theorem ggX5_cellsBarred_X5_isBeyond : GoodIn wsX5_cellsBarred wsX5_isBeyond := goodIn_r _ [11] (by decide +kernel) (by decide +kernel)
set_option maxRecDepth 20000 in
theorem gX5_cellsBarred_X5_isBeyond : GoodIn wsX5_cellsBarred (va_wsS RX5 91 yX5_isBeyond wsX5_isBeyond) := goodIn_app (goodIn_of _ (by decide +kernel)) ggX5_cellsBarred_X5_isBeyond
theorem dX5_cellsBarred_0 : decode cX5_cellsBarred 0 = .ok (.aload_n 0, 1) := by decide +kernel
theorem dX5_cellsBarred_1 : decode cX5_cellsBarred 1 = .ok (.getfield 31, 3) := by decide +kernel
theorem dX5_cellsBarred_4 : decode cX5_cellsBarred 4 = .ok (.iload_n 1, 1) := by decide +kernel
theorem dX5_cellsBarred_5 : decode cX5_cellsBarred 5 = .ok (.iaload, 1) := by decide +kernel
theorem dX5_cellsBarred_6 : decode cX5_cellsBarred 6 = .ok (.ifCond .lt 19, 3) := by decide +kernel
theorem dX5_cellsBarred_9 : decode cX5_cellsBarred 9 = .ok (.aload_n 0, 1) := by decide +kernel
theorem dX5_cellsBarred_10 : decode cX5_cellsBarred 10 = .ok (.getfield 34, 3) := by decide +kernel
theorem dX5_cellsBarred_13 : decode cX5_cellsBarred 13 = .ok (.iload_n 1, 1) := by decide +kernel
theorem dX5_cellsBarred_14 : decode cX5_cellsBarred 14 = .ok (.iaload, 1) := by decide +kernel
theorem dX5_cellsBarred_15 : decode cX5_cellsBarred 15 = .ok (.iload_n 2, 1) := by decide +kernel
theorem dX5_cellsBarred_16 : decode cX5_cellsBarred 16 = .ok (.if_icmp .eq 9, 3) := by decide +kernel
theorem dX5_cellsBarred_19 : decode cX5_cellsBarred 19 = .ok (.aload_n 0, 1) := by decide +kernel
theorem dX5_cellsBarred_20 : decode cX5_cellsBarred 20 = .ok (.iconst 2, 1) := by decide +kernel
theorem dX5_cellsBarred_21 : decode cX5_cellsBarred 21 = .ok (.invokevirtual 87, 3) := by decide +kernel
theorem dX5_cellsBarred_24 : decode cX5_cellsBarred 24 = .ok (.ireturn, 1) := by decide +kernel
theorem dX5_cellsBarred_25 : decode cX5_cellsBarred 25 = .ok (.aload_n 0, 1) := by decide +kernel
theorem dX5_cellsBarred_26 : decode cX5_cellsBarred 26 = .ok (.getfield 31, 3) := by decide +kernel
theorem dX5_cellsBarred_29 : decode cX5_cellsBarred 29 = .ok (.iload_n 1, 1) := by decide +kernel
theorem dX5_cellsBarred_30 : decode cX5_cellsBarred 30 = .ok (.iaload, 1) := by decide +kernel
theorem dX5_cellsBarred_31 : decode cX5_cellsBarred 31 = .ok (.ifCond .ge 9, 3) := by decide +kernel
theorem dX5_cellsBarred_34 : decode cX5_cellsBarred 34 = .ok (.aload_n 0, 1) := by decide +kernel
theorem dX5_cellsBarred_35 : decode cX5_cellsBarred 35 = .ok (.iconst 1, 1) := by decide +kernel
theorem dX5_cellsBarred_36 : decode cX5_cellsBarred 36 = .ok (.invokevirtual 87, 3) := by decide +kernel
theorem dX5_cellsBarred_39 : decode cX5_cellsBarred 39 = .ok (.ireturn, 1) := by decide +kernel
theorem dX5_cellsBarred_40 : decode cX5_cellsBarred 40 = .ok (.lload 4, 2) := by decide +kernel
theorem dX5_cellsBarred_42 : decode cX5_cellsBarred 42 = .ok (.lconst 0, 1) := by decide +kernel
theorem dX5_cellsBarred_43 : decode cX5_cellsBarred 43 = .ok (.lcmp, 1) := by decide +kernel
theorem dX5_cellsBarred_44 : decode cX5_cellsBarred 44 = .ok (.ifCond .ge 9, 3) := by decide +kernel
theorem dX5_cellsBarred_47 : decode cX5_cellsBarred 47 = .ok (.aload_n 0, 1) := by decide +kernel
theorem dX5_cellsBarred_48 : decode cX5_cellsBarred 48 = .ok (.iconst 4, 1) := by decide +kernel
theorem dX5_cellsBarred_49 : decode cX5_cellsBarred 49 = .ok (.invokevirtual 87, 3) := by decide +kernel
theorem dX5_cellsBarred_52 : decode cX5_cellsBarred 52 = .ok (.ireturn, 1) := by decide +kernel
theorem dX5_cellsBarred_53 : decode cX5_cellsBarred 53 = .ok (.iload_n 3, 1) := by decide +kernel
theorem dX5_cellsBarred_54 : decode cX5_cellsBarred 54 = .ok (.lload 4, 2) := by decide +kernel
theorem dX5_cellsBarred_56 : decode cX5_cellsBarred 56 = .ok (.aload_n 0, 1) := by decide +kernel
theorem dX5_cellsBarred_57 : decode cX5_cellsBarred 57 = .ok (.getfield 31, 3) := by decide +kernel
theorem dX5_cellsBarred_60 : decode cX5_cellsBarred 60 = .ok (.iload_n 1, 1) := by decide +kernel
theorem dX5_cellsBarred_61 : decode cX5_cellsBarred 61 = .ok (.iaload, 1) := by decide +kernel
theorem dX5_cellsBarred_62 : decode cX5_cellsBarred 62 = .ok (.invokestatic 91, 3) := by decide +kernel
theorem dX5_cellsBarred_65 : decode cX5_cellsBarred 65 = .ok (.ifCond .eq 11, 3) := by decide +kernel
theorem dX5_cellsBarred_68 : decode cX5_cellsBarred 68 = .ok (.aload_n 0, 1) := by decide +kernel
theorem dX5_cellsBarred_69 : decode cX5_cellsBarred 69 = .ok (.iconst 3, 1) := by decide +kernel
theorem dX5_cellsBarred_70 : decode cX5_cellsBarred 70 = .ok (.invokevirtual 87, 3) := by decide +kernel
theorem dX5_cellsBarred_73 : decode cX5_cellsBarred 73 = .ok (.goto 4, 3) := by decide +kernel
theorem dX5_cellsBarred_76 : decode cX5_cellsBarred 76 = .ok (.iconst 0, 1) := by decide +kernel
theorem dX5_cellsBarred_77 : decode cX5_cellsBarred 77 = .ok (.ireturn, 1) := by decide +kernel
set_option maxRecDepth 20000 in
theorem ggX5_republic_X5_noSheet : GoodIn wsX5_republic wsX5_noSheet := goodIn_r _ [21, 22, 23, 24, 20, 25] (by decide +kernel) (by decide +kernel)
set_option maxRecDepth 20000 in
theorem gX5_republic_X5_noSheet : GoodIn wsX5_republic (va_wsS RX5 95 yX5_noSheet wsX5_noSheet) := goodIn_app (goodIn_of _ (by decide +kernel)) ggX5_republic_X5_noSheet
set_option maxRecDepth 20000 in
theorem ggX5_republic_X5_refused : GoodIn wsX5_republic wsX5_refused := goodIn_r _ [29, 30, 61, 62, 63, 64, 65, 66, 67, 68, 69, 70, 71, 72, 73, 74, 75, 76, 77, 78, 79, 80, 81, 82, 83, 84] (by decide +kernel) (by decide +kernel)
set_option maxRecDepth 20000 in
theorem gX5_republic_X5_refused : GoodIn wsX5_republic (wsV RX5 99 RX5 yX5_refused wsX5_refused) := goodIn_app (goodIn_of _ (by decide +kernel)) ggX5_republic_X5_refused
set_option maxRecDepth 20000 in
theorem ggX5_republic_X5_in : GoodIn wsX5_republic wsX5_in := goodIn_r _ [25] (by decide +kernel) (by decide +kernel)
set_option maxRecDepth 20000 in
theorem gX5_republic_X5_in : GoodIn wsX5_republic (va_wsS RX5 56 yX5_in wsX5_in) := goodIn_app (goodIn_of _ (by decide +kernel)) ggX5_republic_X5_in
set_option maxRecDepth 20000 in
theorem ggX5_republic_X5_cellsBarred : GoodIn wsX5_republic wsX5_cellsBarred := goodIn_r _ [34, 35, 36, 37, 38, 39, 20, 40, 30, 41, 42, 43, 61, 62, 63, 64, 65, 66, 67, 68, 69, 70, 71, 72, 73, 74, 75, 76, 77, 78, 79, 80, 81, 82, 83, 84] (by decide +kernel) (by decide +kernel)
set_option maxRecDepth 20000 in
theorem gX5_republic_X5_cellsBarred : GoodIn wsX5_republic (wsV RX5 104 RX5 yX5_cellsBarred wsX5_cellsBarred) := goodIn_app (goodIn_of _ (by decide +kernel)) ggX5_republic_X5_cellsBarred
set_option maxRecDepth 20000 in
theorem ggX5_republic_X5_readsRepublic : GoodIn wsX5_republic wsX5_readsRepublic := goodIn_r _ [47, 2, 7, 9, 3, 5, 48, 49, 50, 20, 51, 52, 53, 54, 55, 56, 23, 24, 25, 57, 58, 59, 60, 12, 14, 16, 61, 62, 63, 64, 65, 66, 67, 68, 69, 70, 71, 72, 73, 74, 75, 76, 77, 78, 79, 80, 81, 82, 83, 84] (by decide +kernel) (by decide +kernel)
set_option maxRecDepth 20000 in
theorem gX5_republic_X5_readsRepublic : GoodIn wsX5_republic (wsV RX5 108 RX5 yX5_readsRepublic wsX5_readsRepublic) := goodIn_app (goodIn_of _ (by decide +kernel)) ggX5_republic_X5_readsRepublic
theorem dX5_republic_0 : decode cX5_republic 0 = .ok (.iload_n 1, 1) := by decide +kernel
theorem dX5_republic_1 : decode cX5_republic 1 = .ok (.invokestatic 95, 3) := by decide +kernel
theorem dX5_republic_4 : decode cX5_republic 4 = .ok (.ifCond .eq 9, 3) := by decide +kernel
theorem dX5_republic_7 : decode cX5_republic 7 = .ok (.aload_n 0, 1) := by decide +kernel
theorem dX5_republic_8 : decode cX5_republic 8 = .ok (.iconst (-1), 1) := by decide +kernel
theorem dX5_republic_9 : decode cX5_republic 9 = .ok (.invokevirtual 99, 3) := by decide +kernel
theorem dX5_republic_12 : decode cX5_republic 12 = .ok (.ireturn, 1) := by decide +kernel
theorem dX5_republic_13 : decode cX5_republic 13 = .ok (.iload_n 2, 1) := by decide +kernel
theorem dX5_republic_14 : decode cX5_republic 14 = .ok (.i2l, 1) := by decide +kernel
theorem dX5_republic_15 : decode cX5_republic 15 = .ok (.lconst 0, 1) := by decide +kernel
theorem dX5_republic_16 : decode cX5_republic 16 = .ok (.ldc2_w 102, 3) := by decide +kernel
theorem dX5_republic_19 : decode cX5_republic 19 = .ok (.invokestatic 56, 3) := by decide +kernel
theorem dX5_republic_22 : decode cX5_republic 22 = .ok (.ifCond .ne 10, 3) := by decide +kernel
theorem dX5_republic_25 : decode cX5_republic 25 = .ok (.aload_n 0, 1) := by decide +kernel
theorem dX5_republic_26 : decode cX5_republic 26 = .ok (.bipush (-2), 2) := by decide +kernel
theorem dX5_republic_28 : decode cX5_republic 28 = .ok (.invokevirtual 99, 3) := by decide +kernel
theorem dX5_republic_31 : decode cX5_republic 31 = .ok (.ireturn, 1) := by decide +kernel
theorem dX5_republic_32 : decode cX5_republic 32 = .ok (.aload_n 0, 1) := by decide +kernel
theorem dX5_republic_33 : decode cX5_republic 33 = .ok (.iload_n 1, 1) := by decide +kernel
theorem dX5_republic_34 : decode cX5_republic 34 = .ok (.iload_n 2, 1) := by decide +kernel
theorem dX5_republic_35 : decode cX5_republic 35 = .ok (.iload_n 3, 1) := by decide +kernel
theorem dX5_republic_36 : decode cX5_republic 36 = .ok (.iload 4, 2) := by decide +kernel
theorem dX5_republic_38 : decode cX5_republic 38 = .ok (.i2l, 1) := by decide +kernel
theorem dX5_republic_39 : decode cX5_republic 39 = .ok (.invokevirtual 104, 3) := by decide +kernel
theorem dX5_republic_42 : decode cX5_republic 42 = .ok (.istore 5, 2) := by decide +kernel
theorem dX5_republic_44 : decode cX5_republic 44 = .ok (.iload 5, 2) := by decide +kernel
theorem dX5_republic_46 : decode cX5_republic 46 = .ok (.ifCond .ge 6, 3) := by decide +kernel
theorem dX5_republic_49 : decode cX5_republic 49 = .ok (.iload 5, 2) := by decide +kernel
theorem dX5_republic_51 : decode cX5_republic 51 = .ok (.ireturn, 1) := by decide +kernel
theorem dX5_republic_52 : decode cX5_republic 52 = .ok (.aload_n 0, 1) := by decide +kernel
theorem dX5_republic_53 : decode cX5_republic 53 = .ok (.bipush 60, 2) := by decide +kernel
theorem dX5_republic_55 : decode cX5_republic 55 = .ok (.iload_n 1, 1) := by decide +kernel
theorem dX5_republic_56 : decode cX5_republic 56 = .ok (.imul, 1) := by decide +kernel
theorem dX5_republic_57 : decode cX5_republic 57 = .ok (.iload_n 3, 1) := by decide +kernel
theorem dX5_republic_58 : decode cX5_republic 58 = .ok (.iadd, 1) := by decide +kernel
theorem dX5_republic_59 : decode cX5_republic 59 = .ok (.iload 4, 2) := by decide +kernel
theorem dX5_republic_61 : decode cX5_republic 61 = .ok (.invokevirtual 108, 3) := by decide +kernel
theorem dX5_republic_64 : decode cX5_republic 64 = .ok (.ifCond .ne 15, 3) := by decide +kernel
theorem dX5_republic_67 : decode cX5_republic 67 = .ok (.aload_n 0, 1) := by decide +kernel
theorem dX5_republic_68 : decode cX5_republic 68 = .ok (.bipush (-100), 2) := by decide +kernel
theorem dX5_republic_70 : decode cX5_republic 70 = .ok (.aload_n 0, 1) := by decide +kernel
theorem dX5_republic_71 : decode cX5_republic 71 = .ok (.getfield 60, 3) := by decide +kernel
theorem dX5_republic_74 : decode cX5_republic 74 = .ok (.isub, 1) := by decide +kernel
theorem dX5_republic_75 : decode cX5_republic 75 = .ok (.invokevirtual 99, 3) := by decide +kernel
theorem dX5_republic_78 : decode cX5_republic 78 = .ok (.ireturn, 1) := by decide +kernel
theorem dX5_republic_79 : decode cX5_republic 79 = .ok (.aload_n 0, 1) := by decide +kernel
theorem dX5_republic_80 : decode cX5_republic 80 = .ok (.aload_n 0, 1) := by decide +kernel
theorem dX5_republic_81 : decode cX5_republic 81 = .ok (.getfield 77, 3) := by decide +kernel
theorem dX5_republic_84 : decode cX5_republic 84 = .ok (.putfield 111, 3) := by decide +kernel
theorem dX5_republic_87 : decode cX5_republic 87 = .ok (.aload_n 0, 1) := by decide +kernel
theorem dX5_republic_88 : decode cX5_republic 88 = .ok (.aload_n 0, 1) := by decide +kernel
theorem dX5_republic_89 : decode cX5_republic 89 = .ok (.getfield 80, 3) := by decide +kernel
theorem dX5_republic_92 : decode cX5_republic 92 = .ok (.putfield 114, 3) := by decide +kernel
theorem dX5_republic_95 : decode cX5_republic 95 = .ok (.aload_n 0, 1) := by decide +kernel
theorem dX5_republic_96 : decode cX5_republic 96 = .ok (.aload_n 0, 1) := by decide +kernel
theorem dX5_republic_97 : decode cX5_republic 97 = .ok (.getfield 67, 3) := by decide +kernel
theorem dX5_republic_100 : decode cX5_republic 100 = .ok (.putfield 53, 3) := by decide +kernel
theorem dX5_republic_103 : decode cX5_republic 103 = .ok (.aload_n 0, 1) := by decide +kernel
theorem dX5_republic_104 : decode cX5_republic 104 = .ok (.aload_n 0, 1) := by decide +kernel
theorem dX5_republic_105 : decode cX5_republic 105 = .ok (.getfield 74, 3) := by decide +kernel
theorem dX5_republic_108 : decode cX5_republic 108 = .ok (.putfield 117, 3) := by decide +kernel
theorem dX5_republic_111 : decode cX5_republic 111 = .ok (.iconst 0, 1) := by decide +kernel
theorem dX5_republic_112 : decode cX5_republic 112 = .ok (.istore 6, 2) := by decide +kernel
theorem dX5_republic_114 : decode cX5_republic 114 = .ok (.iload 6, 2) := by decide +kernel
theorem dX5_republic_116 : decode cX5_republic 116 = .ok (.aload_n 0, 1) := by decide +kernel
theorem dX5_republic_117 : decode cX5_republic 117 = .ok (.getfield 53, 3) := by decide +kernel
theorem dX5_republic_120 : decode cX5_republic 120 = .ok (.if_icmp .ge 51, 3) := by decide +kernel
theorem dX5_republic_123 : decode cX5_republic 123 = .ok (.aload_n 0, 1) := by decide +kernel
theorem dX5_republic_124 : decode cX5_republic 124 = .ok (.getfield 7, 3) := by decide +kernel
theorem dX5_republic_127 : decode cX5_republic 127 = .ok (.iload 6, 2) := by decide +kernel
theorem dX5_republic_129 : decode cX5_republic 129 = .ok (.aload_n 0, 1) := by decide +kernel
theorem dX5_republic_130 : decode cX5_republic 130 = .ok (.getfield 19, 3) := by decide +kernel
theorem dX5_republic_133 : decode cX5_republic 133 = .ok (.iload 6, 2) := by decide +kernel
theorem dX5_republic_135 : decode cX5_republic 135 = .ok (.iaload, 1) := by decide +kernel
theorem dX5_republic_136 : decode cX5_republic 136 = .ok (.iastore, 1) := by decide +kernel
theorem dX5_republic_137 : decode cX5_republic 137 = .ok (.aload_n 0, 1) := by decide +kernel
theorem dX5_republic_138 : decode cX5_republic 138 = .ok (.getfield 13, 3) := by decide +kernel
theorem dX5_republic_141 : decode cX5_republic 141 = .ok (.iload 6, 2) := by decide +kernel
theorem dX5_republic_143 : decode cX5_republic 143 = .ok (.aload_n 0, 1) := by decide +kernel
theorem dX5_republic_144 : decode cX5_republic 144 = .ok (.getfield 22, 3) := by decide +kernel
theorem dX5_republic_147 : decode cX5_republic 147 = .ok (.iload 6, 2) := by decide +kernel
theorem dX5_republic_149 : decode cX5_republic 149 = .ok (.iaload, 1) := by decide +kernel
theorem dX5_republic_150 : decode cX5_republic 150 = .ok (.iastore, 1) := by decide +kernel
theorem dX5_republic_151 : decode cX5_republic 151 = .ok (.aload_n 0, 1) := by decide +kernel
theorem dX5_republic_152 : decode cX5_republic 152 = .ok (.getfield 16, 3) := by decide +kernel
theorem dX5_republic_155 : decode cX5_republic 155 = .ok (.iload 6, 2) := by decide +kernel
theorem dX5_republic_157 : decode cX5_republic 157 = .ok (.aload_n 0, 1) := by decide +kernel
theorem dX5_republic_158 : decode cX5_republic 158 = .ok (.getfield 25, 3) := by decide +kernel
theorem dX5_republic_161 : decode cX5_republic 161 = .ok (.iload 6, 2) := by decide +kernel
theorem dX5_republic_163 : decode cX5_republic 163 = .ok (.iaload, 1) := by decide +kernel
theorem dX5_republic_164 : decode cX5_republic 164 = .ok (.iastore, 1) := by decide +kernel
theorem dX5_republic_165 : decode cX5_republic 165 = .ok (.iinc 6 1, 3) := by decide +kernel
theorem dX5_republic_168 : decode cX5_republic 168 = .ok (.goto (-54), 3) := by decide +kernel
theorem dX5_republic_171 : decode cX5_republic 171 = .ok (.aload_n 0, 1) := by decide +kernel
theorem dX5_republic_172 : decode cX5_republic 172 = .ok (.iconst 0, 1) := by decide +kernel
theorem dX5_republic_173 : decode cX5_republic 173 = .ok (.putfield 120, 3) := by decide +kernel
theorem dX5_republic_176 : decode cX5_republic 176 = .ok (.aload_n 0, 1) := by decide +kernel
theorem dX5_republic_177 : decode cX5_republic 177 = .ok (.aload_n 0, 1) := by decide +kernel
theorem dX5_republic_178 : decode cX5_republic 178 = .ok (.getfield 53, 3) := by decide +kernel
theorem dX5_republic_181 : decode cX5_republic 181 = .ok (.invokevirtual 99, 3) := by decide +kernel
theorem dX5_republic_184 : decode cX5_republic 184 = .ok (.ireturn, 1) := by decide +kernel
theorem dX5_slipsOf_0 : decode cX5_slipsOf 0 = .ok (.aload_n 0, 1) := by decide +kernel
theorem dX5_slipsOf_1 : decode cX5_slipsOf 1 = .ok (.getfield 13, 3) := by decide +kernel
theorem dX5_slipsOf_4 : decode cX5_slipsOf 4 = .ok (.iload_n 1, 1) := by decide +kernel
theorem dX5_slipsOf_5 : decode cX5_slipsOf 5 = .ok (.iaload, 1) := by decide +kernel
theorem dX5_slipsOf_6 : decode cX5_slipsOf 6 = .ok (.istore_n 2, 1) := by decide +kernel
theorem dX5_slipsOf_7 : decode cX5_slipsOf 7 = .ok (.aload_n 0, 1) := by decide +kernel
theorem dX5_slipsOf_8 : decode cX5_slipsOf 8 = .ok (.getfield 7, 3) := by decide +kernel
theorem dX5_slipsOf_11 : decode cX5_slipsOf 11 = .ok (.iload_n 1, 1) := by decide +kernel
theorem dX5_slipsOf_12 : decode cX5_slipsOf 12 = .ok (.iaload, 1) := by decide +kernel
theorem dX5_slipsOf_13 : decode cX5_slipsOf 13 = .ok (.ifCond .ne 7, 3) := by decide +kernel
theorem dX5_slipsOf_16 : decode cX5_slipsOf 16 = .ok (.iload_n 2, 1) := by decide +kernel
theorem dX5_slipsOf_17 : decode cX5_slipsOf 17 = .ok (.goto 24, 3) := by decide +kernel
theorem dX5_slipsOf_20 : decode cX5_slipsOf 20 = .ok (.aload_n 0, 1) := by decide +kernel
theorem dX5_slipsOf_21 : decode cX5_slipsOf 21 = .ok (.getfield 7, 3) := by decide +kernel
theorem dX5_slipsOf_24 : decode cX5_slipsOf 24 = .ok (.iload_n 1, 1) := by decide +kernel
theorem dX5_slipsOf_25 : decode cX5_slipsOf 25 = .ok (.iaload, 1) := by decide +kernel
theorem dX5_slipsOf_26 : decode cX5_slipsOf 26 = .ok (.iconst 1, 1) := by decide +kernel
theorem dX5_slipsOf_27 : decode cX5_slipsOf 27 = .ok (.if_icmp .ne 9, 3) := by decide +kernel
theorem dX5_slipsOf_30 : decode cX5_slipsOf 30 = .ok (.iload_n 2, 1) := by decide +kernel
theorem dX5_slipsOf_31 : decode cX5_slipsOf 31 = .ok (.iconst 1, 1) := by decide +kernel
theorem dX5_slipsOf_32 : decode cX5_slipsOf 32 = .ok (.iadd, 1) := by decide +kernel
theorem dX5_slipsOf_33 : decode cX5_slipsOf 33 = .ok (.goto 8, 3) := by decide +kernel
theorem dX5_slipsOf_36 : decode cX5_slipsOf 36 = .ok (.iconst 2, 1) := by decide +kernel
theorem dX5_slipsOf_37 : decode cX5_slipsOf 37 = .ok (.iload_n 2, 1) := by decide +kernel
theorem dX5_slipsOf_38 : decode cX5_slipsOf 38 = .ok (.iconst 1, 1) := by decide +kernel
theorem dX5_slipsOf_39 : decode cX5_slipsOf 39 = .ok (.iadd, 1) := by decide +kernel
theorem dX5_slipsOf_40 : decode cX5_slipsOf 40 = .ok (.imul, 1) := by decide +kernel
theorem dX5_slipsOf_41 : decode cX5_slipsOf 41 = .ok (.ireturn, 1) := by decide +kernel
set_option maxRecDepth 20000 in
theorem ggX5_slipsOfAll_X5_isIn : GoodIn wsX5_slipsOfAll wsX5_isIn := goodIn_r _ [5] (by decide +kernel) (by decide +kernel)
set_option maxRecDepth 20000 in
theorem gX5_slipsOfAll_X5_isIn : GoodIn wsX5_slipsOfAll (va_wsS RX5 123 yX5_isIn wsX5_isIn) := goodIn_app (goodIn_of _ (by decide +kernel)) ggX5_slipsOfAll_X5_isIn
set_option maxRecDepth 20000 in
theorem ggX5_slipsOfAll_X5_slipsOf : GoodIn wsX5_slipsOfAll wsX5_slipsOf := goodIn_r _ [9, 10, 11, 12, 13, 14, 15, 16, 17, 18, 19, 20, 21, 22, 23, 24, 25, 26, 27, 28, 29, 30, 31, 32, 33, 34, 35] (by decide +kernel) (by decide +kernel)
set_option maxRecDepth 20000 in
theorem gX5_slipsOfAll_X5_slipsOf : GoodIn wsX5_slipsOfAll (wsV RX5 126 RX5 yX5_slipsOf wsX5_slipsOf) := goodIn_app (goodIn_of _ (by decide +kernel)) ggX5_slipsOfAll_X5_slipsOf
theorem dX5_slipsOfAll_0 : decode cX5_slipsOfAll 0 = .ok (.iconst 0, 1) := by decide +kernel
theorem dX5_slipsOfAll_1 : decode cX5_slipsOfAll 1 = .ok (.istore_n 2, 1) := by decide +kernel
theorem dX5_slipsOfAll_2 : decode cX5_slipsOfAll 2 = .ok (.iconst 0, 1) := by decide +kernel
theorem dX5_slipsOfAll_3 : decode cX5_slipsOfAll 3 = .ok (.istore_n 3, 1) := by decide +kernel
theorem dX5_slipsOfAll_4 : decode cX5_slipsOfAll 4 = .ok (.iload_n 3, 1) := by decide +kernel
theorem dX5_slipsOfAll_5 : decode cX5_slipsOfAll 5 = .ok (.aload_n 0, 1) := by decide +kernel
theorem dX5_slipsOfAll_6 : decode cX5_slipsOfAll 6 = .ok (.getfield 53, 3) := by decide +kernel
theorem dX5_slipsOfAll_9 : decode cX5_slipsOfAll 9 = .ok (.if_icmp .ge 29, 3) := by decide +kernel
theorem dX5_slipsOfAll_12 : decode cX5_slipsOfAll 12 = .ok (.iload_n 2, 1) := by decide +kernel
theorem dX5_slipsOfAll_13 : decode cX5_slipsOfAll 13 = .ok (.iload_n 1, 1) := by decide +kernel
theorem dX5_slipsOfAll_14 : decode cX5_slipsOfAll 14 = .ok (.iload_n 3, 1) := by decide +kernel
theorem dX5_slipsOfAll_15 : decode cX5_slipsOfAll 15 = .ok (.invokestatic 123, 3) := by decide +kernel
theorem dX5_slipsOfAll_18 : decode cX5_slipsOfAll 18 = .ok (.ifCond .eq 11, 3) := by decide +kernel
theorem dX5_slipsOfAll_21 : decode cX5_slipsOfAll 21 = .ok (.aload_n 0, 1) := by decide +kernel
theorem dX5_slipsOfAll_22 : decode cX5_slipsOfAll 22 = .ok (.iload_n 3, 1) := by decide +kernel
theorem dX5_slipsOfAll_23 : decode cX5_slipsOfAll 23 = .ok (.invokevirtual 126, 3) := by decide +kernel
theorem dX5_slipsOfAll_26 : decode cX5_slipsOfAll 26 = .ok (.goto 4, 3) := by decide +kernel
theorem dX5_slipsOfAll_29 : decode cX5_slipsOfAll 29 = .ok (.iconst 0, 1) := by decide +kernel
theorem dX5_slipsOfAll_30 : decode cX5_slipsOfAll 30 = .ok (.iadd, 1) := by decide +kernel
theorem dX5_slipsOfAll_31 : decode cX5_slipsOfAll 31 = .ok (.istore_n 2, 1) := by decide +kernel
theorem dX5_slipsOfAll_32 : decode cX5_slipsOfAll 32 = .ok (.iinc 3 1, 3) := by decide +kernel
theorem dX5_slipsOfAll_35 : decode cX5_slipsOfAll 35 = .ok (.goto (-31), 3) := by decide +kernel
theorem dX5_slipsOfAll_38 : decode cX5_slipsOfAll 38 = .ok (.iload_n 2, 1) := by decide +kernel
theorem dX5_slipsOfAll_39 : decode cX5_slipsOfAll 39 = .ok (.ireturn, 1) := by decide +kernel
theorem dX5_drawnOf_0 : decode cX5_drawnOf 0 = .ok (.aload_n 0, 1) := by decide +kernel
theorem dX5_drawnOf_1 : decode cX5_drawnOf 1 = .ok (.getfield 111, 3) := by decide +kernel
theorem dX5_drawnOf_4 : decode cX5_drawnOf 4 = .ok (.iload_n 1, 1) := by decide +kernel
theorem dX5_drawnOf_5 : decode cX5_drawnOf 5 = .ok (.if_icmp .ge 10, 3) := by decide +kernel
theorem dX5_drawnOf_8 : decode cX5_drawnOf 8 = .ok (.aload_n 0, 1) := by decide +kernel
theorem dX5_drawnOf_9 : decode cX5_drawnOf 9 = .ok (.getfield 111, 3) := by decide +kernel
theorem dX5_drawnOf_12 : decode cX5_drawnOf 12 = .ok (.goto 4, 3) := by decide +kernel
theorem dX5_drawnOf_15 : decode cX5_drawnOf 15 = .ok (.iload_n 1, 1) := by decide +kernel
theorem dX5_drawnOf_16 : decode cX5_drawnOf 16 = .ok (.ireturn, 1) := by decide +kernel
set_option maxRecDepth 20000 in
theorem ggX5_ofCitizen_X5_noCitizen : GoodIn wsX5_ofCitizen wsX5_noCitizen := goodIn_r _ [9, 10, 11, 12, 8, 13, 25, 26, 27, 28, 29, 30, 31, 32, 33, 34, 35, 36, 37, 38, 39, 40, 41, 42, 43, 44, 45, 46, 47, 48] (by decide +kernel) (by decide +kernel)
set_option maxRecDepth 20000 in
theorem gX5_ofCitizen_X5_noCitizen : GoodIn wsX5_ofCitizen (wsV RX5 129 RX5 yX5_noCitizen wsX5_noCitizen) := goodIn_app (goodIn_of _ (by decide +kernel)) ggX5_ofCitizen_X5_noCitizen
set_option maxRecDepth 20000 in
theorem ggX5_ofCitizen_X5_isIn : GoodIn wsX5_ofCitizen wsX5_isIn := goodIn_r _ [16] (by decide +kernel) (by decide +kernel)
set_option maxRecDepth 20000 in
theorem gX5_ofCitizen_X5_isIn : GoodIn wsX5_ofCitizen (va_wsS RX5 123 yX5_isIn wsX5_isIn) := goodIn_app (goodIn_of _ (by decide +kernel)) ggX5_ofCitizen_X5_isIn
set_option maxRecDepth 20000 in
theorem ggX5_ofCitizen_X5_slipsOf : GoodIn wsX5_ofCitizen wsX5_slipsOf := goodIn_r _ [20, 2, 1, 25, 26, 27, 28, 29, 30, 31, 32, 33, 34, 35, 36, 37, 38, 39, 40, 41, 42, 43, 44, 45, 46, 47, 48] (by decide +kernel) (by decide +kernel)
set_option maxRecDepth 20000 in
theorem gX5_ofCitizen_X5_slipsOf : GoodIn wsX5_ofCitizen (wsV RX5 126 RX5 yX5_slipsOf wsX5_slipsOf) := goodIn_app (goodIn_of _ (by decide +kernel)) ggX5_ofCitizen_X5_slipsOf
set_option maxRecDepth 20000 in
theorem ggX5_ofCitizen_X5_slipsOfAll : GoodIn wsX5_ofCitizen wsX5_slipsOfAll := goodIn_r _ [24, 10, 14, 15, 8, 16, 17, 18, 19, 20, 2, 1, 25, 26, 27, 28, 29, 30, 31, 32, 33, 34, 35, 36, 37, 38, 39, 40, 41, 42, 43, 44, 45, 46, 47, 48] (by decide +kernel) (by decide +kernel)
set_option maxRecDepth 20000 in
theorem gX5_ofCitizen_X5_slipsOfAll : GoodIn wsX5_ofCitizen (wsV RX5 132 RX5 yX5_slipsOfAll wsX5_slipsOfAll) := goodIn_app (goodIn_of _ (by decide +kernel)) ggX5_ofCitizen_X5_slipsOfAll
theorem dX5_ofCitizen_0 : decode cX5_ofCitizen 0 = .ok (.aload_n 0, 1) := by decide +kernel
theorem dX5_ofCitizen_1 : decode cX5_ofCitizen 1 = .ok (.iload_n 1, 1) := by decide +kernel
theorem dX5_ofCitizen_2 : decode cX5_ofCitizen 2 = .ok (.invokevirtual 129, 3) := by decide +kernel
theorem dX5_ofCitizen_5 : decode cX5_ofCitizen 5 = .ok (.ifCond .eq 5, 3) := by decide +kernel
theorem dX5_ofCitizen_8 : decode cX5_ofCitizen 8 = .ok (.iconst (-1), 1) := by decide +kernel
theorem dX5_ofCitizen_9 : decode cX5_ofCitizen 9 = .ok (.ireturn, 1) := by decide +kernel
theorem dX5_ofCitizen_10 : decode cX5_ofCitizen 10 = .ok (.iload_n 2, 1) := by decide +kernel
theorem dX5_ofCitizen_11 : decode cX5_ofCitizen 11 = .ok (.tableswitch 91 0 5 #[37, 44, 51, 58, 75, 81], 37) := by decide +kernel
theorem dX5_ofCitizen_48 : decode cX5_ofCitizen 48 = .ok (.aload_n 0, 1) := by decide +kernel
theorem dX5_ofCitizen_49 : decode cX5_ofCitizen 49 = .ok (.getfield 7, 3) := by decide +kernel
theorem dX5_ofCitizen_52 : decode cX5_ofCitizen 52 = .ok (.iload_n 1, 1) := by decide +kernel
theorem dX5_ofCitizen_53 : decode cX5_ofCitizen 53 = .ok (.iaload, 1) := by decide +kernel
theorem dX5_ofCitizen_54 : decode cX5_ofCitizen 54 = .ok (.ireturn, 1) := by decide +kernel
theorem dX5_ofCitizen_55 : decode cX5_ofCitizen 55 = .ok (.aload_n 0, 1) := by decide +kernel
theorem dX5_ofCitizen_56 : decode cX5_ofCitizen 56 = .ok (.getfield 13, 3) := by decide +kernel
theorem dX5_ofCitizen_59 : decode cX5_ofCitizen 59 = .ok (.iload_n 1, 1) := by decide +kernel
theorem dX5_ofCitizen_60 : decode cX5_ofCitizen 60 = .ok (.iaload, 1) := by decide +kernel
theorem dX5_ofCitizen_61 : decode cX5_ofCitizen 61 = .ok (.ireturn, 1) := by decide +kernel
theorem dX5_ofCitizen_62 : decode cX5_ofCitizen 62 = .ok (.aload_n 0, 1) := by decide +kernel
theorem dX5_ofCitizen_63 : decode cX5_ofCitizen 63 = .ok (.getfield 16, 3) := by decide +kernel
theorem dX5_ofCitizen_66 : decode cX5_ofCitizen 66 = .ok (.iload_n 1, 1) := by decide +kernel
theorem dX5_ofCitizen_67 : decode cX5_ofCitizen 67 = .ok (.iaload, 1) := by decide +kernel
theorem dX5_ofCitizen_68 : decode cX5_ofCitizen 68 = .ok (.ireturn, 1) := by decide +kernel
theorem dX5_ofCitizen_69 : decode cX5_ofCitizen 69 = .ok (.aload_n 0, 1) := by decide +kernel
theorem dX5_ofCitizen_70 : decode cX5_ofCitizen 70 = .ok (.getfield 117, 3) := by decide +kernel
theorem dX5_ofCitizen_73 : decode cX5_ofCitizen 73 = .ok (.iload_n 1, 1) := by decide +kernel
theorem dX5_ofCitizen_74 : decode cX5_ofCitizen 74 = .ok (.invokestatic 123, 3) := by decide +kernel
theorem dX5_ofCitizen_77 : decode cX5_ofCitizen 77 = .ok (.ifCond .eq 7, 3) := by decide +kernel
theorem dX5_ofCitizen_80 : decode cX5_ofCitizen 80 = .ok (.iconst 1, 1) := by decide +kernel
theorem dX5_ofCitizen_81 : decode cX5_ofCitizen 81 = .ok (.goto 4, 3) := by decide +kernel
theorem dX5_ofCitizen_84 : decode cX5_ofCitizen 84 = .ok (.iconst 0, 1) := by decide +kernel
theorem dX5_ofCitizen_85 : decode cX5_ofCitizen 85 = .ok (.ireturn, 1) := by decide +kernel
theorem dX5_ofCitizen_86 : decode cX5_ofCitizen 86 = .ok (.aload_n 0, 1) := by decide +kernel
theorem dX5_ofCitizen_87 : decode cX5_ofCitizen 87 = .ok (.iload_n 1, 1) := by decide +kernel
theorem dX5_ofCitizen_88 : decode cX5_ofCitizen 88 = .ok (.invokevirtual 126, 3) := by decide +kernel
theorem dX5_ofCitizen_91 : decode cX5_ofCitizen 91 = .ok (.ireturn, 1) := by decide +kernel
theorem dX5_ofCitizen_92 : decode cX5_ofCitizen 92 = .ok (.aload_n 0, 1) := by decide +kernel
theorem dX5_ofCitizen_93 : decode cX5_ofCitizen 93 = .ok (.iconst 1, 1) := by decide +kernel
theorem dX5_ofCitizen_94 : decode cX5_ofCitizen 94 = .ok (.iload_n 1, 1) := by decide +kernel
theorem dX5_ofCitizen_95 : decode cX5_ofCitizen 95 = .ok (.ishl, 1) := by decide +kernel
theorem dX5_ofCitizen_96 : decode cX5_ofCitizen 96 = .ok (.iconst 1, 1) := by decide +kernel
theorem dX5_ofCitizen_97 : decode cX5_ofCitizen 97 = .ok (.isub, 1) := by decide +kernel
theorem dX5_ofCitizen_98 : decode cX5_ofCitizen 98 = .ok (.invokevirtual 132, 3) := by decide +kernel
theorem dX5_ofCitizen_101 : decode cX5_ofCitizen 101 = .ok (.ireturn, 1) := by decide +kernel
theorem dX5_ofCitizen_102 : decode cX5_ofCitizen 102 = .ok (.bipush (-2), 2) := by decide +kernel
theorem dX5_ofCitizen_104 : decode cX5_ofCitizen 104 = .ok (.ireturn, 1) := by decide +kernel
set_option maxRecDepth 20000 in
theorem ggX5_drawn_X5_in : GoodIn wsX5_drawn wsX5_in := goodIn_r _ [7] (by decide +kernel) (by decide +kernel)
set_option maxRecDepth 20000 in
theorem gX5_drawn_X5_in : GoodIn wsX5_drawn (va_wsS RX5 56 yX5_in wsX5_in) := goodIn_app (goodIn_of _ (by decide +kernel)) ggX5_drawn_X5_in
theorem dX5_drawn_0 : decode cX5_drawn 0 = .ok (.iload_n 1, 1) := by decide +kernel
theorem dX5_drawn_1 : decode cX5_drawn 1 = .ok (.i2l, 1) := by decide +kernel
theorem dX5_drawn_2 : decode cX5_drawn 2 = .ok (.lconst 0, 1) := by decide +kernel
theorem dX5_drawn_3 : decode cX5_drawn 3 = .ok (.ldc2_w 135, 3) := by decide +kernel
theorem dX5_drawn_6 : decode cX5_drawn 6 = .ok (.invokestatic 56, 3) := by decide +kernel
theorem dX5_drawn_9 : decode cX5_drawn 9 = .ok (.ifCond .ne 6, 3) := by decide +kernel
theorem dX5_drawn_12 : decode cX5_drawn 12 = .ok (.bipush (-2), 2) := by decide +kernel
theorem dX5_drawn_14 : decode cX5_drawn 14 = .ok (.ireturn, 1) := by decide +kernel
theorem dX5_drawn_15 : decode cX5_drawn 15 = .ok (.aload_n 0, 1) := by decide +kernel
theorem dX5_drawn_16 : decode cX5_drawn 16 = .ok (.getfield 53, 3) := by decide +kernel
theorem dX5_drawn_19 : decode cX5_drawn 19 = .ok (.ifCond .ne 6, 3) := by decide +kernel
theorem dX5_drawn_22 : decode cX5_drawn 22 = .ok (.bipush (-3), 2) := by decide +kernel
theorem dX5_drawn_24 : decode cX5_drawn 24 = .ok (.ireturn, 1) := by decide +kernel
theorem dX5_drawn_25 : decode cX5_drawn 25 = .ok (.aload_n 0, 1) := by decide +kernel
theorem dX5_drawn_26 : decode cX5_drawn 26 = .ok (.getfield 111, 3) := by decide +kernel
theorem dX5_drawn_29 : decode cX5_drawn 29 = .ok (.istore_n 2, 1) := by decide +kernel
theorem dX5_drawn_30 : decode cX5_drawn 30 = .ok (.aload_n 0, 1) := by decide +kernel
theorem dX5_drawn_31 : decode cX5_drawn 31 = .ok (.iload_n 1, 1) := by decide +kernel
theorem dX5_drawn_32 : decode cX5_drawn 32 = .ok (.putfield 111, 3) := by decide +kernel
theorem dX5_drawn_35 : decode cX5_drawn 35 = .ok (.iload_n 2, 1) := by decide +kernel
theorem dX5_drawn_36 : decode cX5_drawn 36 = .ok (.ireturn, 1) := by decide +kernel
set_option maxRecDepth 20000 in
theorem ggX5_price_X5_in : GoodIn wsX5_price wsX5_in := goodIn_r _ [7] (by decide +kernel) (by decide +kernel)
set_option maxRecDepth 20000 in
theorem gX5_price_X5_in : GoodIn wsX5_price (va_wsS RX5 56 yX5_in wsX5_in) := goodIn_app (goodIn_of _ (by decide +kernel)) ggX5_price_X5_in
theorem dX5_price_0 : decode cX5_price 0 = .ok (.iload_n 1, 1) := by decide +kernel
theorem dX5_price_1 : decode cX5_price 1 = .ok (.i2l, 1) := by decide +kernel
theorem dX5_price_2 : decode cX5_price 2 = .ok (.lconst 1, 1) := by decide +kernel
theorem dX5_price_3 : decode cX5_price 3 = .ok (.ldc2_w 137, 3) := by decide +kernel
theorem dX5_price_6 : decode cX5_price 6 = .ok (.invokestatic 56, 3) := by decide +kernel
theorem dX5_price_9 : decode cX5_price 9 = .ok (.ifCond .ne 6, 3) := by decide +kernel
theorem dX5_price_12 : decode cX5_price 12 = .ok (.bipush (-2), 2) := by decide +kernel
theorem dX5_price_14 : decode cX5_price 14 = .ok (.ireturn, 1) := by decide +kernel
theorem dX5_price_15 : decode cX5_price 15 = .ok (.aload_n 0, 1) := by decide +kernel
theorem dX5_price_16 : decode cX5_price 16 = .ok (.getfield 53, 3) := by decide +kernel
theorem dX5_price_19 : decode cX5_price 19 = .ok (.ifCond .ne 6, 3) := by decide +kernel
theorem dX5_price_22 : decode cX5_price 22 = .ok (.bipush (-3), 2) := by decide +kernel
theorem dX5_price_24 : decode cX5_price 24 = .ok (.ireturn, 1) := by decide +kernel
theorem dX5_price_25 : decode cX5_price 25 = .ok (.aload_n 0, 1) := by decide +kernel
theorem dX5_price_26 : decode cX5_price 26 = .ok (.getfield 114, 3) := by decide +kernel
theorem dX5_price_29 : decode cX5_price 29 = .ok (.istore_n 2, 1) := by decide +kernel
theorem dX5_price_30 : decode cX5_price 30 = .ok (.aload_n 0, 1) := by decide +kernel
theorem dX5_price_31 : decode cX5_price 31 = .ok (.iload_n 1, 1) := by decide +kernel
theorem dX5_price_32 : decode cX5_price 32 = .ok (.putfield 114, 3) := by decide +kernel
theorem dX5_price_35 : decode cX5_price 35 = .ok (.iload_n 2, 1) := by decide +kernel
theorem dX5_price_36 : decode cX5_price 36 = .ok (.ireturn, 1) := by decide +kernel
set_option maxRecDepth 20000 in
theorem ggX5_wish_X5_noCitizen : GoodIn wsX5_wish wsX5_noCitizen := goodIn_r _ [6, 7, 8, 9, 5, 10, 14, 15, 16, 17, 18, 19, 20, 21, 22, 23, 24, 25, 26, 27, 28, 29, 30, 31, 32, 33, 34, 35, 36, 37] (by decide +kernel) (by decide +kernel)
set_option maxRecDepth 20000 in
theorem gX5_wish_X5_noCitizen : GoodIn wsX5_wish (wsV RX5 129 RX5 yX5_noCitizen wsX5_noCitizen) := goodIn_app (goodIn_of _ (by decide +kernel)) ggX5_wish_X5_noCitizen
set_option maxRecDepth 20000 in
theorem ggX5_wish_X5_isIn : GoodIn wsX5_wish wsX5_isIn := goodIn_r _ [13] (by decide +kernel) (by decide +kernel)
set_option maxRecDepth 20000 in
theorem gX5_wish_X5_isIn : GoodIn wsX5_wish (va_wsS RX5 123 yX5_isIn wsX5_isIn) := goodIn_app (goodIn_of _ (by decide +kernel)) ggX5_wish_X5_isIn
theorem dX5_wish_0 : decode cX5_wish 0 = .ok (.aload_n 0, 1) := by decide +kernel
theorem dX5_wish_1 : decode cX5_wish 1 = .ok (.iload_n 1, 1) := by decide +kernel
theorem dX5_wish_2 : decode cX5_wish 2 = .ok (.invokevirtual 129, 3) := by decide +kernel
theorem dX5_wish_5 : decode cX5_wish 5 = .ok (.ifCond .eq 5, 3) := by decide +kernel
theorem dX5_wish_8 : decode cX5_wish 8 = .ok (.iconst (-1), 1) := by decide +kernel
theorem dX5_wish_9 : decode cX5_wish 9 = .ok (.ireturn, 1) := by decide +kernel
theorem dX5_wish_10 : decode cX5_wish 10 = .ok (.aload_n 0, 1) := by decide +kernel
theorem dX5_wish_11 : decode cX5_wish 11 = .ok (.getfield 117, 3) := by decide +kernel
theorem dX5_wish_14 : decode cX5_wish 14 = .ok (.iload_n 1, 1) := by decide +kernel
theorem dX5_wish_15 : decode cX5_wish 15 = .ok (.invokestatic 123, 3) := by decide +kernel
theorem dX5_wish_18 : decode cX5_wish 18 = .ok (.istore_n 3, 1) := by decide +kernel
theorem dX5_wish_19 : decode cX5_wish 19 = .ok (.aload_n 0, 1) := by decide +kernel
theorem dX5_wish_20 : decode cX5_wish 20 = .ok (.iload_n 2, 1) := by decide +kernel
theorem dX5_wish_21 : decode cX5_wish 21 = .ok (.ifCond .eq 14, 3) := by decide +kernel
theorem dX5_wish_24 : decode cX5_wish 24 = .ok (.aload_n 0, 1) := by decide +kernel
theorem dX5_wish_25 : decode cX5_wish 25 = .ok (.getfield 117, 3) := by decide +kernel
theorem dX5_wish_28 : decode cX5_wish 28 = .ok (.iconst 1, 1) := by decide +kernel
theorem dX5_wish_29 : decode cX5_wish 29 = .ok (.iload_n 1, 1) := by decide +kernel
theorem dX5_wish_30 : decode cX5_wish 30 = .ok (.ishl, 1) := by decide +kernel
theorem dX5_wish_31 : decode cX5_wish 31 = .ok (.ior, 1) := by decide +kernel
theorem dX5_wish_32 : decode cX5_wish 32 = .ok (.goto 13, 3) := by decide +kernel
theorem dX5_wish_35 : decode cX5_wish 35 = .ok (.aload_n 0, 1) := by decide +kernel
theorem dX5_wish_36 : decode cX5_wish 36 = .ok (.getfield 117, 3) := by decide +kernel
theorem dX5_wish_39 : decode cX5_wish 39 = .ok (.iconst 1, 1) := by decide +kernel
theorem dX5_wish_40 : decode cX5_wish 40 = .ok (.iload_n 1, 1) := by decide +kernel
theorem dX5_wish_41 : decode cX5_wish 41 = .ok (.ishl, 1) := by decide +kernel
theorem dX5_wish_42 : decode cX5_wish 42 = .ok (.iconst (-1), 1) := by decide +kernel
theorem dX5_wish_43 : decode cX5_wish 43 = .ok (.ixor, 1) := by decide +kernel
theorem dX5_wish_44 : decode cX5_wish 44 = .ok (.iand, 1) := by decide +kernel
theorem dX5_wish_45 : decode cX5_wish 45 = .ok (.putfield 117, 3) := by decide +kernel
theorem dX5_wish_48 : decode cX5_wish 48 = .ok (.iload_n 3, 1) := by decide +kernel
theorem dX5_wish_49 : decode cX5_wish 49 = .ok (.iload_n 2, 1) := by decide +kernel
theorem dX5_wish_50 : decode cX5_wish 50 = .ok (.if_icmp .ne 7, 3) := by decide +kernel
theorem dX5_wish_53 : decode cX5_wish 53 = .ok (.iconst 0, 1) := by decide +kernel
theorem dX5_wish_54 : decode cX5_wish 54 = .ok (.goto 4, 3) := by decide +kernel
theorem dX5_wish_57 : decode cX5_wish 57 = .ok (.iconst 1, 1) := by decide +kernel
theorem dX5_wish_58 : decode cX5_wish 58 = .ok (.ireturn, 1) := by decide +kernel
set_option maxRecDepth 20000 in
theorem ggX5_ownerOf_X5_slipsOf : GoodIn wsX5_ownerOf wsX5_slipsOf := goodIn_r _ [5, 6, 7, 8, 9, 10, 11, 12, 13, 14, 15, 16, 17, 18, 19, 20, 21, 22, 23, 24, 25, 26, 27, 28, 29, 30, 31] (by decide +kernel) (by decide +kernel)
set_option maxRecDepth 20000 in
theorem gX5_ownerOf_X5_slipsOf : GoodIn wsX5_ownerOf (wsV RX5 126 RX5 yX5_slipsOf wsX5_slipsOf) := goodIn_app (goodIn_of _ (by decide +kernel)) ggX5_ownerOf_X5_slipsOf
theorem dX5_ownerOf_0 : decode cX5_ownerOf 0 = .ok (.iconst 0, 1) := by decide +kernel
theorem dX5_ownerOf_1 : decode cX5_ownerOf 1 = .ok (.istore_n 2, 1) := by decide +kernel
theorem dX5_ownerOf_2 : decode cX5_ownerOf 2 = .ok (.iload_n 1, 1) := by decide +kernel
theorem dX5_ownerOf_3 : decode cX5_ownerOf 3 = .ok (.istore_n 3, 1) := by decide +kernel
theorem dX5_ownerOf_4 : decode cX5_ownerOf 4 = .ok (.iload_n 3, 1) := by decide +kernel
theorem dX5_ownerOf_5 : decode cX5_ownerOf 5 = .ok (.aload_n 0, 1) := by decide +kernel
theorem dX5_ownerOf_6 : decode cX5_ownerOf 6 = .ok (.iload_n 2, 1) := by decide +kernel
theorem dX5_ownerOf_7 : decode cX5_ownerOf 7 = .ok (.invokevirtual 126, 3) := by decide +kernel
theorem dX5_ownerOf_10 : decode cX5_ownerOf 10 = .ok (.if_icmp .lt 17, 3) := by decide +kernel
theorem dX5_ownerOf_13 : decode cX5_ownerOf 13 = .ok (.iload_n 3, 1) := by decide +kernel
theorem dX5_ownerOf_14 : decode cX5_ownerOf 14 = .ok (.aload_n 0, 1) := by decide +kernel
theorem dX5_ownerOf_15 : decode cX5_ownerOf 15 = .ok (.iload_n 2, 1) := by decide +kernel
theorem dX5_ownerOf_16 : decode cX5_ownerOf 16 = .ok (.invokevirtual 126, 3) := by decide +kernel
theorem dX5_ownerOf_19 : decode cX5_ownerOf 19 = .ok (.isub, 1) := by decide +kernel
theorem dX5_ownerOf_20 : decode cX5_ownerOf 20 = .ok (.istore_n 3, 1) := by decide +kernel
theorem dX5_ownerOf_21 : decode cX5_ownerOf 21 = .ok (.iinc 2 1, 3) := by decide +kernel
theorem dX5_ownerOf_24 : decode cX5_ownerOf 24 = .ok (.goto (-20), 3) := by decide +kernel
theorem dX5_ownerOf_27 : decode cX5_ownerOf 27 = .ok (.iload_n 2, 1) := by decide +kernel
theorem dX5_ownerOf_28 : decode cX5_ownerOf 28 = .ok (.ireturn, 1) := by decide +kernel
set_option maxRecDepth 20000 in
theorem ggX5_doesPass_X5_bits : GoodIn wsX5_doesPass wsX5_bits := goodIn_r _ [5] (by decide +kernel) (by decide +kernel)
set_option maxRecDepth 20000 in
theorem gX5_doesPass_X5_bits : GoodIn wsX5_doesPass (va_wsS RX5 139 yX5_bits wsX5_bits) := goodIn_app (goodIn_of _ (by decide +kernel)) ggX5_doesPass_X5_bits
theorem dX5_doesPass_0 : decode cX5_doesPass 0 = .ok (.iload_n 1, 1) := by decide +kernel
theorem dX5_doesPass_1 : decode cX5_doesPass 1 = .ok (.aload_n 0, 1) := by decide +kernel
theorem dX5_doesPass_2 : decode cX5_doesPass 2 = .ok (.getfield 117, 3) := by decide +kernel
theorem dX5_doesPass_5 : decode cX5_doesPass 5 = .ok (.iand, 1) := by decide +kernel
theorem dX5_doesPass_6 : decode cX5_doesPass 6 = .ok (.invokestatic 139, 3) := by decide +kernel
theorem dX5_doesPass_9 : decode cX5_doesPass 9 = .ok (.iload_n 1, 1) := by decide +kernel
theorem dX5_doesPass_10 : decode cX5_doesPass 10 = .ok (.aload_n 0, 1) := by decide +kernel
theorem dX5_doesPass_11 : decode cX5_doesPass 11 = .ok (.getfield 117, 3) := by decide +kernel
theorem dX5_doesPass_14 : decode cX5_doesPass 14 = .ok (.iconst (-1), 1) := by decide +kernel
theorem dX5_doesPass_15 : decode cX5_doesPass 15 = .ok (.ixor, 1) := by decide +kernel
theorem dX5_doesPass_16 : decode cX5_doesPass 16 = .ok (.iand, 1) := by decide +kernel
theorem dX5_doesPass_17 : decode cX5_doesPass 17 = .ok (.invokestatic 139, 3) := by decide +kernel
theorem dX5_doesPass_20 : decode cX5_doesPass 20 = .ok (.if_icmp .le 7, 3) := by decide +kernel
theorem dX5_doesPass_23 : decode cX5_doesPass 23 = .ok (.iconst 1, 1) := by decide +kernel
theorem dX5_doesPass_24 : decode cX5_doesPass 24 = .ok (.goto 4, 3) := by decide +kernel
theorem dX5_doesPass_27 : decode cX5_doesPass 27 = .ok (.iconst 0, 1) := by decide +kernel
theorem dX5_doesPass_28 : decode cX5_doesPass 28 = .ok (.ireturn, 1) := by decide +kernel
set_option maxRecDepth 20000 in
theorem ggX5_freeBy_X5_everybody : GoodIn wsX5_freeBy wsX5_everybody := goodIn_r _ [7, 8, 29, 30, 31, 32, 33, 34, 35, 36, 37, 38, 39, 40, 41, 42, 43, 44, 45, 46, 47, 48, 49, 50, 51, 52] (by decide +kernel) (by decide +kernel)
set_option maxRecDepth 20000 in
theorem gX5_freeBy_X5_everybody : GoodIn wsX5_freeBy (wsV RX5 145 RX5 yX5_everybody wsX5_everybody) := goodIn_app (goodIn_of _ (by decide +kernel)) ggX5_freeBy_X5_everybody
set_option maxRecDepth 20000 in
theorem ggX5_freeBy_X5_slipsOfAll : GoodIn wsX5_freeBy wsX5_slipsOfAll := goodIn_r _ [12, 8, 13, 14, 6, 15, 16, 17, 18, 19, 20, 21, 29, 30, 31, 32, 33, 34, 35, 36, 37, 38, 39, 40, 41, 42, 43, 44, 45, 46, 47, 48, 49, 50, 51, 52] (by decide +kernel) (by decide +kernel)
set_option maxRecDepth 20000 in
theorem gX5_freeBy_X5_slipsOfAll : GoodIn wsX5_freeBy (wsV RX5 132 RX5 yX5_slipsOfAll wsX5_slipsOfAll) := goodIn_app (goodIn_of _ (by decide +kernel)) ggX5_freeBy_X5_slipsOfAll
set_option maxRecDepth 20000 in
theorem ggX5_freeBy_X5_in : GoodIn wsX5_freeBy wsX5_in := goodIn_r _ [24] (by decide +kernel) (by decide +kernel)
set_option maxRecDepth 20000 in
theorem gX5_freeBy_X5_in : GoodIn wsX5_freeBy (va_wsS RX5 56 yX5_in wsX5_in) := goodIn_app (goodIn_of _ (by decide +kernel)) ggX5_freeBy_X5_in
set_option maxRecDepth 20000 in
theorem ggX5_freeBy_X5_ownerOf : GoodIn wsX5_freeBy wsX5_ownerOf := goodIn_r _ [28, 16, 17, 18, 6, 19, 20, 21, 29, 30, 31, 32, 33, 34, 35, 36, 37, 38, 39, 40, 41, 42, 43, 44, 45, 46, 47, 48, 49, 50, 51, 52] (by decide +kernel) (by decide +kernel)
set_option maxRecDepth 20000 in
theorem gX5_freeBy_X5_ownerOf : GoodIn wsX5_freeBy (wsV RX5 149 RX5 yX5_ownerOf wsX5_ownerOf) := goodIn_app (goodIn_of _ (by decide +kernel)) ggX5_freeBy_X5_ownerOf
theorem dX5_freeBy_0 : decode cX5_freeBy 0 = .ok (.iconst 0, 1) := by decide +kernel
theorem dX5_freeBy_1 : decode cX5_freeBy 1 = .ok (.istore_n 3, 1) := by decide +kernel
theorem dX5_freeBy_2 : decode cX5_freeBy 2 = .ok (.aload_n 0, 1) := by decide +kernel
theorem dX5_freeBy_3 : decode cX5_freeBy 3 = .ok (.bipush (-9), 2) := by decide +kernel
theorem dX5_freeBy_5 : decode cX5_freeBy 5 = .ok (.putfield 142, 3) := by decide +kernel
theorem dX5_freeBy_8 : decode cX5_freeBy 8 = .ok (.iconst 0, 1) := by decide +kernel
theorem dX5_freeBy_9 : decode cX5_freeBy 9 = .ok (.istore 4, 2) := by decide +kernel
theorem dX5_freeBy_11 : decode cX5_freeBy 11 = .ok (.iload 4, 2) := by decide +kernel
theorem dX5_freeBy_13 : decode cX5_freeBy 13 = .ok (.iload_n 2, 1) := by decide +kernel
theorem dX5_freeBy_14 : decode cX5_freeBy 14 = .ok (.if_icmp .ge 133, 3) := by decide +kernel
theorem dX5_freeBy_17 : decode cX5_freeBy 17 = .ok (.aload_n 0, 1) := by decide +kernel
theorem dX5_freeBy_18 : decode cX5_freeBy 18 = .ok (.getfield 142, 3) := by decide +kernel
theorem dX5_freeBy_21 : decode cX5_freeBy 21 = .ok (.ifCond .ge 126, 3) := by decide +kernel
theorem dX5_freeBy_24 : decode cX5_freeBy 24 = .ok (.aload_n 0, 1) := by decide +kernel
theorem dX5_freeBy_25 : decode cX5_freeBy 25 = .ok (.getfield 37, 3) := by decide +kernel
theorem dX5_freeBy_28 : decode cX5_freeBy 28 = .ok (.iload_n 1, 1) := by decide +kernel
theorem dX5_freeBy_29 : decode cX5_freeBy 29 = .ok (.iload 4, 2) := by decide +kernel
theorem dX5_freeBy_31 : decode cX5_freeBy 31 = .ok (.iadd, 1) := by decide +kernel
theorem dX5_freeBy_32 : decode cX5_freeBy 32 = .ok (.iaload, 1) := by decide +kernel
theorem dX5_freeBy_33 : decode cX5_freeBy 33 = .ok (.istore 5, 2) := by decide +kernel
theorem dX5_freeBy_35 : decode cX5_freeBy 35 = .ok (.iload 5, 2) := by decide +kernel
theorem dX5_freeBy_37 : decode cX5_freeBy 37 = .ok (.i2l, 1) := by decide +kernel
theorem dX5_freeBy_38 : decode cX5_freeBy 38 = .ok (.lconst 0, 1) := by decide +kernel
theorem dX5_freeBy_39 : decode cX5_freeBy 39 = .ok (.aload_n 0, 1) := by decide +kernel
theorem dX5_freeBy_40 : decode cX5_freeBy 40 = .ok (.aload_n 0, 1) := by decide +kernel
theorem dX5_freeBy_41 : decode cX5_freeBy 41 = .ok (.invokevirtual 145, 3) := by decide +kernel
theorem dX5_freeBy_44 : decode cX5_freeBy 44 = .ok (.invokevirtual 132, 3) := by decide +kernel
theorem dX5_freeBy_47 : decode cX5_freeBy 47 = .ok (.i2l, 1) := by decide +kernel
theorem dX5_freeBy_48 : decode cX5_freeBy 48 = .ok (.lconst 1, 1) := by decide +kernel
theorem dX5_freeBy_49 : decode cX5_freeBy 49 = .ok (.lsub, 1) := by decide +kernel
theorem dX5_freeBy_50 : decode cX5_freeBy 50 = .ok (.invokestatic 56, 3) := by decide +kernel
theorem dX5_freeBy_53 : decode cX5_freeBy 53 = .ok (.ifCond .ne 7, 3) := by decide +kernel
theorem dX5_freeBy_56 : decode cX5_freeBy 56 = .ok (.iconst 1, 1) := by decide +kernel
theorem dX5_freeBy_57 : decode cX5_freeBy 57 = .ok (.goto 4, 3) := by decide +kernel
theorem dX5_freeBy_60 : decode cX5_freeBy 60 = .ok (.iconst 0, 1) := by decide +kernel
theorem dX5_freeBy_61 : decode cX5_freeBy 61 = .ok (.istore 6, 2) := by decide +kernel
theorem dX5_freeBy_63 : decode cX5_freeBy 63 = .ok (.iconst 0, 1) := by decide +kernel
theorem dX5_freeBy_64 : decode cX5_freeBy 64 = .ok (.istore 7, 2) := by decide +kernel
theorem dX5_freeBy_66 : decode cX5_freeBy 66 = .ok (.iload 7, 2) := by decide +kernel
theorem dX5_freeBy_68 : decode cX5_freeBy 68 = .ok (.iload 4, 2) := by decide +kernel
theorem dX5_freeBy_70 : decode cX5_freeBy 70 = .ok (.if_icmp .ge 35, 3) := by decide +kernel
theorem dX5_freeBy_73 : decode cX5_freeBy 73 = .ok (.iload 6, 2) := by decide +kernel
theorem dX5_freeBy_75 : decode cX5_freeBy 75 = .ok (.ifCond .ne 17, 3) := by decide +kernel
theorem dX5_freeBy_78 : decode cX5_freeBy 78 = .ok (.aload_n 0, 1) := by decide +kernel
theorem dX5_freeBy_79 : decode cX5_freeBy 79 = .ok (.getfield 37, 3) := by decide +kernel
theorem dX5_freeBy_82 : decode cX5_freeBy 82 = .ok (.iload_n 1, 1) := by decide +kernel
theorem dX5_freeBy_83 : decode cX5_freeBy 83 = .ok (.iload 7, 2) := by decide +kernel
theorem dX5_freeBy_85 : decode cX5_freeBy 85 = .ok (.iadd, 1) := by decide +kernel
theorem dX5_freeBy_86 : decode cX5_freeBy 86 = .ok (.iaload, 1) := by decide +kernel
theorem dX5_freeBy_87 : decode cX5_freeBy 87 = .ok (.iload 5, 2) := by decide +kernel
theorem dX5_freeBy_89 : decode cX5_freeBy 89 = .ok (.if_icmp .ne 7, 3) := by decide +kernel
theorem dX5_freeBy_92 : decode cX5_freeBy 92 = .ok (.iconst 1, 1) := by decide +kernel
theorem dX5_freeBy_93 : decode cX5_freeBy 93 = .ok (.goto 4, 3) := by decide +kernel
theorem dX5_freeBy_96 : decode cX5_freeBy 96 = .ok (.iconst 0, 1) := by decide +kernel
theorem dX5_freeBy_97 : decode cX5_freeBy 97 = .ok (.istore 6, 2) := by decide +kernel
theorem dX5_freeBy_99 : decode cX5_freeBy 99 = .ok (.iinc 7 1, 3) := by decide +kernel
theorem dX5_freeBy_102 : decode cX5_freeBy 102 = .ok (.goto (-36), 3) := by decide +kernel
theorem dX5_freeBy_105 : decode cX5_freeBy 105 = .ok (.aload_n 0, 1) := by decide +kernel
theorem dX5_freeBy_106 : decode cX5_freeBy 106 = .ok (.iload 6, 2) := by decide +kernel
theorem dX5_freeBy_108 : decode cX5_freeBy 108 = .ok (.ifCond .eq 8, 3) := by decide +kernel
theorem dX5_freeBy_111 : decode cX5_freeBy 111 = .ok (.iload 4, 2) := by decide +kernel
theorem dX5_freeBy_113 : decode cX5_freeBy 113 = .ok (.goto 5, 3) := by decide +kernel
theorem dX5_freeBy_116 : decode cX5_freeBy 116 = .ok (.bipush (-9), 2) := by decide +kernel
theorem dX5_freeBy_118 : decode cX5_freeBy 118 = .ok (.putfield 142, 3) := by decide +kernel
theorem dX5_freeBy_121 : decode cX5_freeBy 121 = .ok (.iload_n 3, 1) := by decide +kernel
theorem dX5_freeBy_122 : decode cX5_freeBy 122 = .ok (.iload 6, 2) := by decide +kernel
theorem dX5_freeBy_124 : decode cX5_freeBy 124 = .ok (.ifCond .eq 7, 3) := by decide +kernel
theorem dX5_freeBy_127 : decode cX5_freeBy 127 = .ok (.iconst 0, 1) := by decide +kernel
theorem dX5_freeBy_128 : decode cX5_freeBy 128 = .ok (.goto 11, 3) := by decide +kernel
theorem dX5_freeBy_131 : decode cX5_freeBy 131 = .ok (.iconst 1, 1) := by decide +kernel
theorem dX5_freeBy_132 : decode cX5_freeBy 132 = .ok (.aload_n 0, 1) := by decide +kernel
theorem dX5_freeBy_133 : decode cX5_freeBy 133 = .ok (.iload 5, 2) := by decide +kernel
theorem dX5_freeBy_135 : decode cX5_freeBy 135 = .ok (.invokevirtual 149, 3) := by decide +kernel
theorem dX5_freeBy_138 : decode cX5_freeBy 138 = .ok (.ishl, 1) := by decide +kernel
theorem dX5_freeBy_139 : decode cX5_freeBy 139 = .ok (.ior, 1) := by decide +kernel
theorem dX5_freeBy_140 : decode cX5_freeBy 140 = .ok (.istore_n 3, 1) := by decide +kernel
theorem dX5_freeBy_141 : decode cX5_freeBy 141 = .ok (.iinc 4 1, 3) := by decide +kernel
theorem dX5_freeBy_144 : decode cX5_freeBy 144 = .ok (.goto (-133), 3) := by decide +kernel
theorem dX5_freeBy_147 : decode cX5_freeBy 147 = .ok (.iload_n 3, 1) := by decide +kernel
theorem dX5_freeBy_148 : decode cX5_freeBy 148 = .ok (.ireturn, 1) := by decide +kernel
set_option maxRecDepth 20000 in
theorem ggX5_draw_X5_noSheet : GoodIn wsX5_draw wsX5_noSheet := goodIn_r _ [8, 9, 10, 11, 7, 12] (by decide +kernel) (by decide +kernel)
set_option maxRecDepth 20000 in
theorem gX5_draw_X5_noSheet : GoodIn wsX5_draw (va_wsS RX5 95 yX5_noSheet wsX5_noSheet) := goodIn_app (goodIn_of _ (by decide +kernel)) ggX5_draw_X5_noSheet
set_option maxRecDepth 20000 in
theorem ggX5_draw_X5_refused : GoodIn wsX5_draw wsX5_refused := goodIn_r _ [16, 17, 65, 66, 67, 68, 69, 70, 71, 72, 73, 74, 75, 76, 77, 78, 79, 80, 81, 82, 83, 84, 85, 86, 87, 88] (by decide +kernel) (by decide +kernel)
set_option maxRecDepth 20000 in
theorem gX5_draw_X5_refused : GoodIn wsX5_draw (wsV RX5 99 RX5 yX5_refused wsX5_refused) := goodIn_app (goodIn_of _ (by decide +kernel)) ggX5_draw_X5_refused
set_option maxRecDepth 20000 in
theorem ggX5_draw_X5_in : GoodIn wsX5_draw wsX5_in := goodIn_r _ [12] (by decide +kernel) (by decide +kernel)
set_option maxRecDepth 20000 in
theorem gX5_draw_X5_in : GoodIn wsX5_draw (va_wsS RX5 56 yX5_in wsX5_in) := goodIn_app (goodIn_of _ (by decide +kernel)) ggX5_draw_X5_in
set_option maxRecDepth 20000 in
theorem ggX5_draw_X5_cellsBarred : GoodIn wsX5_draw wsX5_cellsBarred := goodIn_r _ [21, 22, 23, 24, 25, 26, 7, 27, 17, 28, 29, 30, 65, 66, 67, 68, 69, 70, 71, 72, 73, 74, 75, 76, 77, 78, 79, 80, 81, 82, 83, 84, 85, 86, 87, 88] (by decide +kernel) (by decide +kernel)
set_option maxRecDepth 20000 in
theorem gX5_draw_X5_cellsBarred : GoodIn wsX5_draw (wsV RX5 104 RX5 yX5_cellsBarred wsX5_cellsBarred) := goodIn_app (goodIn_of _ (by decide +kernel)) ggX5_draw_X5_cellsBarred
set_option maxRecDepth 20000 in
theorem ggX5_draw_X5_everybody : GoodIn wsX5_draw wsX5_everybody := goodIn_r _ [34, 3, 65, 66, 67, 68, 69, 70, 71, 72, 73, 74, 75, 76, 77, 78, 79, 80, 81, 82, 83, 84, 85, 86, 87, 88] (by decide +kernel) (by decide +kernel)
set_option maxRecDepth 20000 in
theorem gX5_draw_X5_everybody : GoodIn wsX5_draw (wsV RX5 145 RX5 yX5_everybody wsX5_everybody) := goodIn_app (goodIn_of _ (by decide +kernel)) ggX5_draw_X5_everybody
set_option maxRecDepth 20000 in
theorem ggX5_draw_X5_freeBy : GoodIn wsX5_draw wsX5_freeBy := goodIn_r _ [38, 4, 39, 31, 32, 33, 7, 34, 3, 40, 41, 42, 43, 44, 45, 46, 47, 48, 49, 50, 51, 52, 10, 11, 12, 53, 54, 55, 56, 65, 66, 67, 68, 69, 70, 71, 72, 73, 74, 75, 76, 77, 78, 79, 80, 81, 82, 83, 84, 85, 86, 87, 88] (by decide +kernel) (by decide +kernel)
set_option maxRecDepth 20000 in
theorem gX5_draw_X5_freeBy : GoodIn wsX5_draw (wsV RX5 154 RX5 yX5_freeBy wsX5_freeBy) := goodIn_app (goodIn_of _ (by decide +kernel)) ggX5_draw_X5_freeBy
set_option maxRecDepth 20000 in
theorem ggX5_draw_X5_doesPass : GoodIn wsX5_draw wsX5_doesPass := goodIn_r _ [60, 61, 62, 63, 7, 64, 65, 66, 67, 68, 69, 70, 71, 72, 73, 74, 75, 76, 77, 78, 79, 80, 81, 82, 83, 84, 85, 86, 87, 88] (by decide +kernel) (by decide +kernel)
set_option maxRecDepth 20000 in
theorem gX5_draw_X5_doesPass : GoodIn wsX5_draw (wsV RX5 157 RX5 yX5_doesPass wsX5_doesPass) := goodIn_app (goodIn_of _ (by decide +kernel)) ggX5_draw_X5_doesPass
theorem dX5_draw_0 : decode cX5_draw 0 = .ok (.iload_n 1, 1) := by decide +kernel
theorem dX5_draw_1 : decode cX5_draw 1 = .ok (.invokestatic 95, 3) := by decide +kernel
theorem dX5_draw_4 : decode cX5_draw 4 = .ok (.ifCond .eq 9, 3) := by decide +kernel
theorem dX5_draw_7 : decode cX5_draw 7 = .ok (.aload_n 0, 1) := by decide +kernel
theorem dX5_draw_8 : decode cX5_draw 8 = .ok (.iconst (-1), 1) := by decide +kernel
theorem dX5_draw_9 : decode cX5_draw 9 = .ok (.invokevirtual 99, 3) := by decide +kernel
theorem dX5_draw_12 : decode cX5_draw 12 = .ok (.ireturn, 1) := by decide +kernel
theorem dX5_draw_13 : decode cX5_draw 13 = .ok (.iload_n 2, 1) := by decide +kernel
theorem dX5_draw_14 : decode cX5_draw 14 = .ok (.i2l, 1) := by decide +kernel
theorem dX5_draw_15 : decode cX5_draw 15 = .ok (.lconst 0, 1) := by decide +kernel
theorem dX5_draw_16 : decode cX5_draw 16 = .ok (.ldc2_w 102, 3) := by decide +kernel
theorem dX5_draw_19 : decode cX5_draw 19 = .ok (.invokestatic 56, 3) := by decide +kernel
theorem dX5_draw_22 : decode cX5_draw 22 = .ok (.ifCond .eq 29, 3) := by decide +kernel
theorem dX5_draw_25 : decode cX5_draw 25 = .ok (.iload 4, 2) := by decide +kernel
theorem dX5_draw_27 : decode cX5_draw 27 = .ok (.i2l, 1) := by decide +kernel
theorem dX5_draw_28 : decode cX5_draw 28 = .ok (.lconst 0, 1) := by decide +kernel
theorem dX5_draw_29 : decode cX5_draw 29 = .ok (.ldc2_w 152, 3) := by decide +kernel
theorem dX5_draw_32 : decode cX5_draw 32 = .ok (.invokestatic 56, 3) := by decide +kernel
theorem dX5_draw_35 : decode cX5_draw 35 = .ok (.ifCond .eq 16, 3) := by decide +kernel
theorem dX5_draw_38 : decode cX5_draw 38 = .ok (.iload 5, 2) := by decide +kernel
theorem dX5_draw_40 : decode cX5_draw 40 = .ok (.i2l, 1) := by decide +kernel
theorem dX5_draw_41 : decode cX5_draw 41 = .ok (.lconst 0, 1) := by decide +kernel
theorem dX5_draw_42 : decode cX5_draw 42 = .ok (.ldc2_w 102, 3) := by decide +kernel
theorem dX5_draw_45 : decode cX5_draw 45 = .ok (.invokestatic 56, 3) := by decide +kernel
theorem dX5_draw_48 : decode cX5_draw 48 = .ok (.ifCond .ne 10, 3) := by decide +kernel
theorem dX5_draw_51 : decode cX5_draw 51 = .ok (.aload_n 0, 1) := by decide +kernel
theorem dX5_draw_52 : decode cX5_draw 52 = .ok (.bipush (-2), 2) := by decide +kernel
theorem dX5_draw_54 : decode cX5_draw 54 = .ok (.invokevirtual 99, 3) := by decide +kernel
theorem dX5_draw_57 : decode cX5_draw 57 = .ok (.ireturn, 1) := by decide +kernel
theorem dX5_draw_58 : decode cX5_draw 58 = .ok (.aload_n 0, 1) := by decide +kernel
theorem dX5_draw_59 : decode cX5_draw 59 = .ok (.getfield 53, 3) := by decide +kernel
theorem dX5_draw_62 : decode cX5_draw 62 = .ok (.ifCond .ne 10, 3) := by decide +kernel
theorem dX5_draw_65 : decode cX5_draw 65 = .ok (.aload_n 0, 1) := by decide +kernel
theorem dX5_draw_66 : decode cX5_draw 66 = .ok (.bipush (-3), 2) := by decide +kernel
theorem dX5_draw_68 : decode cX5_draw 68 = .ok (.invokevirtual 99, 3) := by decide +kernel
theorem dX5_draw_71 : decode cX5_draw 71 = .ok (.ireturn, 1) := by decide +kernel
theorem dX5_draw_72 : decode cX5_draw 72 = .ok (.aload_n 0, 1) := by decide +kernel
theorem dX5_draw_73 : decode cX5_draw 73 = .ok (.iload_n 1, 1) := by decide +kernel
theorem dX5_draw_74 : decode cX5_draw 74 = .ok (.iload_n 2, 1) := by decide +kernel
theorem dX5_draw_75 : decode cX5_draw 75 = .ok (.iload_n 3, 1) := by decide +kernel
theorem dX5_draw_76 : decode cX5_draw 76 = .ok (.iload 4, 2) := by decide +kernel
theorem dX5_draw_78 : decode cX5_draw 78 = .ok (.i2l, 1) := by decide +kernel
theorem dX5_draw_79 : decode cX5_draw 79 = .ok (.invokevirtual 104, 3) := by decide +kernel
theorem dX5_draw_82 : decode cX5_draw 82 = .ok (.istore 6, 2) := by decide +kernel
theorem dX5_draw_84 : decode cX5_draw 84 = .ok (.iload 6, 2) := by decide +kernel
theorem dX5_draw_86 : decode cX5_draw 86 = .ok (.ifCond .ge 6, 3) := by decide +kernel
theorem dX5_draw_89 : decode cX5_draw 89 = .ok (.iload 6, 2) := by decide +kernel
theorem dX5_draw_91 : decode cX5_draw 91 = .ok (.ireturn, 1) := by decide +kernel
theorem dX5_draw_92 : decode cX5_draw 92 = .ok (.aload_n 0, 1) := by decide +kernel
theorem dX5_draw_93 : decode cX5_draw 93 = .ok (.invokevirtual 145, 3) := by decide +kernel
theorem dX5_draw_96 : decode cX5_draw 96 = .ok (.aload_n 0, 1) := by decide +kernel
theorem dX5_draw_97 : decode cX5_draw 97 = .ok (.bipush 60, 2) := by decide +kernel
theorem dX5_draw_99 : decode cX5_draw 99 = .ok (.iload_n 1, 1) := by decide +kernel
theorem dX5_draw_100 : decode cX5_draw 100 = .ok (.imul, 1) := by decide +kernel
theorem dX5_draw_101 : decode cX5_draw 101 = .ok (.iload_n 3, 1) := by decide +kernel
theorem dX5_draw_102 : decode cX5_draw 102 = .ok (.iadd, 1) := by decide +kernel
theorem dX5_draw_103 : decode cX5_draw 103 = .ok (.iload 4, 2) := by decide +kernel
theorem dX5_draw_105 : decode cX5_draw 105 = .ok (.invokevirtual 154, 3) := by decide +kernel
theorem dX5_draw_108 : decode cX5_draw 108 = .ok (.iconst (-1), 1) := by decide +kernel
theorem dX5_draw_109 : decode cX5_draw 109 = .ok (.ixor, 1) := by decide +kernel
theorem dX5_draw_110 : decode cX5_draw 110 = .ok (.iand, 1) := by decide +kernel
theorem dX5_draw_111 : decode cX5_draw 111 = .ok (.istore 7, 2) := by decide +kernel
theorem dX5_draw_113 : decode cX5_draw 113 = .ok (.iload 5, 2) := by decide +kernel
theorem dX5_draw_115 : decode cX5_draw 115 = .ok (.iconst 1, 1) := by decide +kernel
theorem dX5_draw_116 : decode cX5_draw 116 = .ok (.if_icmp .ne 12, 3) := by decide +kernel
theorem dX5_draw_119 : decode cX5_draw 119 = .ok (.aload_n 0, 1) := by decide +kernel
theorem dX5_draw_120 : decode cX5_draw 120 = .ok (.aload_n 0, 1) := by decide +kernel
theorem dX5_draw_121 : decode cX5_draw 121 = .ok (.getfield 142, 3) := by decide +kernel
theorem dX5_draw_124 : decode cX5_draw 124 = .ok (.invokevirtual 99, 3) := by decide +kernel
theorem dX5_draw_127 : decode cX5_draw 127 = .ok (.ireturn, 1) := by decide +kernel
theorem dX5_draw_128 : decode cX5_draw 128 = .ok (.aload_n 0, 1) := by decide +kernel
theorem dX5_draw_129 : decode cX5_draw 129 = .ok (.getfield 142, 3) := by decide +kernel
theorem dX5_draw_132 : decode cX5_draw 132 = .ok (.ifCond .lt 15, 3) := by decide +kernel
theorem dX5_draw_135 : decode cX5_draw 135 = .ok (.aload_n 0, 1) := by decide +kernel
theorem dX5_draw_136 : decode cX5_draw 136 = .ok (.bipush (-100), 2) := by decide +kernel
theorem dX5_draw_138 : decode cX5_draw 138 = .ok (.aload_n 0, 1) := by decide +kernel
theorem dX5_draw_139 : decode cX5_draw 139 = .ok (.getfield 142, 3) := by decide +kernel
theorem dX5_draw_142 : decode cX5_draw 142 = .ok (.isub, 1) := by decide +kernel
theorem dX5_draw_143 : decode cX5_draw 143 = .ok (.invokevirtual 99, 3) := by decide +kernel
theorem dX5_draw_146 : decode cX5_draw 146 = .ok (.ireturn, 1) := by decide +kernel
theorem dX5_draw_147 : decode cX5_draw 147 = .ok (.aload_n 0, 1) := by decide +kernel
theorem dX5_draw_148 : decode cX5_draw 148 = .ok (.iload 5, 2) := by decide +kernel
theorem dX5_draw_150 : decode cX5_draw 150 = .ok (.ifCond .ne 8, 3) := by decide +kernel
theorem dX5_draw_153 : decode cX5_draw 153 = .ok (.iload 7, 2) := by decide +kernel
theorem dX5_draw_155 : decode cX5_draw 155 = .ok (.goto 17, 3) := by decide +kernel
theorem dX5_draw_158 : decode cX5_draw 158 = .ok (.aload_n 0, 1) := by decide +kernel
theorem dX5_draw_159 : decode cX5_draw 159 = .ok (.iload 7, 2) := by decide +kernel
theorem dX5_draw_161 : decode cX5_draw 161 = .ok (.invokevirtual 157, 3) := by decide +kernel
theorem dX5_draw_164 : decode cX5_draw 164 = .ok (.ifCond .eq 7, 3) := by decide +kernel
theorem dX5_draw_167 : decode cX5_draw 167 = .ok (.iconst 1, 1) := by decide +kernel
theorem dX5_draw_168 : decode cX5_draw 168 = .ok (.goto 4, 3) := by decide +kernel
theorem dX5_draw_171 : decode cX5_draw 171 = .ok (.iconst 0, 1) := by decide +kernel
theorem dX5_draw_172 : decode cX5_draw 172 = .ok (.invokevirtual 99, 3) := by decide +kernel
theorem dX5_draw_175 : decode cX5_draw 175 = .ok (.ireturn, 1) := by decide +kernel
set_option maxRecDepth 20000 in
theorem ggX5_allDraws_X5_everybody : GoodIn wsX5_allDraws wsX5_everybody := goodIn_r _ [5, 6, 28, 29, 30, 31, 32, 33, 34, 35, 36, 37, 38, 39, 40, 41, 42, 43, 44, 45, 46, 47, 48, 49, 50, 51] (by decide +kernel) (by decide +kernel)
set_option maxRecDepth 20000 in
theorem gX5_allDraws_X5_everybody : GoodIn wsX5_allDraws (wsV RX5 145 RX5 yX5_everybody wsX5_everybody) := goodIn_app (goodIn_of _ (by decide +kernel)) ggX5_allDraws_X5_everybody
set_option maxRecDepth 20000 in
theorem ggX5_allDraws_X5_slipsOfAll : GoodIn wsX5_allDraws wsX5_slipsOfAll := goodIn_r _ [10, 6, 11, 12, 4, 13, 14, 15, 16, 17, 18, 19, 28, 29, 30, 31, 32, 33, 34, 35, 36, 37, 38, 39, 40, 41, 42, 43, 44, 45, 46, 47, 48, 49, 50, 51] (by decide +kernel) (by decide +kernel)
set_option maxRecDepth 20000 in
theorem gX5_allDraws_X5_slipsOfAll : GoodIn wsX5_allDraws (wsV RX5 132 RX5 yX5_slipsOfAll wsX5_slipsOfAll) := goodIn_app (goodIn_of _ (by decide +kernel)) ggX5_allDraws_X5_slipsOfAll
set_option maxRecDepth 20000 in
theorem ggX5_allDraws_X5_drawnOf : GoodIn wsX5_allDraws wsX5_drawnOf := goodIn_r _ [23, 24, 28, 29, 30, 31, 32, 33, 34, 35, 36, 37, 38, 39, 40, 41, 42, 43, 44, 45, 46, 47, 48, 49, 50, 51] (by decide +kernel) (by decide +kernel)
set_option maxRecDepth 20000 in
theorem gX5_allDraws_X5_drawnOf : GoodIn wsX5_allDraws (wsV RX5 160 RX5 yX5_drawnOf wsX5_drawnOf) := goodIn_app (goodIn_of _ (by decide +kernel)) ggX5_allDraws_X5_drawnOf
set_option maxRecDepth 20000 in
theorem ggX5_allDraws_X5_waysOf : GoodIn wsX5_allDraws wsX5_waysOf := goodIn_r _ [27] (by decide +kernel) (by decide +kernel)
set_option maxRecDepth 20000 in
theorem gX5_allDraws_X5_waysOf : GoodIn wsX5_allDraws (va_wsS RX5 163 yX5_waysOf wsX5_waysOf) := goodIn_app (goodIn_of _ (by decide +kernel)) ggX5_allDraws_X5_waysOf
theorem dX5_allDraws_0 : decode cX5_allDraws 0 = .ok (.aload_n 0, 1) := by decide +kernel
theorem dX5_allDraws_1 : decode cX5_allDraws 1 = .ok (.aload_n 0, 1) := by decide +kernel
theorem dX5_allDraws_2 : decode cX5_allDraws 2 = .ok (.invokevirtual 145, 3) := by decide +kernel
theorem dX5_allDraws_5 : decode cX5_allDraws 5 = .ok (.invokevirtual 132, 3) := by decide +kernel
theorem dX5_allDraws_8 : decode cX5_allDraws 8 = .ok (.istore_n 1, 1) := by decide +kernel
theorem dX5_allDraws_9 : decode cX5_allDraws 9 = .ok (.iload_n 1, 1) := by decide +kernel
theorem dX5_allDraws_10 : decode cX5_allDraws 10 = .ok (.aload_n 0, 1) := by decide +kernel
theorem dX5_allDraws_11 : decode cX5_allDraws 11 = .ok (.iload_n 1, 1) := by decide +kernel
theorem dX5_allDraws_12 : decode cX5_allDraws 12 = .ok (.invokevirtual 160, 3) := by decide +kernel
theorem dX5_allDraws_15 : decode cX5_allDraws 15 = .ok (.invokestatic 163, 3) := by decide +kernel
theorem dX5_allDraws_18 : decode cX5_allDraws 18 = .ok (.lreturn, 1) := by decide +kernel
set_option maxRecDepth 20000 in
theorem ggX5_drawsOf_X5_everybody : GoodIn wsX5_drawsOf wsX5_everybody := goodIn_r _ [5, 6, 31, 32, 33, 34, 35, 36, 37, 38, 39, 40, 41, 42, 43, 44, 45, 46, 47, 48, 49, 50, 51, 52, 53, 54] (by decide +kernel) (by decide +kernel)
set_option maxRecDepth 20000 in
theorem gX5_drawsOf_X5_everybody : GoodIn wsX5_drawsOf (wsV RX5 145 RX5 yX5_everybody wsX5_everybody) := goodIn_app (goodIn_of _ (by decide +kernel)) ggX5_drawsOf_X5_everybody
set_option maxRecDepth 20000 in
theorem ggX5_drawsOf_X5_slipsOfAll : GoodIn wsX5_drawsOf wsX5_slipsOfAll := goodIn_r _ [10, 6, 11, 12, 4, 13, 14, 15, 16, 17, 18, 19, 31, 32, 33, 34, 35, 36, 37, 38, 39, 40, 41, 42, 43, 44, 45, 46, 47, 48, 49, 50, 51, 52, 53, 54] (by decide +kernel) (by decide +kernel)
set_option maxRecDepth 20000 in
theorem gX5_drawsOf_X5_slipsOfAll : GoodIn wsX5_drawsOf (wsV RX5 132 RX5 yX5_slipsOfAll wsX5_slipsOfAll) := goodIn_app (goodIn_of _ (by decide +kernel)) ggX5_drawsOf_X5_slipsOfAll
set_option maxRecDepth 20000 in
theorem ggX5_drawsOf_X5_drawnOf : GoodIn wsX5_drawsOf wsX5_drawnOf := goodIn_r _ [23, 24, 31, 32, 33, 34, 35, 36, 37, 38, 39, 40, 41, 42, 43, 44, 45, 46, 47, 48, 49, 50, 51, 52, 53, 54] (by decide +kernel) (by decide +kernel)
set_option maxRecDepth 20000 in
theorem gX5_drawsOf_X5_drawnOf : GoodIn wsX5_drawsOf (wsV RX5 160 RX5 yX5_drawnOf wsX5_drawnOf) := goodIn_app (goodIn_of _ (by decide +kernel)) ggX5_drawsOf_X5_drawnOf
set_option maxRecDepth 20000 in
theorem ggX5_drawsOf_X5_waysOf : GoodIn wsX5_drawsOf wsX5_waysOf := goodIn_r _ [27] (by decide +kernel) (by decide +kernel)
set_option maxRecDepth 20000 in
theorem gX5_drawsOf_X5_waysOf : GoodIn wsX5_drawsOf (va_wsS RX5 163 yX5_waysOf wsX5_waysOf) := goodIn_app (goodIn_of _ (by decide +kernel)) ggX5_drawsOf_X5_waysOf
set_option maxRecDepth 20000 in
theorem ggX5_drawsOf_X5_bits : GoodIn wsX5_drawsOf wsX5_bits := goodIn_r _ [30] (by decide +kernel) (by decide +kernel)
set_option maxRecDepth 20000 in
theorem gX5_drawsOf_X5_bits : GoodIn wsX5_drawsOf (va_wsS RX5 139 yX5_bits wsX5_bits) := goodIn_app (goodIn_of _ (by decide +kernel)) ggX5_drawsOf_X5_bits
theorem dX5_drawsOf_0 : decode cX5_drawsOf 0 = .ok (.aload_n 0, 1) := by decide +kernel
theorem dX5_drawsOf_1 : decode cX5_drawsOf 1 = .ok (.invokevirtual 145, 3) := by decide +kernel
theorem dX5_drawsOf_4 : decode cX5_drawsOf 4 = .ok (.iload_n 1, 1) := by decide +kernel
theorem dX5_drawsOf_5 : decode cX5_drawsOf 5 = .ok (.iconst (-1), 1) := by decide +kernel
theorem dX5_drawsOf_6 : decode cX5_drawsOf 6 = .ok (.ixor, 1) := by decide +kernel
theorem dX5_drawsOf_7 : decode cX5_drawsOf 7 = .ok (.iand, 1) := by decide +kernel
theorem dX5_drawsOf_8 : decode cX5_drawsOf 8 = .ok (.istore_n 2, 1) := by decide +kernel
theorem dX5_drawsOf_9 : decode cX5_drawsOf 9 = .ok (.aload_n 0, 1) := by decide +kernel
theorem dX5_drawsOf_10 : decode cX5_drawsOf 10 = .ok (.aload_n 0, 1) := by decide +kernel
theorem dX5_drawsOf_11 : decode cX5_drawsOf 11 = .ok (.aload_n 0, 1) := by decide +kernel
theorem dX5_drawsOf_12 : decode cX5_drawsOf 12 = .ok (.invokevirtual 145, 3) := by decide +kernel
theorem dX5_drawsOf_15 : decode cX5_drawsOf 15 = .ok (.invokevirtual 132, 3) := by decide +kernel
theorem dX5_drawsOf_18 : decode cX5_drawsOf 18 = .ok (.invokevirtual 160, 3) := by decide +kernel
theorem dX5_drawsOf_21 : decode cX5_drawsOf 21 = .ok (.istore_n 3, 1) := by decide +kernel
theorem dX5_drawsOf_22 : decode cX5_drawsOf 22 = .ok (.lconst 0, 1) := by decide +kernel
theorem dX5_drawsOf_23 : decode cX5_drawsOf 23 = .ok (.lstore 4, 2) := by decide +kernel
theorem dX5_drawsOf_25 : decode cX5_drawsOf 25 = .ok (.iconst 0, 1) := by decide +kernel
theorem dX5_drawsOf_26 : decode cX5_drawsOf 26 = .ok (.istore 6, 2) := by decide +kernel
theorem dX5_drawsOf_28 : decode cX5_drawsOf 28 = .ok (.iload 6, 2) := by decide +kernel
theorem dX5_drawsOf_30 : decode cX5_drawsOf 30 = .ok (.iload_n 2, 1) := by decide +kernel
theorem dX5_drawsOf_31 : decode cX5_drawsOf 31 = .ok (.if_icmp .gt 57, 3) := by decide +kernel
theorem dX5_drawsOf_34 : decode cX5_drawsOf 34 = .ok (.iload 6, 2) := by decide +kernel
theorem dX5_drawsOf_36 : decode cX5_drawsOf 36 = .ok (.iload_n 2, 1) := by decide +kernel
theorem dX5_drawsOf_37 : decode cX5_drawsOf 37 = .ok (.iconst (-1), 1) := by decide +kernel
theorem dX5_drawsOf_38 : decode cX5_drawsOf 38 = .ok (.ixor, 1) := by decide +kernel
theorem dX5_drawsOf_39 : decode cX5_drawsOf 39 = .ok (.iand, 1) := by decide +kernel
theorem dX5_drawsOf_40 : decode cX5_drawsOf 40 = .ok (.ifCond .ne 42, 3) := by decide +kernel
theorem dX5_drawsOf_43 : decode cX5_drawsOf 43 = .ok (.aload_n 0, 1) := by decide +kernel
theorem dX5_drawsOf_44 : decode cX5_drawsOf 44 = .ok (.iload 6, 2) := by decide +kernel
theorem dX5_drawsOf_46 : decode cX5_drawsOf 46 = .ok (.invokevirtual 132, 3) := by decide +kernel
theorem dX5_drawsOf_49 : decode cX5_drawsOf 49 = .ok (.iload_n 3, 1) := by decide +kernel
theorem dX5_drawsOf_50 : decode cX5_drawsOf 50 = .ok (.invokestatic 163, 3) := by decide +kernel
theorem dX5_drawsOf_53 : decode cX5_drawsOf 53 = .ok (.lstore 7, 2) := by decide +kernel
theorem dX5_drawsOf_55 : decode cX5_drawsOf 55 = .ok (.lload 4, 2) := by decide +kernel
theorem dX5_drawsOf_57 : decode cX5_drawsOf 57 = .ok (.iload_n 2, 1) := by decide +kernel
theorem dX5_drawsOf_58 : decode cX5_drawsOf 58 = .ok (.iload 6, 2) := by decide +kernel
theorem dX5_drawsOf_60 : decode cX5_drawsOf 60 = .ok (.iconst (-1), 1) := by decide +kernel
theorem dX5_drawsOf_61 : decode cX5_drawsOf 61 = .ok (.ixor, 1) := by decide +kernel
theorem dX5_drawsOf_62 : decode cX5_drawsOf 62 = .ok (.iand, 1) := by decide +kernel
theorem dX5_drawsOf_63 : decode cX5_drawsOf 63 = .ok (.invokestatic 139, 3) := by decide +kernel
theorem dX5_drawsOf_66 : decode cX5_drawsOf 66 = .ok (.iconst 2, 1) := by decide +kernel
theorem dX5_drawsOf_67 : decode cX5_drawsOf 67 = .ok (.irem, 1) := by decide +kernel
theorem dX5_drawsOf_68 : decode cX5_drawsOf 68 = .ok (.ifCond .ne 8, 3) := by decide +kernel
theorem dX5_drawsOf_71 : decode cX5_drawsOf 71 = .ok (.lload 7, 2) := by decide +kernel
theorem dX5_drawsOf_73 : decode cX5_drawsOf 73 = .ok (.goto 6, 3) := by decide +kernel
theorem dX5_drawsOf_76 : decode cX5_drawsOf 76 = .ok (.lload 7, 2) := by decide +kernel
theorem dX5_drawsOf_78 : decode cX5_drawsOf 78 = .ok (.lneg, 1) := by decide +kernel
theorem dX5_drawsOf_79 : decode cX5_drawsOf 79 = .ok (.ladd, 1) := by decide +kernel
theorem dX5_drawsOf_80 : decode cX5_drawsOf 80 = .ok (.lstore 4, 2) := by decide +kernel
theorem dX5_drawsOf_82 : decode cX5_drawsOf 82 = .ok (.iinc 6 1, 3) := by decide +kernel
theorem dX5_drawsOf_85 : decode cX5_drawsOf 85 = .ok (.goto (-57), 3) := by decide +kernel
theorem dX5_drawsOf_88 : decode cX5_drawsOf 88 = .ok (.lload 4, 2) := by decide +kernel
theorem dX5_drawsOf_90 : decode cX5_drawsOf 90 = .ok (.lreturn, 1) := by decide +kernel
set_option maxRecDepth 20000 in
theorem ggX5_drawsWithout_X5_everybody : GoodIn wsX5_drawsWithout wsX5_everybody := goodIn_r _ [5, 6, 28, 29, 30, 31, 32, 33, 34, 35, 36, 37, 38, 39, 40, 41, 42, 43, 44, 45, 46, 47, 48, 49, 50, 51] (by decide +kernel) (by decide +kernel)
set_option maxRecDepth 20000 in
theorem gX5_drawsWithout_X5_everybody : GoodIn wsX5_drawsWithout (wsV RX5 145 RX5 yX5_everybody wsX5_everybody) := goodIn_app (goodIn_of _ (by decide +kernel)) ggX5_drawsWithout_X5_everybody
set_option maxRecDepth 20000 in
theorem ggX5_drawsWithout_X5_slipsOfAll : GoodIn wsX5_drawsWithout wsX5_slipsOfAll := goodIn_r _ [10, 6, 11, 12, 4, 13, 14, 15, 16, 17, 18, 19, 28, 29, 30, 31, 32, 33, 34, 35, 36, 37, 38, 39, 40, 41, 42, 43, 44, 45, 46, 47, 48, 49, 50, 51] (by decide +kernel) (by decide +kernel)
set_option maxRecDepth 20000 in
theorem gX5_drawsWithout_X5_slipsOfAll : GoodIn wsX5_drawsWithout (wsV RX5 132 RX5 yX5_slipsOfAll wsX5_slipsOfAll) := goodIn_app (goodIn_of _ (by decide +kernel)) ggX5_drawsWithout_X5_slipsOfAll
set_option maxRecDepth 20000 in
theorem ggX5_drawsWithout_X5_slipsOf : GoodIn wsX5_drawsWithout wsX5_slipsOf := goodIn_r _ [17, 18, 19, 28, 29, 30, 31, 32, 33, 34, 35, 36, 37, 38, 39, 40, 41, 42, 43, 44, 45, 46, 47, 48, 49, 50, 51] (by decide +kernel) (by decide +kernel)
set_option maxRecDepth 20000 in
theorem gX5_drawsWithout_X5_slipsOf : GoodIn wsX5_drawsWithout (wsV RX5 126 RX5 yX5_slipsOf wsX5_slipsOf) := goodIn_app (goodIn_of _ (by decide +kernel)) ggX5_drawsWithout_X5_slipsOf
set_option maxRecDepth 20000 in
theorem ggX5_drawsWithout_X5_drawnOf : GoodIn wsX5_drawsWithout wsX5_drawnOf := goodIn_r _ [23, 24, 28, 29, 30, 31, 32, 33, 34, 35, 36, 37, 38, 39, 40, 41, 42, 43, 44, 45, 46, 47, 48, 49, 50, 51] (by decide +kernel) (by decide +kernel)
set_option maxRecDepth 20000 in
theorem gX5_drawsWithout_X5_drawnOf : GoodIn wsX5_drawsWithout (wsV RX5 160 RX5 yX5_drawnOf wsX5_drawnOf) := goodIn_app (goodIn_of _ (by decide +kernel)) ggX5_drawsWithout_X5_drawnOf
set_option maxRecDepth 20000 in
theorem ggX5_drawsWithout_X5_waysOf : GoodIn wsX5_drawsWithout wsX5_waysOf := goodIn_r _ [27] (by decide +kernel) (by decide +kernel)
set_option maxRecDepth 20000 in
theorem gX5_drawsWithout_X5_waysOf : GoodIn wsX5_drawsWithout (va_wsS RX5 163 yX5_waysOf wsX5_waysOf) := goodIn_app (goodIn_of _ (by decide +kernel)) ggX5_drawsWithout_X5_waysOf
theorem dX5_drawsWithout_0 : decode cX5_drawsWithout 0 = .ok (.aload_n 0, 1) := by decide +kernel
theorem dX5_drawsWithout_1 : decode cX5_drawsWithout 1 = .ok (.aload_n 0, 1) := by decide +kernel
theorem dX5_drawsWithout_2 : decode cX5_drawsWithout 2 = .ok (.invokevirtual 145, 3) := by decide +kernel
theorem dX5_drawsWithout_5 : decode cX5_drawsWithout 5 = .ok (.invokevirtual 132, 3) := by decide +kernel
theorem dX5_drawsWithout_8 : decode cX5_drawsWithout 8 = .ok (.istore_n 2, 1) := by decide +kernel
theorem dX5_drawsWithout_9 : decode cX5_drawsWithout 9 = .ok (.iload_n 2, 1) := by decide +kernel
theorem dX5_drawsWithout_10 : decode cX5_drawsWithout 10 = .ok (.aload_n 0, 1) := by decide +kernel
theorem dX5_drawsWithout_11 : decode cX5_drawsWithout 11 = .ok (.iload_n 1, 1) := by decide +kernel
theorem dX5_drawsWithout_12 : decode cX5_drawsWithout 12 = .ok (.invokevirtual 126, 3) := by decide +kernel
theorem dX5_drawsWithout_15 : decode cX5_drawsWithout 15 = .ok (.isub, 1) := by decide +kernel
theorem dX5_drawsWithout_16 : decode cX5_drawsWithout 16 = .ok (.aload_n 0, 1) := by decide +kernel
theorem dX5_drawsWithout_17 : decode cX5_drawsWithout 17 = .ok (.iload_n 2, 1) := by decide +kernel
theorem dX5_drawsWithout_18 : decode cX5_drawsWithout 18 = .ok (.invokevirtual 160, 3) := by decide +kernel
theorem dX5_drawsWithout_21 : decode cX5_drawsWithout 21 = .ok (.invokestatic 163, 3) := by decide +kernel
theorem dX5_drawsWithout_24 : decode cX5_drawsWithout 24 = .ok (.lreturn, 1) := by decide +kernel
set_option maxRecDepth 20000 in
theorem ggX5_rules_X5_noCitizen : GoodIn wsX5_rules wsX5_noCitizen := goodIn_r _ [5, 6, 7, 8, 4, 9, 50, 51, 52, 53, 54, 55, 56, 57, 58, 59, 60, 61, 62, 63, 64, 65, 66, 67, 68, 69, 70, 71, 72, 73] (by decide +kernel) (by decide +kernel)
set_option maxRecDepth 20000 in
theorem gX5_rules_X5_noCitizen : GoodIn wsX5_rules (wsV RX5 129 RX5 yX5_noCitizen wsX5_noCitizen) := goodIn_app (goodIn_of _ (by decide +kernel)) ggX5_rules_X5_noCitizen
set_option maxRecDepth 20000 in
theorem ggX5_rules_X5_in : GoodIn wsX5_rules wsX5_in := goodIn_r _ [9] (by decide +kernel) (by decide +kernel)
set_option maxRecDepth 20000 in
theorem gX5_rules_X5_in : GoodIn wsX5_rules (va_wsS RX5 56 yX5_in wsX5_in) := goodIn_app (goodIn_of _ (by decide +kernel)) ggX5_rules_X5_in
set_option maxRecDepth 20000 in
theorem ggX5_rules_X5_lost : GoodIn wsX5_rules wsX5_lost := goodIn_r _ [12, 13] (by decide +kernel) (by decide +kernel)
set_option maxRecDepth 20000 in
theorem gX5_rules_X5_lost : GoodIn wsX5_rules (va_wsS RX5 49 yX5_lost wsX5_lost) := goodIn_app (goodIn_of _ (by decide +kernel)) ggX5_rules_X5_lost
set_option maxRecDepth 20000 in
theorem ggX5_rules_X5_drawsWithout : GoodIn wsX5_rules wsX5_drawsWithout := goodIn_r _ [17, 18, 19, 20, 4, 21, 6, 22, 23, 24, 25, 26, 27, 28, 29, 30, 31, 32, 33, 34, 35, 36, 37, 38, 39, 40, 41, 42, 50, 51, 52, 53, 54, 55, 56, 57, 58, 59, 60, 61, 62, 63, 64, 65, 66, 67, 68, 69, 70, 71, 72, 73] (by decide +kernel) (by decide +kernel)
set_option maxRecDepth 20000 in
theorem gX5_rules_X5_drawsWithout : GoodIn wsX5_rules (wsV RX5 167 RX5 yX5_drawsWithout wsX5_drawsWithout) := goodIn_app (goodIn_of _ (by decide +kernel)) ggX5_rules_X5_drawsWithout
set_option maxRecDepth 20000 in
theorem ggX5_rules_X5_allDraws : GoodIn wsX5_rules wsX5_allDraws := goodIn_r _ [46, 18, 19, 20, 4, 21, 6, 22, 23, 24, 25, 26, 27, 28, 29, 30, 31, 32, 33, 34, 35, 36, 37, 38, 39, 40, 41, 42, 50, 51, 52, 53, 54, 55, 56, 57, 58, 59, 60, 61, 62, 63, 64, 65, 66, 67, 68, 69, 70, 71, 72, 73] (by decide +kernel) (by decide +kernel)
set_option maxRecDepth 20000 in
theorem gX5_rules_X5_allDraws : GoodIn wsX5_rules (wsV RX5 171 RX5 yX5_allDraws wsX5_allDraws) := goodIn_app (goodIn_of _ (by decide +kernel)) ggX5_rules_X5_allDraws
set_option maxRecDepth 20000 in
theorem ggX5_rules_X5_share : GoodIn wsX5_rules wsX5_share := goodIn_r _ [49] (by decide +kernel) (by decide +kernel)
set_option maxRecDepth 20000 in
theorem gX5_rules_X5_share : GoodIn wsX5_rules (va_wsS RX5 174 yX5_share wsX5_share) := goodIn_app (goodIn_of _ (by decide +kernel)) ggX5_rules_X5_share
theorem dX5_rules_0 : decode cX5_rules 0 = .ok (.aload_n 0, 1) := by decide +kernel
theorem dX5_rules_1 : decode cX5_rules 1 = .ok (.iload_n 1, 1) := by decide +kernel
theorem dX5_rules_2 : decode cX5_rules 2 = .ok (.invokevirtual 129, 3) := by decide +kernel
theorem dX5_rules_5 : decode cX5_rules 5 = .ok (.ifCond .ne 13, 3) := by decide +kernel
theorem dX5_rules_8 : decode cX5_rules 8 = .ok (.iload_n 2, 1) := by decide +kernel
theorem dX5_rules_9 : decode cX5_rules 9 = .ok (.i2l, 1) := by decide +kernel
theorem dX5_rules_10 : decode cX5_rules 10 = .ok (.lconst 0, 1) := by decide +kernel
theorem dX5_rules_11 : decode cX5_rules 11 = .ok (.lconst 1, 1) := by decide +kernel
theorem dX5_rules_12 : decode cX5_rules 12 = .ok (.invokestatic 56, 3) := by decide +kernel
theorem dX5_rules_15 : decode cX5_rules 15 = .ok (.ifCond .ne 9, 3) := by decide +kernel
theorem dX5_rules_18 : decode cX5_rules 18 = .ok (.invokestatic 49, 3) := by decide +kernel
theorem dX5_rules_21 : decode cX5_rules 21 = .ok (.goto 16, 3) := by decide +kernel
theorem dX5_rules_24 : decode cX5_rules 24 = .ok (.aload_n 0, 1) := by decide +kernel
theorem dX5_rules_25 : decode cX5_rules 25 = .ok (.iload_n 1, 1) := by decide +kernel
theorem dX5_rules_26 : decode cX5_rules 26 = .ok (.invokevirtual 167, 3) := by decide +kernel
theorem dX5_rules_29 : decode cX5_rules 29 = .ok (.aload_n 0, 1) := by decide +kernel
theorem dX5_rules_30 : decode cX5_rules 30 = .ok (.invokevirtual 171, 3) := by decide +kernel
theorem dX5_rules_33 : decode cX5_rules 33 = .ok (.iload_n 2, 1) := by decide +kernel
theorem dX5_rules_34 : decode cX5_rules 34 = .ok (.invokestatic 174, 3) := by decide +kernel
theorem dX5_rules_37 : decode cX5_rules 37 = .ok (.lreturn, 1) := by decide +kernel
set_option maxRecDepth 20000 in
theorem ggX5_just_X5_everybody : GoodIn wsX5_just wsX5_everybody := goodIn_r _ [6, 1, 49, 50, 51, 52, 53, 54, 55, 56, 57, 58, 59, 60, 61, 62, 63, 64, 65, 66, 67, 68, 69, 70, 71, 72] (by decide +kernel) (by decide +kernel)
set_option maxRecDepth 20000 in
theorem gX5_just_X5_everybody : GoodIn wsX5_just (wsV RX5 145 RX5 yX5_everybody wsX5_everybody) := goodIn_app (goodIn_of _ (by decide +kernel)) ggX5_just_X5_everybody
set_option maxRecDepth 20000 in
theorem ggX5_just_X5_in : GoodIn wsX5_just wsX5_in := goodIn_r _ [9] (by decide +kernel) (by decide +kernel)
set_option maxRecDepth 20000 in
theorem gX5_just_X5_in : GoodIn wsX5_just (va_wsS RX5 56 yX5_in wsX5_in) := goodIn_app (goodIn_of _ (by decide +kernel)) ggX5_just_X5_in
set_option maxRecDepth 20000 in
theorem ggX5_just_X5_lost : GoodIn wsX5_just wsX5_lost := goodIn_r _ [12, 13] (by decide +kernel) (by decide +kernel)
set_option maxRecDepth 20000 in
theorem gX5_just_X5_lost : GoodIn wsX5_just (va_wsS RX5 49 yX5_lost wsX5_lost) := goodIn_app (goodIn_of _ (by decide +kernel)) ggX5_just_X5_lost
set_option maxRecDepth 20000 in
theorem ggX5_just_X5_drawsOf : GoodIn wsX5_just wsX5_drawsOf := goodIn_r _ [17, 2, 3, 4, 5, 6, 1, 18, 19, 20, 21, 22, 23, 24, 25, 26, 27, 28, 29, 30, 31, 32, 33, 34, 35, 36, 37, 38, 39, 40, 41, 49, 50, 51, 52, 53, 54, 55, 56, 57, 58, 59, 60, 61, 62, 63, 64, 65, 66, 67, 68, 69, 70, 71, 72] (by decide +kernel) (by decide +kernel)
set_option maxRecDepth 20000 in
theorem gX5_just_X5_drawsOf : GoodIn wsX5_just (wsV RX5 178 RX5 yX5_drawsOf wsX5_drawsOf) := goodIn_app (goodIn_of _ (by decide +kernel)) ggX5_just_X5_drawsOf
set_option maxRecDepth 20000 in
theorem ggX5_just_X5_allDraws : GoodIn wsX5_just wsX5_allDraws := goodIn_r _ [45, 2, 3, 4, 5, 6, 1, 18, 19, 20, 21, 22, 23, 24, 25, 26, 27, 28, 29, 30, 31, 32, 33, 34, 35, 36, 37, 38, 49, 50, 51, 52, 53, 54, 55, 56, 57, 58, 59, 60, 61, 62, 63, 64, 65, 66, 67, 68, 69, 70, 71, 72] (by decide +kernel) (by decide +kernel)
set_option maxRecDepth 20000 in
theorem gX5_just_X5_allDraws : GoodIn wsX5_just (wsV RX5 171 RX5 yX5_allDraws wsX5_allDraws) := goodIn_app (goodIn_of _ (by decide +kernel)) ggX5_just_X5_allDraws
set_option maxRecDepth 20000 in
theorem ggX5_just_X5_share : GoodIn wsX5_just wsX5_share := goodIn_r _ [48] (by decide +kernel) (by decide +kernel)
set_option maxRecDepth 20000 in
theorem gX5_just_X5_share : GoodIn wsX5_just (va_wsS RX5 174 yX5_share wsX5_share) := goodIn_app (goodIn_of _ (by decide +kernel)) ggX5_just_X5_share
theorem dX5_just_0 : decode cX5_just 0 = .ok (.aload_n 0, 1) := by decide +kernel
theorem dX5_just_1 : decode cX5_just 1 = .ok (.getfield 53, 3) := by decide +kernel
theorem dX5_just_4 : decode cX5_just 4 = .ok (.ifCond .eq 27, 3) := by decide +kernel
theorem dX5_just_7 : decode cX5_just 7 = .ok (.iload_n 1, 1) := by decide +kernel
theorem dX5_just_8 : decode cX5_just 8 = .ok (.i2l, 1) := by decide +kernel
theorem dX5_just_9 : decode cX5_just 9 = .ok (.lconst 0, 1) := by decide +kernel
theorem dX5_just_10 : decode cX5_just 10 = .ok (.aload_n 0, 1) := by decide +kernel
theorem dX5_just_11 : decode cX5_just 11 = .ok (.invokevirtual 145, 3) := by decide +kernel
theorem dX5_just_14 : decode cX5_just 14 = .ok (.i2l, 1) := by decide +kernel
theorem dX5_just_15 : decode cX5_just 15 = .ok (.invokestatic 56, 3) := by decide +kernel
theorem dX5_just_18 : decode cX5_just 18 = .ok (.ifCond .eq 13, 3) := by decide +kernel
theorem dX5_just_21 : decode cX5_just 21 = .ok (.iload_n 2, 1) := by decide +kernel
theorem dX5_just_22 : decode cX5_just 22 = .ok (.i2l, 1) := by decide +kernel
theorem dX5_just_23 : decode cX5_just 23 = .ok (.lconst 0, 1) := by decide +kernel
theorem dX5_just_24 : decode cX5_just 24 = .ok (.lconst 1, 1) := by decide +kernel
theorem dX5_just_25 : decode cX5_just 25 = .ok (.invokestatic 56, 3) := by decide +kernel
theorem dX5_just_28 : decode cX5_just 28 = .ok (.ifCond .ne 7, 3) := by decide +kernel
theorem dX5_just_31 : decode cX5_just 31 = .ok (.invokestatic 49, 3) := by decide +kernel
theorem dX5_just_34 : decode cX5_just 34 = .ok (.lreturn, 1) := by decide +kernel
theorem dX5_just_35 : decode cX5_just 35 = .ok (.aload_n 0, 1) := by decide +kernel
theorem dX5_just_36 : decode cX5_just 36 = .ok (.iload_n 1, 1) := by decide +kernel
theorem dX5_just_37 : decode cX5_just 37 = .ok (.invokevirtual 178, 3) := by decide +kernel
theorem dX5_just_40 : decode cX5_just 40 = .ok (.aload_n 0, 1) := by decide +kernel
theorem dX5_just_41 : decode cX5_just 41 = .ok (.invokevirtual 171, 3) := by decide +kernel
theorem dX5_just_44 : decode cX5_just 44 = .ok (.iload_n 2, 1) := by decide +kernel
theorem dX5_just_45 : decode cX5_just 45 = .ok (.invokestatic 174, 3) := by decide +kernel
theorem dX5_just_48 : decode cX5_just 48 = .ok (.lreturn, 1) := by decide +kernel
set_option maxRecDepth 20000 in
theorem ggX5_mean_X5_in : GoodIn wsX5_mean wsX5_in := goodIn_r _ [5] (by decide +kernel) (by decide +kernel)
set_option maxRecDepth 20000 in
theorem gX5_mean_X5_in : GoodIn wsX5_mean (va_wsS RX5 56 yX5_in wsX5_in) := goodIn_app (goodIn_of _ (by decide +kernel)) ggX5_mean_X5_in
set_option maxRecDepth 20000 in
theorem ggX5_mean_X5_lost : GoodIn wsX5_mean wsX5_lost := goodIn_r _ [8, 9] (by decide +kernel) (by decide +kernel)
set_option maxRecDepth 20000 in
theorem gX5_mean_X5_lost : GoodIn wsX5_mean (va_wsS RX5 49 yX5_lost wsX5_lost) := goodIn_app (goodIn_of _ (by decide +kernel)) ggX5_mean_X5_lost
set_option maxRecDepth 20000 in
theorem ggX5_mean_X5_drawsWithout : GoodIn wsX5_mean wsX5_drawsWithout := goodIn_r _ [13, 14, 15, 16, 4, 17, 1, 18, 19, 20, 21, 22, 23, 24, 25, 26, 27, 28, 29, 30, 31, 32, 33, 34, 35, 36, 37, 38, 46, 47, 48, 49, 50, 51, 52, 53, 54, 55, 56, 57, 58, 59, 60, 61, 62, 63, 64, 65, 66, 67, 68, 69] (by decide +kernel) (by decide +kernel)
set_option maxRecDepth 20000 in
theorem gX5_mean_X5_drawsWithout : GoodIn wsX5_mean (wsV RX5 167 RX5 yX5_drawsWithout wsX5_drawsWithout) := goodIn_app (goodIn_of _ (by decide +kernel)) ggX5_mean_X5_drawsWithout
set_option maxRecDepth 20000 in
theorem ggX5_mean_X5_allDraws : GoodIn wsX5_mean wsX5_allDraws := goodIn_r _ [42, 14, 15, 16, 4, 17, 1, 18, 19, 20, 21, 22, 23, 24, 25, 26, 27, 28, 29, 30, 31, 32, 33, 34, 35, 36, 37, 38, 46, 47, 48, 49, 50, 51, 52, 53, 54, 55, 56, 57, 58, 59, 60, 61, 62, 63, 64, 65, 66, 67, 68, 69] (by decide +kernel) (by decide +kernel)
set_option maxRecDepth 20000 in
theorem gX5_mean_X5_allDraws : GoodIn wsX5_mean (wsV RX5 171 RX5 yX5_allDraws wsX5_allDraws) := goodIn_app (goodIn_of _ (by decide +kernel)) ggX5_mean_X5_allDraws
set_option maxRecDepth 20000 in
theorem ggX5_mean_X5_share : GoodIn wsX5_mean wsX5_share := goodIn_r _ [45] (by decide +kernel) (by decide +kernel)
set_option maxRecDepth 20000 in
theorem gX5_mean_X5_share : GoodIn wsX5_mean (va_wsS RX5 174 yX5_share wsX5_share) := goodIn_app (goodIn_of _ (by decide +kernel)) ggX5_mean_X5_share
theorem dX5_mean_0 : decode cX5_mean 0 = .ok (.aload_n 0, 1) := by decide +kernel
theorem dX5_mean_1 : decode cX5_mean 1 = .ok (.getfield 53, 3) := by decide +kernel
theorem dX5_mean_4 : decode cX5_mean 4 = .ok (.ifCond .eq 13, 3) := by decide +kernel
theorem dX5_mean_7 : decode cX5_mean 7 = .ok (.iload_n 1, 1) := by decide +kernel
theorem dX5_mean_8 : decode cX5_mean 8 = .ok (.i2l, 1) := by decide +kernel
theorem dX5_mean_9 : decode cX5_mean 9 = .ok (.lconst 0, 1) := by decide +kernel
theorem dX5_mean_10 : decode cX5_mean 10 = .ok (.lconst 1, 1) := by decide +kernel
theorem dX5_mean_11 : decode cX5_mean 11 = .ok (.invokestatic 56, 3) := by decide +kernel
theorem dX5_mean_14 : decode cX5_mean 14 = .ok (.ifCond .ne 7, 3) := by decide +kernel
theorem dX5_mean_17 : decode cX5_mean 17 = .ok (.invokestatic 49, 3) := by decide +kernel
theorem dX5_mean_20 : decode cX5_mean 20 = .ok (.lreturn, 1) := by decide +kernel
theorem dX5_mean_21 : decode cX5_mean 21 = .ok (.lconst 0, 1) := by decide +kernel
theorem dX5_mean_22 : decode cX5_mean 22 = .ok (.lstore_n 2, 1) := by decide +kernel
theorem dX5_mean_23 : decode cX5_mean 23 = .ok (.iconst 0, 1) := by decide +kernel
theorem dX5_mean_24 : decode cX5_mean 24 = .ok (.istore 4, 2) := by decide +kernel
theorem dX5_mean_26 : decode cX5_mean 26 = .ok (.iload 4, 2) := by decide +kernel
theorem dX5_mean_28 : decode cX5_mean 28 = .ok (.aload_n 0, 1) := by decide +kernel
theorem dX5_mean_29 : decode cX5_mean 29 = .ok (.getfield 53, 3) := by decide +kernel
theorem dX5_mean_32 : decode cX5_mean 32 = .ok (.if_icmp .ge 18, 3) := by decide +kernel
theorem dX5_mean_35 : decode cX5_mean 35 = .ok (.lload_n 2, 1) := by decide +kernel
theorem dX5_mean_36 : decode cX5_mean 36 = .ok (.aload_n 0, 1) := by decide +kernel
theorem dX5_mean_37 : decode cX5_mean 37 = .ok (.iload 4, 2) := by decide +kernel
theorem dX5_mean_39 : decode cX5_mean 39 = .ok (.invokevirtual 167, 3) := by decide +kernel
theorem dX5_mean_42 : decode cX5_mean 42 = .ok (.ladd, 1) := by decide +kernel
theorem dX5_mean_43 : decode cX5_mean 43 = .ok (.lstore_n 2, 1) := by decide +kernel
theorem dX5_mean_44 : decode cX5_mean 44 = .ok (.iinc 4 1, 3) := by decide +kernel
theorem dX5_mean_47 : decode cX5_mean 47 = .ok (.goto (-21), 3) := by decide +kernel
theorem dX5_mean_50 : decode cX5_mean 50 = .ok (.lload_n 2, 1) := by decide +kernel
theorem dX5_mean_51 : decode cX5_mean 51 = .ok (.aload_n 0, 1) := by decide +kernel
theorem dX5_mean_52 : decode cX5_mean 52 = .ok (.invokevirtual 171, 3) := by decide +kernel
theorem dX5_mean_55 : decode cX5_mean 55 = .ok (.iload_n 1, 1) := by decide +kernel
theorem dX5_mean_56 : decode cX5_mean 56 = .ok (.invokestatic 174, 3) := by decide +kernel
theorem dX5_mean_59 : decode cX5_mean 59 = .ok (.lreturn, 1) := by decide +kernel
set_option maxRecDepth 20000 in
theorem ggX5_passingDraws_X5_everybody : GoodIn wsX5_passingDraws wsX5_everybody := goodIn_r _ [5, 6, 40, 41, 42, 43, 44, 45, 46, 47, 48, 49, 50, 51, 52, 53, 54, 55, 56, 57, 58, 59, 60, 61, 62, 63] (by decide +kernel) (by decide +kernel)
set_option maxRecDepth 20000 in
theorem gX5_passingDraws_X5_everybody : GoodIn wsX5_passingDraws (wsV RX5 145 RX5 yX5_everybody wsX5_everybody) := goodIn_app (goodIn_of _ (by decide +kernel)) ggX5_passingDraws_X5_everybody
set_option maxRecDepth 20000 in
theorem ggX5_passingDraws_X5_doesPass : GoodIn wsX5_passingDraws wsX5_doesPass := goodIn_r _ [10, 11, 12, 13, 4, 14, 40, 41, 42, 43, 44, 45, 46, 47, 48, 49, 50, 51, 52, 53, 54, 55, 56, 57, 58, 59, 60, 61, 62, 63] (by decide +kernel) (by decide +kernel)
set_option maxRecDepth 20000 in
theorem gX5_passingDraws_X5_doesPass : GoodIn wsX5_passingDraws (wsV RX5 157 RX5 yX5_doesPass wsX5_doesPass) := goodIn_app (goodIn_of _ (by decide +kernel)) ggX5_passingDraws_X5_doesPass
set_option maxRecDepth 20000 in
theorem ggX5_passingDraws_X5_drawsOf : GoodIn wsX5_passingDraws wsX5_drawsOf := goodIn_r _ [18, 1, 2, 3, 4, 5, 6, 19, 20, 21, 22, 23, 24, 25, 26, 27, 28, 29, 30, 31, 32, 33, 34, 35, 36, 37, 38, 39, 12, 13, 14, 40, 41, 42, 43, 44, 45, 46, 47, 48, 49, 50, 51, 52, 53, 54, 55, 56, 57, 58, 59, 60, 61, 62, 63] (by decide +kernel) (by decide +kernel)
set_option maxRecDepth 20000 in
theorem gX5_passingDraws_X5_drawsOf : GoodIn wsX5_passingDraws (wsV RX5 178 RX5 yX5_drawsOf wsX5_drawsOf) := goodIn_app (goodIn_of _ (by decide +kernel)) ggX5_passingDraws_X5_drawsOf
theorem dX5_passingDraws_0 : decode cX5_passingDraws 0 = .ok (.lconst 0, 1) := by decide +kernel
theorem dX5_passingDraws_1 : decode cX5_passingDraws 1 = .ok (.lstore_n 1, 1) := by decide +kernel
theorem dX5_passingDraws_2 : decode cX5_passingDraws 2 = .ok (.iconst 0, 1) := by decide +kernel
theorem dX5_passingDraws_3 : decode cX5_passingDraws 3 = .ok (.istore_n 3, 1) := by decide +kernel
theorem dX5_passingDraws_4 : decode cX5_passingDraws 4 = .ok (.iload_n 3, 1) := by decide +kernel
theorem dX5_passingDraws_5 : decode cX5_passingDraws 5 = .ok (.aload_n 0, 1) := by decide +kernel
theorem dX5_passingDraws_6 : decode cX5_passingDraws 6 = .ok (.invokevirtual 145, 3) := by decide +kernel
theorem dX5_passingDraws_9 : decode cX5_passingDraws 9 = .ok (.if_icmp .gt 29, 3) := by decide +kernel
theorem dX5_passingDraws_12 : decode cX5_passingDraws 12 = .ok (.lload_n 1, 1) := by decide +kernel
theorem dX5_passingDraws_13 : decode cX5_passingDraws 13 = .ok (.aload_n 0, 1) := by decide +kernel
theorem dX5_passingDraws_14 : decode cX5_passingDraws 14 = .ok (.iload_n 3, 1) := by decide +kernel
theorem dX5_passingDraws_15 : decode cX5_passingDraws 15 = .ok (.invokevirtual 157, 3) := by decide +kernel
theorem dX5_passingDraws_18 : decode cX5_passingDraws 18 = .ok (.ifCond .eq 11, 3) := by decide +kernel
theorem dX5_passingDraws_21 : decode cX5_passingDraws 21 = .ok (.aload_n 0, 1) := by decide +kernel
theorem dX5_passingDraws_22 : decode cX5_passingDraws 22 = .ok (.iload_n 3, 1) := by decide +kernel
theorem dX5_passingDraws_23 : decode cX5_passingDraws 23 = .ok (.invokevirtual 178, 3) := by decide +kernel
theorem dX5_passingDraws_26 : decode cX5_passingDraws 26 = .ok (.goto 4, 3) := by decide +kernel
theorem dX5_passingDraws_29 : decode cX5_passingDraws 29 = .ok (.lconst 0, 1) := by decide +kernel
theorem dX5_passingDraws_30 : decode cX5_passingDraws 30 = .ok (.ladd, 1) := by decide +kernel
theorem dX5_passingDraws_31 : decode cX5_passingDraws 31 = .ok (.lstore_n 1, 1) := by decide +kernel
theorem dX5_passingDraws_32 : decode cX5_passingDraws 32 = .ok (.iinc 3 1, 3) := by decide +kernel
theorem dX5_passingDraws_35 : decode cX5_passingDraws 35 = .ok (.goto (-31), 3) := by decide +kernel
theorem dX5_passingDraws_38 : decode cX5_passingDraws 38 = .ok (.lload_n 1, 1) := by decide +kernel
theorem dX5_passingDraws_39 : decode cX5_passingDraws 39 = .ok (.lreturn, 1) := by decide +kernel
set_option maxRecDepth 20000 in
theorem ggX5_passes_X5_in : GoodIn wsX5_passes wsX5_in := goodIn_r _ [5] (by decide +kernel) (by decide +kernel)
set_option maxRecDepth 20000 in
theorem gX5_passes_X5_in : GoodIn wsX5_passes (va_wsS RX5 56 yX5_in wsX5_in) := goodIn_app (goodIn_of _ (by decide +kernel)) ggX5_passes_X5_in
set_option maxRecDepth 20000 in
theorem ggX5_passes_X5_lost : GoodIn wsX5_passes wsX5_lost := goodIn_r _ [8, 9] (by decide +kernel) (by decide +kernel)
set_option maxRecDepth 20000 in
theorem gX5_passes_X5_lost : GoodIn wsX5_passes (va_wsS RX5 49 yX5_lost wsX5_lost) := goodIn_app (goodIn_of _ (by decide +kernel)) ggX5_passes_X5_lost
set_option maxRecDepth 20000 in
theorem ggX5_passes_X5_passingDraws : GoodIn wsX5_passes wsX5_passingDraws := goodIn_r _ [13, 14, 15, 16, 4, 17, 1, 18, 19, 20, 21, 22, 23, 24, 25, 26, 27, 28, 29, 30, 31, 32, 33, 34, 35, 36, 37, 38, 39, 40, 41, 42, 43, 44, 45, 46, 47, 48, 49, 50, 58, 59, 60, 61, 62, 63, 64, 65, 66, 67, 68, 69, 70, 71, 72, 73, 74, 75, 76, 77, 78, 79, 80, 81] (by decide +kernel) (by decide +kernel)
set_option maxRecDepth 20000 in
theorem gX5_passes_X5_passingDraws : GoodIn wsX5_passes (wsV RX5 181 RX5 yX5_passingDraws wsX5_passingDraws) := goodIn_app (goodIn_of _ (by decide +kernel)) ggX5_passes_X5_passingDraws
set_option maxRecDepth 20000 in
theorem ggX5_passes_X5_allDraws : GoodIn wsX5_passes wsX5_allDraws := goodIn_r _ [54, 14, 15, 16, 4, 17, 1, 30, 31, 32, 33, 34, 35, 36, 37, 38, 39, 40, 41, 42, 43, 44, 45, 46, 47, 48, 49, 50, 58, 59, 60, 61, 62, 63, 64, 65, 66, 67, 68, 69, 70, 71, 72, 73, 74, 75, 76, 77, 78, 79, 80, 81] (by decide +kernel) (by decide +kernel)
set_option maxRecDepth 20000 in
theorem gX5_passes_X5_allDraws : GoodIn wsX5_passes (wsV RX5 171 RX5 yX5_allDraws wsX5_allDraws) := goodIn_app (goodIn_of _ (by decide +kernel)) ggX5_passes_X5_allDraws
set_option maxRecDepth 20000 in
theorem ggX5_passes_X5_share : GoodIn wsX5_passes wsX5_share := goodIn_r _ [57] (by decide +kernel) (by decide +kernel)
set_option maxRecDepth 20000 in
theorem gX5_passes_X5_share : GoodIn wsX5_passes (va_wsS RX5 174 yX5_share wsX5_share) := goodIn_app (goodIn_of _ (by decide +kernel)) ggX5_passes_X5_share
theorem dX5_passes_0 : decode cX5_passes 0 = .ok (.aload_n 0, 1) := by decide +kernel
theorem dX5_passes_1 : decode cX5_passes 1 = .ok (.getfield 53, 3) := by decide +kernel
theorem dX5_passes_4 : decode cX5_passes 4 = .ok (.ifCond .eq 13, 3) := by decide +kernel
theorem dX5_passes_7 : decode cX5_passes 7 = .ok (.iload_n 1, 1) := by decide +kernel
theorem dX5_passes_8 : decode cX5_passes 8 = .ok (.i2l, 1) := by decide +kernel
theorem dX5_passes_9 : decode cX5_passes 9 = .ok (.lconst 0, 1) := by decide +kernel
theorem dX5_passes_10 : decode cX5_passes 10 = .ok (.lconst 1, 1) := by decide +kernel
theorem dX5_passes_11 : decode cX5_passes 11 = .ok (.invokestatic 56, 3) := by decide +kernel
theorem dX5_passes_14 : decode cX5_passes 14 = .ok (.ifCond .ne 9, 3) := by decide +kernel
theorem dX5_passes_17 : decode cX5_passes 17 = .ok (.invokestatic 49, 3) := by decide +kernel
theorem dX5_passes_20 : decode cX5_passes 20 = .ok (.goto 15, 3) := by decide +kernel
theorem dX5_passes_23 : decode cX5_passes 23 = .ok (.aload_n 0, 1) := by decide +kernel
theorem dX5_passes_24 : decode cX5_passes 24 = .ok (.invokevirtual 181, 3) := by decide +kernel
theorem dX5_passes_27 : decode cX5_passes 27 = .ok (.aload_n 0, 1) := by decide +kernel
theorem dX5_passes_28 : decode cX5_passes 28 = .ok (.invokevirtual 171, 3) := by decide +kernel
theorem dX5_passes_31 : decode cX5_passes 31 = .ok (.iload_n 1, 1) := by decide +kernel
theorem dX5_passes_32 : decode cX5_passes 32 = .ok (.invokestatic 174, 3) := by decide +kernel
theorem dX5_passes_35 : decode cX5_passes 35 = .ok (.lreturn, 1) := by decide +kernel
