theorem dX9_who_61 : decode cX9_who 61 = .ok (.goto 7, 3) := by decide +kernel
theorem dX9_who_64 : decode cX9_who 64 = .ok (.iload_n 3, 1) := by decide +kernel
theorem dX9_who_65 : decode cX9_who 65 = .ok (.invokestatic 146, 3) := by decide +kernel
theorem dX9_who_68 : decode cX9_who 68 = .ok (.ireturn, 1) := by decide +kernel
set_option maxRecDepth 20000 in
theorem ggX9_gap_X6_gapAt : GoodIn wsX9_gap wsX6_gapAt := goodIn_r _ [5, 6, 7, 8, 9, 10, 11, 12, 13, 14, 4, 15, 16, 17, 18] (by decide +kernel) (by decide +kernel)
set_option maxRecDepth 20000 in
theorem gX9_gap_X6_gapAt_n149 : GoodIn wsX9_gap (wsX6_gapAt) := ggX9_gap_X6_gapAt
theorem dX9_gap_0 : decode cX9_gap 0 = .ok (.aload_n 0, 1) := by decide +kernel
theorem dX9_gap_1 : decode cX9_gap 1 = .ok (.getfield 53, 3) := by decide +kernel
theorem dX9_gap_4 : decode cX9_gap 4 = .ok (.aload_n 0, 1) := by decide +kernel
theorem dX9_gap_5 : decode cX9_gap 5 = .ok (.getfield 57, 3) := by decide +kernel
theorem dX9_gap_8 : decode cX9_gap 8 = .ok (.iload_n 1, 1) := by decide +kernel
theorem dX9_gap_9 : decode cX9_gap 9 = .ok (.invokestatic 149, 3) := by decide +kernel
theorem dX9_gap_12 : decode cX9_gap 12 = .ok (.ireturn, 1) := by decide +kernel
set_option maxRecDepth 20000 in
theorem ggX9_shared_X6_moved : GoodIn wsX9_shared wsX6_moved := goodIn_r _ [6, 7, 8, 5, 9, 10, 11, 12] (by decide +kernel) (by decide +kernel)
set_option maxRecDepth 20000 in
theorem gX9_shared_X6_moved_n152 : GoodIn wsX9_shared (wsX6_moved) := ggX9_shared_X6_moved
set_option maxRecDepth 20000 in
theorem ggX9_shared_J6_bitCount_0f7a4 : GoodIn wsX9_shared wsJ6_bitCount_0f7a4 := goodIn_r _ [16, 17, 18, 19] (by decide +kernel) (by decide +kernel)
set_option maxRecDepth 20000 in
theorem gX9_shared_J6_bitCount_0f7a4 : GoodIn wsX9_shared (va_wsS RX9 88 yJ6_bitCount_0f7a4 wsJ6_bitCount_0f7a4) := goodIn_app (goodIn_of _ (by decide +kernel)) ggX9_shared_J6_bitCount_0f7a4
theorem dX9_shared_0 : decode cX9_shared 0 = .ok (.iload_n 1, 1) := by decide +kernel
theorem dX9_shared_1 : decode cX9_shared 1 = .ok (.ifCond .lt 9, 3) := by decide +kernel
theorem dX9_shared_4 : decode cX9_shared 4 = .ok (.iload_n 1, 1) := by decide +kernel
theorem dX9_shared_5 : decode cX9_shared 5 = .ok (.bipush 23, 2) := by decide +kernel
theorem dX9_shared_7 : decode cX9_shared 7 = .ok (.if_icmp .le 6, 3) := by decide +kernel
theorem dX9_shared_10 : decode cX9_shared 10 = .ok (.ldc 66, 2) := by decide +kernel
theorem dX9_shared_12 : decode cX9_shared 12 = .ok (.ireturn, 1) := by decide +kernel
theorem dX9_shared_13 : decode cX9_shared 13 = .ok (.aload_n 0, 1) := by decide +kernel
theorem dX9_shared_14 : decode cX9_shared 14 = .ok (.getfield 57, 3) := by decide +kernel
theorem dX9_shared_17 : decode cX9_shared 17 = .ok (.aload_n 0, 1) := by decide +kernel
theorem dX9_shared_18 : decode cX9_shared 18 = .ok (.getfield 53, 3) := by decide +kernel
theorem dX9_shared_21 : decode cX9_shared 21 = .ok (.aload_n 0, 1) := by decide +kernel
theorem dX9_shared_22 : decode cX9_shared 22 = .ok (.getfield 57, 3) := by decide +kernel
theorem dX9_shared_25 : decode cX9_shared 25 = .ok (.iload_n 1, 1) := by decide +kernel
theorem dX9_shared_26 : decode cX9_shared 26 = .ok (.invokestatic 152, 3) := by decide +kernel
theorem dX9_shared_29 : decode cX9_shared 29 = .ok (.iand, 1) := by decide +kernel
theorem dX9_shared_30 : decode cX9_shared 30 = .ok (.invokestatic 88, 3) := by decide +kernel
theorem dX9_shared_33 : decode cX9_shared 33 = .ok (.ireturn, 1) := by decide +kernel
set_option maxRecDepth 20000 in
theorem ggX9_necklaces_X0_turned : GoodIn wsX9_necklaces wsX0_turned := goodIn_r _ [5, 6, 7, 4, 8, 9, 10, 11, 12, 13, 14, 15, 16, 17, 18, 19] (by decide +kernel) (by decide +kernel)
set_option maxRecDepth 20000 in
theorem gX9_necklaces_X0_turned_n155 : GoodIn wsX9_necklaces (wsX0_turned) := ggX9_necklaces_X0_turned
set_option maxRecDepth 20000 in
theorem ggX9_necklaces_X0_turnedOrMirrored : GoodIn wsX9_necklaces wsX0_turnedOrMirrored := goodIn_r _ [21, 6, 7, 4, 8, 9, 10, 11, 12, 13, 14, 15, 16, 17, 18, 19, 22, 23, 24, 25, 26, 27] (by decide +kernel) (by decide +kernel)
set_option maxRecDepth 20000 in
theorem gX9_necklaces_X0_turnedOrMirrored_n160 : GoodIn wsX9_necklaces (wsX0_turnedOrMirrored) := ggX9_necklaces_X0_turnedOrMirrored
theorem dX9_necklaces_0 : decode cX9_necklaces 0 = .ok (.iload_n 1, 1) := by decide +kernel
theorem dX9_necklaces_1 : decode cX9_necklaces 1 = .ok (.ifCond .lt 20, 3) := by decide +kernel
theorem dX9_necklaces_4 : decode cX9_necklaces 4 = .ok (.iload_n 1, 1) := by decide +kernel
theorem dX9_necklaces_5 : decode cX9_necklaces 5 = .ok (.aload_n 0, 1) := by decide +kernel
theorem dX9_necklaces_6 : decode cX9_necklaces 6 = .ok (.getfield 53, 3) := by decide +kernel
theorem dX9_necklaces_9 : decode cX9_necklaces 9 = .ok (.if_icmp .gt 12, 3) := by decide +kernel
theorem dX9_necklaces_12 : decode cX9_necklaces 12 = .ok (.iload_n 2, 1) := by decide +kernel
theorem dX9_necklaces_13 : decode cX9_necklaces 13 = .ok (.ifCond .lt 8, 3) := by decide +kernel
theorem dX9_necklaces_16 : decode cX9_necklaces 16 = .ok (.iload_n 2, 1) := by decide +kernel
theorem dX9_necklaces_17 : decode cX9_necklaces 17 = .ok (.iconst 1, 1) := by decide +kernel
theorem dX9_necklaces_18 : decode cX9_necklaces 18 = .ok (.if_icmp .le 6, 3) := by decide +kernel
theorem dX9_necklaces_21 : decode cX9_necklaces 21 = .ok (.ldc 66, 2) := by decide +kernel
theorem dX9_necklaces_23 : decode cX9_necklaces 23 = .ok (.ireturn, 1) := by decide +kernel
theorem dX9_necklaces_24 : decode cX9_necklaces 24 = .ok (.iload_n 2, 1) := by decide +kernel
theorem dX9_necklaces_25 : decode cX9_necklaces 25 = .ok (.ifCond .ne 14, 3) := by decide +kernel
theorem dX9_necklaces_28 : decode cX9_necklaces 28 = .ok (.aload_n 0, 1) := by decide +kernel
theorem dX9_necklaces_29 : decode cX9_necklaces 29 = .ok (.getfield 53, 3) := by decide +kernel
theorem dX9_necklaces_32 : decode cX9_necklaces 32 = .ok (.iload_n 1, 1) := by decide +kernel
theorem dX9_necklaces_33 : decode cX9_necklaces 33 = .ok (.invokestatic 155, 3) := by decide +kernel
theorem dX9_necklaces_36 : decode cX9_necklaces 36 = .ok (.goto 11, 3) := by decide +kernel
theorem dX9_necklaces_39 : decode cX9_necklaces 39 = .ok (.aload_n 0, 1) := by decide +kernel
theorem dX9_necklaces_40 : decode cX9_necklaces 40 = .ok (.getfield 53, 3) := by decide +kernel
theorem dX9_necklaces_43 : decode cX9_necklaces 43 = .ok (.iload_n 1, 1) := by decide +kernel
theorem dX9_necklaces_44 : decode cX9_necklaces 44 = .ok (.invokestatic 160, 3) := by decide +kernel
theorem dX9_necklaces_47 : decode cX9_necklaces 47 = .ok (.ireturn, 1) := by decide +kernel
set_option maxRecDepth 20000 in
theorem ggX9_kin_X9_isImage : GoodIn wsX9_kin wsX9_isImage := goodIn_r _ [10] (by decide +kernel) (by decide +kernel)
set_option maxRecDepth 20000 in
theorem gX9_kin_X9_isImage : GoodIn wsX9_kin (wsV RX9 163 RX9 yX9_isImage wsX9_isImage) := goodIn_app (goodIn_of _ (by decide +kernel)) ggX9_kin_X9_isImage
set_option maxRecDepth 20000 in
theorem ggX9_kin_X4_least : GoodIn wsX9_kin wsX4_least := goodIn_r _ [13, 14, 15, 12, 16, 17, 18, 19, 20, 21, 22, 23, 24, 25, 26, 27, 28, 29, 30, 31, 32, 33] (by decide +kernel) (by decide +kernel)
set_option maxRecDepth 20000 in
theorem gX9_kin_X4_least_n106 : GoodIn wsX9_kin (wsX4_least) := ggX9_kin_X4_least
set_option maxRecDepth 20000 in
theorem ggX9_kin_X6_inverted : GoodIn wsX9_kin wsX6_inverted := goodIn_r _ [35, 31, 32, 18, 33] (by decide +kernel) (by decide +kernel)
set_option maxRecDepth 20000 in
theorem gX9_kin_X6_inverted_n173 : GoodIn wsX9_kin (wsX6_inverted) := ggX9_kin_X6_inverted
set_option maxRecDepth 20000 in
theorem ggX9_kin_X6_mirrored : GoodIn wsX9_kin wsX6_mirrored := goodIn_r _ [37, 38, 39, 18, 40, 41, 17, 19, 28, 29, 30] (by decide +kernel) (by decide +kernel)
set_option maxRecDepth 20000 in
theorem gX9_kin_X6_mirrored_n176 : GoodIn wsX9_kin (wsX6_mirrored) := ggX9_kin_X6_mirrored
theorem dX9_kin_0 : decode cX9_kin 0 = .ok (.aload_n 0, 1) := by decide +kernel
theorem dX9_kin_1 : decode cX9_kin 1 = .ok (.iload_n 1, 1) := by decide +kernel
theorem dX9_kin_2 : decode cX9_kin 2 = .ok (.invokevirtual 163, 3) := by decide +kernel
theorem dX9_kin_5 : decode cX9_kin 5 = .ok (.ifCond .ne 6, 3) := by decide +kernel
theorem dX9_kin_8 : decode cX9_kin 8 = .ok (.ldc 134, 2) := by decide +kernel
theorem dX9_kin_10 : decode cX9_kin 10 = .ok (.ireturn, 1) := by decide +kernel
theorem dX9_kin_11 : decode cX9_kin 11 = .ok (.aload_n 0, 1) := by decide +kernel
theorem dX9_kin_12 : decode cX9_kin 12 = .ok (.getfield 49, 3) := by decide +kernel
theorem dX9_kin_15 : decode cX9_kin 15 = .ok (.getfield 166, 3) := by decide +kernel
theorem dX9_kin_18 : decode cX9_kin 18 = .ok (.iload_n 1, 1) := by decide +kernel
theorem dX9_kin_19 : decode cX9_kin 19 = .ok (.iaload, 1) := by decide +kernel
theorem dX9_kin_20 : decode cX9_kin 20 = .ok (.aload_n 0, 1) := by decide +kernel
theorem dX9_kin_21 : decode cX9_kin 21 = .ok (.getfield 53, 3) := by decide +kernel
theorem dX9_kin_24 : decode cX9_kin 24 = .ok (.if_icmp .eq 6, 3) := by decide +kernel
theorem dX9_kin_27 : decode cX9_kin 27 = .ok (.ldc 169, 2) := by decide +kernel
theorem dX9_kin_29 : decode cX9_kin 29 = .ok (.ireturn, 1) := by decide +kernel
theorem dX9_kin_30 : decode cX9_kin 30 = .ok (.aload_n 0, 1) := by decide +kernel
theorem dX9_kin_31 : decode cX9_kin 31 = .ok (.getfield 53, 3) := by decide +kernel
theorem dX9_kin_34 : decode cX9_kin 34 = .ok (.aload_n 0, 1) := by decide +kernel
theorem dX9_kin_35 : decode cX9_kin 35 = .ok (.getfield 49, 3) := by decide +kernel
theorem dX9_kin_38 : decode cX9_kin 38 = .ok (.getfield 170, 3) := by decide +kernel
theorem dX9_kin_41 : decode cX9_kin 41 = .ok (.iload_n 1, 1) := by decide +kernel
theorem dX9_kin_42 : decode cX9_kin 42 = .ok (.iaload, 1) := by decide +kernel
theorem dX9_kin_43 : decode cX9_kin 43 = .ok (.invokestatic 106, 3) := by decide +kernel
theorem dX9_kin_46 : decode cX9_kin 46 = .ok (.istore_n 2, 1) := by decide +kernel
theorem dX9_kin_47 : decode cX9_kin 47 = .ok (.aload_n 0, 1) := by decide +kernel
theorem dX9_kin_48 : decode cX9_kin 48 = .ok (.getfield 53, 3) := by decide +kernel
theorem dX9_kin_51 : decode cX9_kin 51 = .ok (.aload_n 0, 1) := by decide +kernel
theorem dX9_kin_52 : decode cX9_kin 52 = .ok (.getfield 57, 3) := by decide +kernel
theorem dX9_kin_55 : decode cX9_kin 55 = .ok (.invokestatic 173, 3) := by decide +kernel
theorem dX9_kin_58 : decode cX9_kin 58 = .ok (.istore_n 3, 1) := by decide +kernel
theorem dX9_kin_59 : decode cX9_kin 59 = .ok (.iconst 0, 1) := by decide +kernel
theorem dX9_kin_60 : decode cX9_kin 60 = .ok (.istore 4, 2) := by decide +kernel
theorem dX9_kin_62 : decode cX9_kin 62 = .ok (.iload 4, 2) := by decide +kernel
theorem dX9_kin_64 : decode cX9_kin 64 = .ok (.aload_n 0, 1) := by decide +kernel
theorem dX9_kin_65 : decode cX9_kin 65 = .ok (.getfield 53, 3) := by decide +kernel
theorem dX9_kin_68 : decode cX9_kin 68 = .ok (.aload_n 0, 1) := by decide +kernel
theorem dX9_kin_69 : decode cX9_kin 69 = .ok (.getfield 57, 3) := by decide +kernel
theorem dX9_kin_72 : decode cX9_kin 72 = .ok (.invokestatic 106, 3) := by decide +kernel
theorem dX9_kin_75 : decode cX9_kin 75 = .ok (.iload_n 2, 1) := by decide +kernel
theorem dX9_kin_76 : decode cX9_kin 76 = .ok (.if_icmp .ne 7, 3) := by decide +kernel
theorem dX9_kin_79 : decode cX9_kin 79 = .ok (.iconst 1, 1) := by decide +kernel
theorem dX9_kin_80 : decode cX9_kin 80 = .ok (.goto 4, 3) := by decide +kernel
theorem dX9_kin_83 : decode cX9_kin 83 = .ok (.iconst 0, 1) := by decide +kernel
theorem dX9_kin_84 : decode cX9_kin 84 = .ok (.ior, 1) := by decide +kernel
theorem dX9_kin_85 : decode cX9_kin 85 = .ok (.istore 4, 2) := by decide +kernel
theorem dX9_kin_87 : decode cX9_kin 87 = .ok (.iload 4, 2) := by decide +kernel
theorem dX9_kin_89 : decode cX9_kin 89 = .ok (.aload_n 0, 1) := by decide +kernel
theorem dX9_kin_90 : decode cX9_kin 90 = .ok (.getfield 53, 3) := by decide +kernel
theorem dX9_kin_93 : decode cX9_kin 93 = .ok (.aload_n 0, 1) := by decide +kernel
theorem dX9_kin_94 : decode cX9_kin 94 = .ok (.getfield 53, 3) := by decide +kernel
theorem dX9_kin_97 : decode cX9_kin 97 = .ok (.aload_n 0, 1) := by decide +kernel
theorem dX9_kin_98 : decode cX9_kin 98 = .ok (.getfield 57, 3) := by decide +kernel
theorem dX9_kin_101 : decode cX9_kin 101 = .ok (.invokestatic 176, 3) := by decide +kernel
theorem dX9_kin_104 : decode cX9_kin 104 = .ok (.invokestatic 106, 3) := by decide +kernel
theorem dX9_kin_107 : decode cX9_kin 107 = .ok (.iload_n 2, 1) := by decide +kernel
theorem dX9_kin_108 : decode cX9_kin 108 = .ok (.if_icmp .ne 7, 3) := by decide +kernel
theorem dX9_kin_111 : decode cX9_kin 111 = .ok (.iconst 2, 1) := by decide +kernel
theorem dX9_kin_112 : decode cX9_kin 112 = .ok (.goto 4, 3) := by decide +kernel
theorem dX9_kin_115 : decode cX9_kin 115 = .ok (.iconst 0, 1) := by decide +kernel
theorem dX9_kin_116 : decode cX9_kin 116 = .ok (.ior, 1) := by decide +kernel
theorem dX9_kin_117 : decode cX9_kin 117 = .ok (.istore 4, 2) := by decide +kernel
theorem dX9_kin_119 : decode cX9_kin 119 = .ok (.iload 4, 2) := by decide +kernel
theorem dX9_kin_121 : decode cX9_kin 121 = .ok (.aload_n 0, 1) := by decide +kernel
theorem dX9_kin_122 : decode cX9_kin 122 = .ok (.getfield 53, 3) := by decide +kernel
theorem dX9_kin_125 : decode cX9_kin 125 = .ok (.iload_n 3, 1) := by decide +kernel
theorem dX9_kin_126 : decode cX9_kin 126 = .ok (.invokestatic 106, 3) := by decide +kernel
theorem dX9_kin_129 : decode cX9_kin 129 = .ok (.iload_n 2, 1) := by decide +kernel
theorem dX9_kin_130 : decode cX9_kin 130 = .ok (.if_icmp .ne 7, 3) := by decide +kernel
theorem dX9_kin_133 : decode cX9_kin 133 = .ok (.iconst 4, 1) := by decide +kernel
theorem dX9_kin_134 : decode cX9_kin 134 = .ok (.goto 4, 3) := by decide +kernel
theorem dX9_kin_137 : decode cX9_kin 137 = .ok (.iconst 0, 1) := by decide +kernel
theorem dX9_kin_138 : decode cX9_kin 138 = .ok (.ior, 1) := by decide +kernel
theorem dX9_kin_139 : decode cX9_kin 139 = .ok (.istore 4, 2) := by decide +kernel
theorem dX9_kin_141 : decode cX9_kin 141 = .ok (.iload 4, 2) := by decide +kernel
theorem dX9_kin_143 : decode cX9_kin 143 = .ok (.aload_n 0, 1) := by decide +kernel
theorem dX9_kin_144 : decode cX9_kin 144 = .ok (.getfield 53, 3) := by decide +kernel
theorem dX9_kin_147 : decode cX9_kin 147 = .ok (.aload_n 0, 1) := by decide +kernel
theorem dX9_kin_148 : decode cX9_kin 148 = .ok (.getfield 53, 3) := by decide +kernel
theorem dX9_kin_151 : decode cX9_kin 151 = .ok (.iload_n 3, 1) := by decide +kernel
theorem dX9_kin_152 : decode cX9_kin 152 = .ok (.invokestatic 176, 3) := by decide +kernel
theorem dX9_kin_155 : decode cX9_kin 155 = .ok (.invokestatic 106, 3) := by decide +kernel
theorem dX9_kin_158 : decode cX9_kin 158 = .ok (.iload_n 2, 1) := by decide +kernel
theorem dX9_kin_159 : decode cX9_kin 159 = .ok (.if_icmp .ne 8, 3) := by decide +kernel
theorem dX9_kin_162 : decode cX9_kin 162 = .ok (.bipush 8, 2) := by decide +kernel
theorem dX9_kin_164 : decode cX9_kin 164 = .ok (.goto 4, 3) := by decide +kernel
theorem dX9_kin_167 : decode cX9_kin 167 = .ok (.iconst 0, 1) := by decide +kernel
theorem dX9_kin_168 : decode cX9_kin 168 = .ok (.ior, 1) := by decide +kernel
theorem dX9_kin_169 : decode cX9_kin 169 = .ok (.istore 4, 2) := by decide +kernel
theorem dX9_kin_171 : decode cX9_kin 171 = .ok (.iload 4, 2) := by decide +kernel
theorem dX9_kin_173 : decode cX9_kin 173 = .ok (.ireturn, 1) := by decide +kernel
theorem dX9_steady_0 : decode cX9_steady 0 = .ok (.iload_n 1, 1) := by decide +kernel
theorem dX9_steady_1 : decode cX9_steady 1 = .ok (.ifCond .lt 19, 3) := by decide +kernel
theorem dX9_steady_4 : decode cX9_steady 4 = .ok (.iload_n 1, 1) := by decide +kernel
theorem dX9_steady_5 : decode cX9_steady 5 = .ok (.bipush 60, 2) := by decide +kernel
theorem dX9_steady_7 : decode cX9_steady 7 = .ok (.if_icmp .gt 13, 3) := by decide +kernel
theorem dX9_steady_10 : decode cX9_steady 10 = .ok (.iload_n 2, 1) := by decide +kernel
theorem dX9_steady_11 : decode cX9_steady 11 = .ok (.ifCond .lt 9, 3) := by decide +kernel
theorem dX9_steady_14 : decode cX9_steady 14 = .ok (.iload_n 2, 1) := by decide +kernel
theorem dX9_steady_15 : decode cX9_steady 15 = .ok (.bipush 100, 2) := by decide +kernel
theorem dX9_steady_17 : decode cX9_steady 17 = .ok (.if_icmp .le 6, 3) := by decide +kernel
theorem dX9_steady_20 : decode cX9_steady 20 = .ok (.ldc 66, 2) := by decide +kernel
theorem dX9_steady_22 : decode cX9_steady 22 = .ok (.ireturn, 1) := by decide +kernel
theorem dX9_steady_23 : decode cX9_steady 23 = .ok (.ldc2_w 179, 3) := by decide +kernel
theorem dX9_steady_26 : decode cX9_steady 26 = .ok (.lstore_n 3, 1) := by decide +kernel
theorem dX9_steady_27 : decode cX9_steady 27 = .ok (.iconst 0, 1) := by decide +kernel
theorem dX9_steady_28 : decode cX9_steady 28 = .ok (.istore 5, 2) := by decide +kernel
theorem dX9_steady_30 : decode cX9_steady 30 = .ok (.iload 5, 2) := by decide +kernel
theorem dX9_steady_32 : decode cX9_steady 32 = .ok (.iload_n 1, 1) := by decide +kernel
theorem dX9_steady_33 : decode cX9_steady 33 = .ok (.if_icmp .ge 18, 3) := by decide +kernel
theorem dX9_steady_36 : decode cX9_steady 36 = .ok (.lload_n 3, 1) := by decide +kernel
theorem dX9_steady_37 : decode cX9_steady 37 = .ok (.iload_n 2, 1) := by decide +kernel
theorem dX9_steady_38 : decode cX9_steady 38 = .ok (.i2l, 1) := by decide +kernel
theorem dX9_steady_39 : decode cX9_steady 39 = .ok (.lmul, 1) := by decide +kernel
theorem dX9_steady_40 : decode cX9_steady 40 = .ok (.ldc2_w 181, 3) := by decide +kernel
theorem dX9_steady_43 : decode cX9_steady 43 = .ok (.ldiv, 1) := by decide +kernel
theorem dX9_steady_44 : decode cX9_steady 44 = .ok (.lstore_n 3, 1) := by decide +kernel
theorem dX9_steady_45 : decode cX9_steady 45 = .ok (.iinc 5 1, 3) := by decide +kernel
theorem dX9_steady_48 : decode cX9_steady 48 = .ok (.goto (-18), 3) := by decide +kernel
theorem dX9_steady_51 : decode cX9_steady 51 = .ok (.lload_n 3, 1) := by decide +kernel
theorem dX9_steady_52 : decode cX9_steady 52 = .ok (.l2i, 1) := by decide +kernel
theorem dX9_steady_53 : decode cX9_steady 53 = .ok (.ireturn, 1) := by decide +kernel
set_option maxRecDepth 20000 in
theorem ggX9_strike_X9_isBeat : GoodIn wsX9_strike wsX9_isBeat := goodIn_r _ [8, 2, 35, 36, 37, 38, 39, 40, 41, 42, 43, 44] (by decide +kernel) (by decide +kernel)
set_option maxRecDepth 20000 in
theorem gX9_strike_X9_isBeat : GoodIn wsX9_strike (wsV RX9 138 RX9 yX9_isBeat wsX9_isBeat) := goodIn_app (goodIn_of _ (by decide +kernel)) ggX9_strike_X9_isBeat
set_option maxRecDepth 20000 in
theorem ggX9_strike_X9_change : GoodIn wsX9_strike wsX9_change := goodIn_r _ [12, 13, 2, 3, 14, 15, 16, 17, 18, 19, 20, 21, 22, 23, 24, 25, 26, 27, 28, 29, 30, 31, 32, 35, 36, 37, 38, 39, 40, 41, 42, 43, 44, 45, 46, 47, 48] (by decide +kernel) (by decide +kernel)
set_option maxRecDepth 20000 in
theorem gX9_strike_X9_change : GoodIn wsX9_strike (wsV RX9 83 RX9 yX9_change wsX9_change) := goodIn_app (goodIn_of _ (by decide +kernel)) ggX9_strike_X9_change
set_option maxRecDepth 20000 in
theorem ggX9_strike_X6_bit : GoodIn wsX9_strike wsX6_bit := goodIn_r _ [34] (by decide +kernel) (by decide +kernel)
set_option maxRecDepth 20000 in
theorem gX9_strike_X6_bit_n183 : GoodIn wsX9_strike (wsX6_bit) := ggX9_strike_X6_bit
theorem dX9_strike_0 : decode cX9_strike 0 = .ok (.aload_n 0, 1) := by decide +kernel
theorem dX9_strike_1 : decode cX9_strike 1 = .ok (.iload_n 1, 1) := by decide +kernel
theorem dX9_strike_2 : decode cX9_strike 2 = .ok (.invokevirtual 138, 3) := by decide +kernel
theorem dX9_strike_5 : decode cX9_strike 5 = .ok (.ifCond .ne 6, 3) := by decide +kernel
theorem dX9_strike_8 : decode cX9_strike 8 = .ok (.ldc 134, 2) := by decide +kernel
theorem dX9_strike_10 : decode cX9_strike 10 = .ok (.ireturn, 1) := by decide +kernel
theorem dX9_strike_11 : decode cX9_strike 11 = .ok (.aload_n 0, 1) := by decide +kernel
theorem dX9_strike_12 : decode cX9_strike 12 = .ok (.aload_n 0, 1) := by decide +kernel
theorem dX9_strike_13 : decode cX9_strike 13 = .ok (.getfield 53, 3) := by decide +kernel
theorem dX9_strike_16 : decode cX9_strike 16 = .ok (.aload_n 0, 1) := by decide +kernel
theorem dX9_strike_17 : decode cX9_strike 17 = .ok (.getfield 57, 3) := by decide +kernel
theorem dX9_strike_20 : decode cX9_strike 20 = .ok (.iconst 1, 1) := by decide +kernel
theorem dX9_strike_21 : decode cX9_strike 21 = .ok (.iload_n 1, 1) := by decide +kernel
theorem dX9_strike_22 : decode cX9_strike 22 = .ok (.ishl, 1) := by decide +kernel
theorem dX9_strike_23 : decode cX9_strike 23 = .ok (.ixor, 1) := by decide +kernel
theorem dX9_strike_24 : decode cX9_strike 24 = .ok (.invokevirtual 83, 3) := by decide +kernel
theorem dX9_strike_27 : decode cX9_strike 27 = .ok (.pop, 1) := by decide +kernel
theorem dX9_strike_28 : decode cX9_strike 28 = .ok (.aload_n 0, 1) := by decide +kernel
theorem dX9_strike_29 : decode cX9_strike 29 = .ok (.getfield 57, 3) := by decide +kernel
theorem dX9_strike_32 : decode cX9_strike 32 = .ok (.iload_n 1, 1) := by decide +kernel
theorem dX9_strike_33 : decode cX9_strike 33 = .ok (.invokestatic 183, 3) := by decide +kernel
theorem dX9_strike_36 : decode cX9_strike 36 = .ok (.ireturn, 1) := by decide +kernel
set_option maxRecDepth 20000 in
theorem ggX9_even_X6_evenly : GoodIn wsX9_even wsX6_evenly := goodIn_r _ [5, 6, 7, 4, 8] (by decide +kernel) (by decide +kernel)
set_option maxRecDepth 20000 in
theorem gX9_even_X6_evenly_n186 : GoodIn wsX9_even (wsX6_evenly) := ggX9_even_X6_evenly
set_option maxRecDepth 20000 in
theorem ggX9_even_X9_change : GoodIn wsX9_even wsX9_change := goodIn_r _ [13, 14, 1, 15, 16, 17, 18, 19, 20, 21, 22, 23, 24, 25, 26, 27, 28, 29, 30, 31, 7, 4, 8, 32, 33, 34, 35, 36, 37, 38, 39, 40, 41, 42, 43, 44, 45] (by decide +kernel) (by decide +kernel)
set_option maxRecDepth 20000 in
theorem gX9_even_X9_change : GoodIn wsX9_even (wsV RX9 83 RX9 yX9_change wsX9_change) := goodIn_app (goodIn_of _ (by decide +kernel)) ggX9_even_X9_change
theorem dX9_even_0 : decode cX9_even 0 = .ok (.iload_n 1, 1) := by decide +kernel
theorem dX9_even_1 : decode cX9_even 1 = .ok (.ifCond .lt 11, 3) := by decide +kernel
theorem dX9_even_4 : decode cX9_even 4 = .ok (.iload_n 1, 1) := by decide +kernel
theorem dX9_even_5 : decode cX9_even 5 = .ok (.aload_n 0, 1) := by decide +kernel
theorem dX9_even_6 : decode cX9_even 6 = .ok (.getfield 53, 3) := by decide +kernel
theorem dX9_even_9 : decode cX9_even 9 = .ok (.if_icmp .le 6, 3) := by decide +kernel
theorem dX9_even_12 : decode cX9_even 12 = .ok (.ldc 66, 2) := by decide +kernel
theorem dX9_even_14 : decode cX9_even 14 = .ok (.ireturn, 1) := by decide +kernel
theorem dX9_even_15 : decode cX9_even 15 = .ok (.aload_n 0, 1) := by decide +kernel
theorem dX9_even_16 : decode cX9_even 16 = .ok (.aload_n 0, 1) := by decide +kernel
theorem dX9_even_17 : decode cX9_even 17 = .ok (.getfield 53, 3) := by decide +kernel
theorem dX9_even_20 : decode cX9_even 20 = .ok (.aload_n 0, 1) := by decide +kernel
theorem dX9_even_21 : decode cX9_even 21 = .ok (.getfield 53, 3) := by decide +kernel
theorem dX9_even_24 : decode cX9_even 24 = .ok (.iload_n 1, 1) := by decide +kernel
theorem dX9_even_25 : decode cX9_even 25 = .ok (.invokestatic 186, 3) := by decide +kernel
theorem dX9_even_28 : decode cX9_even 28 = .ok (.invokevirtual 83, 3) := by decide +kernel
theorem dX9_even_31 : decode cX9_even 31 = .ok (.ireturn, 1) := by decide +kernel
set_option maxRecDepth 20000 in
theorem ggX9_turn_X6_moved : GoodIn wsX9_turn wsX6_moved := goodIn_r _ [6, 7, 8, 5, 9, 10, 11, 12] (by decide +kernel) (by decide +kernel)
set_option maxRecDepth 20000 in
theorem gX9_turn_X6_moved_n152 : GoodIn wsX9_turn (wsX6_moved) := ggX9_turn_X6_moved
set_option maxRecDepth 20000 in
theorem ggX9_turn_X9_change : GoodIn wsX9_turn wsX9_change := goodIn_r _ [17, 18, 2, 3, 19, 20, 21, 22, 23, 24, 25, 26, 27, 28, 29, 30, 31, 32, 33, 34, 8, 5, 9, 35, 36, 37, 38, 39, 40, 41, 42, 43, 44, 45, 46, 47, 48] (by decide +kernel) (by decide +kernel)
set_option maxRecDepth 20000 in
theorem gX9_turn_X9_change : GoodIn wsX9_turn (wsV RX9 83 RX9 yX9_change wsX9_change) := goodIn_app (goodIn_of _ (by decide +kernel)) ggX9_turn_X9_change
theorem dX9_turn_0 : decode cX9_turn 0 = .ok (.iload_n 1, 1) := by decide +kernel
theorem dX9_turn_1 : decode cX9_turn 1 = .ok (.ifCond .lt 9, 3) := by decide +kernel
theorem dX9_turn_4 : decode cX9_turn 4 = .ok (.iload_n 1, 1) := by decide +kernel
theorem dX9_turn_5 : decode cX9_turn 5 = .ok (.bipush 23, 2) := by decide +kernel
theorem dX9_turn_7 : decode cX9_turn 7 = .ok (.if_icmp .le 6, 3) := by decide +kernel
theorem dX9_turn_10 : decode cX9_turn 10 = .ok (.ldc 66, 2) := by decide +kernel
theorem dX9_turn_12 : decode cX9_turn 12 = .ok (.ireturn, 1) := by decide +kernel
theorem dX9_turn_13 : decode cX9_turn 13 = .ok (.aload_n 0, 1) := by decide +kernel
theorem dX9_turn_14 : decode cX9_turn 14 = .ok (.aload_n 0, 1) := by decide +kernel
theorem dX9_turn_15 : decode cX9_turn 15 = .ok (.getfield 53, 3) := by decide +kernel
theorem dX9_turn_18 : decode cX9_turn 18 = .ok (.aload_n 0, 1) := by decide +kernel
theorem dX9_turn_19 : decode cX9_turn 19 = .ok (.getfield 53, 3) := by decide +kernel
theorem dX9_turn_22 : decode cX9_turn 22 = .ok (.aload_n 0, 1) := by decide +kernel
theorem dX9_turn_23 : decode cX9_turn 23 = .ok (.getfield 57, 3) := by decide +kernel
theorem dX9_turn_26 : decode cX9_turn 26 = .ok (.iload_n 1, 1) := by decide +kernel
theorem dX9_turn_27 : decode cX9_turn 27 = .ok (.invokestatic 152, 3) := by decide +kernel
theorem dX9_turn_30 : decode cX9_turn 30 = .ok (.invokevirtual 83, 3) := by decide +kernel
theorem dX9_turn_33 : decode cX9_turn 33 = .ok (.ireturn, 1) := by decide +kernel
set_option maxRecDepth 20000 in
theorem ggX9_over_X6_inverted : GoodIn wsX9_over wsX6_inverted := goodIn_r _ [5, 6, 7, 4, 8] (by decide +kernel) (by decide +kernel)
set_option maxRecDepth 20000 in
theorem gX9_over_X6_inverted_n173 : GoodIn wsX9_over (wsX6_inverted) := ggX9_over_X6_inverted
set_option maxRecDepth 20000 in
theorem ggX9_over_X9_change : GoodIn wsX9_over wsX9_change := goodIn_r _ [13, 14, 1, 2, 15, 16, 17, 18, 19, 20, 21, 22, 23, 24, 25, 26, 27, 28, 29, 30, 31, 4, 32, 33, 34, 35, 36, 37, 38, 39, 40, 41, 42, 43, 44, 45, 46] (by decide +kernel) (by decide +kernel)
set_option maxRecDepth 20000 in
theorem gX9_over_X9_change : GoodIn wsX9_over (wsV RX9 83 RX9 yX9_change wsX9_change) := goodIn_app (goodIn_of _ (by decide +kernel)) ggX9_over_X9_change
theorem dX9_over_0 : decode cX9_over 0 = .ok (.aload_n 0, 1) := by decide +kernel
theorem dX9_over_1 : decode cX9_over 1 = .ok (.aload_n 0, 1) := by decide +kernel
theorem dX9_over_2 : decode cX9_over 2 = .ok (.getfield 53, 3) := by decide +kernel
theorem dX9_over_5 : decode cX9_over 5 = .ok (.aload_n 0, 1) := by decide +kernel
theorem dX9_over_6 : decode cX9_over 6 = .ok (.getfield 53, 3) := by decide +kernel
theorem dX9_over_9 : decode cX9_over 9 = .ok (.aload_n 0, 1) := by decide +kernel
theorem dX9_over_10 : decode cX9_over 10 = .ok (.getfield 57, 3) := by decide +kernel
theorem dX9_over_13 : decode cX9_over 13 = .ok (.invokestatic 173, 3) := by decide +kernel
theorem dX9_over_16 : decode cX9_over 16 = .ok (.invokevirtual 83, 3) := by decide +kernel
theorem dX9_over_19 : decode cX9_over 19 = .ok (.ireturn, 1) := by decide +kernel
set_option maxRecDepth 20000 in
theorem ggX9_behind_X6_mirrored : GoodIn wsX9_behind wsX6_mirrored := goodIn_r _ [5, 6, 7, 4, 8, 9, 10, 11, 12, 13, 14] (by decide +kernel) (by decide +kernel)
set_option maxRecDepth 20000 in
theorem gX9_behind_X6_mirrored_n176 : GoodIn wsX9_behind (wsX6_mirrored) := ggX9_behind_X6_mirrored
set_option maxRecDepth 20000 in
theorem ggX9_behind_X9_change : GoodIn wsX9_behind wsX9_change := goodIn_r _ [19, 20, 1, 2, 21, 22, 23, 24, 25, 26, 27, 28, 29, 30, 31, 32, 33, 34, 35, 36, 13, 4, 14, 37, 38, 39, 40, 41, 42, 43, 44, 45, 46, 47, 48, 49, 50] (by decide +kernel) (by decide +kernel)
set_option maxRecDepth 20000 in
theorem gX9_behind_X9_change : GoodIn wsX9_behind (wsV RX9 83 RX9 yX9_change wsX9_change) := goodIn_app (goodIn_of _ (by decide +kernel)) ggX9_behind_X9_change
theorem dX9_behind_0 : decode cX9_behind 0 = .ok (.aload_n 0, 1) := by decide +kernel
theorem dX9_behind_1 : decode cX9_behind 1 = .ok (.aload_n 0, 1) := by decide +kernel
theorem dX9_behind_2 : decode cX9_behind 2 = .ok (.getfield 53, 3) := by decide +kernel
theorem dX9_behind_5 : decode cX9_behind 5 = .ok (.aload_n 0, 1) := by decide +kernel
theorem dX9_behind_6 : decode cX9_behind 6 = .ok (.getfield 53, 3) := by decide +kernel
theorem dX9_behind_9 : decode cX9_behind 9 = .ok (.aload_n 0, 1) := by decide +kernel
theorem dX9_behind_10 : decode cX9_behind 10 = .ok (.getfield 57, 3) := by decide +kernel
theorem dX9_behind_13 : decode cX9_behind 13 = .ok (.invokestatic 176, 3) := by decide +kernel
theorem dX9_behind_16 : decode cX9_behind 16 = .ok (.invokevirtual 83, 3) := by decide +kernel
theorem dX9_behind_19 : decode cX9_behind 19 = .ok (.ireturn, 1) := by decide +kernel
set_option maxRecDepth 20000 in
theorem ggX9_stretch_X6_full : GoodIn wsX9_stretch wsX6_full := goodIn_r _ [7] (by decide +kernel) (by decide +kernel)
set_option maxRecDepth 20000 in
theorem gX9_stretch_X6_full_n189 : GoodIn wsX9_stretch (wsX6_full) := ggX9_stretch_X6_full
set_option maxRecDepth 20000 in
theorem ggX9_stretch_X6_stretched : GoodIn wsX9_stretch wsX6_stretched := goodIn_r _ [9, 10, 11, 6, 12, 13, 14, 15] (by decide +kernel) (by decide +kernel)
set_option maxRecDepth 20000 in
theorem gX9_stretch_X6_stretched_n192 : GoodIn wsX9_stretch (wsX6_stretched) := ggX9_stretch_X6_stretched
set_option maxRecDepth 20000 in
theorem ggX9_stretch_X9_change : GoodIn wsX9_stretch wsX9_change := goodIn_r _ [20, 21, 2, 4, 22, 23, 24, 25, 26, 27, 28, 29, 30, 31, 32, 33, 34, 35, 36, 37, 14, 6, 15, 38, 39, 40, 41, 42, 43, 44, 45, 46, 47, 48, 49, 50, 51] (by decide +kernel) (by decide +kernel)
set_option maxRecDepth 20000 in
theorem gX9_stretch_X9_change : GoodIn wsX9_stretch (wsV RX9 83 RX9 yX9_change wsX9_change) := goodIn_app (goodIn_of _ (by decide +kernel)) ggX9_stretch_X9_change
theorem dX9_stretch_0 : decode cX9_stretch 0 = .ok (.iload_n 1, 1) := by decide +kernel
theorem dX9_stretch_1 : decode cX9_stretch 1 = .ok (.iconst 1, 1) := by decide +kernel
theorem dX9_stretch_2 : decode cX9_stretch 2 = .ok (.if_icmp .lt 9, 3) := by decide +kernel
theorem dX9_stretch_5 : decode cX9_stretch 5 = .ok (.iload_n 1, 1) := by decide +kernel
theorem dX9_stretch_6 : decode cX9_stretch 6 = .ok (.bipush 23, 2) := by decide +kernel
theorem dX9_stretch_8 : decode cX9_stretch 8 = .ok (.if_icmp .le 6, 3) := by decide +kernel
theorem dX9_stretch_11 : decode cX9_stretch 11 = .ok (.ldc 66, 2) := by decide +kernel
theorem dX9_stretch_13 : decode cX9_stretch 13 = .ok (.ireturn, 1) := by decide +kernel
theorem dX9_stretch_14 : decode cX9_stretch 14 = .ok (.aload_n 0, 1) := by decide +kernel
theorem dX9_stretch_15 : decode cX9_stretch 15 = .ok (.getfield 53, 3) := by decide +kernel
theorem dX9_stretch_18 : decode cX9_stretch 18 = .ok (.invokestatic 189, 3) := by decide +kernel
theorem dX9_stretch_21 : decode cX9_stretch 21 = .ok (.istore_n 2, 1) := by decide +kernel
theorem dX9_stretch_22 : decode cX9_stretch 22 = .ok (.aload_n 0, 1) := by decide +kernel
theorem dX9_stretch_23 : decode cX9_stretch 23 = .ok (.getfield 53, 3) := by decide +kernel
theorem dX9_stretch_26 : decode cX9_stretch 26 = .ok (.iload_n 2, 1) := by decide +kernel
theorem dX9_stretch_27 : decode cX9_stretch 27 = .ok (.iload_n 1, 1) := by decide +kernel
theorem dX9_stretch_28 : decode cX9_stretch 28 = .ok (.invokestatic 192, 3) := by decide +kernel
theorem dX9_stretch_31 : decode cX9_stretch 31 = .ok (.iload_n 2, 1) := by decide +kernel
theorem dX9_stretch_32 : decode cX9_stretch 32 = .ok (.if_icmp .eq 6, 3) := by decide +kernel
theorem dX9_stretch_35 : decode cX9_stretch 35 = .ok (.ldc 169, 2) := by decide +kernel
theorem dX9_stretch_37 : decode cX9_stretch 37 = .ok (.ireturn, 1) := by decide +kernel
theorem dX9_stretch_38 : decode cX9_stretch 38 = .ok (.aload_n 0, 1) := by decide +kernel
theorem dX9_stretch_39 : decode cX9_stretch 39 = .ok (.aload_n 0, 1) := by decide +kernel
theorem dX9_stretch_40 : decode cX9_stretch 40 = .ok (.getfield 53, 3) := by decide +kernel
theorem dX9_stretch_43 : decode cX9_stretch 43 = .ok (.aload_n 0, 1) := by decide +kernel
theorem dX9_stretch_44 : decode cX9_stretch 44 = .ok (.getfield 53, 3) := by decide +kernel
theorem dX9_stretch_47 : decode cX9_stretch 47 = .ok (.aload_n 0, 1) := by decide +kernel
theorem dX9_stretch_48 : decode cX9_stretch 48 = .ok (.getfield 57, 3) := by decide +kernel
theorem dX9_stretch_51 : decode cX9_stretch 51 = .ok (.iload_n 1, 1) := by decide +kernel
theorem dX9_stretch_52 : decode cX9_stretch 52 = .ok (.invokestatic 192, 3) := by decide +kernel
theorem dX9_stretch_55 : decode cX9_stretch 55 = .ok (.invokevirtual 83, 3) := by decide +kernel
theorem dX9_stretch_58 : decode cX9_stretch 58 = .ok (.ireturn, 1) := by decide +kernel
set_option maxRecDepth 20000 in
theorem ggX9_twice_X9_change : GoodIn wsX9_twice wsX9_change := goodIn_r _ [8, 9, 1, 3, 10, 11, 12, 13, 14, 15, 16, 17, 18, 19, 20, 21, 22, 23, 24, 25, 26, 27, 28, 29, 30, 31, 32, 33, 34, 35, 36, 37, 38, 39, 40, 41, 42] (by decide +kernel) (by decide +kernel)
set_option maxRecDepth 20000 in
theorem gX9_twice_X9_change : GoodIn wsX9_twice (wsV RX9 83 RX9 yX9_change wsX9_change) := goodIn_app (goodIn_of _ (by decide +kernel)) ggX9_twice_X9_change
theorem dX9_twice_0 : decode cX9_twice 0 = .ok (.iconst 2, 1) := by decide +kernel
theorem dX9_twice_1 : decode cX9_twice 1 = .ok (.aload_n 0, 1) := by decide +kernel
theorem dX9_twice_2 : decode cX9_twice 2 = .ok (.getfield 53, 3) := by decide +kernel
theorem dX9_twice_5 : decode cX9_twice 5 = .ok (.imul, 1) := by decide +kernel
theorem dX9_twice_6 : decode cX9_twice 6 = .ok (.bipush 24, 2) := by decide +kernel
theorem dX9_twice_8 : decode cX9_twice 8 = .ok (.if_icmp .le 6, 3) := by decide +kernel
theorem dX9_twice_11 : decode cX9_twice 11 = .ok (.ldc 195, 2) := by decide +kernel
theorem dX9_twice_13 : decode cX9_twice 13 = .ok (.ireturn, 1) := by decide +kernel
theorem dX9_twice_14 : decode cX9_twice 14 = .ok (.aload_n 0, 1) := by decide +kernel
theorem dX9_twice_15 : decode cX9_twice 15 = .ok (.iconst 2, 1) := by decide +kernel
theorem dX9_twice_16 : decode cX9_twice 16 = .ok (.aload_n 0, 1) := by decide +kernel
theorem dX9_twice_17 : decode cX9_twice 17 = .ok (.getfield 53, 3) := by decide +kernel
theorem dX9_twice_20 : decode cX9_twice 20 = .ok (.imul, 1) := by decide +kernel
theorem dX9_twice_21 : decode cX9_twice 21 = .ok (.aload_n 0, 1) := by decide +kernel
theorem dX9_twice_22 : decode cX9_twice 22 = .ok (.getfield 57, 3) := by decide +kernel
theorem dX9_twice_25 : decode cX9_twice 25 = .ok (.aload_n 0, 1) := by decide +kernel
theorem dX9_twice_26 : decode cX9_twice 26 = .ok (.getfield 57, 3) := by decide +kernel
theorem dX9_twice_29 : decode cX9_twice 29 = .ok (.aload_n 0, 1) := by decide +kernel
theorem dX9_twice_30 : decode cX9_twice 30 = .ok (.getfield 53, 3) := by decide +kernel
theorem dX9_twice_33 : decode cX9_twice 33 = .ok (.ishl, 1) := by decide +kernel
theorem dX9_twice_34 : decode cX9_twice 34 = .ok (.ior, 1) := by decide +kernel
theorem dX9_twice_35 : decode cX9_twice 35 = .ok (.invokevirtual 83, 3) := by decide +kernel
theorem dX9_twice_38 : decode cX9_twice 38 = .ok (.pop, 1) := by decide +kernel
theorem dX9_twice_39 : decode cX9_twice 39 = .ok (.aload_n 0, 1) := by decide +kernel
theorem dX9_twice_40 : decode cX9_twice 40 = .ok (.getfield 53, 3) := by decide +kernel
theorem dX9_twice_43 : decode cX9_twice 43 = .ok (.ireturn, 1) := by decide +kernel
set_option maxRecDepth 20000 in
theorem ggX9_cycle_X6_full : GoodIn wsX9_cycle wsX6_full := goodIn_r _ [5] (by decide +kernel) (by decide +kernel)
set_option maxRecDepth 20000 in
theorem gX9_cycle_X6_full_n189 : GoodIn wsX9_cycle (wsX6_full) := ggX9_cycle_X6_full
set_option maxRecDepth 20000 in
theorem ggX9_cycle_X9_change : GoodIn wsX9_cycle wsX9_change := goodIn_r _ [10, 11, 12, 2, 13, 14, 15, 16, 17, 18, 19, 20, 21, 22, 23, 24, 25, 26, 27, 28, 29, 4, 30, 38, 39, 40, 41, 42, 43, 44, 45, 46, 47, 48, 49, 50, 51] (by decide +kernel) (by decide +kernel)
set_option maxRecDepth 20000 in
theorem gX9_cycle_X9_change : GoodIn wsX9_cycle (wsV RX9 83 RX9 yX9_change wsX9_change) := goodIn_app (goodIn_of _ (by decide +kernel)) ggX9_cycle_X9_change
set_option maxRecDepth 20000 in
theorem ggX9_cycle_J6_bitCount_0f7a4 : GoodIn wsX9_cycle wsJ6_bitCount_0f7a4 := goodIn_r _ [34, 35, 36, 37] (by decide +kernel) (by decide +kernel)
set_option maxRecDepth 20000 in
theorem gX9_cycle_J6_bitCount_0f7a4 : GoodIn wsX9_cycle (va_wsS RX9 88 yJ6_bitCount_0f7a4 wsJ6_bitCount_0f7a4) := goodIn_app (goodIn_of _ (by decide +kernel)) ggX9_cycle_J6_bitCount_0f7a4
theorem dX9_cycle_0 : decode cX9_cycle 0 = .ok (.iload_n 1, 1) := by decide +kernel
theorem dX9_cycle_1 : decode cX9_cycle 1 = .ok (.iconst 1, 1) := by decide +kernel
theorem dX9_cycle_2 : decode cX9_cycle 2 = .ok (.if_icmp .lt 9, 3) := by decide +kernel
theorem dX9_cycle_5 : decode cX9_cycle 5 = .ok (.iload_n 1, 1) := by decide +kernel
theorem dX9_cycle_6 : decode cX9_cycle 6 = .ok (.bipush 24, 2) := by decide +kernel
theorem dX9_cycle_8 : decode cX9_cycle 8 = .ok (.if_icmp .le 6, 3) := by decide +kernel
theorem dX9_cycle_11 : decode cX9_cycle 11 = .ok (.ldc 66, 2) := by decide +kernel
theorem dX9_cycle_13 : decode cX9_cycle 13 = .ok (.ireturn, 1) := by decide +kernel
theorem dX9_cycle_14 : decode cX9_cycle 14 = .ok (.aload_n 0, 1) := by decide +kernel
theorem dX9_cycle_15 : decode cX9_cycle 15 = .ok (.iload_n 1, 1) := by decide +kernel
theorem dX9_cycle_16 : decode cX9_cycle 16 = .ok (.aload_n 0, 1) := by decide +kernel
theorem dX9_cycle_17 : decode cX9_cycle 17 = .ok (.getfield 57, 3) := by decide +kernel
theorem dX9_cycle_20 : decode cX9_cycle 20 = .ok (.iload_n 1, 1) := by decide +kernel
theorem dX9_cycle_21 : decode cX9_cycle 21 = .ok (.invokestatic 189, 3) := by decide +kernel
theorem dX9_cycle_24 : decode cX9_cycle 24 = .ok (.iand, 1) := by decide +kernel
theorem dX9_cycle_25 : decode cX9_cycle 25 = .ok (.invokevirtual 83, 3) := by decide +kernel
theorem dX9_cycle_28 : decode cX9_cycle 28 = .ok (.invokestatic 88, 3) := by decide +kernel
theorem dX9_cycle_31 : decode cX9_cycle 31 = .ok (.ireturn, 1) := by decide +kernel
set_option maxRecDepth 20000 in
theorem ggX9_drift_X9_changeByDraws : GoodIn wsX9_drift wsX9_changeByDraws := goodIn_r _ [7, 8, 2, 9, 10, 11, 6, 12, 13, 14, 15, 16, 17, 18, 19, 20, 21, 22, 23, 24, 25, 26, 27, 28, 29, 30, 31, 32, 33, 34, 35, 36, 37, 38, 39, 40, 41, 42, 43, 44, 45, 46, 47, 48, 49, 50, 51, 52, 53, 54, 55, 56, 57, 58, 59, 60, 61, 62, 63, 64, 65, 66, 67, 68, 69, 70, 71] (by decide +kernel) (by decide +kernel)
set_option maxRecDepth 20000 in
theorem gX9_drift_X9_changeByDraws : GoodIn wsX9_drift (wsV RX9 196 RX9 yX9_changeByDraws wsX9_changeByDraws) := goodIn_app (goodIn_of _ (by decide +kernel)) ggX9_drift_X9_changeByDraws
theorem dX9_drift_0 : decode cX9_drift 0 = .ok (.iload_n 1, 1) := by decide +kernel
theorem dX9_drift_1 : decode cX9_drift 1 = .ok (.iconst 1, 1) := by decide +kernel
theorem dX9_drift_2 : decode cX9_drift 2 = .ok (.if_icmp .lt 9, 3) := by decide +kernel
theorem dX9_drift_5 : decode cX9_drift 5 = .ok (.iload_n 1, 1) := by decide +kernel
theorem dX9_drift_6 : decode cX9_drift 6 = .ok (.bipush 30, 2) := by decide +kernel
theorem dX9_drift_8 : decode cX9_drift 8 = .ok (.if_icmp .le 6, 3) := by decide +kernel
theorem dX9_drift_11 : decode cX9_drift 11 = .ok (.ldc 66, 2) := by decide +kernel
theorem dX9_drift_13 : decode cX9_drift 13 = .ok (.ireturn, 1) := by decide +kernel
theorem dX9_drift_14 : decode cX9_drift 14 = .ok (.iconst 0, 1) := by decide +kernel
theorem dX9_drift_15 : decode cX9_drift 15 = .ok (.istore_n 2, 1) := by decide +kernel
theorem dX9_drift_16 : decode cX9_drift 16 = .ok (.iload_n 2, 1) := by decide +kernel
theorem dX9_drift_17 : decode cX9_drift 17 = .ok (.iload_n 1, 1) := by decide +kernel
theorem dX9_drift_18 : decode cX9_drift 18 = .ok (.if_icmp .ge 13, 3) := by decide +kernel
theorem dX9_drift_21 : decode cX9_drift 21 = .ok (.aload_n 0, 1) := by decide +kernel
theorem dX9_drift_22 : decode cX9_drift 22 = .ok (.invokevirtual 196, 3) := by decide +kernel
theorem dX9_drift_25 : decode cX9_drift 25 = .ok (.iinc 2 1, 3) := by decide +kernel
theorem dX9_drift_28 : decode cX9_drift 28 = .ok (.goto (-12), 3) := by decide +kernel
theorem dX9_drift_31 : decode cX9_drift 31 = .ok (.aload_n 0, 1) := by decide +kernel
theorem dX9_drift_32 : decode cX9_drift 32 = .ok (.getfield 57, 3) := by decide +kernel
theorem dX9_drift_35 : decode cX9_drift 35 = .ok (.ireturn, 1) := by decide +kernel
set_option maxRecDepth 20000 in
theorem ggX9_undo_X5_stepBack : GoodIn wsX9_undo wsX5_stepBack := goodIn_r _ [9, 10, 11, 37, 38, 39, 40] (by decide +kernel) (by decide +kernel)
set_option maxRecDepth 20000 in
theorem gX9_undo_X5_stepBack_n199 : GoodIn wsX9_undo (wsX5_stepBack) := ggX9_undo_X5_stepBack
set_option maxRecDepth 20000 in
theorem ggX9_undo_X5_beatsThen : GoodIn wsX9_undo wsX5_beatsThen := goodIn_r _ [14, 15, 16, 17, 18, 7, 19, 10, 20, 21, 22, 37, 38, 39, 40] (by decide +kernel) (by decide +kernel)
set_option maxRecDepth 20000 in
theorem gX9_undo_X5_beatsThen_n202 : GoodIn wsX9_undo (wsX5_beatsThen) := ggX9_undo_X5_beatsThen
set_option maxRecDepth 20000 in
theorem ggX9_undo_X5_rhythmThen : GoodIn wsX9_undo wsX5_rhythmThen := goodIn_r _ [25, 26, 16, 17, 18, 7, 19, 10, 20, 21, 22, 37, 38, 39, 40] (by decide +kernel) (by decide +kernel)
set_option maxRecDepth 20000 in
theorem gX9_undo_X5_rhythmThen_n205 : GoodIn wsX9_undo (wsX5_rhythmThen) := ggX9_undo_X5_rhythmThen
theorem dX9_undo_0 : decode cX9_undo 0 = .ok (.iload_n 1, 1) := by decide +kernel
theorem dX9_undo_1 : decode cX9_undo 1 = .ok (.iconst 1, 1) := by decide +kernel
theorem dX9_undo_2 : decode cX9_undo 2 = .ok (.if_icmp .lt 9, 3) := by decide +kernel
theorem dX9_undo_5 : decode cX9_undo 5 = .ok (.iload_n 1, 1) := by decide +kernel
theorem dX9_undo_6 : decode cX9_undo 6 = .ok (.bipush 30, 2) := by decide +kernel
theorem dX9_undo_8 : decode cX9_undo 8 = .ok (.if_icmp .le 6, 3) := by decide +kernel
theorem dX9_undo_11 : decode cX9_undo 11 = .ok (.ldc 66, 2) := by decide +kernel
theorem dX9_undo_13 : decode cX9_undo 13 = .ok (.ireturn, 1) := by decide +kernel
theorem dX9_undo_14 : decode cX9_undo 14 = .ok (.iload_n 1, 1) := by decide +kernel
theorem dX9_undo_15 : decode cX9_undo 15 = .ok (.aload_n 0, 1) := by decide +kernel
theorem dX9_undo_16 : decode cX9_undo 16 = .ok (.getfield 19, 3) := by decide +kernel
theorem dX9_undo_19 : decode cX9_undo 19 = .ok (.getfield 133, 3) := by decide +kernel
theorem dX9_undo_22 : decode cX9_undo 22 = .ok (.if_icmp .le 6, 3) := by decide +kernel
theorem dX9_undo_25 : decode cX9_undo 25 = .ok (.ldc 169, 2) := by decide +kernel
theorem dX9_undo_27 : decode cX9_undo 27 = .ok (.ireturn, 1) := by decide +kernel
theorem dX9_undo_28 : decode cX9_undo 28 = .ok (.aload_n 0, 1) := by decide +kernel
theorem dX9_undo_29 : decode cX9_undo 29 = .ok (.getfield 19, 3) := by decide +kernel
theorem dX9_undo_32 : decode cX9_undo 32 = .ok (.iload_n 1, 1) := by decide +kernel
theorem dX9_undo_33 : decode cX9_undo 33 = .ok (.invokevirtual 199, 3) := by decide +kernel
theorem dX9_undo_36 : decode cX9_undo 36 = .ok (.aload_n 0, 1) := by decide +kernel
theorem dX9_undo_37 : decode cX9_undo 37 = .ok (.aload_n 0, 1) := by decide +kernel
theorem dX9_undo_38 : decode cX9_undo 38 = .ok (.getfield 19, 3) := by decide +kernel
theorem dX9_undo_41 : decode cX9_undo 41 = .ok (.invokevirtual 202, 3) := by decide +kernel
theorem dX9_undo_44 : decode cX9_undo 44 = .ok (.putfield 53, 3) := by decide +kernel
theorem dX9_undo_47 : decode cX9_undo 47 = .ok (.aload_n 0, 1) := by decide +kernel
theorem dX9_undo_48 : decode cX9_undo 48 = .ok (.aload_n 0, 1) := by decide +kernel
theorem dX9_undo_49 : decode cX9_undo 49 = .ok (.getfield 19, 3) := by decide +kernel
theorem dX9_undo_52 : decode cX9_undo 52 = .ok (.invokevirtual 205, 3) := by decide +kernel
theorem dX9_undo_55 : decode cX9_undo 55 = .ok (.putfield 57, 3) := by decide +kernel
theorem dX9_undo_58 : decode cX9_undo 58 = .ok (.aload_n 0, 1) := by decide +kernel
theorem dX9_undo_59 : decode cX9_undo 59 = .ok (.getfield 53, 3) := by decide +kernel
theorem dX9_undo_62 : decode cX9_undo 62 = .ok (.ireturn, 1) := by decide +kernel
set_option maxRecDepth 20000 in
theorem ggX9_hear_X9_isBeat : GoodIn wsX9_hear wsX9_isBeat := goodIn_r _ [7, 8, 17, 18, 19, 20, 21, 22, 23, 24, 25, 26] (by decide +kernel) (by decide +kernel)
set_option maxRecDepth 20000 in
theorem gX9_hear_X9_isBeat : GoodIn wsX9_hear (wsV RX9 138 RX9 yX9_isBeat wsX9_isBeat) := goodIn_app (goodIn_of _ (by decide +kernel)) ggX9_hear_X9_isBeat
set_option maxRecDepth 20000 in
theorem ggX9_hear_X1_add : GoodIn wsX9_hear wsX1_add := goodIn_r _ [12, 13, 14, 15, 16, 27, 28, 29] (by decide +kernel) (by decide +kernel)
set_option maxRecDepth 20000 in
theorem gX9_hear_X1_add_n208 : GoodIn wsX9_hear (wsX1_add) := ggX9_hear_X1_add
theorem dX9_hear_0 : decode cX9_hear 0 = .ok (.aload_n 0, 1) := by decide +kernel
theorem dX9_hear_1 : decode cX9_hear 1 = .ok (.iload_n 1, 1) := by decide +kernel
theorem dX9_hear_2 : decode cX9_hear 2 = .ok (.invokevirtual 138, 3) := by decide +kernel
theorem dX9_hear_5 : decode cX9_hear 5 = .ok (.ifCond .ne 6, 3) := by decide +kernel
theorem dX9_hear_8 : decode cX9_hear 8 = .ok (.ldc 134, 2) := by decide +kernel
theorem dX9_hear_10 : decode cX9_hear 10 = .ok (.ireturn, 1) := by decide +kernel
theorem dX9_hear_11 : decode cX9_hear 11 = .ok (.aload_n 0, 1) := by decide +kernel
theorem dX9_hear_12 : decode cX9_hear 12 = .ok (.getfield 26, 3) := by decide +kernel
theorem dX9_hear_15 : decode cX9_hear 15 = .ok (.iload_n 1, 1) := by decide +kernel
theorem dX9_hear_16 : decode cX9_hear 16 = .ok (.iload_n 2, 1) := by decide +kernel
theorem dX9_hear_17 : decode cX9_hear 17 = .ok (.invokevirtual 208, 3) := by decide +kernel
theorem dX9_hear_20 : decode cX9_hear 20 = .ok (.ireturn, 1) := by decide +kernel
set_option maxRecDepth 20000 in
theorem ggX9_moves_X1_fitting : GoodIn wsX9_moves wsX1_fitting := goodIn_r _ [7, 8, 9, 10, 11, 12, 13, 14, 15, 16, 17, 18, 19, 20, 21, 22, 23, 24, 25, 26, 27, 28, 29, 30, 31, 42, 43, 44] (by decide +kernel) (by decide +kernel)
set_option maxRecDepth 20000 in
theorem gX9_moves_X1_fitting_n212 : GoodIn wsX9_moves (wsX1_fitting) := ggX9_moves_X1_fitting
theorem dX9_moves_0 : decode cX9_moves 0 = .ok (.aload_n 0, 1) := by decide +kernel
theorem dX9_moves_1 : decode cX9_moves 1 = .ok (.getfield 26, 3) := by decide +kernel
theorem dX9_moves_4 : decode cX9_moves 4 = .ok (.aload_n 0, 1) := by decide +kernel
theorem dX9_moves_5 : decode cX9_moves 5 = .ok (.getfield 53, 3) := by decide +kernel
theorem dX9_moves_8 : decode cX9_moves 8 = .ok (.aload_n 0, 1) := by decide +kernel
theorem dX9_moves_9 : decode cX9_moves 9 = .ok (.getfield 57, 3) := by decide +kernel
theorem dX9_moves_12 : decode cX9_moves 12 = .ok (.invokevirtual 212, 3) := by decide +kernel
theorem dX9_moves_15 : decode cX9_moves 15 = .ok (.ireturn, 1) := by decide +kernel
set_option maxRecDepth 20000 in
theorem ggX9_listen_X1_fitting : GoodIn wsX9_listen wsX1_fitting := goodIn_r _ [11, 12, 13, 14, 15, 16, 17, 18, 19, 20, 21, 22, 23, 24, 25, 26, 27, 28, 29, 30, 31, 32, 33, 34, 35, 53, 54, 55] (by decide +kernel) (by decide +kernel)
set_option maxRecDepth 20000 in
theorem gX9_listen_X1_fitting_n212 : GoodIn wsX9_listen (wsX1_fitting) := ggX9_listen_X1_fitting
set_option maxRecDepth 20000 in
theorem ggX9_listen_J6_bitCount_0f7a4 : GoodIn wsX9_listen wsJ6_bitCount_0f7a4 := goodIn_r _ [39, 40, 41, 42] (by decide +kernel) (by decide +kernel)
set_option maxRecDepth 20000 in
theorem gX9_listen_J6_bitCount_0f7a4 : GoodIn wsX9_listen (va_wsS RX9 88 yJ6_bitCount_0f7a4 wsJ6_bitCount_0f7a4) := goodIn_app (goodIn_of _ (by decide +kernel)) ggX9_listen_J6_bitCount_0f7a4
set_option maxRecDepth 20000 in
theorem ggX9_listen_X6_turnsThatStrike : GoodIn wsX9_listen wsX6_turnsThatStrike := goodIn_r _ [19, 20, 21, 16, 22, 23, 24, 25, 26, 27, 28, 29, 30, 31, 32, 33, 34, 35, 15, 17] (by decide +kernel) (by decide +kernel)
set_option maxRecDepth 20000 in
theorem gX9_listen_X6_turnsThatStrike_n142 : GoodIn wsX9_listen (wsX6_turnsThatStrike) := ggX9_listen_X6_turnsThatStrike
theorem dX9_listen_0 : decode cX9_listen 0 = .ok (.aload_n 0, 1) := by decide +kernel
theorem dX9_listen_1 : decode cX9_listen 1 = .ok (.getfield 26, 3) := by decide +kernel
theorem dX9_listen_4 : decode cX9_listen 4 = .ok (.aload_n 0, 1) := by decide +kernel
theorem dX9_listen_5 : decode cX9_listen 5 = .ok (.getfield 53, 3) := by decide +kernel
theorem dX9_listen_8 : decode cX9_listen 8 = .ok (.aload_n 0, 1) := by decide +kernel
theorem dX9_listen_9 : decode cX9_listen 9 = .ok (.getfield 57, 3) := by decide +kernel
theorem dX9_listen_12 : decode cX9_listen 12 = .ok (.invokevirtual 212, 3) := by decide +kernel
theorem dX9_listen_15 : decode cX9_listen 15 = .ok (.istore_n 1, 1) := by decide +kernel
theorem dX9_listen_16 : decode cX9_listen 16 = .ok (.iconst (-1), 1) := by decide +kernel
theorem dX9_listen_17 : decode cX9_listen 17 = .ok (.istore_n 2, 1) := by decide +kernel
theorem dX9_listen_18 : decode cX9_listen 18 = .ok (.iload_n 1, 1) := by decide +kernel
theorem dX9_listen_19 : decode cX9_listen 19 = .ok (.invokestatic 88, 3) := by decide +kernel
theorem dX9_listen_22 : decode cX9_listen 22 = .ok (.istore_n 3, 1) := by decide +kernel
theorem dX9_listen_23 : decode cX9_listen 23 = .ok (.iconst 0, 1) := by decide +kernel
theorem dX9_listen_24 : decode cX9_listen 24 = .ok (.istore 4, 2) := by decide +kernel
theorem dX9_listen_26 : decode cX9_listen 26 = .ok (.iload 4, 2) := by decide +kernel
theorem dX9_listen_28 : decode cX9_listen 28 = .ok (.aload_n 0, 1) := by decide +kernel
theorem dX9_listen_29 : decode cX9_listen 29 = .ok (.getfield 53, 3) := by decide +kernel
theorem dX9_listen_32 : decode cX9_listen 32 = .ok (.if_icmp .ge 55, 3) := by decide +kernel
theorem dX9_listen_35 : decode cX9_listen 35 = .ok (.iload_n 1, 1) := by decide +kernel
theorem dX9_listen_36 : decode cX9_listen 36 = .ok (.aload_n 0, 1) := by decide +kernel
theorem dX9_listen_37 : decode cX9_listen 37 = .ok (.getfield 53, 3) := by decide +kernel
theorem dX9_listen_40 : decode cX9_listen 40 = .ok (.aload_n 0, 1) := by decide +kernel
theorem dX9_listen_41 : decode cX9_listen 41 = .ok (.getfield 57, 3) := by decide +kernel
theorem dX9_listen_44 : decode cX9_listen 44 = .ok (.iload 4, 2) := by decide +kernel
theorem dX9_listen_46 : decode cX9_listen 46 = .ok (.invokestatic 142, 3) := by decide +kernel
theorem dX9_listen_49 : decode cX9_listen 49 = .ok (.iand, 1) := by decide +kernel
theorem dX9_listen_50 : decode cX9_listen 50 = .ok (.invokestatic 88, 3) := by decide +kernel
theorem dX9_listen_53 : decode cX9_listen 53 = .ok (.istore 5, 2) := by decide +kernel
theorem dX9_listen_55 : decode cX9_listen 55 = .ok (.iload 5, 2) := by decide +kernel
theorem dX9_listen_57 : decode cX9_listen 57 = .ok (.iload_n 1, 1) := by decide +kernel
theorem dX9_listen_58 : decode cX9_listen 58 = .ok (.invokestatic 88, 3) := by decide +kernel
theorem dX9_listen_61 : decode cX9_listen 61 = .ok (.iload 5, 2) := by decide +kernel
theorem dX9_listen_63 : decode cX9_listen 63 = .ok (.isub, 1) := by decide +kernel
theorem dX9_listen_64 : decode cX9_listen 64 = .ok (.invokestatic 215, 3) := by decide +kernel
theorem dX9_listen_67 : decode cX9_listen 67 = .ok (.istore 6, 2) := by decide +kernel
theorem dX9_listen_69 : decode cX9_listen 69 = .ok (.iload 6, 2) := by decide +kernel
theorem dX9_listen_71 : decode cX9_listen 71 = .ok (.iload_n 3, 1) := by decide +kernel
theorem dX9_listen_72 : decode cX9_listen 72 = .ok (.if_icmp .ge 9, 3) := by decide +kernel
theorem dX9_listen_75 : decode cX9_listen 75 = .ok (.iload 4, 2) := by decide +kernel
theorem dX9_listen_77 : decode cX9_listen 77 = .ok (.istore_n 2, 1) := by decide +kernel
theorem dX9_listen_78 : decode cX9_listen 78 = .ok (.iload 6, 2) := by decide +kernel
theorem dX9_listen_80 : decode cX9_listen 80 = .ok (.istore_n 3, 1) := by decide +kernel
theorem dX9_listen_81 : decode cX9_listen 81 = .ok (.iinc 4 1, 3) := by decide +kernel
theorem dX9_listen_84 : decode cX9_listen 84 = .ok (.goto (-58), 3) := by decide +kernel
theorem dX9_listen_87 : decode cX9_listen 87 = .ok (.iload_n 2, 1) := by decide +kernel
theorem dX9_listen_88 : decode cX9_listen 88 = .ok (.ireturn, 1) := by decide +kernel
set_option maxRecDepth 20000 in
theorem ggX9_forget_X1_clear : GoodIn wsX9_forget wsX1_clear := goodIn_r _ [5, 6, 17, 18, 19] (by decide +kernel) (by decide +kernel)
set_option maxRecDepth 20000 in
theorem gX9_forget_X1_clear_n87 : GoodIn wsX9_forget (wsX1_clear) := ggX9_forget_X1_clear
theorem dX9_forget_0 : decode cX9_forget 0 = .ok (.aload_n 0, 1) := by decide +kernel
theorem dX9_forget_1 : decode cX9_forget 1 = .ok (.getfield 26, 3) := by decide +kernel
theorem dX9_forget_4 : decode cX9_forget 4 = .ok (.getfield 132, 3) := by decide +kernel
theorem dX9_forget_7 : decode cX9_forget 7 = .ok (.istore_n 1, 1) := by decide +kernel
theorem dX9_forget_8 : decode cX9_forget 8 = .ok (.aload_n 0, 1) := by decide +kernel
theorem dX9_forget_9 : decode cX9_forget 9 = .ok (.getfield 26, 3) := by decide +kernel
theorem dX9_forget_12 : decode cX9_forget 12 = .ok (.invokevirtual 87, 3) := by decide +kernel
theorem dX9_forget_15 : decode cX9_forget 15 = .ok (.iload_n 1, 1) := by decide +kernel
theorem dX9_forget_16 : decode cX9_forget 16 = .ok (.ireturn, 1) := by decide +kernel
theorem dX9_seed_0 : decode cX9_seed 0 = .ok (.iload_n 1, 1) := by decide +kernel
theorem dX9_seed_1 : decode cX9_seed 1 = .ok (.ifCond .ge 6, 3) := by decide +kernel
theorem dX9_seed_4 : decode cX9_seed 4 = .ok (.ldc 66, 2) := by decide +kernel
theorem dX9_seed_6 : decode cX9_seed 6 = .ok (.ireturn, 1) := by decide +kernel
theorem dX9_seed_7 : decode cX9_seed 7 = .ok (.aload_n 0, 1) := by decide +kernel
theorem dX9_seed_8 : decode cX9_seed 8 = .ok (.getfield 60, 3) := by decide +kernel
theorem dX9_seed_11 : decode cX9_seed 11 = .ok (.istore_n 2, 1) := by decide +kernel
theorem dX9_seed_12 : decode cX9_seed 12 = .ok (.aload_n 0, 1) := by decide +kernel
theorem dX9_seed_13 : decode cX9_seed 13 = .ok (.iload_n 1, 1) := by decide +kernel
theorem dX9_seed_14 : decode cX9_seed 14 = .ok (.putfield 60, 3) := by decide +kernel
theorem dX9_seed_17 : decode cX9_seed 17 = .ok (.iload_n 2, 1) := by decide +kernel
theorem dX9_seed_18 : decode cX9_seed 18 = .ok (.ireturn, 1) := by decide +kernel
set_option maxRecDepth 20000 in
theorem ggX9_keep_X9_isImage : GoodIn wsX9_keep wsX9_isImage := goodIn_r _ [11] (by decide +kernel) (by decide +kernel)
set_option maxRecDepth 20000 in
theorem gX9_keep_X9_isImage : GoodIn wsX9_keep (wsV RX9 163 RX9 yX9_isImage wsX9_isImage) := goodIn_app (goodIn_of _ (by decide +kernel)) ggX9_keep_X9_isImage
set_option maxRecDepth 20000 in
theorem ggX9_keep_X5_clear : GoodIn wsX9_keep wsX5_clear := goodIn_r _ [15, 16, 17, 31, 32, 33, 34] (by decide +kernel) (by decide +kernel)
set_option maxRecDepth 20000 in
theorem gX9_keep_X5_clear_n222 : GoodIn wsX9_keep (wsX5_clear) := ggX9_keep_X5_clear
theorem dX9_keep_0 : decode cX9_keep 0 = .ok (.aload_n 0, 1) := by decide +kernel
theorem dX9_keep_1 : decode cX9_keep 1 = .ok (.iload_n 1, 1) := by decide +kernel
theorem dX9_keep_2 : decode cX9_keep 2 = .ok (.invokevirtual 163, 3) := by decide +kernel
theorem dX9_keep_5 : decode cX9_keep 5 = .ok (.ifCond .ne 6, 3) := by decide +kernel
theorem dX9_keep_8 : decode cX9_keep 8 = .ok (.ldc 134, 2) := by decide +kernel
theorem dX9_keep_10 : decode cX9_keep 10 = .ok (.ireturn, 1) := by decide +kernel
theorem dX9_keep_11 : decode cX9_keep 11 = .ok (.aload_n 0, 1) := by decide +kernel
theorem dX9_keep_12 : decode cX9_keep 12 = .ok (.getfield 49, 3) := by decide +kernel
theorem dX9_keep_15 : decode cX9_keep 15 = .ok (.getfield 166, 3) := by decide +kernel
theorem dX9_keep_18 : decode cX9_keep 18 = .ok (.iload_n 1, 1) := by decide +kernel
theorem dX9_keep_19 : decode cX9_keep 19 = .ok (.aload_n 0, 1) := by decide +kernel
theorem dX9_keep_20 : decode cX9_keep 20 = .ok (.getfield 53, 3) := by decide +kernel
theorem dX9_keep_23 : decode cX9_keep 23 = .ok (.iastore, 1) := by decide +kernel
theorem dX9_keep_24 : decode cX9_keep 24 = .ok (.aload_n 0, 1) := by decide +kernel
theorem dX9_keep_25 : decode cX9_keep 25 = .ok (.getfield 49, 3) := by decide +kernel
theorem dX9_keep_28 : decode cX9_keep 28 = .ok (.getfield 170, 3) := by decide +kernel
theorem dX9_keep_31 : decode cX9_keep 31 = .ok (.iload_n 1, 1) := by decide +kernel
theorem dX9_keep_32 : decode cX9_keep 32 = .ok (.aload_n 0, 1) := by decide +kernel
theorem dX9_keep_33 : decode cX9_keep 33 = .ok (.getfield 57, 3) := by decide +kernel
theorem dX9_keep_36 : decode cX9_keep 36 = .ok (.iastore, 1) := by decide +kernel
theorem dX9_keep_37 : decode cX9_keep 37 = .ok (.aload_n 0, 1) := by decide +kernel
theorem dX9_keep_38 : decode cX9_keep 38 = .ok (.getfield 49, 3) := by decide +kernel
theorem dX9_keep_41 : decode cX9_keep 41 = .ok (.getfield 220, 3) := by decide +kernel
theorem dX9_keep_44 : decode cX9_keep 44 = .ok (.iload_n 1, 1) := by decide +kernel
theorem dX9_keep_45 : decode cX9_keep 45 = .ok (.aload_n 0, 1) := by decide +kernel
theorem dX9_keep_46 : decode cX9_keep 46 = .ok (.getfield 60, 3) := by decide +kernel
theorem dX9_keep_49 : decode cX9_keep 49 = .ok (.iastore, 1) := by decide +kernel
theorem dX9_keep_50 : decode cX9_keep 50 = .ok (.aload_n 0, 1) := by decide +kernel
theorem dX9_keep_51 : decode cX9_keep 51 = .ok (.getfield 19, 3) := by decide +kernel
theorem dX9_keep_54 : decode cX9_keep 54 = .ok (.invokevirtual 222, 3) := by decide +kernel
theorem dX9_keep_57 : decode cX9_keep 57 = .ok (.iconst 1, 1) := by decide +kernel
theorem dX9_keep_58 : decode cX9_keep 58 = .ok (.ireturn, 1) := by decide +kernel
set_option maxRecDepth 20000 in
theorem ggX9_goBack_X9_isImage : GoodIn wsX9_goBack wsX9_isImage := goodIn_r _ [12] (by decide +kernel) (by decide +kernel)
set_option maxRecDepth 20000 in
theorem gX9_goBack_X9_isImage : GoodIn wsX9_goBack (wsV RX9 163 RX9 yX9_isImage wsX9_isImage) := goodIn_app (goodIn_of _ (by decide +kernel)) ggX9_goBack_X9_isImage
set_option maxRecDepth 20000 in
theorem ggX9_goBack_X5_clear : GoodIn wsX9_goBack wsX5_clear := goodIn_r _ [16, 17, 18, 32, 33, 34, 35] (by decide +kernel) (by decide +kernel)
set_option maxRecDepth 20000 in
theorem gX9_goBack_X5_clear_n222 : GoodIn wsX9_goBack (wsX5_clear) := ggX9_goBack_X5_clear
theorem dX9_goBack_0 : decode cX9_goBack 0 = .ok (.aload_n 0, 1) := by decide +kernel
theorem dX9_goBack_1 : decode cX9_goBack 1 = .ok (.iload_n 1, 1) := by decide +kernel
theorem dX9_goBack_2 : decode cX9_goBack 2 = .ok (.invokevirtual 163, 3) := by decide +kernel
theorem dX9_goBack_5 : decode cX9_goBack 5 = .ok (.ifCond .ne 6, 3) := by decide +kernel
theorem dX9_goBack_8 : decode cX9_goBack 8 = .ok (.ldc 134, 2) := by decide +kernel
theorem dX9_goBack_10 : decode cX9_goBack 10 = .ok (.ireturn, 1) := by decide +kernel
theorem dX9_goBack_11 : decode cX9_goBack 11 = .ok (.aload_n 0, 1) := by decide +kernel
theorem dX9_goBack_12 : decode cX9_goBack 12 = .ok (.getfield 49, 3) := by decide +kernel
theorem dX9_goBack_15 : decode cX9_goBack 15 = .ok (.getfield 166, 3) := by decide +kernel
theorem dX9_goBack_18 : decode cX9_goBack 18 = .ok (.iload_n 1, 1) := by decide +kernel
theorem dX9_goBack_19 : decode cX9_goBack 19 = .ok (.iaload, 1) := by decide +kernel
theorem dX9_goBack_20 : decode cX9_goBack 20 = .ok (.ifCond .ne 6, 3) := by decide +kernel
theorem dX9_goBack_23 : decode cX9_goBack 23 = .ok (.ldc 169, 2) := by decide +kernel
theorem dX9_goBack_25 : decode cX9_goBack 25 = .ok (.ireturn, 1) := by decide +kernel
theorem dX9_goBack_26 : decode cX9_goBack 26 = .ok (.aload_n 0, 1) := by decide +kernel
theorem dX9_goBack_27 : decode cX9_goBack 27 = .ok (.aload_n 0, 1) := by decide +kernel
theorem dX9_goBack_28 : decode cX9_goBack 28 = .ok (.getfield 49, 3) := by decide +kernel
theorem dX9_goBack_31 : decode cX9_goBack 31 = .ok (.getfield 166, 3) := by decide +kernel
theorem dX9_goBack_34 : decode cX9_goBack 34 = .ok (.iload_n 1, 1) := by decide +kernel
theorem dX9_goBack_35 : decode cX9_goBack 35 = .ok (.iaload, 1) := by decide +kernel
theorem dX9_goBack_36 : decode cX9_goBack 36 = .ok (.putfield 53, 3) := by decide +kernel
theorem dX9_goBack_39 : decode cX9_goBack 39 = .ok (.aload_n 0, 1) := by decide +kernel
theorem dX9_goBack_40 : decode cX9_goBack 40 = .ok (.aload_n 0, 1) := by decide +kernel
theorem dX9_goBack_41 : decode cX9_goBack 41 = .ok (.getfield 49, 3) := by decide +kernel
theorem dX9_goBack_44 : decode cX9_goBack 44 = .ok (.getfield 170, 3) := by decide +kernel
theorem dX9_goBack_47 : decode cX9_goBack 47 = .ok (.iload_n 1, 1) := by decide +kernel
theorem dX9_goBack_48 : decode cX9_goBack 48 = .ok (.iaload, 1) := by decide +kernel
theorem dX9_goBack_49 : decode cX9_goBack 49 = .ok (.putfield 57, 3) := by decide +kernel
theorem dX9_goBack_52 : decode cX9_goBack 52 = .ok (.aload_n 0, 1) := by decide +kernel
theorem dX9_goBack_53 : decode cX9_goBack 53 = .ok (.aload_n 0, 1) := by decide +kernel
theorem dX9_goBack_54 : decode cX9_goBack 54 = .ok (.getfield 49, 3) := by decide +kernel
theorem dX9_goBack_57 : decode cX9_goBack 57 = .ok (.getfield 220, 3) := by decide +kernel
theorem dX9_goBack_60 : decode cX9_goBack 60 = .ok (.iload_n 1, 1) := by decide +kernel
theorem dX9_goBack_61 : decode cX9_goBack 61 = .ok (.iaload, 1) := by decide +kernel
theorem dX9_goBack_62 : decode cX9_goBack 62 = .ok (.putfield 60, 3) := by decide +kernel
theorem dX9_goBack_65 : decode cX9_goBack 65 = .ok (.aload_n 0, 1) := by decide +kernel
theorem dX9_goBack_66 : decode cX9_goBack 66 = .ok (.getfield 19, 3) := by decide +kernel
theorem dX9_goBack_69 : decode cX9_goBack 69 = .ok (.invokevirtual 222, 3) := by decide +kernel
theorem dX9_goBack_72 : decode cX9_goBack 72 = .ok (.iconst 1, 1) := by decide +kernel
theorem dX9_goBack_73 : decode cX9_goBack 73 = .ok (.ireturn, 1) := by decide +kernel
theorem dX9_isBeat_0 : decode cX9_isBeat 0 = .ok (.iload_n 1, 1) := by decide +kernel
theorem dX9_isBeat_1 : decode cX9_isBeat 1 = .ok (.ifCond .lt 15, 3) := by decide +kernel
theorem dX9_isBeat_4 : decode cX9_isBeat 4 = .ok (.iload_n 1, 1) := by decide +kernel
theorem dX9_isBeat_5 : decode cX9_isBeat 5 = .ok (.aload_n 0, 1) := by decide +kernel
theorem dX9_isBeat_6 : decode cX9_isBeat 6 = .ok (.getfield 53, 3) := by decide +kernel
theorem dX9_isBeat_9 : decode cX9_isBeat 9 = .ok (.if_icmp .ge 7, 3) := by decide +kernel
theorem dX9_isBeat_12 : decode cX9_isBeat 12 = .ok (.iconst 1, 1) := by decide +kernel
theorem dX9_isBeat_13 : decode cX9_isBeat 13 = .ok (.goto 4, 3) := by decide +kernel
theorem dX9_isBeat_16 : decode cX9_isBeat 16 = .ok (.iconst 0, 1) := by decide +kernel
theorem dX9_isBeat_17 : decode cX9_isBeat 17 = .ok (.ireturn, 1) := by decide +kernel
theorem dX9_isImage_0 : decode cX9_isImage 0 = .ok (.iload_n 1, 1) := by decide +kernel
theorem dX9_isImage_1 : decode cX9_isImage 1 = .ok (.ifCond .lt 12, 3) := by decide +kernel
theorem dX9_isImage_4 : decode cX9_isImage 4 = .ok (.iload_n 1, 1) := by decide +kernel
theorem dX9_isImage_5 : decode cX9_isImage 5 = .ok (.iconst 2, 1) := by decide +kernel
theorem dX9_isImage_6 : decode cX9_isImage 6 = .ok (.if_icmp .ge 7, 3) := by decide +kernel
theorem dX9_isImage_9 : decode cX9_isImage 9 = .ok (.iconst 1, 1) := by decide +kernel
theorem dX9_isImage_10 : decode cX9_isImage 10 = .ok (.goto 4, 3) := by decide +kernel
theorem dX9_isImage_13 : decode cX9_isImage 13 = .ok (.iconst 0, 1) := by decide +kernel
theorem dX9_isImage_14 : decode cX9_isImage 14 = .ok (.ireturn, 1) := by decide +kernel
set_option maxRecDepth 20000 in
theorem ggX9_isMostEven_J6_bitCount_0f7a4 : GoodIn wsX9_isMostEven wsJ6_bitCount_0f7a4 := goodIn_r _ [6, 7, 8, 9] (by decide +kernel) (by decide +kernel)
set_option maxRecDepth 20000 in
theorem gX9_isMostEven_J6_bitCount_0f7a4 : GoodIn wsX9_isMostEven (va_wsS RX9 88 yJ6_bitCount_0f7a4 wsJ6_bitCount_0f7a4) := goodIn_app (goodIn_of _ (by decide +kernel)) ggX9_isMostEven_J6_bitCount_0f7a4
set_option maxRecDepth 20000 in
theorem ggX9_isMostEven_X6_evenly : GoodIn wsX9_isMostEven wsX6_evenly := goodIn_r _ [12, 13, 14, 11, 15] (by decide +kernel) (by decide +kernel)
set_option maxRecDepth 20000 in
theorem gX9_isMostEven_X6_evenly_n186 : GoodIn wsX9_isMostEven (wsX6_evenly) := ggX9_isMostEven_X6_evenly
set_option maxRecDepth 20000 in
theorem ggX9_isMostEven_X4_least : GoodIn wsX9_isMostEven wsX4_least := goodIn_r _ [18, 19, 20, 17, 21, 22, 11, 23, 24, 25, 26, 27, 28, 29, 30, 31, 13, 14, 15, 32, 33, 34] (by decide +kernel) (by decide +kernel)
set_option maxRecDepth 20000 in
theorem gX9_isMostEven_X4_least_n106 : GoodIn wsX9_isMostEven (wsX4_least) := ggX9_isMostEven_X4_least
theorem dX9_isMostEven_0 : decode cX9_isMostEven 0 = .ok (.aload_n 0, 1) := by decide +kernel
theorem dX9_isMostEven_1 : decode cX9_isMostEven 1 = .ok (.getfield 53, 3) := by decide +kernel
theorem dX9_isMostEven_4 : decode cX9_isMostEven 4 = .ok (.aload_n 0, 1) := by decide +kernel
theorem dX9_isMostEven_5 : decode cX9_isMostEven 5 = .ok (.getfield 57, 3) := by decide +kernel
theorem dX9_isMostEven_8 : decode cX9_isMostEven 8 = .ok (.invokestatic 88, 3) := by decide +kernel
theorem dX9_isMostEven_11 : decode cX9_isMostEven 11 = .ok (.invokestatic 186, 3) := by decide +kernel
theorem dX9_isMostEven_14 : decode cX9_isMostEven 14 = .ok (.istore_n 1, 1) := by decide +kernel
theorem dX9_isMostEven_15 : decode cX9_isMostEven 15 = .ok (.aload_n 0, 1) := by decide +kernel
theorem dX9_isMostEven_16 : decode cX9_isMostEven 16 = .ok (.getfield 53, 3) := by decide +kernel
theorem dX9_isMostEven_19 : decode cX9_isMostEven 19 = .ok (.aload_n 0, 1) := by decide +kernel
theorem dX9_isMostEven_20 : decode cX9_isMostEven 20 = .ok (.getfield 57, 3) := by decide +kernel
theorem dX9_isMostEven_23 : decode cX9_isMostEven 23 = .ok (.invokestatic 106, 3) := by decide +kernel
theorem dX9_isMostEven_26 : decode cX9_isMostEven 26 = .ok (.aload_n 0, 1) := by decide +kernel
theorem dX9_isMostEven_27 : decode cX9_isMostEven 27 = .ok (.getfield 53, 3) := by decide +kernel
theorem dX9_isMostEven_30 : decode cX9_isMostEven 30 = .ok (.iload_n 1, 1) := by decide +kernel
theorem dX9_isMostEven_31 : decode cX9_isMostEven 31 = .ok (.invokestatic 106, 3) := by decide +kernel
theorem dX9_isMostEven_34 : decode cX9_isMostEven 34 = .ok (.if_icmp .ne 7, 3) := by decide +kernel
theorem dX9_isMostEven_37 : decode cX9_isMostEven 37 = .ok (.iconst 1, 1) := by decide +kernel
theorem dX9_isMostEven_38 : decode cX9_isMostEven 38 = .ok (.goto 4, 3) := by decide +kernel
theorem dX9_isMostEven_41 : decode cX9_isMostEven 41 = .ok (.iconst 0, 1) := by decide +kernel
theorem dX9_isMostEven_42 : decode cX9_isMostEven 42 = .ok (.ireturn, 1) := by decide +kernel
set_option maxRecDepth 20000 in
theorem ggX9_laterNecklace_X9_isMostEven : GoodIn wsX9_laterNecklace wsX9_isMostEven := goodIn_r _ [7, 1, 2, 8, 9, 10, 11, 12, 13, 14, 15, 16, 17, 18, 19, 20, 21, 22, 23, 24, 25, 26, 27, 28, 29, 30, 31, 32, 33, 34, 35, 36, 37, 38, 39, 46, 47, 48, 49, 50, 51, 52, 53, 54, 55] (by decide +kernel) (by decide +kernel)
set_option maxRecDepth 20000 in
theorem gX9_laterNecklace_X9_isMostEven : GoodIn wsX9_laterNecklace (wsV RX9 121 RX9 yX9_isMostEven wsX9_isMostEven) := goodIn_app (goodIn_of _ (by decide +kernel)) ggX9_laterNecklace_X9_isMostEven
set_option maxRecDepth 20000 in
theorem ggX9_laterNecklace_X4_least : GoodIn wsX9_laterNecklace wsX4_least := goodIn_r _ [23, 24, 25, 22, 26, 27, 16, 28, 29, 30, 31, 32, 33, 34, 35, 36, 18, 19, 20, 37, 38, 39] (by decide +kernel) (by decide +kernel)
set_option maxRecDepth 20000 in
theorem gX9_laterNecklace_X4_least_n106 : GoodIn wsX9_laterNecklace (wsX4_least) := ggX9_laterNecklace_X4_least
set_option maxRecDepth 20000 in
theorem ggX9_laterNecklace_X4_later : GoodIn wsX9_laterNecklace wsX4_later := goodIn_r _ [41, 42, 9, 10, 11, 12, 13, 14, 43, 44, 22, 45, 19, 16, 20, 27, 28] (by decide +kernel) (by decide +kernel)
set_option maxRecDepth 20000 in
theorem gX9_laterNecklace_X4_later_n223 : GoodIn wsX9_laterNecklace (wsX4_later) := ggX9_laterNecklace_X4_later
theorem dX9_laterNecklace_0 : decode cX9_laterNecklace 0 = .ok (.aload_n 0, 1) := by decide +kernel
theorem dX9_laterNecklace_1 : decode cX9_laterNecklace 1 = .ok (.invokevirtual 121, 3) := by decide +kernel
theorem dX9_laterNecklace_4 : decode cX9_laterNecklace 4 = .ok (.ifCond .eq 7, 3) := by decide +kernel
theorem dX9_laterNecklace_7 : decode cX9_laterNecklace 7 = .ok (.iconst (-1), 1) := by decide +kernel
theorem dX9_laterNecklace_8 : decode cX9_laterNecklace 8 = .ok (.goto 21, 3) := by decide +kernel
theorem dX9_laterNecklace_11 : decode cX9_laterNecklace 11 = .ok (.aload_n 0, 1) := by decide +kernel
theorem dX9_laterNecklace_12 : decode cX9_laterNecklace 12 = .ok (.getfield 53, 3) := by decide +kernel
theorem dX9_laterNecklace_15 : decode cX9_laterNecklace 15 = .ok (.aload_n 0, 1) := by decide +kernel
theorem dX9_laterNecklace_16 : decode cX9_laterNecklace 16 = .ok (.getfield 53, 3) := by decide +kernel
theorem dX9_laterNecklace_19 : decode cX9_laterNecklace 19 = .ok (.aload_n 0, 1) := by decide +kernel
theorem dX9_laterNecklace_20 : decode cX9_laterNecklace 20 = .ok (.getfield 57, 3) := by decide +kernel
theorem dX9_laterNecklace_23 : decode cX9_laterNecklace 23 = .ok (.invokestatic 106, 3) := by decide +kernel
theorem dX9_laterNecklace_26 : decode cX9_laterNecklace 26 = .ok (.invokestatic 223, 3) := by decide +kernel
theorem dX9_laterNecklace_29 : decode cX9_laterNecklace 29 = .ok (.ireturn, 1) := by decide +kernel
set_option maxRecDepth 20000 in
theorem ggX9_change_X5_add : GoodIn wsX9_change wsX5_add := goodIn_r _ [7, 8, 9, 10, 11, 12, 13, 14, 15, 16, 17, 18, 5, 19, 20, 21, 22, 33, 34, 35, 36] (by decide +kernel) (by decide +kernel)
set_option maxRecDepth 20000 in
theorem gX9_change_X5_add_n226 : GoodIn wsX9_change (wsX5_add) := ggX9_change_X5_add
theorem dX9_change_0 : decode cX9_change 0 = .ok (.aload_n 0, 1) := by decide +kernel
theorem dX9_change_1 : decode cX9_change 1 = .ok (.getfield 19, 3) := by decide +kernel
theorem dX9_change_4 : decode cX9_change 4 = .ok (.aload_n 0, 1) := by decide +kernel
theorem dX9_change_5 : decode cX9_change 5 = .ok (.getfield 53, 3) := by decide +kernel
theorem dX9_change_8 : decode cX9_change 8 = .ok (.aload_n 0, 1) := by decide +kernel
theorem dX9_change_9 : decode cX9_change 9 = .ok (.getfield 57, 3) := by decide +kernel
theorem dX9_change_12 : decode cX9_change 12 = .ok (.invokevirtual 226, 3) := by decide +kernel
theorem dX9_change_15 : decode cX9_change 15 = .ok (.aload_n 0, 1) := by decide +kernel
theorem dX9_change_16 : decode cX9_change 16 = .ok (.iload_n 1, 1) := by decide +kernel
theorem dX9_change_17 : decode cX9_change 17 = .ok (.putfield 53, 3) := by decide +kernel
theorem dX9_change_20 : decode cX9_change 20 = .ok (.aload_n 0, 1) := by decide +kernel
theorem dX9_change_21 : decode cX9_change 21 = .ok (.iload_n 2, 1) := by decide +kernel
theorem dX9_change_22 : decode cX9_change 22 = .ok (.putfield 57, 3) := by decide +kernel
theorem dX9_change_25 : decode cX9_change 25 = .ok (.aload_n 0, 1) := by decide +kernel
theorem dX9_change_26 : decode cX9_change 26 = .ok (.getfield 57, 3) := by decide +kernel
theorem dX9_change_29 : decode cX9_change 29 = .ok (.ireturn, 1) := by decide +kernel
set_option maxRecDepth 20000 in
theorem ggX9_changeByDraws_X9_draw : GoodIn wsX9_changeByDraws wsX9_draw := goodIn_r _ [7, 8, 9, 10, 11, 12, 13, 14, 15, 53, 54, 55, 56, 57, 58, 59, 60, 61, 62] (by decide +kernel) (by decide +kernel)
set_option maxRecDepth 20000 in
theorem gX9_changeByDraws_X9_draw : GoodIn wsX9_changeByDraws (wsV RX9 229 RX9 yX9_draw wsX9_draw) := goodIn_app (goodIn_of _ (by decide +kernel)) ggX9_changeByDraws_X9_draw
set_option maxRecDepth 20000 in
theorem ggX9_changeByDraws_X9_change : GoodIn wsX9_changeByDraws wsX9_change := goodIn_r _ [19, 20, 1, 2, 21, 22, 23, 24, 25, 26, 27, 28, 29, 30, 31, 32, 33, 34, 35, 36, 13, 14, 15, 53, 54, 55, 56, 57, 58, 59, 60, 61, 62, 63, 64, 65, 66] (by decide +kernel) (by decide +kernel)
set_option maxRecDepth 20000 in
theorem gX9_changeByDraws_X9_change : GoodIn wsX9_changeByDraws (wsV RX9 83 RX9 yX9_change wsX9_change) := goodIn_app (goodIn_of _ (by decide +kernel)) ggX9_changeByDraws_X9_change
set_option maxRecDepth 20000 in
theorem ggX9_changeByDraws_X6_moved : GoodIn wsX9_changeByDraws wsX6_moved := goodIn_r _ [38, 39, 13, 14, 15, 40, 41, 42] (by decide +kernel) (by decide +kernel)
set_option maxRecDepth 20000 in
theorem gX9_changeByDraws_X6_moved_n152 : GoodIn wsX9_changeByDraws (wsX6_moved) := ggX9_changeByDraws_X6_moved
set_option maxRecDepth 20000 in
theorem ggX9_changeByDraws_X6_inverted : GoodIn wsX9_changeByDraws wsX6_inverted := goodIn_r _ [44, 40, 41, 14, 42] (by decide +kernel) (by decide +kernel)
set_option maxRecDepth 20000 in
theorem gX9_changeByDraws_X6_inverted_n173 : GoodIn wsX9_changeByDraws (wsX6_inverted) := ggX9_changeByDraws_X6_inverted
set_option maxRecDepth 20000 in
theorem ggX9_changeByDraws_X6_mirrored : GoodIn wsX9_changeByDraws wsX6_mirrored := goodIn_r _ [46, 47, 48, 14, 49, 50, 51, 52, 39, 13, 15] (by decide +kernel) (by decide +kernel)
set_option maxRecDepth 20000 in
theorem gX9_changeByDraws_X6_mirrored_n176 : GoodIn wsX9_changeByDraws (wsX6_mirrored) := ggX9_changeByDraws_X6_mirrored
theorem dX9_changeByDraws_0 : decode cX9_changeByDraws 0 = .ok (.aload_n 0, 1) := by decide +kernel
theorem dX9_changeByDraws_1 : decode cX9_changeByDraws 1 = .ok (.bipush 8, 2) := by decide +kernel
theorem dX9_changeByDraws_3 : decode cX9_changeByDraws 3 = .ok (.invokevirtual 229, 3) := by decide +kernel
theorem dX9_changeByDraws_6 : decode cX9_changeByDraws 6 = .ok (.istore_n 1, 1) := by decide +kernel
theorem dX9_changeByDraws_7 : decode cX9_changeByDraws 7 = .ok (.iload_n 1, 1) := by decide +kernel
theorem dX9_changeByDraws_8 : decode cX9_changeByDraws 8 = .ok (.iconst 4, 1) := by decide +kernel
theorem dX9_changeByDraws_9 : decode cX9_changeByDraws 9 = .ok (.if_icmp .gt 30, 3) := by decide +kernel
theorem dX9_changeByDraws_12 : decode cX9_changeByDraws 12 = .ok (.aload_n 0, 1) := by decide +kernel
theorem dX9_changeByDraws_13 : decode cX9_changeByDraws 13 = .ok (.aload_n 0, 1) := by decide +kernel
theorem dX9_changeByDraws_14 : decode cX9_changeByDraws 14 = .ok (.getfield 53, 3) := by decide +kernel
theorem dX9_changeByDraws_17 : decode cX9_changeByDraws 17 = .ok (.aload_n 0, 1) := by decide +kernel
theorem dX9_changeByDraws_18 : decode cX9_changeByDraws 18 = .ok (.getfield 57, 3) := by decide +kernel
theorem dX9_changeByDraws_21 : decode cX9_changeByDraws 21 = .ok (.iconst 1, 1) := by decide +kernel
theorem dX9_changeByDraws_22 : decode cX9_changeByDraws 22 = .ok (.aload_n 0, 1) := by decide +kernel
theorem dX9_changeByDraws_23 : decode cX9_changeByDraws 23 = .ok (.aload_n 0, 1) := by decide +kernel
theorem dX9_changeByDraws_24 : decode cX9_changeByDraws 24 = .ok (.getfield 53, 3) := by decide +kernel
theorem dX9_changeByDraws_27 : decode cX9_changeByDraws 27 = .ok (.invokevirtual 229, 3) := by decide +kernel
theorem dX9_changeByDraws_30 : decode cX9_changeByDraws 30 = .ok (.ishl, 1) := by decide +kernel
theorem dX9_changeByDraws_31 : decode cX9_changeByDraws 31 = .ok (.ixor, 1) := by decide +kernel
theorem dX9_changeByDraws_32 : decode cX9_changeByDraws 32 = .ok (.invokevirtual 83, 3) := by decide +kernel
theorem dX9_changeByDraws_35 : decode cX9_changeByDraws 35 = .ok (.pop, 1) := by decide +kernel
theorem dX9_changeByDraws_36 : decode cX9_changeByDraws 36 = .ok (.goto 88, 3) := by decide +kernel
theorem dX9_changeByDraws_39 : decode cX9_changeByDraws 39 = .ok (.iload_n 1, 1) := by decide +kernel
theorem dX9_changeByDraws_40 : decode cX9_changeByDraws 40 = .ok (.iconst 5, 1) := by decide +kernel
theorem dX9_changeByDraws_41 : decode cX9_changeByDraws 41 = .ok (.if_icmp .ne 34, 3) := by decide +kernel
theorem dX9_changeByDraws_44 : decode cX9_changeByDraws 44 = .ok (.aload_n 0, 1) := by decide +kernel
theorem dX9_changeByDraws_45 : decode cX9_changeByDraws 45 = .ok (.aload_n 0, 1) := by decide +kernel
theorem dX9_changeByDraws_46 : decode cX9_changeByDraws 46 = .ok (.getfield 53, 3) := by decide +kernel
theorem dX9_changeByDraws_49 : decode cX9_changeByDraws 49 = .ok (.aload_n 0, 1) := by decide +kernel
theorem dX9_changeByDraws_50 : decode cX9_changeByDraws 50 = .ok (.getfield 53, 3) := by decide +kernel
theorem dX9_changeByDraws_53 : decode cX9_changeByDraws 53 = .ok (.aload_n 0, 1) := by decide +kernel
theorem dX9_changeByDraws_54 : decode cX9_changeByDraws 54 = .ok (.getfield 57, 3) := by decide +kernel
theorem dX9_changeByDraws_57 : decode cX9_changeByDraws 57 = .ok (.aload_n 0, 1) := by decide +kernel
theorem dX9_changeByDraws_58 : decode cX9_changeByDraws 58 = .ok (.aload_n 0, 1) := by decide +kernel
theorem dX9_changeByDraws_59 : decode cX9_changeByDraws 59 = .ok (.getfield 53, 3) := by decide +kernel
theorem dX9_changeByDraws_62 : decode cX9_changeByDraws 62 = .ok (.invokevirtual 229, 3) := by decide +kernel
theorem dX9_changeByDraws_65 : decode cX9_changeByDraws 65 = .ok (.invokestatic 152, 3) := by decide +kernel
theorem dX9_changeByDraws_68 : decode cX9_changeByDraws 68 = .ok (.invokevirtual 83, 3) := by decide +kernel
theorem dX9_changeByDraws_71 : decode cX9_changeByDraws 71 = .ok (.pop, 1) := by decide +kernel
theorem dX9_changeByDraws_72 : decode cX9_changeByDraws 72 = .ok (.goto 52, 3) := by decide +kernel
theorem dX9_changeByDraws_75 : decode cX9_changeByDraws 75 = .ok (.iload_n 1, 1) := by decide +kernel
theorem dX9_changeByDraws_76 : decode cX9_changeByDraws 76 = .ok (.bipush 6, 2) := by decide +kernel
theorem dX9_changeByDraws_78 : decode cX9_changeByDraws 78 = .ok (.if_icmp .ne 26, 3) := by decide +kernel
theorem dX9_changeByDraws_81 : decode cX9_changeByDraws 81 = .ok (.aload_n 0, 1) := by decide +kernel
theorem dX9_changeByDraws_82 : decode cX9_changeByDraws 82 = .ok (.aload_n 0, 1) := by decide +kernel
theorem dX9_changeByDraws_83 : decode cX9_changeByDraws 83 = .ok (.getfield 53, 3) := by decide +kernel
theorem dX9_changeByDraws_86 : decode cX9_changeByDraws 86 = .ok (.aload_n 0, 1) := by decide +kernel
theorem dX9_changeByDraws_87 : decode cX9_changeByDraws 87 = .ok (.getfield 53, 3) := by decide +kernel
theorem dX9_changeByDraws_90 : decode cX9_changeByDraws 90 = .ok (.aload_n 0, 1) := by decide +kernel
theorem dX9_changeByDraws_91 : decode cX9_changeByDraws 91 = .ok (.getfield 57, 3) := by decide +kernel
theorem dX9_changeByDraws_94 : decode cX9_changeByDraws 94 = .ok (.invokestatic 173, 3) := by decide +kernel
theorem dX9_changeByDraws_97 : decode cX9_changeByDraws 97 = .ok (.invokevirtual 83, 3) := by decide +kernel
theorem dX9_changeByDraws_100 : decode cX9_changeByDraws 100 = .ok (.pop, 1) := by decide +kernel
theorem dX9_changeByDraws_101 : decode cX9_changeByDraws 101 = .ok (.goto 23, 3) := by decide +kernel
theorem dX9_changeByDraws_104 : decode cX9_changeByDraws 104 = .ok (.aload_n 0, 1) := by decide +kernel
theorem dX9_changeByDraws_105 : decode cX9_changeByDraws 105 = .ok (.aload_n 0, 1) := by decide +kernel
theorem dX9_changeByDraws_106 : decode cX9_changeByDraws 106 = .ok (.getfield 53, 3) := by decide +kernel
theorem dX9_changeByDraws_109 : decode cX9_changeByDraws 109 = .ok (.aload_n 0, 1) := by decide +kernel
theorem dX9_changeByDraws_110 : decode cX9_changeByDraws 110 = .ok (.getfield 53, 3) := by decide +kernel
theorem dX9_changeByDraws_113 : decode cX9_changeByDraws 113 = .ok (.aload_n 0, 1) := by decide +kernel
theorem dX9_changeByDraws_114 : decode cX9_changeByDraws 114 = .ok (.getfield 57, 3) := by decide +kernel
theorem dX9_changeByDraws_117 : decode cX9_changeByDraws 117 = .ok (.invokestatic 176, 3) := by decide +kernel
theorem dX9_changeByDraws_120 : decode cX9_changeByDraws 120 = .ok (.invokevirtual 83, 3) := by decide +kernel
theorem dX9_changeByDraws_123 : decode cX9_changeByDraws 123 = .ok (.pop, 1) := by decide +kernel
theorem dX9_changeByDraws_124 : decode cX9_changeByDraws 124 = .ok (.return_, 1) := by decide +kernel
set_option maxRecDepth 20000 in
theorem ggX9_draw_X6_leftOver : GoodIn wsX9_draw wsX6_leftOver := goodIn_r _ [8] (by decide +kernel) (by decide +kernel)
set_option maxRecDepth 20000 in
theorem gX9_draw_X6_leftOver_n239 : GoodIn wsX9_draw (wsX6_leftOver) := ggX9_draw_X6_leftOver
theorem dX9_draw_0 : decode cX9_draw 0 = .ok (.aload_n 0, 1) := by decide +kernel
theorem dX9_draw_1 : decode cX9_draw 1 = .ok (.aload_n 0, 1) := by decide +kernel
theorem dX9_draw_2 : decode cX9_draw 2 = .ok (.getfield 60, 3) := by decide +kernel
theorem dX9_draw_5 : decode cX9_draw 5 = .ok (.i2l, 1) := by decide +kernel
theorem dX9_draw_6 : decode cX9_draw 6 = .ok (.ldc2_w 232, 3) := by decide +kernel
theorem dX9_draw_9 : decode cX9_draw 9 = .ok (.lmul, 1) := by decide +kernel
theorem dX9_draw_10 : decode cX9_draw 10 = .ok (.ldc2_w 234, 3) := by decide +kernel
theorem dX9_draw_13 : decode cX9_draw 13 = .ok (.ladd, 1) := by decide +kernel
theorem dX9_draw_14 : decode cX9_draw 14 = .ok (.ldc2_w 236, 3) := by decide +kernel
theorem dX9_draw_17 : decode cX9_draw 17 = .ok (.lrem, 1) := by decide +kernel
theorem dX9_draw_18 : decode cX9_draw 18 = .ok (.l2i, 1) := by decide +kernel
theorem dX9_draw_19 : decode cX9_draw 19 = .ok (.putfield 60, 3) := by decide +kernel
theorem dX9_draw_22 : decode cX9_draw 22 = .ok (.aload_n 0, 1) := by decide +kernel
theorem dX9_draw_23 : decode cX9_draw 23 = .ok (.getfield 60, 3) := by decide +kernel
theorem dX9_draw_26 : decode cX9_draw 26 = .ok (.ldc 238, 2) := by decide +kernel
theorem dX9_draw_28 : decode cX9_draw 28 = .ok (.idiv, 1) := by decide +kernel
theorem dX9_draw_29 : decode cX9_draw 29 = .ok (.iload_n 1, 1) := by decide +kernel
theorem dX9_draw_30 : decode cX9_draw 30 = .ok (.invokestatic 239, 3) := by decide +kernel
theorem dX9_draw_33 : decode cX9_draw 33 = .ok (.ireturn, 1) := by decide +kernel
theorem dX10_init_0 : decode cX10_init 0 = .ok (.aload_n 0, 1) := by decide +kernel
theorem dX10_init_1 : decode cX10_init 1 = .ok (.invokespecial 1, 3) := by decide +kernel
theorem dX10_init_4 : decode cX10_init 4 = .ok (.aload_n 0, 1) := by decide +kernel
theorem dX10_init_5 : decode cX10_init 5 = .ok (.bipush 16, 2) := by decide +kernel
theorem dX10_init_7 : decode cX10_init 7 = .ok (.putfield 7, 3) := by decide +kernel
theorem dX10_init_10 : decode cX10_init 10 = .ok (.aload_n 0, 1) := by decide +kernel
theorem dX10_init_11 : decode cX10_init 11 = .ok (.bipush 30, 2) := by decide +kernel
theorem dX10_init_13 : decode cX10_init 13 = .ok (.newarray .int, 2) := by decide +kernel
theorem dX10_init_15 : decode cX10_init 15 = .ok (.putfield 13, 3) := by decide +kernel
theorem dX10_init_18 : decode cX10_init 18 = .ok (.aload_n 0, 1) := by decide +kernel
theorem dX10_init_19 : decode cX10_init 19 = .ok (.bipush 30, 2) := by decide +kernel
theorem dX10_init_21 : decode cX10_init 21 = .ok (.newarray .int, 2) := by decide +kernel
theorem dX10_init_23 : decode cX10_init 23 = .ok (.putfield 17, 3) := by decide +kernel
theorem dX10_init_26 : decode cX10_init 26 = .ok (.aload_n 0, 1) := by decide +kernel
theorem dX10_init_27 : decode cX10_init 27 = .ok (.iconst 2, 1) := by decide +kernel
theorem dX10_init_28 : decode cX10_init 28 = .ok (.newarray .int, 2) := by decide +kernel
theorem dX10_init_30 : decode cX10_init 30 = .ok (.putfield 20, 3) := by decide +kernel
theorem dX10_init_33 : decode cX10_init 33 = .ok (.aload_n 0, 1) := by decide +kernel
theorem dX10_init_34 : decode cX10_init 34 = .ok (.iconst 2, 1) := by decide +kernel
theorem dX10_init_35 : decode cX10_init 35 = .ok (.newarray .int, 2) := by decide +kernel
theorem dX10_init_37 : decode cX10_init 37 = .ok (.putfield 23, 3) := by decide +kernel
theorem dX10_init_40 : decode cX10_init 40 = .ok (.aload_n 0, 1) := by decide +kernel
theorem dX10_init_41 : decode cX10_init 41 = .ok (.iconst 2, 1) := by decide +kernel
theorem dX10_init_42 : decode cX10_init 42 = .ok (.newarray .int, 2) := by decide +kernel
theorem dX10_init_44 : decode cX10_init 44 = .ok (.putfield 26, 3) := by decide +kernel
theorem dX10_init_47 : decode cX10_init 47 = .ok (.aload_n 0, 1) := by decide +kernel
theorem dX10_init_48 : decode cX10_init 48 = .ok (.iconst 2, 1) := by decide +kernel
theorem dX10_init_49 : decode cX10_init 49 = .ok (.newarray .boolean, 2) := by decide +kernel
theorem dX10_init_51 : decode cX10_init 51 = .ok (.putfield 29, 3) := by decide +kernel
theorem dX10_init_54 : decode cX10_init 54 = .ok (.aload_n 0, 1) := by decide +kernel
theorem dX10_init_55 : decode cX10_init 55 = .ok (.bipush 8, 2) := by decide +kernel
theorem dX10_init_57 : decode cX10_init 57 = .ok (.newarray .int, 2) := by decide +kernel
theorem dX10_init_59 : decode cX10_init 59 = .ok (.putfield 33, 3) := by decide +kernel
theorem dX10_init_62 : decode cX10_init 62 = .ok (.aload_n 0, 1) := by decide +kernel
theorem dX10_init_63 : decode cX10_init 63 = .ok (.bipush 8, 2) := by decide +kernel
theorem dX10_init_65 : decode cX10_init 65 = .ok (.newarray .boolean, 2) := by decide +kernel
theorem dX10_init_67 : decode cX10_init 67 = .ok (.putfield 36, 3) := by decide +kernel
theorem dX10_init_70 : decode cX10_init 70 = .ok (.aload_n 0, 1) := by decide +kernel
theorem dX10_init_71 : decode cX10_init 71 = .ok (.bipush 60, 2) := by decide +kernel
theorem dX10_init_73 : decode cX10_init 73 = .ok (.newarray .int, 2) := by decide +kernel
theorem dX10_init_75 : decode cX10_init 75 = .ok (.putfield 39, 3) := by decide +kernel
theorem dX10_init_78 : decode cX10_init 78 = .ok (.aload_n 0, 1) := by decide +kernel
theorem dX10_init_79 : decode cX10_init 79 = .ok (.iconst (-1), 1) := by decide +kernel
theorem dX10_init_80 : decode cX10_init 80 = .ok (.putfield 42, 3) := by decide +kernel
theorem dX10_init_83 : decode cX10_init 83 = .ok (.aload_n 0, 1) := by decide +kernel
theorem dX10_init_84 : decode cX10_init 84 = .ok (.sipush 8192, 3) := by decide +kernel
theorem dX10_init_87 : decode cX10_init 87 = .ok (.newarray .int, 2) := by decide +kernel
theorem dX10_init_89 : decode cX10_init 89 = .ok (.putfield 45, 3) := by decide +kernel
theorem dX10_init_92 : decode cX10_init 92 = .ok (.aload_n 0, 1) := by decide +kernel
theorem dX10_init_93 : decode cX10_init 93 = .ok (.bipush 25, 2) := by decide +kernel
theorem dX10_init_95 : decode cX10_init 95 = .ok (.newarray .int, 2) := by decide +kernel
theorem dX10_init_97 : decode cX10_init 97 = .ok (.putfield 48, 3) := by decide +kernel
theorem dX10_init_100 : decode cX10_init 100 = .ok (.aload_n 0, 1) := by decide +kernel
theorem dX10_init_101 : decode cX10_init 101 = .ok (.bipush 25, 2) := by decide +kernel
theorem dX10_init_103 : decode cX10_init 103 = .ok (.newarray .int, 2) := by decide +kernel
theorem dX10_init_105 : decode cX10_init 105 = .ok (.putfield 51, 3) := by decide +kernel
theorem dX10_init_108 : decode cX10_init 108 = .ok (.aload_n 0, 1) := by decide +kernel
theorem dX10_init_109 : decode cX10_init 109 = .ok (.bipush 25, 2) := by decide +kernel
theorem dX10_init_111 : decode cX10_init 111 = .ok (.newarray .int, 2) := by decide +kernel
theorem dX10_init_113 : decode cX10_init 113 = .ok (.putfield 54, 3) := by decide +kernel
theorem dX10_init_116 : decode cX10_init 116 = .ok (.return_, 1) := by decide +kernel
theorem dX10_in_0 : decode cX10_in 0 = .ok (.lload_n 0, 1) := by decide +kernel
theorem dX10_in_1 : decode cX10_in 1 = .ok (.lload_n 2, 1) := by decide +kernel
theorem dX10_in_2 : decode cX10_in 2 = .ok (.lcmp, 1) := by decide +kernel
theorem dX10_in_3 : decode cX10_in 3 = .ok (.ifCond .lt 14, 3) := by decide +kernel
theorem dX10_in_6 : decode cX10_in 6 = .ok (.lload_n 0, 1) := by decide +kernel
theorem dX10_in_7 : decode cX10_in 7 = .ok (.lload 4, 2) := by decide +kernel
theorem dX10_in_9 : decode cX10_in 9 = .ok (.lcmp, 1) := by decide +kernel
theorem dX10_in_10 : decode cX10_in 10 = .ok (.ifCond .gt 7, 3) := by decide +kernel
theorem dX10_in_13 : decode cX10_in 13 = .ok (.iconst 1, 1) := by decide +kernel
theorem dX10_in_14 : decode cX10_in 14 = .ok (.goto 4, 3) := by decide +kernel
theorem dX10_in_17 : decode cX10_in 17 = .ok (.iconst 0, 1) := by decide +kernel
theorem dX10_in_18 : decode cX10_in 18 = .ok (.ireturn, 1) := by decide +kernel
theorem dX10_has_0 : decode cX10_has 0 = .ok (.iload_n 0, 1) := by decide +kernel
theorem dX10_has_1 : decode cX10_has 1 = .ok (.iload_n 1, 1) := by decide +kernel
theorem dX10_has_2 : decode cX10_has 2 = .ok (.ishr, 1) := by decide +kernel
theorem dX10_has_3 : decode cX10_has 3 = .ok (.iconst 1, 1) := by decide +kernel
theorem dX10_has_4 : decode cX10_has 4 = .ok (.iand, 1) := by decide +kernel
theorem dX10_has_5 : decode cX10_has 5 = .ok (.iconst 1, 1) := by decide +kernel
theorem dX10_has_6 : decode cX10_has 6 = .ok (.if_icmp .ne 7, 3) := by decide +kernel
theorem dX10_has_9 : decode cX10_has 9 = .ok (.iconst 1, 1) := by decide +kernel
theorem dX10_has_10 : decode cX10_has 10 = .ok (.goto 4, 3) := by decide +kernel
theorem dX10_has_13 : decode cX10_has 13 = .ok (.iconst 0, 1) := by decide +kernel
theorem dX10_has_14 : decode cX10_has 14 = .ok (.ireturn, 1) := by decide +kernel
theorem dX10_bits_0 : decode cX10_bits 0 = .ok (.iconst 0, 1) := by decide +kernel
