theorem dX0_init_0 : decode cX0_init 0 = .ok (.aload_n 0, 1) := by decide +kernel
theorem dX0_init_1 : decode cX0_init 1 = .ok (.invokespecial 3, 3) := by decide +kernel
theorem dX0_init_4 : decode cX0_init 4 = .ok (.aload_n 0, 1) := by decide +kernel
theorem dX0_init_5 : decode cX0_init 5 = .ok (.iconst 4, 1) := by decide +kernel
theorem dX0_init_6 : decode cX0_init 6 = .ok (.bipush 64, 2) := by decide +kernel
theorem dX0_init_8 : decode cX0_init 8 = .ok (.multianewarray 9 2, 4) := by decide +kernel
theorem dX0_init_12 : decode cX0_init 12 = .ok (.putfield 11, 3) := by decide +kernel
theorem dX0_init_15 : decode cX0_init 15 = .ok (.aload_n 0, 1) := by decide +kernel
theorem dX0_init_16 : decode cX0_init 16 = .ok (.iconst 4, 1) := by decide +kernel
theorem dX0_init_17 : decode cX0_init 17 = .ok (.bipush 64, 2) := by decide +kernel
theorem dX0_init_19 : decode cX0_init 19 = .ok (.multianewarray 9 2, 4) := by decide +kernel
theorem dX0_init_23 : decode cX0_init 23 = .ok (.putfield 16, 3) := by decide +kernel
theorem dX0_init_26 : decode cX0_init 26 = .ok (.aload_n 0, 1) := by decide +kernel
theorem dX0_init_27 : decode cX0_init 27 = .ok (.aload_n 1, 1) := by decide +kernel
theorem dX0_init_28 : decode cX0_init 28 = .ok (.putfield 19, 3) := by decide +kernel
theorem dX0_init_31 : decode cX0_init 31 = .ok (.return_, 1) := by decide +kernel
set_option maxRecDepth 20000 in
theorem ggX0_greatestGain_X4_fillBare : GoodIn wsX0_greatestGain wsX4_fillBare := goodIn_r _ [7, 8, 9, 10, 11, 12, 6, 13, 14, 15, 16, 17, 18, 19, 20, 21, 22, 23, 24, 25, 26, 27, 28, 29, 30, 31, 32, 33, 34, 35, 36, 37, 38, 39, 40, 41, 42, 43, 44, 45, 46, 47, 48, 49, 50, 51, 52, 53, 54, 55, 56, 57, 58, 59, 60, 61, 62, 63, 64, 65, 66, 67, 68, 69, 70, 71, 72, 73, 74, 75, 76, 77, 78, 79, 80, 109, 110, 111, 112, 113, 114, 115, 116, 117, 118, 119, 120, 121, 122, 123, 124, 125, 126, 127, 128, 129, 130, 131] (by decide +kernel) (by decide +kernel)
set_option maxRecDepth 20000 in
theorem gX0_greatestGain_X4_fillBare : GoodIn wsX0_greatestGain (wsV RX0 23 RX4 yX4_fillBare wsX4_fillBare) := goodIn_app (goodIn_of _ (by decide +kernel)) ggX0_greatestGain_X4_fillBare
set_option maxRecDepth 20000 in
theorem ggX0_greatestGain_X0_extend : GoodIn wsX0_greatestGain wsX0_extend := goodIn_r _ [84, 85, 1, 86, 87, 88, 89, 2, 90, 91, 92, 93, 94, 95, 6, 96, 8, 9, 29, 15, 16, 17, 18, 97, 98, 60, 99, 100, 101, 102, 103, 104, 105, 81, 82, 83, 106, 107, 108, 109, 110, 111, 112, 113, 114, 115, 116] (by decide +kernel) (by decide +kernel)
set_option maxRecDepth 20000 in
theorem gX0_greatestGain_X0_extend : GoodIn wsX0_greatestGain (va_wsS RX0 29 yX0_extend wsX0_extend) := goodIn_app (goodIn_of _ (by decide +kernel)) ggX0_greatestGain_X0_extend
theorem dX0_greatestGain_0 : decode cX0_greatestGain 0 = .ok (.iload_n 1, 1) := by decide +kernel
theorem dX0_greatestGain_1 : decode cX0_greatestGain 1 = .ok (.iconst 1, 1) := by decide +kernel
theorem dX0_greatestGain_2 : decode cX0_greatestGain 2 = .ok (.if_icmp .lt 8, 3) := by decide +kernel
theorem dX0_greatestGain_5 : decode cX0_greatestGain 5 = .ok (.iload_n 1, 1) := by decide +kernel
theorem dX0_greatestGain_6 : decode cX0_greatestGain 6 = .ok (.iconst 3, 1) := by decide +kernel
theorem dX0_greatestGain_7 : decode cX0_greatestGain 7 = .ok (.if_icmp .le 5, 3) := by decide +kernel
theorem dX0_greatestGain_10 : decode cX0_greatestGain 10 = .ok (.iconst 0, 1) := by decide +kernel
theorem dX0_greatestGain_11 : decode cX0_greatestGain 11 = .ok (.ireturn, 1) := by decide +kernel
theorem dX0_greatestGain_12 : decode cX0_greatestGain 12 = .ok (.aload_n 0, 1) := by decide +kernel
theorem dX0_greatestGain_13 : decode cX0_greatestGain 13 = .ok (.getfield 19, 3) := by decide +kernel
theorem dX0_greatestGain_16 : decode cX0_greatestGain 16 = .ok (.aload_n 0, 1) := by decide +kernel
theorem dX0_greatestGain_17 : decode cX0_greatestGain 17 = .ok (.getfield 11, 3) := by decide +kernel
theorem dX0_greatestGain_20 : decode cX0_greatestGain 20 = .ok (.iload_n 1, 1) := by decide +kernel
theorem dX0_greatestGain_21 : decode cX0_greatestGain 21 = .ok (.aaload, 1) := by decide +kernel
theorem dX0_greatestGain_22 : decode cX0_greatestGain 22 = .ok (.invokevirtual 23, 3) := by decide +kernel
theorem dX0_greatestGain_25 : decode cX0_greatestGain 25 = .ok (.aload_n 0, 1) := by decide +kernel
theorem dX0_greatestGain_26 : decode cX0_greatestGain 26 = .ok (.iload_n 1, 1) := by decide +kernel
theorem dX0_greatestGain_27 : decode cX0_greatestGain 27 = .ok (.iconst 0, 1) := by decide +kernel
theorem dX0_greatestGain_28 : decode cX0_greatestGain 28 = .ok (.iconst 0, 1) := by decide +kernel
theorem dX0_greatestGain_29 : decode cX0_greatestGain 29 = .ok (.iconst 0, 1) := by decide +kernel
theorem dX0_greatestGain_30 : decode cX0_greatestGain 30 = .ok (.invokestatic 29, 3) := by decide +kernel
theorem dX0_greatestGain_33 : decode cX0_greatestGain 33 = .ok (.ireturn, 1) := by decide +kernel
set_option maxRecDepth 20000 in
theorem ggX0_extend_X4_sparedBy : GoodIn wsX0_extend wsX4_sparedBy := goodIn_r _ [15, 16, 17, 18, 19, 20, 21, 14, 22, 23, 24, 25, 26, 27, 39, 40, 41, 42, 43, 44, 45, 46] (by decide +kernel) (by decide +kernel)
set_option maxRecDepth 20000 in
theorem gX0_extend_X4_sparedBy : GoodIn wsX0_extend (wsV RX0 43 RX4 yX4_sparedBy wsX4_sparedBy) := goodIn_app (goodIn_of _ (by decide +kernel)) ggX0_extend_X4_sparedBy
set_option maxRecDepth 20000 in
theorem ggX0_extend_X4_lower : GoodIn wsX0_extend wsX4_lower := goodIn_r _ [31, 16, 18, 17, 32, 4, 5, 6, 19, 20, 21, 14, 22, 23, 24, 25, 26, 27, 39, 40, 41, 42, 43, 44, 45, 46] (by decide +kernel) (by decide +kernel)
set_option maxRecDepth 20000 in
theorem gX0_extend_X4_lower : GoodIn wsX0_extend (wsV RX0 50 RX4 yX4_lower wsX4_lower) := goodIn_app (goodIn_of _ (by decide +kernel)) ggX0_extend_X4_lower
set_option maxRecDepth 20000 in
theorem ggX0_extend_X0_extend : GoodIn wsX0_extend wsX0_extend := goodIn_r _ [0, 1, 2, 3, 4, 5, 6, 7, 8, 9, 10, 11, 12, 13, 14, 15, 16, 17, 18, 19, 20, 21, 22, 23, 24, 25, 26, 27, 28, 29, 30, 31, 32, 33, 34, 35, 36, 37, 38, 39, 40, 41, 42, 43, 44, 45, 46] (by decide +kernel) (by decide +kernel)
set_option maxRecDepth 20000 in
theorem gX0_extend_X0_extend : GoodIn wsX0_extend (va_wsS RX0 29 yX0_extend wsX0_extend) := goodIn_app (goodIn_of _ (by decide +kernel)) ggX0_extend_X0_extend
theorem dX0_extend_0 : decode cX0_extend 0 = .ok (.iload_n 1, 1) := by decide +kernel
theorem dX0_extend_1 : decode cX0_extend 1 = .ok (.iconst 1, 1) := by decide +kernel
theorem dX0_extend_2 : decode cX0_extend 2 = .ok (.if_icmp .lt 8, 3) := by decide +kernel
theorem dX0_extend_5 : decode cX0_extend 5 = .ok (.iload_n 1, 1) := by decide +kernel
theorem dX0_extend_6 : decode cX0_extend 6 = .ok (.iconst 3, 1) := by decide +kernel
theorem dX0_extend_7 : decode cX0_extend 7 = .ok (.if_icmp .le 6, 3) := by decide +kernel
theorem dX0_extend_10 : decode cX0_extend 10 = .ok (.iload 4, 2) := by decide +kernel
theorem dX0_extend_12 : decode cX0_extend 12 = .ok (.ireturn, 1) := by decide +kernel
theorem dX0_extend_13 : decode cX0_extend 13 = .ok (.aload_n 0, 1) := by decide +kernel
theorem dX0_extend_14 : decode cX0_extend 14 = .ok (.getfield 16, 3) := by decide +kernel
theorem dX0_extend_17 : decode cX0_extend 17 = .ok (.iload_n 1, 1) := by decide +kernel
theorem dX0_extend_18 : decode cX0_extend 18 = .ok (.aaload, 1) := by decide +kernel
theorem dX0_extend_19 : decode cX0_extend 19 = .ok (.astore 5, 2) := by decide +kernel
theorem dX0_extend_21 : decode cX0_extend 21 = .ok (.aload_n 0, 1) := by decide +kernel
theorem dX0_extend_22 : decode cX0_extend 22 = .ok (.getfield 19, 3) := by decide +kernel
theorem dX0_extend_25 : decode cX0_extend 25 = .ok (.getfield 33, 3) := by decide +kernel
theorem dX0_extend_28 : decode cX0_extend 28 = .ok (.aload 5, 2) := by decide +kernel
theorem dX0_extend_30 : decode cX0_extend 30 = .ok (.arraylength, 1) := by decide +kernel
theorem dX0_extend_31 : decode cX0_extend 31 = .ok (.invokestatic 37, 3) := by decide +kernel
theorem dX0_extend_34 : decode cX0_extend 34 = .ok (.istore 6, 2) := by decide +kernel
theorem dX0_extend_36 : decode cX0_extend 36 = .ok (.iconst 0, 1) := by decide +kernel
theorem dX0_extend_37 : decode cX0_extend 37 = .ok (.istore 7, 2) := by decide +kernel
theorem dX0_extend_39 : decode cX0_extend 39 = .ok (.iload_n 2, 1) := by decide +kernel
theorem dX0_extend_40 : decode cX0_extend 40 = .ok (.istore 8, 2) := by decide +kernel
theorem dX0_extend_42 : decode cX0_extend 42 = .ok (.iload 8, 2) := by decide +kernel
theorem dX0_extend_44 : decode cX0_extend 44 = .ok (.iload 6, 2) := by decide +kernel
theorem dX0_extend_46 : decode cX0_extend 46 = .ok (.if_icmp .ge 41, 3) := by decide +kernel
theorem dX0_extend_49 : decode cX0_extend 49 = .ok (.aload 5, 2) := by decide +kernel
theorem dX0_extend_51 : decode cX0_extend 51 = .ok (.iload 8, 2) := by decide +kernel
theorem dX0_extend_53 : decode cX0_extend 53 = .ok (.aload_n 0, 1) := by decide +kernel
theorem dX0_extend_54 : decode cX0_extend 54 = .ok (.getfield 19, 3) := by decide +kernel
theorem dX0_extend_57 : decode cX0_extend 57 = .ok (.iload 8, 2) := by decide +kernel
theorem dX0_extend_59 : decode cX0_extend 59 = .ok (.aload_n 0, 1) := by decide +kernel
theorem dX0_extend_60 : decode cX0_extend 60 = .ok (.getfield 11, 3) := by decide +kernel
theorem dX0_extend_63 : decode cX0_extend 63 = .ok (.iload_n 1, 1) := by decide +kernel
theorem dX0_extend_64 : decode cX0_extend 64 = .ok (.aaload, 1) := by decide +kernel
theorem dX0_extend_65 : decode cX0_extend 65 = .ok (.invokevirtual 43, 3) := by decide +kernel
theorem dX0_extend_68 : decode cX0_extend 68 = .ok (.iastore, 1) := by decide +kernel
theorem dX0_extend_69 : decode cX0_extend 69 = .ok (.iload 7, 2) := by decide +kernel
theorem dX0_extend_71 : decode cX0_extend 71 = .ok (.aload 5, 2) := by decide +kernel
theorem dX0_extend_73 : decode cX0_extend 73 = .ok (.iload 8, 2) := by decide +kernel
theorem dX0_extend_75 : decode cX0_extend 75 = .ok (.iaload, 1) := by decide +kernel
theorem dX0_extend_76 : decode cX0_extend 76 = .ok (.invokestatic 47, 3) := by decide +kernel
theorem dX0_extend_79 : decode cX0_extend 79 = .ok (.istore 7, 2) := by decide +kernel
theorem dX0_extend_81 : decode cX0_extend 81 = .ok (.iinc 8 1, 3) := by decide +kernel
theorem dX0_extend_84 : decode cX0_extend 84 = .ok (.goto (-42), 3) := by decide +kernel
theorem dX0_extend_87 : decode cX0_extend 87 = .ok (.iload 4, 2) := by decide +kernel
theorem dX0_extend_89 : decode cX0_extend 89 = .ok (.iload_n 3, 1) := by decide +kernel
theorem dX0_extend_90 : decode cX0_extend 90 = .ok (.iload 7, 2) := by decide +kernel
theorem dX0_extend_92 : decode cX0_extend 92 = .ok (.iadd, 1) := by decide +kernel
theorem dX0_extend_93 : decode cX0_extend 93 = .ok (.invokestatic 47, 3) := by decide +kernel
theorem dX0_extend_96 : decode cX0_extend 96 = .ok (.istore 8, 2) := by decide +kernel
theorem dX0_extend_98 : decode cX0_extend 98 = .ok (.iload_n 2, 1) := by decide +kernel
theorem dX0_extend_99 : decode cX0_extend 99 = .ok (.istore 9, 2) := by decide +kernel
theorem dX0_extend_101 : decode cX0_extend 101 = .ok (.iload_n 1, 1) := by decide +kernel
theorem dX0_extend_102 : decode cX0_extend 102 = .ok (.iconst 1, 1) := by decide +kernel
theorem dX0_extend_103 : decode cX0_extend 103 = .ok (.if_icmp .le 79, 3) := by decide +kernel
theorem dX0_extend_106 : decode cX0_extend 106 = .ok (.iload 9, 2) := by decide +kernel
theorem dX0_extend_108 : decode cX0_extend 108 = .ok (.iload 6, 2) := by decide +kernel
theorem dX0_extend_110 : decode cX0_extend 110 = .ok (.if_icmp .ge 72, 3) := by decide +kernel
theorem dX0_extend_113 : decode cX0_extend 113 = .ok (.iload_n 3, 1) := by decide +kernel
theorem dX0_extend_114 : decode cX0_extend 114 = .ok (.aload 5, 2) := by decide +kernel
theorem dX0_extend_116 : decode cX0_extend 116 = .ok (.iload 9, 2) := by decide +kernel
theorem dX0_extend_118 : decode cX0_extend 118 = .ok (.iaload, 1) := by decide +kernel
theorem dX0_extend_119 : decode cX0_extend 119 = .ok (.iadd, 1) := by decide +kernel
theorem dX0_extend_120 : decode cX0_extend 120 = .ok (.istore 10, 2) := by decide +kernel
theorem dX0_extend_122 : decode cX0_extend 122 = .ok (.iload 10, 2) := by decide +kernel
theorem dX0_extend_124 : decode cX0_extend 124 = .ok (.iload_n 1, 1) := by decide +kernel
theorem dX0_extend_125 : decode cX0_extend 125 = .ok (.iconst 1, 1) := by decide +kernel
theorem dX0_extend_126 : decode cX0_extend 126 = .ok (.isub, 1) := by decide +kernel
theorem dX0_extend_127 : decode cX0_extend 127 = .ok (.iload 7, 2) := by decide +kernel
theorem dX0_extend_129 : decode cX0_extend 129 = .ok (.imul, 1) := by decide +kernel
theorem dX0_extend_130 : decode cX0_extend 130 = .ok (.iadd, 1) := by decide +kernel
theorem dX0_extend_131 : decode cX0_extend 131 = .ok (.iload 8, 2) := by decide +kernel
theorem dX0_extend_133 : decode cX0_extend 133 = .ok (.if_icmp .le 43, 3) := by decide +kernel
theorem dX0_extend_136 : decode cX0_extend 136 = .ok (.aload_n 0, 1) := by decide +kernel
theorem dX0_extend_137 : decode cX0_extend 137 = .ok (.getfield 19, 3) := by decide +kernel
theorem dX0_extend_140 : decode cX0_extend 140 = .ok (.aload_n 0, 1) := by decide +kernel
theorem dX0_extend_141 : decode cX0_extend 141 = .ok (.getfield 11, 3) := by decide +kernel
theorem dX0_extend_144 : decode cX0_extend 144 = .ok (.iload_n 1, 1) := by decide +kernel
theorem dX0_extend_145 : decode cX0_extend 145 = .ok (.aaload, 1) := by decide +kernel
theorem dX0_extend_146 : decode cX0_extend 146 = .ok (.aload_n 0, 1) := by decide +kernel
theorem dX0_extend_147 : decode cX0_extend 147 = .ok (.getfield 11, 3) := by decide +kernel
theorem dX0_extend_150 : decode cX0_extend 150 = .ok (.iload_n 1, 1) := by decide +kernel
theorem dX0_extend_151 : decode cX0_extend 151 = .ok (.iconst 1, 1) := by decide +kernel
theorem dX0_extend_152 : decode cX0_extend 152 = .ok (.isub, 1) := by decide +kernel
theorem dX0_extend_153 : decode cX0_extend 153 = .ok (.aaload, 1) := by decide +kernel
theorem dX0_extend_154 : decode cX0_extend 154 = .ok (.iload 9, 2) := by decide +kernel
theorem dX0_extend_156 : decode cX0_extend 156 = .ok (.invokevirtual 50, 3) := by decide +kernel
theorem dX0_extend_159 : decode cX0_extend 159 = .ok (.aload_n 0, 1) := by decide +kernel
theorem dX0_extend_160 : decode cX0_extend 160 = .ok (.iload_n 1, 1) := by decide +kernel
theorem dX0_extend_161 : decode cX0_extend 161 = .ok (.iconst 1, 1) := by decide +kernel
theorem dX0_extend_162 : decode cX0_extend 162 = .ok (.isub, 1) := by decide +kernel
theorem dX0_extend_163 : decode cX0_extend 163 = .ok (.iload 9, 2) := by decide +kernel
theorem dX0_extend_165 : decode cX0_extend 165 = .ok (.iconst 1, 1) := by decide +kernel
theorem dX0_extend_166 : decode cX0_extend 166 = .ok (.iadd, 1) := by decide +kernel
theorem dX0_extend_167 : decode cX0_extend 167 = .ok (.iload 10, 2) := by decide +kernel
theorem dX0_extend_169 : decode cX0_extend 169 = .ok (.iload 8, 2) := by decide +kernel
theorem dX0_extend_171 : decode cX0_extend 171 = .ok (.invokestatic 29, 3) := by decide +kernel
theorem dX0_extend_174 : decode cX0_extend 174 = .ok (.istore 8, 2) := by decide +kernel
theorem dX0_extend_176 : decode cX0_extend 176 = .ok (.iinc 9 1, 3) := by decide +kernel
theorem dX0_extend_179 : decode cX0_extend 179 = .ok (.goto (-78), 3) := by decide +kernel
theorem dX0_extend_182 : decode cX0_extend 182 = .ok (.iload 8, 2) := by decide +kernel
theorem dX0_extend_184 : decode cX0_extend 184 = .ok (.ireturn, 1) := by decide +kernel
theorem dX1_init_0 : decode cX1_init 0 = .ok (.aload_n 0, 1) := by decide +kernel
theorem dX1_init_1 : decode cX1_init 1 = .ok (.invokespecial 3, 3) := by decide +kernel
theorem dX1_init_4 : decode cX1_init 4 = .ok (.aload_n 0, 1) := by decide +kernel
theorem dX1_init_5 : decode cX1_init 5 = .ok (.iconst 4, 1) := by decide +kernel
theorem dX1_init_6 : decode cX1_init 6 = .ok (.newarray .int, 2) := by decide +kernel
theorem dX1_init_8 : decode cX1_init 8 = .ok (.putfield 9, 3) := by decide +kernel
theorem dX1_init_11 : decode cX1_init 11 = .ok (.aload_n 0, 1) := by decide +kernel
theorem dX1_init_12 : decode cX1_init 12 = .ok (.bipush 32, 2) := by decide +kernel
theorem dX1_init_14 : decode cX1_init 14 = .ok (.newarray .int, 2) := by decide +kernel
theorem dX1_init_16 : decode cX1_init 16 = .ok (.putfield 15, 3) := by decide +kernel
theorem dX1_init_19 : decode cX1_init 19 = .ok (.aload_n 0, 1) := by decide +kernel
theorem dX1_init_20 : decode cX1_init 20 = .ok (.bipush 32, 2) := by decide +kernel
theorem dX1_init_22 : decode cX1_init 22 = .ok (.newarray .int, 2) := by decide +kernel
theorem dX1_init_24 : decode cX1_init 24 = .ok (.putfield 18, 3) := by decide +kernel
theorem dX1_init_27 : decode cX1_init 27 = .ok (.return_, 1) := by decide +kernel
set_option maxRecDepth 20000 in
theorem ggX1_open_X1_topAt : GoodIn wsX1_open wsX1_topAt := goodIn_r _ [6, 7, 1, 8, 9, 10, 5, 11, 12, 13, 14, 15, 16, 17, 18, 19, 20, 21, 22, 23, 24, 25, 26, 27, 28] (by decide +kernel) (by decide +kernel)
set_option maxRecDepth 20000 in
theorem gX1_open_X1_topAt : GoodIn wsX1_open (wsV RX1 21 RX1 yX1_topAt wsX1_topAt) := goodIn_app (goodIn_of _ (by decide +kernel)) ggX1_open_X1_topAt
theorem dX1_open_0 : decode cX1_open 0 = .ok (.aload_n 0, 1) := by decide +kernel
theorem dX1_open_1 : decode cX1_open 1 = .ok (.getfield 9, 3) := by decide +kernel
theorem dX1_open_4 : decode cX1_open 4 = .ok (.iconst 0, 1) := by decide +kernel
theorem dX1_open_5 : decode cX1_open 5 = .ok (.iload_n 1, 1) := by decide +kernel
theorem dX1_open_6 : decode cX1_open 6 = .ok (.iastore, 1) := by decide +kernel
theorem dX1_open_7 : decode cX1_open 7 = .ok (.aload_n 0, 1) := by decide +kernel
theorem dX1_open_8 : decode cX1_open 8 = .ok (.iconst 1, 1) := by decide +kernel
theorem dX1_open_9 : decode cX1_open 9 = .ok (.invokevirtual 21, 3) := by decide +kernel
theorem dX1_open_12 : decode cX1_open 12 = .ok (.return_, 1) := by decide +kernel
set_option maxRecDepth 20000 in
theorem ggX1_raise_X1_topAt : GoodIn wsX1_raise wsX1_topAt := goodIn_r _ [7, 1, 2, 8, 9, 10, 6, 11, 12, 13, 14, 15, 16, 17, 18, 19, 20, 21, 22, 23, 24, 25, 26, 27, 28] (by decide +kernel) (by decide +kernel)
set_option maxRecDepth 20000 in
theorem gX1_raise_X1_topAt : GoodIn wsX1_raise (wsV RX1 21 RX1 yX1_topAt wsX1_topAt) := goodIn_app (goodIn_of _ (by decide +kernel)) ggX1_raise_X1_topAt
theorem dX1_raise_0 : decode cX1_raise 0 = .ok (.aload_n 0, 1) := by decide +kernel
theorem dX1_raise_1 : decode cX1_raise 1 = .ok (.getfield 25, 3) := by decide +kernel
theorem dX1_raise_4 : decode cX1_raise 4 = .ok (.istore_n 2, 1) := by decide +kernel
theorem dX1_raise_5 : decode cX1_raise 5 = .ok (.iload_n 2, 1) := by decide +kernel
theorem dX1_raise_6 : decode cX1_raise 6 = .ok (.iconst 3, 1) := by decide +kernel
theorem dX1_raise_7 : decode cX1_raise 7 = .ok (.if_icmp .ge 17, 3) := by decide +kernel
theorem dX1_raise_10 : decode cX1_raise 10 = .ok (.aload_n 0, 1) := by decide +kernel
theorem dX1_raise_11 : decode cX1_raise 11 = .ok (.getfield 9, 3) := by decide +kernel
theorem dX1_raise_14 : decode cX1_raise 14 = .ok (.iload_n 2, 1) := by decide +kernel
theorem dX1_raise_15 : decode cX1_raise 15 = .ok (.iload_n 1, 1) := by decide +kernel
theorem dX1_raise_16 : decode cX1_raise 16 = .ok (.iastore, 1) := by decide +kernel
theorem dX1_raise_17 : decode cX1_raise 17 = .ok (.aload_n 0, 1) := by decide +kernel
theorem dX1_raise_18 : decode cX1_raise 18 = .ok (.iload_n 2, 1) := by decide +kernel
theorem dX1_raise_19 : decode cX1_raise 19 = .ok (.iconst 1, 1) := by decide +kernel
theorem dX1_raise_20 : decode cX1_raise 20 = .ok (.iadd, 1) := by decide +kernel
theorem dX1_raise_21 : decode cX1_raise 21 = .ok (.invokevirtual 21, 3) := by decide +kernel
theorem dX1_raise_24 : decode cX1_raise 24 = .ok (.iload_n 2, 1) := by decide +kernel
theorem dX1_raise_25 : decode cX1_raise 25 = .ok (.ireturn, 1) := by decide +kernel
set_option maxRecDepth 20000 in
theorem ggX1_topAt_X1_setFilter : GoodIn wsX1_topAt wsX1_setFilter := goodIn_r _ [7, 8, 9, 19, 20, 21, 22, 23, 24] (by decide +kernel) (by decide +kernel)
set_option maxRecDepth 20000 in
theorem gX1_topAt_X1_setFilter : GoodIn wsX1_topAt (wsV RX1 29 RX1 yX1_setFilter wsX1_setFilter) := goodIn_app (goodIn_of _ (by decide +kernel)) ggX1_topAt_X1_setFilter
set_option maxRecDepth 20000 in
theorem ggX1_topAt_X1_settle : GoodIn wsX1_topAt wsX1_settle := goodIn_r _ [13, 2, 14, 1, 15, 16, 17, 6, 18, 19, 20, 21, 22, 23, 24] (by decide +kernel) (by decide +kernel)
set_option maxRecDepth 20000 in
theorem gX1_topAt_X1_settle : GoodIn wsX1_topAt (wsV RX1 33 RX1 yX1_settle wsX1_settle) := goodIn_app (goodIn_of _ (by decide +kernel)) ggX1_topAt_X1_settle
theorem dX1_topAt_0 : decode cX1_topAt 0 = .ok (.aload_n 0, 1) := by decide +kernel
theorem dX1_topAt_1 : decode cX1_topAt 1 = .ok (.iload_n 1, 1) := by decide +kernel
theorem dX1_topAt_2 : decode cX1_topAt 2 = .ok (.putfield 25, 3) := by decide +kernel
theorem dX1_topAt_5 : decode cX1_topAt 5 = .ok (.aload_n 0, 1) := by decide +kernel
theorem dX1_topAt_6 : decode cX1_topAt 6 = .ok (.getfield 9, 3) := by decide +kernel
theorem dX1_topAt_9 : decode cX1_topAt 9 = .ok (.iload_n 1, 1) := by decide +kernel
theorem dX1_topAt_10 : decode cX1_topAt 10 = .ok (.iconst 1, 1) := by decide +kernel
theorem dX1_topAt_11 : decode cX1_topAt 11 = .ok (.iastore, 1) := by decide +kernel
theorem dX1_topAt_12 : decode cX1_topAt 12 = .ok (.aload_n 0, 1) := by decide +kernel
theorem dX1_topAt_13 : decode cX1_topAt 13 = .ok (.iload_n 1, 1) := by decide +kernel
theorem dX1_topAt_14 : decode cX1_topAt 14 = .ok (.iconst 0, 1) := by decide +kernel
theorem dX1_topAt_15 : decode cX1_topAt 15 = .ok (.invokevirtual 29, 3) := by decide +kernel
theorem dX1_topAt_18 : decode cX1_topAt 18 = .ok (.aload_n 0, 1) := by decide +kernel
theorem dX1_topAt_19 : decode cX1_topAt 19 = .ok (.invokevirtual 33, 3) := by decide +kernel
theorem dX1_topAt_22 : decode cX1_topAt 22 = .ok (.return_, 1) := by decide +kernel
theorem dX1_hasLevel_0 : decode cX1_hasLevel 0 = .ok (.iload_n 1, 1) := by decide +kernel
theorem dX1_hasLevel_1 : decode cX1_hasLevel 1 = .ok (.ifCond .lt 15, 3) := by decide +kernel
theorem dX1_hasLevel_4 : decode cX1_hasLevel 4 = .ok (.iload_n 1, 1) := by decide +kernel
theorem dX1_hasLevel_5 : decode cX1_hasLevel 5 = .ok (.aload_n 0, 1) := by decide +kernel
theorem dX1_hasLevel_6 : decode cX1_hasLevel 6 = .ok (.getfield 25, 3) := by decide +kernel
theorem dX1_hasLevel_9 : decode cX1_hasLevel 9 = .ok (.if_icmp .gt 7, 3) := by decide +kernel
theorem dX1_hasLevel_12 : decode cX1_hasLevel 12 = .ok (.iconst 1, 1) := by decide +kernel
theorem dX1_hasLevel_13 : decode cX1_hasLevel 13 = .ok (.goto 4, 3) := by decide +kernel
theorem dX1_hasLevel_16 : decode cX1_hasLevel 16 = .ok (.iconst 0, 1) := by decide +kernel
theorem dX1_hasLevel_17 : decode cX1_hasLevel 17 = .ok (.ireturn, 1) := by decide +kernel
set_option maxRecDepth 20000 in
theorem ggX1_hasMember_X1_widthOf : GoodIn wsX1_hasMember wsX1_widthOf := goodIn_r _ [5, 6, 7, 8, 9, 4, 10, 11, 12, 13, 14, 15, 16, 17] (by decide +kernel) (by decide +kernel)
set_option maxRecDepth 20000 in
theorem gX1_hasMember_X1_widthOf : GoodIn wsX1_hasMember (wsV RX1 36 RX1 yX1_widthOf wsX1_widthOf) := goodIn_app (goodIn_of _ (by decide +kernel)) ggX1_hasMember_X1_widthOf
theorem dX1_hasMember_0 : decode cX1_hasMember 0 = .ok (.iload_n 2, 1) := by decide +kernel
theorem dX1_hasMember_1 : decode cX1_hasMember 1 = .ok (.ifCond .lt 16, 3) := by decide +kernel
theorem dX1_hasMember_4 : decode cX1_hasMember 4 = .ok (.iload_n 2, 1) := by decide +kernel
theorem dX1_hasMember_5 : decode cX1_hasMember 5 = .ok (.aload_n 0, 1) := by decide +kernel
theorem dX1_hasMember_6 : decode cX1_hasMember 6 = .ok (.iload_n 1, 1) := by decide +kernel
theorem dX1_hasMember_7 : decode cX1_hasMember 7 = .ok (.invokevirtual 36, 3) := by decide +kernel
theorem dX1_hasMember_10 : decode cX1_hasMember 10 = .ok (.if_icmp .ge 7, 3) := by decide +kernel
theorem dX1_hasMember_13 : decode cX1_hasMember 13 = .ok (.iconst 1, 1) := by decide +kernel
theorem dX1_hasMember_14 : decode cX1_hasMember 14 = .ok (.goto 4, 3) := by decide +kernel
theorem dX1_hasMember_17 : decode cX1_hasMember 17 = .ok (.iconst 0, 1) := by decide +kernel
theorem dX1_hasMember_18 : decode cX1_hasMember 18 = .ok (.ireturn, 1) := by decide +kernel
set_option maxRecDepth 20000 in
theorem ggX1_widthOf_X1_hasLevel : GoodIn wsX1_widthOf wsX1_hasLevel := goodIn_r _ [6, 7, 8, 9, 10, 11, 12, 13] (by decide +kernel) (by decide +kernel)
set_option maxRecDepth 20000 in
theorem gX1_widthOf_X1_hasLevel : GoodIn wsX1_widthOf (wsV RX1 40 RX1 yX1_hasLevel wsX1_hasLevel) := goodIn_app (goodIn_of _ (by decide +kernel)) ggX1_widthOf_X1_hasLevel
theorem dX1_widthOf_0 : decode cX1_widthOf 0 = .ok (.aload_n 0, 1) := by decide +kernel
theorem dX1_widthOf_1 : decode cX1_widthOf 1 = .ok (.iload_n 1, 1) := by decide +kernel
theorem dX1_widthOf_2 : decode cX1_widthOf 2 = .ok (.invokevirtual 40, 3) := by decide +kernel
theorem dX1_widthOf_5 : decode cX1_widthOf 5 = .ok (.ifCond .eq 12, 3) := by decide +kernel
theorem dX1_widthOf_8 : decode cX1_widthOf 8 = .ok (.aload_n 0, 1) := by decide +kernel
theorem dX1_widthOf_9 : decode cX1_widthOf 9 = .ok (.getfield 9, 3) := by decide +kernel
theorem dX1_widthOf_12 : decode cX1_widthOf 12 = .ok (.iload_n 1, 1) := by decide +kernel
theorem dX1_widthOf_13 : decode cX1_widthOf 13 = .ok (.iaload, 1) := by decide +kernel
theorem dX1_widthOf_14 : decode cX1_widthOf 14 = .ok (.goto 4, 3) := by decide +kernel
theorem dX1_widthOf_17 : decode cX1_widthOf 17 = .ok (.iconst 0, 1) := by decide +kernel
theorem dX1_widthOf_18 : decode cX1_widthOf 18 = .ok (.ireturn, 1) := by decide +kernel
set_option maxRecDepth 20000 in
theorem ggX1_hang_X1_placeOf : GoodIn wsX1_hang wsX1_placeOf := goodIn_r _ [5] (by decide +kernel) (by decide +kernel)
set_option maxRecDepth 20000 in
theorem gX1_hang_X1_placeOf : GoodIn wsX1_hang (va_wsS RX1 44 yX1_placeOf wsX1_placeOf) := goodIn_app (goodIn_of _ (by decide +kernel)) ggX1_hang_X1_placeOf
set_option maxRecDepth 20000 in
theorem ggX1_hang_X1_settle : GoodIn wsX1_hang wsX1_settle := goodIn_r _ [9, 10, 11, 12, 1, 2, 3, 4, 5, 13, 14, 15, 16, 17, 18] (by decide +kernel) (by decide +kernel)
set_option maxRecDepth 20000 in
theorem gX1_hang_X1_settle : GoodIn wsX1_hang (wsV RX1 33 RX1 yX1_settle wsX1_settle) := goodIn_app (goodIn_of _ (by decide +kernel)) ggX1_hang_X1_settle
theorem dX1_hang_0 : decode cX1_hang 0 = .ok (.iload_n 1, 1) := by decide +kernel
theorem dX1_hang_1 : decode cX1_hang 1 = .ok (.iload_n 2, 1) := by decide +kernel
theorem dX1_hang_2 : decode cX1_hang 2 = .ok (.invokestatic 44, 3) := by decide +kernel
theorem dX1_hang_5 : decode cX1_hang 5 = .ok (.istore 4, 2) := by decide +kernel
theorem dX1_hang_7 : decode cX1_hang 7 = .ok (.aload_n 0, 1) := by decide +kernel
theorem dX1_hang_8 : decode cX1_hang 8 = .ok (.getfield 15, 3) := by decide +kernel
theorem dX1_hang_11 : decode cX1_hang 11 = .ok (.iload 4, 2) := by decide +kernel
theorem dX1_hang_13 : decode cX1_hang 13 = .ok (.iaload, 1) := by decide +kernel
theorem dX1_hang_14 : decode cX1_hang 14 = .ok (.istore 5, 2) := by decide +kernel
theorem dX1_hang_16 : decode cX1_hang 16 = .ok (.aload_n 0, 1) := by decide +kernel
theorem dX1_hang_17 : decode cX1_hang 17 = .ok (.getfield 15, 3) := by decide +kernel
theorem dX1_hang_20 : decode cX1_hang 20 = .ok (.iload 4, 2) := by decide +kernel
theorem dX1_hang_22 : decode cX1_hang 22 = .ok (.iload_n 3, 1) := by decide +kernel
theorem dX1_hang_23 : decode cX1_hang 23 = .ok (.iastore, 1) := by decide +kernel
theorem dX1_hang_24 : decode cX1_hang 24 = .ok (.aload_n 0, 1) := by decide +kernel
theorem dX1_hang_25 : decode cX1_hang 25 = .ok (.invokevirtual 33, 3) := by decide +kernel
theorem dX1_hang_28 : decode cX1_hang 28 = .ok (.iload 5, 2) := by decide +kernel
theorem dX1_hang_30 : decode cX1_hang 30 = .ok (.ireturn, 1) := by decide +kernel
theorem dX1_setFilter_0 : decode cX1_setFilter 0 = .ok (.aload_n 0, 1) := by decide +kernel
theorem dX1_setFilter_1 : decode cX1_setFilter 1 = .ok (.iload_n 1, 1) := by decide +kernel
theorem dX1_setFilter_2 : decode cX1_setFilter 2 = .ok (.putfield 48, 3) := by decide +kernel
theorem dX1_setFilter_5 : decode cX1_setFilter 5 = .ok (.aload_n 0, 1) := by decide +kernel
theorem dX1_setFilter_6 : decode cX1_setFilter 6 = .ok (.iload_n 2, 1) := by decide +kernel
theorem dX1_setFilter_7 : decode cX1_setFilter 7 = .ok (.putfield 51, 3) := by decide +kernel
theorem dX1_setFilter_10 : decode cX1_setFilter 10 = .ok (.return_, 1) := by decide +kernel
set_option maxRecDepth 20000 in
theorem ggX1_homeOf_X1_placeOf : GoodIn wsX1_homeOf wsX1_placeOf := goodIn_r _ [5] (by decide +kernel) (by decide +kernel)
set_option maxRecDepth 20000 in
theorem gX1_homeOf_X1_placeOf : GoodIn wsX1_homeOf (va_wsS RX1 44 yX1_placeOf wsX1_placeOf) := goodIn_app (goodIn_of _ (by decide +kernel)) ggX1_homeOf_X1_placeOf
theorem dX1_homeOf_0 : decode cX1_homeOf 0 = .ok (.aload_n 0, 1) := by decide +kernel
theorem dX1_homeOf_1 : decode cX1_homeOf 1 = .ok (.getfield 18, 3) := by decide +kernel
theorem dX1_homeOf_4 : decode cX1_homeOf 4 = .ok (.iload_n 2, 1) := by decide +kernel
theorem dX1_homeOf_5 : decode cX1_homeOf 5 = .ok (.iload_n 1, 1) := by decide +kernel
theorem dX1_homeOf_6 : decode cX1_homeOf 6 = .ok (.invokestatic 44, 3) := by decide +kernel
theorem dX1_homeOf_9 : decode cX1_homeOf 9 = .ok (.iaload, 1) := by decide +kernel
theorem dX1_homeOf_10 : decode cX1_homeOf 10 = .ok (.ireturn, 1) := by decide +kernel
set_option maxRecDepth 20000 in
theorem ggX1_passes_X1_homeOf : GoodIn wsX1_passes wsX1_homeOf := goodIn_r _ [7, 8, 9, 10, 6, 11, 12, 13, 14, 15, 16, 17] (by decide +kernel) (by decide +kernel)
set_option maxRecDepth 20000 in
theorem gX1_passes_X1_homeOf : GoodIn wsX1_passes (wsV RX1 54 RX1 yX1_homeOf wsX1_homeOf) := goodIn_app (goodIn_of _ (by decide +kernel)) ggX1_passes_X1_homeOf
theorem dX1_passes_0 : decode cX1_passes 0 = .ok (.aload_n 0, 1) := by decide +kernel
theorem dX1_passes_1 : decode cX1_passes 1 = .ok (.iload_n 1, 1) := by decide +kernel
theorem dX1_passes_2 : decode cX1_passes 2 = .ok (.aload_n 0, 1) := by decide +kernel
theorem dX1_passes_3 : decode cX1_passes 3 = .ok (.getfield 48, 3) := by decide +kernel
theorem dX1_passes_6 : decode cX1_passes 6 = .ok (.invokevirtual 54, 3) := by decide +kernel
theorem dX1_passes_9 : decode cX1_passes 9 = .ok (.aload_n 0, 1) := by decide +kernel
theorem dX1_passes_10 : decode cX1_passes 10 = .ok (.getfield 51, 3) := by decide +kernel
theorem dX1_passes_13 : decode cX1_passes 13 = .ok (.if_icmp .ne 7, 3) := by decide +kernel
theorem dX1_passes_16 : decode cX1_passes 16 = .ok (.iconst 1, 1) := by decide +kernel
theorem dX1_passes_17 : decode cX1_passes 17 = .ok (.goto 4, 3) := by decide +kernel
theorem dX1_passes_20 : decode cX1_passes 20 = .ok (.iconst 0, 1) := by decide +kernel
theorem dX1_passes_21 : decode cX1_passes 21 = .ok (.ireturn, 1) := by decide +kernel
theorem dX1_placeOf_0 : decode cX1_placeOf 0 = .ok (.iload_n 0, 1) := by decide +kernel
theorem dX1_placeOf_1 : decode cX1_placeOf 1 = .ok (.iconst 3, 1) := by decide +kernel
theorem dX1_placeOf_2 : decode cX1_placeOf 2 = .ok (.iand, 1) := by decide +kernel
theorem dX1_placeOf_3 : decode cX1_placeOf 3 = .ok (.bipush 8, 2) := by decide +kernel
theorem dX1_placeOf_5 : decode cX1_placeOf 5 = .ok (.imul, 1) := by decide +kernel
theorem dX1_placeOf_6 : decode cX1_placeOf 6 = .ok (.iload_n 1, 1) := by decide +kernel
theorem dX1_placeOf_7 : decode cX1_placeOf 7 = .ok (.bipush 7, 2) := by decide +kernel
theorem dX1_placeOf_9 : decode cX1_placeOf 9 = .ok (.iand, 1) := by decide +kernel
theorem dX1_placeOf_10 : decode cX1_placeOf 10 = .ok (.iadd, 1) := by decide +kernel
theorem dX1_placeOf_11 : decode cX1_placeOf 11 = .ok (.ireturn, 1) := by decide +kernel
set_option maxRecDepth 20000 in
theorem ggX1_settle_X1_placeOf : GoodIn wsX1_settle wsX1_placeOf := goodIn_r _ [8] (by decide +kernel) (by decide +kernel)
set_option maxRecDepth 20000 in
theorem gX1_settle_X1_placeOf : GoodIn wsX1_settle (va_wsS RX1 44 yX1_placeOf wsX1_placeOf) := goodIn_app (goodIn_of _ (by decide +kernel)) ggX1_settle_X1_placeOf
theorem dX1_settle_0 : decode cX1_settle 0 = .ok (.iconst 0, 1) := by decide +kernel
theorem dX1_settle_1 : decode cX1_settle 1 = .ok (.istore_n 1, 1) := by decide +kernel
theorem dX1_settle_2 : decode cX1_settle 2 = .ok (.iload_n 1, 1) := by decide +kernel
theorem dX1_settle_3 : decode cX1_settle 3 = .ok (.aload_n 0, 1) := by decide +kernel
theorem dX1_settle_4 : decode cX1_settle 4 = .ok (.getfield 9, 3) := by decide +kernel
theorem dX1_settle_7 : decode cX1_settle 7 = .ok (.iconst 0, 1) := by decide +kernel
theorem dX1_settle_8 : decode cX1_settle 8 = .ok (.iaload, 1) := by decide +kernel
theorem dX1_settle_9 : decode cX1_settle 9 = .ok (.if_icmp .ge 62, 3) := by decide +kernel
theorem dX1_settle_12 : decode cX1_settle 12 = .ok (.iload_n 1, 1) := by decide +kernel
theorem dX1_settle_13 : decode cX1_settle 13 = .ok (.istore_n 2, 1) := by decide +kernel
theorem dX1_settle_14 : decode cX1_settle 14 = .ok (.aload_n 0, 1) := by decide +kernel
theorem dX1_settle_15 : decode cX1_settle 15 = .ok (.getfield 18, 3) := by decide +kernel
theorem dX1_settle_18 : decode cX1_settle 18 = .ok (.iconst 0, 1) := by decide +kernel
theorem dX1_settle_19 : decode cX1_settle 19 = .ok (.iload_n 1, 1) := by decide +kernel
theorem dX1_settle_20 : decode cX1_settle 20 = .ok (.invokestatic 44, 3) := by decide +kernel
theorem dX1_settle_23 : decode cX1_settle 23 = .ok (.iload_n 2, 1) := by decide +kernel
theorem dX1_settle_24 : decode cX1_settle 24 = .ok (.iastore, 1) := by decide +kernel
theorem dX1_settle_25 : decode cX1_settle 25 = .ok (.iconst 1, 1) := by decide +kernel
theorem dX1_settle_26 : decode cX1_settle 26 = .ok (.istore_n 3, 1) := by decide +kernel
theorem dX1_settle_27 : decode cX1_settle 27 = .ok (.iload_n 3, 1) := by decide +kernel
theorem dX1_settle_28 : decode cX1_settle 28 = .ok (.aload_n 0, 1) := by decide +kernel
theorem dX1_settle_29 : decode cX1_settle 29 = .ok (.getfield 25, 3) := by decide +kernel
theorem dX1_settle_32 : decode cX1_settle 32 = .ok (.if_icmp .gt 33, 3) := by decide +kernel
theorem dX1_settle_35 : decode cX1_settle 35 = .ok (.aload_n 0, 1) := by decide +kernel
theorem dX1_settle_36 : decode cX1_settle 36 = .ok (.getfield 15, 3) := by decide +kernel
theorem dX1_settle_39 : decode cX1_settle 39 = .ok (.iload_n 3, 1) := by decide +kernel
theorem dX1_settle_40 : decode cX1_settle 40 = .ok (.iconst 1, 1) := by decide +kernel
theorem dX1_settle_41 : decode cX1_settle 41 = .ok (.isub, 1) := by decide +kernel
theorem dX1_settle_42 : decode cX1_settle 42 = .ok (.iload_n 2, 1) := by decide +kernel
theorem dX1_settle_43 : decode cX1_settle 43 = .ok (.invokestatic 44, 3) := by decide +kernel
theorem dX1_settle_46 : decode cX1_settle 46 = .ok (.iaload, 1) := by decide +kernel
theorem dX1_settle_47 : decode cX1_settle 47 = .ok (.istore_n 2, 1) := by decide +kernel
theorem dX1_settle_48 : decode cX1_settle 48 = .ok (.aload_n 0, 1) := by decide +kernel
theorem dX1_settle_49 : decode cX1_settle 49 = .ok (.getfield 18, 3) := by decide +kernel
theorem dX1_settle_52 : decode cX1_settle 52 = .ok (.iload_n 3, 1) := by decide +kernel
theorem dX1_settle_53 : decode cX1_settle 53 = .ok (.iload_n 1, 1) := by decide +kernel
theorem dX1_settle_54 : decode cX1_settle 54 = .ok (.invokestatic 44, 3) := by decide +kernel
theorem dX1_settle_57 : decode cX1_settle 57 = .ok (.iload_n 2, 1) := by decide +kernel
theorem dX1_settle_58 : decode cX1_settle 58 = .ok (.iastore, 1) := by decide +kernel
theorem dX1_settle_59 : decode cX1_settle 59 = .ok (.iinc 3 1, 3) := by decide +kernel
theorem dX1_settle_62 : decode cX1_settle 62 = .ok (.goto (-35), 3) := by decide +kernel
theorem dX1_settle_65 : decode cX1_settle 65 = .ok (.iinc 1 1, 3) := by decide +kernel
theorem dX1_settle_68 : decode cX1_settle 68 = .ok (.goto (-66), 3) := by decide +kernel
theorem dX1_settle_71 : decode cX1_settle 71 = .ok (.return_, 1) := by decide +kernel
theorem dX2_init_0 : decode cX2_init 0 = .ok (.aload_n 0, 1) := by decide +kernel
theorem dX2_init_1 : decode cX2_init 1 = .ok (.invokespecial 3, 3) := by decide +kernel
theorem dX2_init_4 : decode cX2_init 4 = .ok (.aload_n 0, 1) := by decide +kernel
theorem dX2_init_5 : decode cX2_init 5 = .ok (.sipush 300, 3) := by decide +kernel
theorem dX2_init_8 : decode cX2_init 8 = .ok (.newarray .int, 2) := by decide +kernel
theorem dX2_init_10 : decode cX2_init 10 = .ok (.putfield 9, 3) := by decide +kernel
theorem dX2_init_13 : decode cX2_init 13 = .ok (.aload_n 0, 1) := by decide +kernel
theorem dX2_init_14 : decode cX2_init 14 = .ok (.sipush 300, 3) := by decide +kernel
theorem dX2_init_17 : decode cX2_init 17 = .ok (.newarray .int, 2) := by decide +kernel
theorem dX2_init_19 : decode cX2_init 19 = .ok (.putfield 15, 3) := by decide +kernel
theorem dX2_init_22 : decode cX2_init 22 = .ok (.aload_n 0, 1) := by decide +kernel
theorem dX2_init_23 : decode cX2_init 23 = .ok (.sipush 300, 3) := by decide +kernel
theorem dX2_init_26 : decode cX2_init 26 = .ok (.newarray .boolean, 2) := by decide +kernel
theorem dX2_init_28 : decode cX2_init 28 = .ok (.putfield 18, 3) := by decide +kernel
theorem dX2_init_31 : decode cX2_init 31 = .ok (.return_, 1) := by decide +kernel
theorem dX2_enter_0 : decode cX2_enter 0 = .ok (.aload_n 0, 1) := by decide +kernel
theorem dX2_enter_1 : decode cX2_enter 1 = .ok (.getfield 22, 3) := by decide +kernel
theorem dX2_enter_4 : decode cX2_enter 4 = .ok (.istore_n 3, 1) := by decide +kernel
theorem dX2_enter_5 : decode cX2_enter 5 = .ok (.iload_n 3, 1) := by decide +kernel
theorem dX2_enter_6 : decode cX2_enter 6 = .ok (.sipush 300, 3) := by decide +kernel
theorem dX2_enter_9 : decode cX2_enter 9 = .ok (.if_icmp .ge 37, 3) := by decide +kernel
theorem dX2_enter_12 : decode cX2_enter 12 = .ok (.aload_n 0, 1) := by decide +kernel
theorem dX2_enter_13 : decode cX2_enter 13 = .ok (.getfield 9, 3) := by decide +kernel
theorem dX2_enter_16 : decode cX2_enter 16 = .ok (.iload_n 3, 1) := by decide +kernel
theorem dX2_enter_17 : decode cX2_enter 17 = .ok (.iload_n 1, 1) := by decide +kernel
theorem dX2_enter_18 : decode cX2_enter 18 = .ok (.iastore, 1) := by decide +kernel
theorem dX2_enter_19 : decode cX2_enter 19 = .ok (.aload_n 0, 1) := by decide +kernel
theorem dX2_enter_20 : decode cX2_enter 20 = .ok (.getfield 15, 3) := by decide +kernel
theorem dX2_enter_23 : decode cX2_enter 23 = .ok (.iload_n 3, 1) := by decide +kernel
theorem dX2_enter_24 : decode cX2_enter 24 = .ok (.iload_n 2, 1) := by decide +kernel
theorem dX2_enter_25 : decode cX2_enter 25 = .ok (.iastore, 1) := by decide +kernel
theorem dX2_enter_26 : decode cX2_enter 26 = .ok (.aload_n 0, 1) := by decide +kernel
theorem dX2_enter_27 : decode cX2_enter 27 = .ok (.dup, 1) := by decide +kernel
theorem dX2_enter_28 : decode cX2_enter 28 = .ok (.getfield 22, 3) := by decide +kernel
theorem dX2_enter_31 : decode cX2_enter 31 = .ok (.iconst 1, 1) := by decide +kernel
theorem dX2_enter_32 : decode cX2_enter 32 = .ok (.iadd, 1) := by decide +kernel
theorem dX2_enter_33 : decode cX2_enter 33 = .ok (.putfield 22, 3) := by decide +kernel
theorem dX2_enter_36 : decode cX2_enter 36 = .ok (.aload_n 0, 1) := by decide +kernel
theorem dX2_enter_37 : decode cX2_enter 37 = .ok (.dup, 1) := by decide +kernel
theorem dX2_enter_38 : decode cX2_enter 38 = .ok (.getfield 26, 3) := by decide +kernel
theorem dX2_enter_41 : decode cX2_enter 41 = .ok (.iconst 1, 1) := by decide +kernel
theorem dX2_enter_42 : decode cX2_enter 42 = .ok (.iadd, 1) := by decide +kernel
theorem dX2_enter_43 : decode cX2_enter 43 = .ok (.putfield 26, 3) := by decide +kernel
theorem dX2_enter_46 : decode cX2_enter 46 = .ok (.iload_n 3, 1) := by decide +kernel
theorem dX2_enter_47 : decode cX2_enter 47 = .ok (.ireturn, 1) := by decide +kernel
set_option maxRecDepth 20000 in
theorem ggX2_strike_X2_isThere : GoodIn wsX2_strike wsX2_isThere := goodIn_r _ [7, 1, 8, 9, 10, 6, 11, 12, 18, 19, 20, 21, 22] (by decide +kernel) (by decide +kernel)
set_option maxRecDepth 20000 in
theorem gX2_strike_X2_isThere : GoodIn wsX2_strike (wsV RX2 29 RX2 yX2_isThere wsX2_isThere) := goodIn_app (goodIn_of _ (by decide +kernel)) ggX2_strike_X2_isThere
set_option maxRecDepth 20000 in
theorem ggX2_strike_X2_measureOf : GoodIn wsX2_strike wsX2_measureOf := goodIn_r _ [16, 17, 8, 9, 10, 6, 11, 12, 18, 19, 20, 21, 22] (by decide +kernel) (by decide +kernel)
set_option maxRecDepth 20000 in
theorem gX2_strike_X2_measureOf : GoodIn wsX2_strike (wsV RX2 33 RX2 yX2_measureOf wsX2_measureOf) := goodIn_app (goodIn_of _ (by decide +kernel)) ggX2_strike_X2_measureOf
theorem dX2_strike_0 : decode cX2_strike 0 = .ok (.aload_n 0, 1) := by decide +kernel
theorem dX2_strike_1 : decode cX2_strike 1 = .ok (.iload_n 1, 1) := by decide +kernel
theorem dX2_strike_2 : decode cX2_strike 2 = .ok (.invokevirtual 29, 3) := by decide +kernel
theorem dX2_strike_5 : decode cX2_strike 5 = .ok (.ifCond .eq 20, 3) := by decide +kernel
theorem dX2_strike_8 : decode cX2_strike 8 = .ok (.aload_n 0, 1) := by decide +kernel
theorem dX2_strike_9 : decode cX2_strike 9 = .ok (.getfield 18, 3) := by decide +kernel
theorem dX2_strike_12 : decode cX2_strike 12 = .ok (.iload_n 1, 1) := by decide +kernel
theorem dX2_strike_13 : decode cX2_strike 13 = .ok (.iconst 1, 1) := by decide +kernel
theorem dX2_strike_14 : decode cX2_strike 14 = .ok (.bastore, 1) := by decide +kernel
theorem dX2_strike_15 : decode cX2_strike 15 = .ok (.aload_n 0, 1) := by decide +kernel
theorem dX2_strike_16 : decode cX2_strike 16 = .ok (.dup, 1) := by decide +kernel
theorem dX2_strike_17 : decode cX2_strike 17 = .ok (.getfield 26, 3) := by decide +kernel
theorem dX2_strike_20 : decode cX2_strike 20 = .ok (.iconst 1, 1) := by decide +kernel
theorem dX2_strike_21 : decode cX2_strike 21 = .ok (.isub, 1) := by decide +kernel
theorem dX2_strike_22 : decode cX2_strike 22 = .ok (.putfield 26, 3) := by decide +kernel
theorem dX2_strike_25 : decode cX2_strike 25 = .ok (.aload_n 0, 1) := by decide +kernel
theorem dX2_strike_26 : decode cX2_strike 26 = .ok (.iload_n 1, 1) := by decide +kernel
theorem dX2_strike_27 : decode cX2_strike 27 = .ok (.invokevirtual 33, 3) := by decide +kernel
theorem dX2_strike_30 : decode cX2_strike 30 = .ok (.ireturn, 1) := by decide +kernel
theorem dX2_has_0 : decode cX2_has 0 = .ok (.iload_n 1, 1) := by decide +kernel
theorem dX2_has_1 : decode cX2_has 1 = .ok (.ifCond .lt 15, 3) := by decide +kernel
theorem dX2_has_4 : decode cX2_has 4 = .ok (.iload_n 1, 1) := by decide +kernel
theorem dX2_has_5 : decode cX2_has 5 = .ok (.aload_n 0, 1) := by decide +kernel
theorem dX2_has_6 : decode cX2_has 6 = .ok (.getfield 22, 3) := by decide +kernel
theorem dX2_has_9 : decode cX2_has 9 = .ok (.if_icmp .ge 7, 3) := by decide +kernel
theorem dX2_has_12 : decode cX2_has 12 = .ok (.iconst 1, 1) := by decide +kernel
theorem dX2_has_13 : decode cX2_has 13 = .ok (.goto 4, 3) := by decide +kernel
theorem dX2_has_16 : decode cX2_has 16 = .ok (.iconst 0, 1) := by decide +kernel
theorem dX2_has_17 : decode cX2_has 17 = .ok (.ireturn, 1) := by decide +kernel
set_option maxRecDepth 20000 in
theorem ggX2_isThere_X2_has : GoodIn wsX2_isThere wsX2_has := goodIn_r _ [6, 7, 8, 9, 10, 11, 12] (by decide +kernel) (by decide +kernel)
set_option maxRecDepth 20000 in
theorem gX2_isThere_X2_has : GoodIn wsX2_isThere (wsV RX2 37 RX2 yX2_has wsX2_has) := goodIn_app (goodIn_of _ (by decide +kernel)) ggX2_isThere_X2_has
theorem dX2_isThere_0 : decode cX2_isThere 0 = .ok (.aload_n 0, 1) := by decide +kernel
theorem dX2_isThere_1 : decode cX2_isThere 1 = .ok (.iload_n 1, 1) := by decide +kernel
theorem dX2_isThere_2 : decode cX2_isThere 2 = .ok (.invokevirtual 37, 3) := by decide +kernel
theorem dX2_isThere_5 : decode cX2_isThere 5 = .ok (.ifCond .eq 16, 3) := by decide +kernel
theorem dX2_isThere_8 : decode cX2_isThere 8 = .ok (.aload_n 0, 1) := by decide +kernel
theorem dX2_isThere_9 : decode cX2_isThere 9 = .ok (.getfield 18, 3) := by decide +kernel
theorem dX2_isThere_12 : decode cX2_isThere 12 = .ok (.iload_n 1, 1) := by decide +kernel
theorem dX2_isThere_13 : decode cX2_isThere 13 = .ok (.baload, 1) := by decide +kernel
theorem dX2_isThere_14 : decode cX2_isThere 14 = .ok (.ifCond .ne 7, 3) := by decide +kernel
theorem dX2_isThere_17 : decode cX2_isThere 17 = .ok (.iconst 1, 1) := by decide +kernel
theorem dX2_isThere_18 : decode cX2_isThere 18 = .ok (.goto 4, 3) := by decide +kernel
theorem dX2_isThere_21 : decode cX2_isThere 21 = .ok (.iconst 0, 1) := by decide +kernel
theorem dX2_isThere_22 : decode cX2_isThere 22 = .ok (.ireturn, 1) := by decide +kernel
set_option maxRecDepth 20000 in
theorem ggX2_cellOf_X2_has : GoodIn wsX2_cellOf wsX2_has := goodIn_r _ [6, 7, 8, 9, 10, 11, 12] (by decide +kernel) (by decide +kernel)
set_option maxRecDepth 20000 in
theorem gX2_cellOf_X2_has : GoodIn wsX2_cellOf (wsV RX2 37 RX2 yX2_has wsX2_has) := goodIn_app (goodIn_of _ (by decide +kernel)) ggX2_cellOf_X2_has
theorem dX2_cellOf_0 : decode cX2_cellOf 0 = .ok (.aload_n 0, 1) := by decide +kernel
theorem dX2_cellOf_1 : decode cX2_cellOf 1 = .ok (.iload_n 1, 1) := by decide +kernel
theorem dX2_cellOf_2 : decode cX2_cellOf 2 = .ok (.invokevirtual 37, 3) := by decide +kernel
theorem dX2_cellOf_5 : decode cX2_cellOf 5 = .ok (.ifCond .eq 12, 3) := by decide +kernel
theorem dX2_cellOf_8 : decode cX2_cellOf 8 = .ok (.aload_n 0, 1) := by decide +kernel
theorem dX2_cellOf_9 : decode cX2_cellOf 9 = .ok (.getfield 9, 3) := by decide +kernel
theorem dX2_cellOf_12 : decode cX2_cellOf 12 = .ok (.iload_n 1, 1) := by decide +kernel
theorem dX2_cellOf_13 : decode cX2_cellOf 13 = .ok (.iaload, 1) := by decide +kernel
theorem dX2_cellOf_14 : decode cX2_cellOf 14 = .ok (.goto 4, 3) := by decide +kernel
theorem dX2_cellOf_17 : decode cX2_cellOf 17 = .ok (.iconst 0, 1) := by decide +kernel
theorem dX2_cellOf_18 : decode cX2_cellOf 18 = .ok (.ireturn, 1) := by decide +kernel
set_option maxRecDepth 20000 in
theorem ggX2_measureOf_X2_has : GoodIn wsX2_measureOf wsX2_has := goodIn_r _ [6, 7, 8, 9, 10, 11, 12] (by decide +kernel) (by decide +kernel)
set_option maxRecDepth 20000 in
theorem gX2_measureOf_X2_has : GoodIn wsX2_measureOf (wsV RX2 37 RX2 yX2_has wsX2_has) := goodIn_app (goodIn_of _ (by decide +kernel)) ggX2_measureOf_X2_has
theorem dX2_measureOf_0 : decode cX2_measureOf 0 = .ok (.aload_n 0, 1) := by decide +kernel
theorem dX2_measureOf_1 : decode cX2_measureOf 1 = .ok (.iload_n 1, 1) := by decide +kernel
theorem dX2_measureOf_2 : decode cX2_measureOf 2 = .ok (.invokevirtual 37, 3) := by decide +kernel
theorem dX2_measureOf_5 : decode cX2_measureOf 5 = .ok (.ifCond .eq 12, 3) := by decide +kernel
theorem dX2_measureOf_8 : decode cX2_measureOf 8 = .ok (.aload_n 0, 1) := by decide +kernel
theorem dX2_measureOf_9 : decode cX2_measureOf 9 = .ok (.getfield 15, 3) := by decide +kernel
theorem dX2_measureOf_12 : decode cX2_measureOf 12 = .ok (.iload_n 1, 1) := by decide +kernel
theorem dX2_measureOf_13 : decode cX2_measureOf 13 = .ok (.iaload, 1) := by decide +kernel
theorem dX2_measureOf_14 : decode cX2_measureOf 14 = .ok (.goto 4, 3) := by decide +kernel
theorem dX2_measureOf_17 : decode cX2_measureOf 17 = .ok (.iconst 0, 1) := by decide +kernel
theorem dX2_measureOf_18 : decode cX2_measureOf 18 = .ok (.ireturn, 1) := by decide +kernel
theorem dX3_init_0 : decode cX3_init 0 = .ok (.aload_n 0, 1) := by decide +kernel
theorem dX3_init_1 : decode cX3_init 1 = .ok (.invokespecial 3, 3) := by decide +kernel
theorem dX3_init_4 : decode cX3_init 4 = .ok (.aload_n 0, 1) := by decide +kernel
theorem dX3_init_5 : decode cX3_init 5 = .ok (.bipush 64, 2) := by decide +kernel
theorem dX3_init_7 : decode cX3_init 7 = .ok (.newarray .long, 2) := by decide +kernel
theorem dX3_init_9 : decode cX3_init 9 = .ok (.putfield 9, 3) := by decide +kernel
theorem dX3_init_12 : decode cX3_init 12 = .ok (.return_, 1) := by decide +kernel
set_option maxRecDepth 20000 in
theorem ggX3_clear_J7_fill_d0a16 : GoodIn wsX3_clear wsJ7_fill_d0a16 := goodIn_r _ [6] (by decide +kernel) (by decide +kernel)
set_option maxRecDepth 20000 in
theorem gX3_clear_J7_fill_d0a16 : GoodIn wsX3_clear (va_wsS RX3 13 yJ7_fill_d0a16 wsJ7_fill_d0a16) := goodIn_app (goodIn_of _ (by decide +kernel)) ggX3_clear_J7_fill_d0a16
theorem dX3_clear_0 : decode cX3_clear 0 = .ok (.aload_n 0, 1) := by decide +kernel
theorem dX3_clear_1 : decode cX3_clear 1 = .ok (.getfield 9, 3) := by decide +kernel
theorem dX3_clear_4 : decode cX3_clear 4 = .ok (.lconst 0, 1) := by decide +kernel
theorem dX3_clear_5 : decode cX3_clear 5 = .ok (.invokestatic 13, 3) := by decide +kernel
theorem dX3_clear_8 : decode cX3_clear 8 = .ok (.aload_n 0, 1) := by decide +kernel
theorem dX3_clear_9 : decode cX3_clear 9 = .ok (.iconst 0, 1) := by decide +kernel
theorem dX3_clear_10 : decode cX3_clear 10 = .ok (.putfield 19, 3) := by decide +kernel
theorem dX3_clear_13 : decode cX3_clear 13 = .ok (.return_, 1) := by decide +kernel
theorem dX3_add_0 : decode cX3_add 0 = .ok (.iload_n 1, 1) := by decide +kernel
theorem dX3_add_1 : decode cX3_add 1 = .ok (.ifCond .lt 10, 3) := by decide +kernel
theorem dX3_add_4 : decode cX3_add 4 = .ok (.iload_n 1, 1) := by decide +kernel
theorem dX3_add_5 : decode cX3_add 5 = .ok (.sipush 4096, 3) := by decide +kernel
theorem dX3_add_8 : decode cX3_add 8 = .ok (.if_icmp .lt 4, 3) := by decide +kernel
theorem dX3_add_11 : decode cX3_add 11 = .ok (.return_, 1) := by decide +kernel
theorem dX3_add_12 : decode cX3_add 12 = .ok (.lconst 1, 1) := by decide +kernel
theorem dX3_add_13 : decode cX3_add 13 = .ok (.iload_n 1, 1) := by decide +kernel
theorem dX3_add_14 : decode cX3_add 14 = .ok (.lshl, 1) := by decide +kernel
theorem dX3_add_15 : decode cX3_add 15 = .ok (.lstore_n 2, 1) := by decide +kernel
theorem dX3_add_16 : decode cX3_add 16 = .ok (.aload_n 0, 1) := by decide +kernel
theorem dX3_add_17 : decode cX3_add 17 = .ok (.getfield 9, 3) := by decide +kernel
theorem dX3_add_20 : decode cX3_add 20 = .ok (.iload_n 1, 1) := by decide +kernel
theorem dX3_add_21 : decode cX3_add 21 = .ok (.bipush 6, 2) := by decide +kernel
theorem dX3_add_23 : decode cX3_add 23 = .ok (.ishr, 1) := by decide +kernel
theorem dX3_add_24 : decode cX3_add 24 = .ok (.laload, 1) := by decide +kernel
theorem dX3_add_25 : decode cX3_add 25 = .ok (.lload_n 2, 1) := by decide +kernel
theorem dX3_add_26 : decode cX3_add 26 = .ok (.land, 1) := by decide +kernel
theorem dX3_add_27 : decode cX3_add 27 = .ok (.lconst 0, 1) := by decide +kernel
theorem dX3_add_28 : decode cX3_add 28 = .ok (.lcmp, 1) := by decide +kernel
theorem dX3_add_29 : decode cX3_add 29 = .ok (.ifCond .ne 26, 3) := by decide +kernel
theorem dX3_add_32 : decode cX3_add 32 = .ok (.aload_n 0, 1) := by decide +kernel
theorem dX3_add_33 : decode cX3_add 33 = .ok (.getfield 9, 3) := by decide +kernel
theorem dX3_add_36 : decode cX3_add 36 = .ok (.iload_n 1, 1) := by decide +kernel
theorem dX3_add_37 : decode cX3_add 37 = .ok (.bipush 6, 2) := by decide +kernel
theorem dX3_add_39 : decode cX3_add 39 = .ok (.ishr, 1) := by decide +kernel
theorem dX3_add_40 : decode cX3_add 40 = .ok (.dup2, 1) := by decide +kernel
theorem dX3_add_41 : decode cX3_add 41 = .ok (.laload, 1) := by decide +kernel
theorem dX3_add_42 : decode cX3_add 42 = .ok (.lload_n 2, 1) := by decide +kernel
theorem dX3_add_43 : decode cX3_add 43 = .ok (.lor, 1) := by decide +kernel
theorem dX3_add_44 : decode cX3_add 44 = .ok (.lastore, 1) := by decide +kernel
theorem dX3_add_45 : decode cX3_add 45 = .ok (.aload_n 0, 1) := by decide +kernel
theorem dX3_add_46 : decode cX3_add 46 = .ok (.dup, 1) := by decide +kernel
theorem dX3_add_47 : decode cX3_add 47 = .ok (.getfield 19, 3) := by decide +kernel
theorem dX3_add_50 : decode cX3_add 50 = .ok (.iconst 1, 1) := by decide +kernel
theorem dX3_add_51 : decode cX3_add 51 = .ok (.iadd, 1) := by decide +kernel
theorem dX3_add_52 : decode cX3_add 52 = .ok (.putfield 19, 3) := by decide +kernel
theorem dX3_add_55 : decode cX3_add 55 = .ok (.return_, 1) := by decide +kernel
theorem dX3_at_0 : decode cX3_at 0 = .ok (.iconst 0, 1) := by decide +kernel
theorem dX3_at_1 : decode cX3_at 1 = .ok (.istore_n 2, 1) := by decide +kernel
theorem dX3_at_2 : decode cX3_at 2 = .ok (.iconst 0, 1) := by decide +kernel
theorem dX3_at_3 : decode cX3_at 3 = .ok (.istore_n 3, 1) := by decide +kernel
theorem dX3_at_4 : decode cX3_at 4 = .ok (.iload_n 3, 1) := by decide +kernel
theorem dX3_at_5 : decode cX3_at 5 = .ok (.sipush 4096, 3) := by decide +kernel
theorem dX3_at_8 : decode cX3_at 8 = .ok (.if_icmp .ge 45, 3) := by decide +kernel
theorem dX3_at_11 : decode cX3_at 11 = .ok (.iload_n 2, 1) := by decide +kernel
theorem dX3_at_12 : decode cX3_at 12 = .ok (.aload_n 0, 1) := by decide +kernel
theorem dX3_at_13 : decode cX3_at 13 = .ok (.getfield 19, 3) := by decide +kernel
theorem dX3_at_16 : decode cX3_at 16 = .ok (.if_icmp .ge 37, 3) := by decide +kernel
theorem dX3_at_19 : decode cX3_at 19 = .ok (.aload_n 0, 1) := by decide +kernel
theorem dX3_at_20 : decode cX3_at 20 = .ok (.getfield 9, 3) := by decide +kernel
theorem dX3_at_23 : decode cX3_at 23 = .ok (.iload_n 3, 1) := by decide +kernel
theorem dX3_at_24 : decode cX3_at 24 = .ok (.bipush 6, 2) := by decide +kernel
theorem dX3_at_26 : decode cX3_at 26 = .ok (.ishr, 1) := by decide +kernel
theorem dX3_at_27 : decode cX3_at 27 = .ok (.laload, 1) := by decide +kernel
theorem dX3_at_28 : decode cX3_at 28 = .ok (.lconst 1, 1) := by decide +kernel
theorem dX3_at_29 : decode cX3_at 29 = .ok (.iload_n 3, 1) := by decide +kernel
theorem dX3_at_30 : decode cX3_at 30 = .ok (.lshl, 1) := by decide +kernel
theorem dX3_at_31 : decode cX3_at 31 = .ok (.land, 1) := by decide +kernel
theorem dX3_at_32 : decode cX3_at 32 = .ok (.lconst 0, 1) := by decide +kernel
theorem dX3_at_33 : decode cX3_at 33 = .ok (.lcmp, 1) := by decide +kernel
theorem dX3_at_34 : decode cX3_at 34 = .ok (.ifCond .eq 13, 3) := by decide +kernel
theorem dX3_at_37 : decode cX3_at 37 = .ok (.iload_n 2, 1) := by decide +kernel
theorem dX3_at_38 : decode cX3_at 38 = .ok (.iload_n 1, 1) := by decide +kernel
theorem dX3_at_39 : decode cX3_at 39 = .ok (.if_icmp .ne 5, 3) := by decide +kernel
theorem dX3_at_42 : decode cX3_at 42 = .ok (.iload_n 3, 1) := by decide +kernel
theorem dX3_at_43 : decode cX3_at 43 = .ok (.ireturn, 1) := by decide +kernel
theorem dX3_at_44 : decode cX3_at 44 = .ok (.iinc 2 1, 3) := by decide +kernel
theorem dX3_at_47 : decode cX3_at 47 = .ok (.iinc 3 1, 3) := by decide +kernel
theorem dX3_at_50 : decode cX3_at 50 = .ok (.goto (-46), 3) := by decide +kernel
theorem dX3_at_53 : decode cX3_at 53 = .ok (.iconst (-1), 1) := by decide +kernel
theorem dX3_at_54 : decode cX3_at 54 = .ok (.ireturn, 1) := by decide +kernel
set_option maxRecDepth 20000 in
theorem ggX4_init_X3_init : GoodIn wsX4_init wsX3_init := goodIn_r _ [17, 18, 2, 3, 19, 20, 65, 66] (by decide +kernel) (by decide +kernel)
set_option maxRecDepth 20000 in
theorem gX4_init_X3_init_n27 : GoodIn wsX4_init (wsX3_init) := ggX4_init_X3_init
set_option maxRecDepth 20000 in
theorem ggX4_init_X4_rebuild : GoodIn wsX4_init wsX4_rebuild := goodIn_r _ [25, 14, 26, 27, 28, 29, 30, 5, 31, 32, 33, 34, 35, 36, 37, 38, 39, 40, 41, 42, 43, 44, 45, 46, 47, 24, 48, 8, 49, 50, 51, 52, 6, 53, 54, 55, 56, 57, 58, 59, 60, 61, 62, 63, 64, 67, 68, 69, 70, 71, 72, 73, 74] (by decide +kernel) (by decide +kernel)
set_option maxRecDepth 20000 in
theorem gX4_init_X4_rebuild : GoodIn wsX4_init (wsV RX4 40 RX4 yX4_rebuild wsX4_rebuild) := goodIn_app (goodIn_of _ (by decide +kernel)) ggX4_init_X4_rebuild
theorem dX4_init_0 : decode cX4_init 0 = .ok (.aload_n 0, 1) := by decide +kernel
theorem dX4_init_1 : decode cX4_init 1 = .ok (.invokespecial 3, 3) := by decide +kernel
theorem dX4_init_4 : decode cX4_init 4 = .ok (.aload_n 0, 1) := by decide +kernel
theorem dX4_init_5 : decode cX4_init 5 = .ok (.sipush 256, 3) := by decide +kernel
theorem dX4_init_8 : decode cX4_init 8 = .ok (.newarray .int, 2) := by decide +kernel
theorem dX4_init_10 : decode cX4_init 10 = .ok (.putfield 9, 3) := by decide +kernel
theorem dX4_init_13 : decode cX4_init 13 = .ok (.aload_n 0, 1) := by decide +kernel
theorem dX4_init_14 : decode cX4_init 14 = .ok (.sipush 256, 3) := by decide +kernel
theorem dX4_init_17 : decode cX4_init 17 = .ok (.newarray .int, 2) := by decide +kernel
theorem dX4_init_19 : decode cX4_init 19 = .ok (.putfield 15, 3) := by decide +kernel
theorem dX4_init_22 : decode cX4_init 22 = .ok (.aload_n 0, 1) := by decide +kernel
theorem dX4_init_23 : decode cX4_init 23 = .ok (.sipush 256, 3) := by decide +kernel
theorem dX4_init_26 : decode cX4_init 26 = .ok (.newarray .boolean, 2) := by decide +kernel
theorem dX4_init_28 : decode cX4_init 28 = .ok (.putfield 18, 3) := by decide +kernel
theorem dX4_init_31 : decode cX4_init 31 = .ok (.aload_n 0, 1) := by decide +kernel
theorem dX4_init_32 : decode cX4_init 32 = .ok (.sipush 256, 3) := by decide +kernel
theorem dX4_init_35 : decode cX4_init 35 = .ok (.newarray .int, 2) := by decide +kernel
theorem dX4_init_37 : decode cX4_init 37 = .ok (.putfield 22, 3) := by decide +kernel
theorem dX4_init_40 : decode cX4_init 40 = .ok (.aload_n 0, 1) := by decide +kernel
theorem dX4_init_41 : decode cX4_init 41 = .ok (.new 25, 3) := by decide +kernel
theorem dX4_init_44 : decode cX4_init 44 = .ok (.dup, 1) := by decide +kernel
theorem dX4_init_45 : decode cX4_init 45 = .ok (.invokespecial 27, 3) := by decide +kernel
theorem dX4_init_48 : decode cX4_init 48 = .ok (.putfield 28, 3) := by decide +kernel
theorem dX4_init_51 : decode cX4_init 51 = .ok (.aload_n 0, 1) := by decide +kernel
theorem dX4_init_52 : decode cX4_init 52 = .ok (.aload_n 1, 1) := by decide +kernel
theorem dX4_init_53 : decode cX4_init 53 = .ok (.putfield 32, 3) := by decide +kernel
theorem dX4_init_56 : decode cX4_init 56 = .ok (.aload_n 0, 1) := by decide +kernel
theorem dX4_init_57 : decode cX4_init 57 = .ok (.aload_n 2, 1) := by decide +kernel
theorem dX4_init_58 : decode cX4_init 58 = .ok (.putfield 36, 3) := by decide +kernel
theorem dX4_init_61 : decode cX4_init 61 = .ok (.aload_n 0, 1) := by decide +kernel
theorem dX4_init_62 : decode cX4_init 62 = .ok (.invokevirtual 40, 3) := by decide +kernel
theorem dX4_init_65 : decode cX4_init 65 = .ok (.return_, 1) := by decide +kernel
set_option maxRecDepth 20000 in
theorem ggX4_rebuild_X6_cuboidCount : GoodIn wsX4_rebuild wsX6_cuboidCount := goodIn_r _ [12, 13, 14, 45, 46, 47, 48, 49, 50, 51, 52] (by decide +kernel) (by decide +kernel)
set_option maxRecDepth 20000 in
theorem gX4_rebuild_X6_cuboidCount : GoodIn wsX4_rebuild (wsV RX4 43 RX6 yX6_cuboidCount wsX6_cuboidCount) := goodIn_app (goodIn_of _ (by decide +kernel)) ggX4_rebuild_X6_cuboidCount
set_option maxRecDepth 20000 in
theorem ggX4_rebuild_X6_levelsAfter : GoodIn wsX4_rebuild wsX6_levelsAfter := goodIn_r _ [18, 13, 14, 19, 20, 11, 21, 45, 46, 47, 48, 49, 50, 51, 52] (by decide +kernel) (by decide +kernel)
set_option maxRecDepth 20000 in
theorem gX4_rebuild_X6_levelsAfter : GoodIn wsX4_rebuild (wsV RX4 59 RX6 yX6_levelsAfter wsX6_levelsAfter) := goodIn_app (goodIn_of _ (by decide +kernel)) ggX4_rebuild_X6_levelsAfter
set_option maxRecDepth 20000 in
theorem ggX4_rebuild_X4_keepOnlyFirst : GoodIn wsX4_rebuild wsX4_keepOnlyFirst := goodIn_r _ [26, 27, 37, 38, 39, 40, 41, 42, 43, 44] (by decide +kernel) (by decide +kernel)
set_option maxRecDepth 20000 in
theorem gX4_rebuild_X4_keepOnlyFirst : GoodIn wsX4_rebuild (wsV RX4 63 RX4 yX4_keepOnlyFirst wsX4_keepOnlyFirst) := goodIn_app (goodIn_of _ (by decide +kernel)) ggX4_rebuild_X4_keepOnlyFirst
set_option maxRecDepth 20000 in
theorem ggX4_rebuild_X4_forgetSizes : GoodIn wsX4_rebuild wsX4_forgetSizes := goodIn_r _ [31, 32, 33, 34, 35, 36, 37, 38, 39, 40, 41, 42, 43, 44] (by decide +kernel) (by decide +kernel)
set_option maxRecDepth 20000 in
theorem gX4_rebuild_X4_forgetSizes : GoodIn wsX4_rebuild (wsV RX4 66 RX4 yX4_forgetSizes wsX4_forgetSizes) := goodIn_app (goodIn_of _ (by decide +kernel)) ggX4_rebuild_X4_forgetSizes
theorem dX4_rebuild_0 : decode cX4_rebuild 0 = .ok (.aload_n 0, 1) := by decide +kernel
theorem dX4_rebuild_1 : decode cX4_rebuild 1 = .ok (.aload_n 0, 1) := by decide +kernel
theorem dX4_rebuild_2 : decode cX4_rebuild 2 = .ok (.getfield 32, 3) := by decide +kernel
theorem dX4_rebuild_5 : decode cX4_rebuild 5 = .ok (.invokevirtual 43, 3) := by decide +kernel
theorem dX4_rebuild_8 : decode cX4_rebuild 8 = .ok (.sipush 256, 3) := by decide +kernel
theorem dX4_rebuild_11 : decode cX4_rebuild 11 = .ok (.invokestatic 49, 3) := by decide +kernel
theorem dX4_rebuild_14 : decode cX4_rebuild 14 = .ok (.putfield 55, 3) := by decide +kernel
theorem dX4_rebuild_17 : decode cX4_rebuild 17 = .ok (.iconst 0, 1) := by decide +kernel
theorem dX4_rebuild_18 : decode cX4_rebuild 18 = .ok (.istore_n 1, 1) := by decide +kernel
theorem dX4_rebuild_19 : decode cX4_rebuild 19 = .ok (.iconst 0, 1) := by decide +kernel
theorem dX4_rebuild_20 : decode cX4_rebuild 20 = .ok (.istore_n 2, 1) := by decide +kernel
theorem dX4_rebuild_21 : decode cX4_rebuild 21 = .ok (.iload_n 2, 1) := by decide +kernel
theorem dX4_rebuild_22 : decode cX4_rebuild 22 = .ok (.aload_n 0, 1) := by decide +kernel
theorem dX4_rebuild_23 : decode cX4_rebuild 23 = .ok (.getfield 55, 3) := by decide +kernel
theorem dX4_rebuild_26 : decode cX4_rebuild 26 = .ok (.if_icmp .ge 25, 3) := by decide +kernel
theorem dX4_rebuild_29 : decode cX4_rebuild 29 = .ok (.aload_n 0, 1) := by decide +kernel
theorem dX4_rebuild_30 : decode cX4_rebuild 30 = .ok (.getfield 9, 3) := by decide +kernel
theorem dX4_rebuild_33 : decode cX4_rebuild 33 = .ok (.iload_n 2, 1) := by decide +kernel
theorem dX4_rebuild_34 : decode cX4_rebuild 34 = .ok (.iload_n 1, 1) := by decide +kernel
theorem dX4_rebuild_35 : decode cX4_rebuild 35 = .ok (.iastore, 1) := by decide +kernel
theorem dX4_rebuild_36 : decode cX4_rebuild 36 = .ok (.aload_n 0, 1) := by decide +kernel
theorem dX4_rebuild_37 : decode cX4_rebuild 37 = .ok (.getfield 32, 3) := by decide +kernel
theorem dX4_rebuild_40 : decode cX4_rebuild 40 = .ok (.iload_n 1, 1) := by decide +kernel
theorem dX4_rebuild_41 : decode cX4_rebuild 41 = .ok (.invokevirtual 59, 3) := by decide +kernel
theorem dX4_rebuild_44 : decode cX4_rebuild 44 = .ok (.istore_n 1, 1) := by decide +kernel
theorem dX4_rebuild_45 : decode cX4_rebuild 45 = .ok (.iinc 2 1, 3) := by decide +kernel
theorem dX4_rebuild_48 : decode cX4_rebuild 48 = .ok (.goto (-27), 3) := by decide +kernel
theorem dX4_rebuild_51 : decode cX4_rebuild 51 = .ok (.aload_n 0, 1) := by decide +kernel
theorem dX4_rebuild_52 : decode cX4_rebuild 52 = .ok (.invokevirtual 63, 3) := by decide +kernel
theorem dX4_rebuild_55 : decode cX4_rebuild 55 = .ok (.aload_n 0, 1) := by decide +kernel
theorem dX4_rebuild_56 : decode cX4_rebuild 56 = .ok (.invokevirtual 66, 3) := by decide +kernel
theorem dX4_rebuild_59 : decode cX4_rebuild 59 = .ok (.return_, 1) := by decide +kernel
set_option maxRecDepth 20000 in
theorem ggX4_forgetSizes_J7_fill_53178 : GoodIn wsX4_forgetSizes wsJ7_fill_53178 := goodIn_r _ [5] (by decide +kernel) (by decide +kernel)
set_option maxRecDepth 20000 in
theorem gX4_forgetSizes_J7_fill_53178 : GoodIn wsX4_forgetSizes (va_wsS RX4 69 yJ7_fill_53178 wsJ7_fill_53178) := goodIn_app (goodIn_of _ (by decide +kernel)) ggX4_forgetSizes_J7_fill_53178
theorem dX4_forgetSizes_0 : decode cX4_forgetSizes 0 = .ok (.aload_n 0, 1) := by decide +kernel
theorem dX4_forgetSizes_1 : decode cX4_forgetSizes 1 = .ok (.getfield 15, 3) := by decide +kernel
theorem dX4_forgetSizes_4 : decode cX4_forgetSizes 4 = .ok (.iconst (-1), 1) := by decide +kernel
theorem dX4_forgetSizes_5 : decode cX4_forgetSizes 5 = .ok (.invokestatic 69, 3) := by decide +kernel
theorem dX4_forgetSizes_8 : decode cX4_forgetSizes 8 = .ok (.return_, 1) := by decide +kernel
theorem dX4_keepOnlyFirst_0 : decode cX4_keepOnlyFirst 0 = .ok (.iconst 0, 1) := by decide +kernel
theorem dX4_keepOnlyFirst_1 : decode cX4_keepOnlyFirst 1 = .ok (.istore_n 1, 1) := by decide +kernel
theorem dX4_keepOnlyFirst_2 : decode cX4_keepOnlyFirst 2 = .ok (.iload_n 1, 1) := by decide +kernel
theorem dX4_keepOnlyFirst_3 : decode cX4_keepOnlyFirst 3 = .ok (.sipush 256, 3) := by decide +kernel
theorem dX4_keepOnlyFirst_6 : decode cX4_keepOnlyFirst 6 = .ok (.if_icmp .ge 24, 3) := by decide +kernel
theorem dX4_keepOnlyFirst_9 : decode cX4_keepOnlyFirst 9 = .ok (.aload_n 0, 1) := by decide +kernel
theorem dX4_keepOnlyFirst_10 : decode cX4_keepOnlyFirst 10 = .ok (.getfield 18, 3) := by decide +kernel
theorem dX4_keepOnlyFirst_13 : decode cX4_keepOnlyFirst 13 = .ok (.iload_n 1, 1) := by decide +kernel
theorem dX4_keepOnlyFirst_14 : decode cX4_keepOnlyFirst 14 = .ok (.iload_n 1, 1) := by decide +kernel
theorem dX4_keepOnlyFirst_15 : decode cX4_keepOnlyFirst 15 = .ok (.ifCond .ne 7, 3) := by decide +kernel
theorem dX4_keepOnlyFirst_18 : decode cX4_keepOnlyFirst 18 = .ok (.iconst 1, 1) := by decide +kernel
theorem dX4_keepOnlyFirst_19 : decode cX4_keepOnlyFirst 19 = .ok (.goto 4, 3) := by decide +kernel
theorem dX4_keepOnlyFirst_22 : decode cX4_keepOnlyFirst 22 = .ok (.iconst 0, 1) := by decide +kernel
theorem dX4_keepOnlyFirst_23 : decode cX4_keepOnlyFirst 23 = .ok (.bastore, 1) := by decide +kernel
theorem dX4_keepOnlyFirst_24 : decode cX4_keepOnlyFirst 24 = .ok (.iinc 1 1, 3) := by decide +kernel
theorem dX4_keepOnlyFirst_27 : decode cX4_keepOnlyFirst 27 = .ok (.goto (-25), 3) := by decide +kernel
theorem dX4_keepOnlyFirst_30 : decode cX4_keepOnlyFirst 30 = .ok (.return_, 1) := by decide +kernel
theorem dX4_has_0 : decode cX4_has 0 = .ok (.iload_n 1, 1) := by decide +kernel
theorem dX4_has_1 : decode cX4_has 1 = .ok (.ifCond .lt 15, 3) := by decide +kernel
theorem dX4_has_4 : decode cX4_has 4 = .ok (.iload_n 1, 1) := by decide +kernel
theorem dX4_has_5 : decode cX4_has 5 = .ok (.aload_n 0, 1) := by decide +kernel
theorem dX4_has_6 : decode cX4_has 6 = .ok (.getfield 55, 3) := by decide +kernel
theorem dX4_has_9 : decode cX4_has 9 = .ok (.if_icmp .ge 7, 3) := by decide +kernel
theorem dX4_has_12 : decode cX4_has 12 = .ok (.iconst 1, 1) := by decide +kernel
theorem dX4_has_13 : decode cX4_has 13 = .ok (.goto 4, 3) := by decide +kernel
theorem dX4_has_16 : decode cX4_has 16 = .ok (.iconst 0, 1) := by decide +kernel
theorem dX4_has_17 : decode cX4_has 17 = .ok (.ireturn, 1) := by decide +kernel
set_option maxRecDepth 20000 in
theorem ggX4_levelsOf_X4_has : GoodIn wsX4_levelsOf wsX4_has := goodIn_r _ [6, 7, 8, 9, 10, 11, 12, 13, 14, 15] (by decide +kernel) (by decide +kernel)
set_option maxRecDepth 20000 in
theorem gX4_levelsOf_X4_has : GoodIn wsX4_levelsOf (wsV RX4 75 RX4 yX4_has wsX4_has) := goodIn_app (goodIn_of _ (by decide +kernel)) ggX4_levelsOf_X4_has
theorem dX4_levelsOf_0 : decode cX4_levelsOf 0 = .ok (.aload_n 0, 1) := by decide +kernel
theorem dX4_levelsOf_1 : decode cX4_levelsOf 1 = .ok (.iload_n 1, 1) := by decide +kernel
theorem dX4_levelsOf_2 : decode cX4_levelsOf 2 = .ok (.invokevirtual 75, 3) := by decide +kernel
theorem dX4_levelsOf_5 : decode cX4_levelsOf 5 = .ok (.ifCond .eq 12, 3) := by decide +kernel
theorem dX4_levelsOf_8 : decode cX4_levelsOf 8 = .ok (.aload_n 0, 1) := by decide +kernel
theorem dX4_levelsOf_9 : decode cX4_levelsOf 9 = .ok (.getfield 9, 3) := by decide +kernel
theorem dX4_levelsOf_12 : decode cX4_levelsOf 12 = .ok (.iload_n 1, 1) := by decide +kernel
theorem dX4_levelsOf_13 : decode cX4_levelsOf 13 = .ok (.iaload, 1) := by decide +kernel
theorem dX4_levelsOf_14 : decode cX4_levelsOf 14 = .ok (.goto 4, 3) := by decide +kernel
theorem dX4_levelsOf_17 : decode cX4_levelsOf 17 = .ok (.iconst 0, 1) := by decide +kernel
theorem dX4_levelsOf_18 : decode cX4_levelsOf 18 = .ok (.ireturn, 1) := by decide +kernel
set_option maxRecDepth 20000 in
theorem ggX4_canServe_X4_levelsOf : GoodIn wsX4_canServe wsX4_levelsOf := goodIn_r _ [5, 6, 7, 8, 9, 4, 10, 11, 17, 18, 19, 20, 21, 22, 23, 24] (by decide +kernel) (by decide +kernel)
set_option maxRecDepth 20000 in
theorem gX4_canServe_X4_levelsOf : GoodIn wsX4_canServe (wsV RX4 79 RX4 yX4_levelsOf wsX4_levelsOf) := goodIn_app (goodIn_of _ (by decide +kernel)) ggX4_canServe_X4_levelsOf
set_option maxRecDepth 20000 in
theorem ggX4_canServe_X6_isNowhereAbove : GoodIn wsX4_canServe wsX6_isNowhereAbove := goodIn_r _ [15, 16] (by decide +kernel) (by decide +kernel)
set_option maxRecDepth 20000 in
theorem gX4_canServe_X6_isNowhereAbove : GoodIn wsX4_canServe (va_wsS RX4 82 yX6_isNowhereAbove wsX6_isNowhereAbove) := goodIn_app (goodIn_of _ (by decide +kernel)) ggX4_canServe_X6_isNowhereAbove
theorem dX4_canServe_0 : decode cX4_canServe 0 = .ok (.aload_n 0, 1) := by decide +kernel
theorem dX4_canServe_1 : decode cX4_canServe 1 = .ok (.iload_n 1, 1) := by decide +kernel
theorem dX4_canServe_2 : decode cX4_canServe 2 = .ok (.invokevirtual 79, 3) := by decide +kernel
theorem dX4_canServe_5 : decode cX4_canServe 5 = .ok (.aload_n 0, 1) := by decide +kernel
theorem dX4_canServe_6 : decode cX4_canServe 6 = .ok (.iload_n 2, 1) := by decide +kernel
theorem dX4_canServe_7 : decode cX4_canServe 7 = .ok (.invokevirtual 79, 3) := by decide +kernel
theorem dX4_canServe_10 : decode cX4_canServe 10 = .ok (.invokestatic 82, 3) := by decide +kernel
theorem dX4_canServe_13 : decode cX4_canServe 13 = .ok (.ireturn, 1) := by decide +kernel
set_option maxRecDepth 20000 in
theorem ggX4_isKept_X4_has : GoodIn wsX4_isKept wsX4_has := goodIn_r _ [6, 7, 8, 9, 10, 11, 12, 13, 14, 15] (by decide +kernel) (by decide +kernel)
set_option maxRecDepth 20000 in
theorem gX4_isKept_X4_has : GoodIn wsX4_isKept (wsV RX4 75 RX4 yX4_has wsX4_has) := goodIn_app (goodIn_of _ (by decide +kernel)) ggX4_isKept_X4_has
theorem dX4_isKept_0 : decode cX4_isKept 0 = .ok (.aload_n 0, 1) := by decide +kernel
theorem dX4_isKept_1 : decode cX4_isKept 1 = .ok (.iload_n 1, 1) := by decide +kernel
theorem dX4_isKept_2 : decode cX4_isKept 2 = .ok (.invokevirtual 75, 3) := by decide +kernel
theorem dX4_isKept_5 : decode cX4_isKept 5 = .ok (.ifCond .eq 16, 3) := by decide +kernel
