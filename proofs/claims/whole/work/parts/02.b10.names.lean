set_option maxRecDepth 20000 in
theorem ggX9_gain_X9_gainOf : GoodIn wsX9_gain wsX9_gainOf := goodIn_r _ [62, 22, 53, 21, 58, 8, 9, 10, 6, 11, 12, 13, 63, 64, 65, 66, 67, 68, 69, 70, 71, 72, 73, 74, 75, 76, 77, 78, 79, 80, 81, 82, 83, 84, 85, 86, 87] (by decide +kernel) (by decide +kernel)
set_option maxRecDepth 20000 in
theorem gX9_gain_X9_gainOf : GoodIn wsX9_gain (wsV RX9 123 RX9 yX9_gainOf wsX9_gainOf) := goodIn_app (goodIn_of _ (by decide +kernel)) ggX9_gain_X9_gainOf
theorem dX9_gain_0 : decode cX9_gain 0 = .ok (.aload_n 0, 1) := by decide +kernel
theorem dX9_gain_1 : decode cX9_gain 1 = .ok (.iconst 0, 1) := by decide +kernel
theorem dX9_gain_2 : decode cX9_gain 2 = .ok (.putfield 60, 3) := by decide +kernel
theorem dX9_gain_5 : decode cX9_gain 5 = .ok (.aload_n 0, 1) := by decide +kernel
theorem dX9_gain_6 : decode cX9_gain 6 = .ok (.iload_n 1, 1) := by decide +kernel
theorem dX9_gain_7 : decode cX9_gain 7 = .ok (.invokevirtual 96, 3) := by decide +kernel
theorem dX9_gain_10 : decode cX9_gain 10 = .ok (.ifCond .ne 6, 3) := by decide +kernel
theorem dX9_gain_13 : decode cX9_gain 13 = .ok (.ldc 74, 2) := by decide +kernel
theorem dX9_gain_15 : decode cX9_gain 15 = .ok (.ireturn, 1) := by decide +kernel
theorem dX9_gain_16 : decode cX9_gain 16 = .ok (.aload_n 0, 1) := by decide +kernel
theorem dX9_gain_17 : decode cX9_gain 17 = .ok (.invokevirtual 114, 3) := by decide +kernel
theorem dX9_gain_20 : decode cX9_gain 20 = .ok (.aload_n 0, 1) := by decide +kernel
theorem dX9_gain_21 : decode cX9_gain 21 = .ok (.invokevirtual 120, 3) := by decide +kernel
theorem dX9_gain_24 : decode cX9_gain 24 = .ok (.aload_n 0, 1) := by decide +kernel
theorem dX9_gain_25 : decode cX9_gain 25 = .ok (.iload_n 1, 1) := by decide +kernel
theorem dX9_gain_26 : decode cX9_gain 26 = .ok (.invokevirtual 123, 3) := by decide +kernel
theorem dX9_gain_29 : decode cX9_gain 29 = .ok (.ireturn, 1) := by decide +kernel
set_option maxRecDepth 20000 in
theorem ggX9_choose_X9_in : GoodIn wsX9_choose wsX9_in := goodIn_r _ [9] (by decide +kernel) (by decide +kernel)
set_option maxRecDepth 20000 in
theorem gX9_choose_X9_in : GoodIn wsX9_choose (va_wsS RX9 67 yX9_in wsX9_in) := goodIn_app (goodIn_of _ (by decide +kernel)) ggX9_choose_X9_in
set_option maxRecDepth 20000 in
theorem ggX9_choose_X9_keepNone : GoodIn wsX9_choose wsX9_keepNone := goodIn_r _ [13, 3, 63, 64, 65, 66, 67, 68, 69, 70, 71, 72, 73, 74, 75, 76, 77, 78, 79, 80, 81, 82, 83, 84, 85, 86, 87] (by decide +kernel) (by decide +kernel)
set_option maxRecDepth 20000 in
theorem gX9_choose_X9_keepNone : GoodIn wsX9_choose (wsV RX9 77 RX9 yX9_keepNone wsX9_keepNone) := goodIn_app (goodIn_of _ (by decide +kernel)) ggX9_choose_X9_keepNone
set_option maxRecDepth 20000 in
theorem ggX9_choose_X9_measure : GoodIn wsX9_choose wsX9_measure := goodIn_r _ [17, 4, 18, 19, 20, 21, 8, 22, 23, 24, 25, 26, 27, 28, 29, 30, 31, 32, 33, 34, 35, 36, 37, 38, 39, 40, 41, 42, 43, 44, 45, 46, 47, 48, 49, 50, 63, 64, 65, 66, 67, 68, 69, 70, 71, 72, 73, 74, 75, 76, 77, 78, 79, 80, 81, 82, 83, 84, 85, 86, 87] (by decide +kernel) (by decide +kernel)
set_option maxRecDepth 20000 in
theorem gX9_choose_X9_measure : GoodIn wsX9_choose (wsV RX9 114 RX9 yX9_measure wsX9_measure) := goodIn_app (goodIn_of _ (by decide +kernel)) ggX9_choose_X9_measure
set_option maxRecDepth 20000 in
theorem ggX9_choose_X9_findCosts : GoodIn wsX9_choose wsX9_findCosts := goodIn_r _ [54, 5, 4, 19, 20, 21, 8, 22, 23, 24, 55, 56, 57, 58, 3, 18, 63, 64, 65, 66, 67, 68, 69, 70, 71, 72, 73, 74, 75, 76, 77, 78, 79, 80, 81, 82, 83, 84, 85, 86, 87] (by decide +kernel) (by decide +kernel)
set_option maxRecDepth 20000 in
theorem gX9_choose_X9_findCosts : GoodIn wsX9_choose (wsV RX9 120 RX9 yX9_findCosts wsX9_findCosts) := goodIn_app (goodIn_of _ (by decide +kernel)) ggX9_choose_X9_findCosts
set_option maxRecDepth 20000 in
theorem ggX9_choose_X9_all : GoodIn wsX9_choose wsX9_all := goodIn_r _ [22, 23, 24, 63, 64, 65, 66, 67, 68, 69, 70, 71, 72, 73, 74, 75, 76, 77, 78, 79, 80, 81, 82, 83, 84, 85, 86, 87] (by decide +kernel) (by decide +kernel)
set_option maxRecDepth 20000 in
theorem gX9_choose_X9_all : GoodIn wsX9_choose (wsV RX9 92 RX9 yX9_all wsX9_all) := goodIn_app (goodIn_of _ (by decide +kernel)) ggX9_choose_X9_all
set_option maxRecDepth 20000 in
theorem ggX9_choose_X9_gainOf : GoodIn wsX9_choose wsX9_gainOf := goodIn_r _ [62, 18, 5, 4, 3, 19, 20, 21, 8, 22, 23, 24, 63, 64, 65, 66, 67, 68, 69, 70, 71, 72, 73, 74, 75, 76, 77, 78, 79, 80, 81, 82, 83, 84, 85, 86, 87] (by decide +kernel) (by decide +kernel)
set_option maxRecDepth 20000 in
theorem gX9_choose_X9_gainOf : GoodIn wsX9_choose (wsV RX9 123 RX9 yX9_gainOf wsX9_gainOf) := goodIn_app (goodIn_of _ (by decide +kernel)) ggX9_choose_X9_gainOf
theorem dX9_choose_0 : decode cX9_choose 0 = .ok (.aload_n 0, 1) := by decide +kernel
theorem dX9_choose_1 : decode cX9_choose 1 = .ok (.iconst 0, 1) := by decide +kernel
theorem dX9_choose_2 : decode cX9_choose 2 = .ok (.putfield 60, 3) := by decide +kernel
theorem dX9_choose_5 : decode cX9_choose 5 = .ok (.iload_n 1, 1) := by decide +kernel
theorem dX9_choose_6 : decode cX9_choose 6 = .ok (.iconst 0, 1) := by decide +kernel
theorem dX9_choose_7 : decode cX9_choose 7 = .ok (.bipush 8, 2) := by decide +kernel
theorem dX9_choose_9 : decode cX9_choose 9 = .ok (.invokestatic 67, 3) := by decide +kernel
theorem dX9_choose_12 : decode cX9_choose 12 = .ok (.ifCond .ne 6, 3) := by decide +kernel
theorem dX9_choose_15 : decode cX9_choose 15 = .ok (.ldc 74, 2) := by decide +kernel
theorem dX9_choose_17 : decode cX9_choose 17 = .ok (.ireturn, 1) := by decide +kernel
theorem dX9_choose_18 : decode cX9_choose 18 = .ok (.aload_n 0, 1) := by decide +kernel
theorem dX9_choose_19 : decode cX9_choose 19 = .ok (.invokevirtual 77, 3) := by decide +kernel
theorem dX9_choose_22 : decode cX9_choose 22 = .ok (.aload_n 0, 1) := by decide +kernel
theorem dX9_choose_23 : decode cX9_choose 23 = .ok (.invokevirtual 114, 3) := by decide +kernel
theorem dX9_choose_26 : decode cX9_choose 26 = .ok (.iconst 0, 1) := by decide +kernel
theorem dX9_choose_27 : decode cX9_choose 27 = .ok (.istore_n 2, 1) := by decide +kernel
theorem dX9_choose_28 : decode cX9_choose 28 = .ok (.iload_n 2, 1) := by decide +kernel
theorem dX9_choose_29 : decode cX9_choose 29 = .ok (.iload_n 1, 1) := by decide +kernel
theorem dX9_choose_30 : decode cX9_choose 30 = .ok (.if_icmp .ge 81, 3) := by decide +kernel
theorem dX9_choose_33 : decode cX9_choose 33 = .ok (.aload_n 0, 1) := by decide +kernel
theorem dX9_choose_34 : decode cX9_choose 34 = .ok (.invokevirtual 120, 3) := by decide +kernel
theorem dX9_choose_37 : decode cX9_choose 37 = .ok (.iconst 0, 1) := by decide +kernel
theorem dX9_choose_38 : decode cX9_choose 38 = .ok (.istore_n 3, 1) := by decide +kernel
theorem dX9_choose_39 : decode cX9_choose 39 = .ok (.iconst 0, 1) := by decide +kernel
theorem dX9_choose_40 : decode cX9_choose 40 = .ok (.istore 4, 2) := by decide +kernel
theorem dX9_choose_42 : decode cX9_choose 42 = .ok (.iconst 1, 1) := by decide +kernel
theorem dX9_choose_43 : decode cX9_choose 43 = .ok (.istore 5, 2) := by decide +kernel
theorem dX9_choose_45 : decode cX9_choose 45 = .ok (.iload 5, 2) := by decide +kernel
theorem dX9_choose_47 : decode cX9_choose 47 = .ok (.aload_n 0, 1) := by decide +kernel
theorem dX9_choose_48 : decode cX9_choose 48 = .ok (.invokevirtual 92, 3) := by decide +kernel
theorem dX9_choose_51 : decode cX9_choose 51 = .ok (.if_icmp .ge 47, 3) := by decide +kernel
theorem dX9_choose_54 : decode cX9_choose 54 = .ok (.aload_n 0, 1) := by decide +kernel
theorem dX9_choose_55 : decode cX9_choose 55 = .ok (.iload 5, 2) := by decide +kernel
theorem dX9_choose_57 : decode cX9_choose 57 = .ok (.invokevirtual 123, 3) := by decide +kernel
theorem dX9_choose_60 : decode cX9_choose 60 = .ok (.istore 6, 2) := by decide +kernel
theorem dX9_choose_62 : decode cX9_choose 62 = .ok (.iload 6, 2) := by decide +kernel
theorem dX9_choose_64 : decode cX9_choose 64 = .ok (.iload 4, 2) := by decide +kernel
theorem dX9_choose_66 : decode cX9_choose 66 = .ok (.if_icmp .le 8, 3) := by decide +kernel
theorem dX9_choose_69 : decode cX9_choose 69 = .ok (.iload 5, 2) := by decide +kernel
theorem dX9_choose_71 : decode cX9_choose 71 = .ok (.goto 4, 3) := by decide +kernel
theorem dX9_choose_74 : decode cX9_choose 74 = .ok (.iload_n 3, 1) := by decide +kernel
theorem dX9_choose_75 : decode cX9_choose 75 = .ok (.istore_n 3, 1) := by decide +kernel
theorem dX9_choose_76 : decode cX9_choose 76 = .ok (.iload 6, 2) := by decide +kernel
theorem dX9_choose_78 : decode cX9_choose 78 = .ok (.iload 4, 2) := by decide +kernel
theorem dX9_choose_80 : decode cX9_choose 80 = .ok (.if_icmp .le 8, 3) := by decide +kernel
theorem dX9_choose_83 : decode cX9_choose 83 = .ok (.iload 6, 2) := by decide +kernel
theorem dX9_choose_85 : decode cX9_choose 85 = .ok (.goto 5, 3) := by decide +kernel
theorem dX9_choose_88 : decode cX9_choose 88 = .ok (.iload 4, 2) := by decide +kernel
theorem dX9_choose_90 : decode cX9_choose 90 = .ok (.istore 4, 2) := by decide +kernel
theorem dX9_choose_92 : decode cX9_choose 92 = .ok (.iinc 5 1, 3) := by decide +kernel
theorem dX9_choose_95 : decode cX9_choose 95 = .ok (.goto (-50), 3) := by decide +kernel
theorem dX9_choose_98 : decode cX9_choose 98 = .ok (.aload_n 0, 1) := by decide +kernel
theorem dX9_choose_99 : decode cX9_choose 99 = .ok (.getfield 38, 3) := by decide +kernel
theorem dX9_choose_102 : decode cX9_choose 102 = .ok (.iload_n 3, 1) := by decide +kernel
theorem dX9_choose_103 : decode cX9_choose 103 = .ok (.iconst 1, 1) := by decide +kernel
theorem dX9_choose_104 : decode cX9_choose 104 = .ok (.bastore, 1) := by decide +kernel
theorem dX9_choose_105 : decode cX9_choose 105 = .ok (.iinc 2 1, 3) := by decide +kernel
theorem dX9_choose_108 : decode cX9_choose 108 = .ok (.goto (-80), 3) := by decide +kernel
theorem dX9_choose_111 : decode cX9_choose 111 = .ok (.aload_n 0, 1) := by decide +kernel
theorem dX9_choose_112 : decode cX9_choose 112 = .ok (.invokevirtual 120, 3) := by decide +kernel
theorem dX9_choose_115 : decode cX9_choose 115 = .ok (.iconst 0, 1) := by decide +kernel
theorem dX9_choose_116 : decode cX9_choose 116 = .ok (.istore_n 2, 1) := by decide +kernel
theorem dX9_choose_117 : decode cX9_choose 117 = .ok (.iconst 0, 1) := by decide +kernel
theorem dX9_choose_118 : decode cX9_choose 118 = .ok (.istore_n 3, 1) := by decide +kernel
theorem dX9_choose_119 : decode cX9_choose 119 = .ok (.iload_n 3, 1) := by decide +kernel
theorem dX9_choose_120 : decode cX9_choose 120 = .ok (.aload_n 0, 1) := by decide +kernel
theorem dX9_choose_121 : decode cX9_choose 121 = .ok (.invokevirtual 92, 3) := by decide +kernel
theorem dX9_choose_124 : decode cX9_choose 124 = .ok (.if_icmp .ge 25, 3) := by decide +kernel
theorem dX9_choose_127 : decode cX9_choose 127 = .ok (.iload_n 2, 1) := by decide +kernel
theorem dX9_choose_128 : decode cX9_choose 128 = .ok (.aload_n 0, 1) := by decide +kernel
theorem dX9_choose_129 : decode cX9_choose 129 = .ok (.getfield 50, 3) := by decide +kernel
theorem dX9_choose_132 : decode cX9_choose 132 = .ok (.iconst 0, 1) := by decide +kernel
theorem dX9_choose_133 : decode cX9_choose 133 = .ok (.iaload, 1) := by decide +kernel
theorem dX9_choose_134 : decode cX9_choose 134 = .ok (.aload_n 0, 1) := by decide +kernel
theorem dX9_choose_135 : decode cX9_choose 135 = .ok (.getfield 57, 3) := by decide +kernel
theorem dX9_choose_138 : decode cX9_choose 138 = .ok (.iload_n 3, 1) := by decide +kernel
theorem dX9_choose_139 : decode cX9_choose 139 = .ok (.iaload, 1) := by decide +kernel
theorem dX9_choose_140 : decode cX9_choose 140 = .ok (.isub, 1) := by decide +kernel
theorem dX9_choose_141 : decode cX9_choose 141 = .ok (.iadd, 1) := by decide +kernel
theorem dX9_choose_142 : decode cX9_choose 142 = .ok (.istore_n 2, 1) := by decide +kernel
theorem dX9_choose_143 : decode cX9_choose 143 = .ok (.iinc 3 1, 3) := by decide +kernel
theorem dX9_choose_146 : decode cX9_choose 146 = .ok (.goto (-27), 3) := by decide +kernel
theorem dX9_choose_149 : decode cX9_choose 149 = .ok (.iload_n 2, 1) := by decide +kernel
theorem dX9_choose_150 : decode cX9_choose 150 = .ok (.ireturn, 1) := by decide +kernel
set_option maxRecDepth 20000 in
theorem ggX9_together_X9_all : GoodIn wsX9_together wsX9_all := goodIn_r _ [7, 8, 9, 10, 11, 12, 13, 14, 15, 16, 17, 18, 19, 20, 21, 22, 23, 24, 25, 26, 27, 28, 29, 30, 31, 32, 33, 34] (by decide +kernel) (by decide +kernel)
set_option maxRecDepth 20000 in
theorem gX9_together_X9_all : GoodIn wsX9_together (wsV RX9 92 RX9 yX9_all wsX9_all) := goodIn_app (goodIn_of _ (by decide +kernel)) ggX9_together_X9_all
theorem dX9_together_0 : decode cX9_together 0 = .ok (.iconst 0, 1) := by decide +kernel
theorem dX9_together_1 : decode cX9_together 1 = .ok (.istore 4, 2) := by decide +kernel
theorem dX9_together_3 : decode cX9_together 3 = .ok (.iconst 0, 1) := by decide +kernel
theorem dX9_together_4 : decode cX9_together 4 = .ok (.istore 5, 2) := by decide +kernel
theorem dX9_together_6 : decode cX9_together 6 = .ok (.iload 5, 2) := by decide +kernel
theorem dX9_together_8 : decode cX9_together 8 = .ok (.aload_n 0, 1) := by decide +kernel
theorem dX9_together_9 : decode cX9_together 9 = .ok (.invokevirtual 92, 3) := by decide +kernel
theorem dX9_together_12 : decode cX9_together 12 = .ok (.if_icmp .ge 151, 3) := by decide +kernel
theorem dX9_together_15 : decode cX9_together 15 = .ok (.aload_n 0, 1) := by decide +kernel
theorem dX9_together_16 : decode cX9_together 16 = .ok (.getfield 50, 3) := by decide +kernel
theorem dX9_together_19 : decode cX9_together 19 = .ok (.iconst 0, 1) := by decide +kernel
theorem dX9_together_20 : decode cX9_together 20 = .ok (.iaload, 1) := by decide +kernel
theorem dX9_together_21 : decode cX9_together 21 = .ok (.istore 6, 2) := by decide +kernel
theorem dX9_together_23 : decode cX9_together 23 = .ok (.aload_n 0, 1) := by decide +kernel
theorem dX9_together_24 : decode cX9_together 24 = .ok (.getfield 54, 3) := by decide +kernel
theorem dX9_together_27 : decode cX9_together 27 = .ok (.sipush 256, 3) := by decide +kernel
theorem dX9_together_30 : decode cX9_together 30 = .ok (.iload_n 1, 1) := by decide +kernel
theorem dX9_together_31 : decode cX9_together 31 = .ok (.imul, 1) := by decide +kernel
theorem dX9_together_32 : decode cX9_together 32 = .ok (.iload 5, 2) := by decide +kernel
theorem dX9_together_34 : decode cX9_together 34 = .ok (.iadd, 1) := by decide +kernel
theorem dX9_together_35 : decode cX9_together 35 = .ok (.baload, 1) := by decide +kernel
theorem dX9_together_36 : decode cX9_together 36 = .ok (.ifCond .eq 23, 3) := by decide +kernel
theorem dX9_together_39 : decode cX9_together 39 = .ok (.aload_n 0, 1) := by decide +kernel
theorem dX9_together_40 : decode cX9_together 40 = .ok (.getfield 50, 3) := by decide +kernel
theorem dX9_together_43 : decode cX9_together 43 = .ok (.iload_n 1, 1) := by decide +kernel
theorem dX9_together_44 : decode cX9_together 44 = .ok (.iaload, 1) := by decide +kernel
theorem dX9_together_45 : decode cX9_together 45 = .ok (.iload 6, 2) := by decide +kernel
theorem dX9_together_47 : decode cX9_together 47 = .ok (.if_icmp .ge 12, 3) := by decide +kernel
theorem dX9_together_50 : decode cX9_together 50 = .ok (.aload_n 0, 1) := by decide +kernel
theorem dX9_together_51 : decode cX9_together 51 = .ok (.getfield 50, 3) := by decide +kernel
theorem dX9_together_54 : decode cX9_together 54 = .ok (.iload_n 1, 1) := by decide +kernel
theorem dX9_together_55 : decode cX9_together 55 = .ok (.iaload, 1) := by decide +kernel
theorem dX9_together_56 : decode cX9_together 56 = .ok (.goto 5, 3) := by decide +kernel
theorem dX9_together_59 : decode cX9_together 59 = .ok (.iload 6, 2) := by decide +kernel
theorem dX9_together_61 : decode cX9_together 61 = .ok (.istore 6, 2) := by decide +kernel
theorem dX9_together_63 : decode cX9_together 63 = .ok (.aload_n 0, 1) := by decide +kernel
theorem dX9_together_64 : decode cX9_together 64 = .ok (.getfield 54, 3) := by decide +kernel
theorem dX9_together_67 : decode cX9_together 67 = .ok (.sipush 256, 3) := by decide +kernel
theorem dX9_together_70 : decode cX9_together 70 = .ok (.iload_n 2, 1) := by decide +kernel
theorem dX9_together_71 : decode cX9_together 71 = .ok (.imul, 1) := by decide +kernel
theorem dX9_together_72 : decode cX9_together 72 = .ok (.iload 5, 2) := by decide +kernel
theorem dX9_together_74 : decode cX9_together 74 = .ok (.iadd, 1) := by decide +kernel
theorem dX9_together_75 : decode cX9_together 75 = .ok (.baload, 1) := by decide +kernel
theorem dX9_together_76 : decode cX9_together 76 = .ok (.ifCond .eq 23, 3) := by decide +kernel
theorem dX9_together_79 : decode cX9_together 79 = .ok (.aload_n 0, 1) := by decide +kernel
theorem dX9_together_80 : decode cX9_together 80 = .ok (.getfield 50, 3) := by decide +kernel
theorem dX9_together_83 : decode cX9_together 83 = .ok (.iload_n 2, 1) := by decide +kernel
theorem dX9_together_84 : decode cX9_together 84 = .ok (.iaload, 1) := by decide +kernel
theorem dX9_together_85 : decode cX9_together 85 = .ok (.iload 6, 2) := by decide +kernel
theorem dX9_together_87 : decode cX9_together 87 = .ok (.if_icmp .ge 12, 3) := by decide +kernel
theorem dX9_together_90 : decode cX9_together 90 = .ok (.aload_n 0, 1) := by decide +kernel
theorem dX9_together_91 : decode cX9_together 91 = .ok (.getfield 50, 3) := by decide +kernel
theorem dX9_together_94 : decode cX9_together 94 = .ok (.iload_n 2, 1) := by decide +kernel
theorem dX9_together_95 : decode cX9_together 95 = .ok (.iaload, 1) := by decide +kernel
theorem dX9_together_96 : decode cX9_together 96 = .ok (.goto 5, 3) := by decide +kernel
theorem dX9_together_99 : decode cX9_together 99 = .ok (.iload 6, 2) := by decide +kernel
theorem dX9_together_101 : decode cX9_together 101 = .ok (.istore 6, 2) := by decide +kernel
theorem dX9_together_103 : decode cX9_together 103 = .ok (.aload_n 0, 1) := by decide +kernel
theorem dX9_together_104 : decode cX9_together 104 = .ok (.getfield 54, 3) := by decide +kernel
theorem dX9_together_107 : decode cX9_together 107 = .ok (.sipush 256, 3) := by decide +kernel
theorem dX9_together_110 : decode cX9_together 110 = .ok (.iload_n 3, 1) := by decide +kernel
theorem dX9_together_111 : decode cX9_together 111 = .ok (.imul, 1) := by decide +kernel
theorem dX9_together_112 : decode cX9_together 112 = .ok (.iload 5, 2) := by decide +kernel
theorem dX9_together_114 : decode cX9_together 114 = .ok (.iadd, 1) := by decide +kernel
theorem dX9_together_115 : decode cX9_together 115 = .ok (.baload, 1) := by decide +kernel
theorem dX9_together_116 : decode cX9_together 116 = .ok (.ifCond .eq 23, 3) := by decide +kernel
theorem dX9_together_119 : decode cX9_together 119 = .ok (.aload_n 0, 1) := by decide +kernel
theorem dX9_together_120 : decode cX9_together 120 = .ok (.getfield 50, 3) := by decide +kernel
theorem dX9_together_123 : decode cX9_together 123 = .ok (.iload_n 3, 1) := by decide +kernel
theorem dX9_together_124 : decode cX9_together 124 = .ok (.iaload, 1) := by decide +kernel
theorem dX9_together_125 : decode cX9_together 125 = .ok (.iload 6, 2) := by decide +kernel
theorem dX9_together_127 : decode cX9_together 127 = .ok (.if_icmp .ge 12, 3) := by decide +kernel
theorem dX9_together_130 : decode cX9_together 130 = .ok (.aload_n 0, 1) := by decide +kernel
theorem dX9_together_131 : decode cX9_together 131 = .ok (.getfield 50, 3) := by decide +kernel
theorem dX9_together_134 : decode cX9_together 134 = .ok (.iload_n 3, 1) := by decide +kernel
theorem dX9_together_135 : decode cX9_together 135 = .ok (.iaload, 1) := by decide +kernel
theorem dX9_together_136 : decode cX9_together 136 = .ok (.goto 5, 3) := by decide +kernel
theorem dX9_together_139 : decode cX9_together 139 = .ok (.iload 6, 2) := by decide +kernel
theorem dX9_together_141 : decode cX9_together 141 = .ok (.istore 6, 2) := by decide +kernel
theorem dX9_together_143 : decode cX9_together 143 = .ok (.iload 4, 2) := by decide +kernel
theorem dX9_together_145 : decode cX9_together 145 = .ok (.aload_n 0, 1) := by decide +kernel
theorem dX9_together_146 : decode cX9_together 146 = .ok (.getfield 50, 3) := by decide +kernel
theorem dX9_together_149 : decode cX9_together 149 = .ok (.iconst 0, 1) := by decide +kernel
theorem dX9_together_150 : decode cX9_together 150 = .ok (.iaload, 1) := by decide +kernel
theorem dX9_together_151 : decode cX9_together 151 = .ok (.iload 6, 2) := by decide +kernel
theorem dX9_together_153 : decode cX9_together 153 = .ok (.isub, 1) := by decide +kernel
theorem dX9_together_154 : decode cX9_together 154 = .ok (.iadd, 1) := by decide +kernel
theorem dX9_together_155 : decode cX9_together 155 = .ok (.istore 4, 2) := by decide +kernel
theorem dX9_together_157 : decode cX9_together 157 = .ok (.iinc 5 1, 3) := by decide +kernel
theorem dX9_together_160 : decode cX9_together 160 = .ok (.goto (-154), 3) := by decide +kernel
theorem dX9_together_163 : decode cX9_together 163 = .ok (.iload 4, 2) := by decide +kernel
theorem dX9_together_165 : decode cX9_together 165 = .ok (.ireturn, 1) := by decide +kernel
set_option maxRecDepth 20000 in
theorem ggX9_best_X9_in : GoodIn wsX9_best wsX9_in := goodIn_r _ [7] (by decide +kernel) (by decide +kernel)
set_option maxRecDepth 20000 in
theorem gX9_best_X9_in : GoodIn wsX9_best (va_wsS RX9 67 yX9_in wsX9_in) := goodIn_app (goodIn_of _ (by decide +kernel)) ggX9_best_X9_in
set_option maxRecDepth 20000 in
theorem ggX9_best_X9_all : GoodIn wsX9_best wsX9_all := goodIn_r _ [11, 12, 13, 50, 51, 52, 53, 54, 55, 56, 57, 58, 59, 60, 61, 62, 63, 64, 65, 66, 67, 68, 69, 70, 71, 72, 73, 74] (by decide +kernel) (by decide +kernel)
set_option maxRecDepth 20000 in
theorem gX9_best_X9_all : GoodIn wsX9_best (wsV RX9 92 RX9 yX9_all wsX9_all) := goodIn_app (goodIn_of _ (by decide +kernel)) ggX9_best_X9_all
set_option maxRecDepth 20000 in
theorem ggX9_best_X9_measure : GoodIn wsX9_best wsX9_measure := goodIn_r _ [17, 18, 19, 8, 9, 10, 6, 11, 12, 13, 20, 21, 22, 23, 24, 25, 26, 27, 28, 29, 30, 31, 32, 33, 34, 35, 36, 37, 38, 39, 40, 41, 42, 43, 44, 45, 50, 51, 52, 53, 54, 55, 56, 57, 58, 59, 60, 61, 62, 63, 64, 65, 66, 67, 68, 69, 70, 71, 72, 73, 74] (by decide +kernel) (by decide +kernel)
set_option maxRecDepth 20000 in
theorem gX9_best_X9_measure : GoodIn wsX9_best (wsV RX9 114 RX9 yX9_measure wsX9_measure) := goodIn_app (goodIn_of _ (by decide +kernel)) ggX9_best_X9_measure
set_option maxRecDepth 20000 in
theorem ggX9_best_X9_together : GoodIn wsX9_best wsX9_together := goodIn_r _ [49, 18, 19, 8, 9, 10, 6, 11, 12, 13, 50, 51, 52, 53, 54, 55, 56, 57, 58, 59, 60, 61, 62, 63, 64, 65, 66, 67, 68, 69, 70, 71, 72, 73, 74] (by decide +kernel) (by decide +kernel)
set_option maxRecDepth 20000 in
theorem gX9_best_X9_together : GoodIn wsX9_best (wsV RX9 126 RX9 yX9_together wsX9_together) := goodIn_app (goodIn_of _ (by decide +kernel)) ggX9_best_X9_together
theorem dX9_best_0 : decode cX9_best 0 = .ok (.aload_n 0, 1) := by decide +kernel
theorem dX9_best_1 : decode cX9_best 1 = .ok (.iconst 0, 1) := by decide +kernel
theorem dX9_best_2 : decode cX9_best 2 = .ok (.putfield 60, 3) := by decide +kernel
theorem dX9_best_5 : decode cX9_best 5 = .ok (.iload_n 1, 1) := by decide +kernel
theorem dX9_best_6 : decode cX9_best 6 = .ok (.iconst 0, 1) := by decide +kernel
theorem dX9_best_7 : decode cX9_best 7 = .ok (.iconst 3, 1) := by decide +kernel
theorem dX9_best_8 : decode cX9_best 8 = .ok (.invokestatic 67, 3) := by decide +kernel
theorem dX9_best_11 : decode cX9_best 11 = .ok (.ifCond .ne 6, 3) := by decide +kernel
theorem dX9_best_14 : decode cX9_best 14 = .ok (.ldc 74, 2) := by decide +kernel
theorem dX9_best_16 : decode cX9_best 16 = .ok (.ireturn, 1) := by decide +kernel
theorem dX9_best_17 : decode cX9_best 17 = .ok (.aload_n 0, 1) := by decide +kernel
theorem dX9_best_18 : decode cX9_best 18 = .ok (.invokevirtual 92, 3) := by decide +kernel
theorem dX9_best_21 : decode cX9_best 21 = .ok (.istore_n 2, 1) := by decide +kernel
theorem dX9_best_22 : decode cX9_best 22 = .ok (.iload_n 2, 1) := by decide +kernel
theorem dX9_best_23 : decode cX9_best 23 = .ok (.bipush 64, 2) := by decide +kernel
theorem dX9_best_25 : decode cX9_best 25 = .ok (.if_icmp .le 6, 3) := by decide +kernel
theorem dX9_best_28 : decode cX9_best 28 = .ok (.ldc 75, 2) := by decide +kernel
theorem dX9_best_30 : decode cX9_best 30 = .ok (.ireturn, 1) := by decide +kernel
theorem dX9_best_31 : decode cX9_best 31 = .ok (.aload_n 0, 1) := by decide +kernel
theorem dX9_best_32 : decode cX9_best 32 = .ok (.invokevirtual 114, 3) := by decide +kernel
theorem dX9_best_35 : decode cX9_best 35 = .ok (.iconst 0, 1) := by decide +kernel
theorem dX9_best_36 : decode cX9_best 36 = .ok (.istore_n 3, 1) := by decide +kernel
theorem dX9_best_37 : decode cX9_best 37 = .ok (.iconst 0, 1) := by decide +kernel
theorem dX9_best_38 : decode cX9_best 38 = .ok (.istore 4, 2) := by decide +kernel
theorem dX9_best_40 : decode cX9_best 40 = .ok (.iload 4, 2) := by decide +kernel
theorem dX9_best_42 : decode cX9_best 42 = .ok (.iload_n 1, 1) := by decide +kernel
theorem dX9_best_43 : decode cX9_best 43 = .ok (.ifCond .le 7, 3) := by decide +kernel
theorem dX9_best_46 : decode cX9_best 46 = .ok (.iload_n 2, 1) := by decide +kernel
theorem dX9_best_47 : decode cX9_best 47 = .ok (.goto 4, 3) := by decide +kernel
theorem dX9_best_50 : decode cX9_best 50 = .ok (.iconst 1, 1) := by decide +kernel
theorem dX9_best_51 : decode cX9_best 51 = .ok (.if_icmp .ge 88, 3) := by decide +kernel
theorem dX9_best_54 : decode cX9_best 54 = .ok (.iconst 0, 1) := by decide +kernel
theorem dX9_best_55 : decode cX9_best 55 = .ok (.istore 5, 2) := by decide +kernel
theorem dX9_best_57 : decode cX9_best 57 = .ok (.iload 5, 2) := by decide +kernel
theorem dX9_best_59 : decode cX9_best 59 = .ok (.iload_n 1, 1) := by decide +kernel
theorem dX9_best_60 : decode cX9_best 60 = .ok (.iconst 1, 1) := by decide +kernel
theorem dX9_best_61 : decode cX9_best 61 = .ok (.if_icmp .le 10, 3) := by decide +kernel
theorem dX9_best_64 : decode cX9_best 64 = .ok (.iload 4, 2) := by decide +kernel
theorem dX9_best_66 : decode cX9_best 66 = .ok (.iconst 1, 1) := by decide +kernel
theorem dX9_best_67 : decode cX9_best 67 = .ok (.iadd, 1) := by decide +kernel
theorem dX9_best_68 : decode cX9_best 68 = .ok (.goto 4, 3) := by decide +kernel
theorem dX9_best_71 : decode cX9_best 71 = .ok (.iconst 1, 1) := by decide +kernel
theorem dX9_best_72 : decode cX9_best 72 = .ok (.if_icmp .ge 61, 3) := by decide +kernel
theorem dX9_best_75 : decode cX9_best 75 = .ok (.iconst 0, 1) := by decide +kernel
theorem dX9_best_76 : decode cX9_best 76 = .ok (.istore 6, 2) := by decide +kernel
theorem dX9_best_78 : decode cX9_best 78 = .ok (.iload 6, 2) := by decide +kernel
theorem dX9_best_80 : decode cX9_best 80 = .ok (.iload_n 1, 1) := by decide +kernel
theorem dX9_best_81 : decode cX9_best 81 = .ok (.iconst 2, 1) := by decide +kernel
theorem dX9_best_82 : decode cX9_best 82 = .ok (.if_icmp .le 10, 3) := by decide +kernel
theorem dX9_best_85 : decode cX9_best 85 = .ok (.iload 5, 2) := by decide +kernel
theorem dX9_best_87 : decode cX9_best 87 = .ok (.iconst 1, 1) := by decide +kernel
theorem dX9_best_88 : decode cX9_best 88 = .ok (.iadd, 1) := by decide +kernel
theorem dX9_best_89 : decode cX9_best 89 = .ok (.goto 4, 3) := by decide +kernel
theorem dX9_best_92 : decode cX9_best 92 = .ok (.iconst 1, 1) := by decide +kernel
theorem dX9_best_93 : decode cX9_best 93 = .ok (.if_icmp .ge 34, 3) := by decide +kernel
theorem dX9_best_96 : decode cX9_best 96 = .ok (.aload_n 0, 1) := by decide +kernel
theorem dX9_best_97 : decode cX9_best 97 = .ok (.iload 4, 2) := by decide +kernel
theorem dX9_best_99 : decode cX9_best 99 = .ok (.iload 5, 2) := by decide +kernel
theorem dX9_best_101 : decode cX9_best 101 = .ok (.iload 6, 2) := by decide +kernel
theorem dX9_best_103 : decode cX9_best 103 = .ok (.invokevirtual 126, 3) := by decide +kernel
theorem dX9_best_106 : decode cX9_best 106 = .ok (.istore 7, 2) := by decide +kernel
theorem dX9_best_108 : decode cX9_best 108 = .ok (.iload 7, 2) := by decide +kernel
theorem dX9_best_110 : decode cX9_best 110 = .ok (.iload_n 3, 1) := by decide +kernel
theorem dX9_best_111 : decode cX9_best 111 = .ok (.if_icmp .le 8, 3) := by decide +kernel
theorem dX9_best_114 : decode cX9_best 114 = .ok (.iload 7, 2) := by decide +kernel
theorem dX9_best_116 : decode cX9_best 116 = .ok (.goto 4, 3) := by decide +kernel
theorem dX9_best_119 : decode cX9_best 119 = .ok (.iload_n 3, 1) := by decide +kernel
theorem dX9_best_120 : decode cX9_best 120 = .ok (.istore_n 3, 1) := by decide +kernel
theorem dX9_best_121 : decode cX9_best 121 = .ok (.iinc 6 1, 3) := by decide +kernel
theorem dX9_best_124 : decode cX9_best 124 = .ok (.goto (-46), 3) := by decide +kernel
theorem dX9_best_127 : decode cX9_best 127 = .ok (.iinc 5 1, 3) := by decide +kernel
theorem dX9_best_130 : decode cX9_best 130 = .ok (.goto (-73), 3) := by decide +kernel
theorem dX9_best_133 : decode cX9_best 133 = .ok (.iinc 4 1, 3) := by decide +kernel
theorem dX9_best_136 : decode cX9_best 136 = .ok (.goto (-96), 3) := by decide +kernel
theorem dX9_best_139 : decode cX9_best 139 = .ok (.iload_n 3, 1) := by decide +kernel
theorem dX9_best_140 : decode cX9_best 140 = .ok (.ireturn, 1) := by decide +kernel
theorem dX9_begin_0 : decode cX9_begin 0 = .ok (.aload_n 0, 1) := by decide +kernel
theorem dX9_begin_1 : decode cX9_begin 1 = .ok (.iconst 0, 1) := by decide +kernel
theorem dX9_begin_2 : decode cX9_begin 2 = .ok (.putfield 129, 3) := by decide +kernel
theorem dX9_begin_5 : decode cX9_begin 5 = .ok (.aload_n 0, 1) := by decide +kernel
theorem dX9_begin_6 : decode cX9_begin 6 = .ok (.iconst 0, 1) := by decide +kernel
theorem dX9_begin_7 : decode cX9_begin 7 = .ok (.putfield 132, 3) := by decide +kernel
theorem dX9_begin_10 : decode cX9_begin 10 = .ok (.aload_n 0, 1) := by decide +kernel
theorem dX9_begin_11 : decode cX9_begin 11 = .ok (.iconst 0, 1) := by decide +kernel
theorem dX9_begin_12 : decode cX9_begin 12 = .ok (.putfield 135, 3) := by decide +kernel
theorem dX9_begin_15 : decode cX9_begin 15 = .ok (.aload_n 0, 1) := by decide +kernel
theorem dX9_begin_16 : decode cX9_begin 16 = .ok (.iconst 0, 1) := by decide +kernel
theorem dX9_begin_17 : decode cX9_begin 17 = .ok (.putfield 138, 3) := by decide +kernel
theorem dX9_begin_20 : decode cX9_begin 20 = .ok (.return_, 1) := by decide +kernel
theorem dX9_add_0 : decode cX9_add 0 = .ok (.aload_n 0, 1) := by decide +kernel
theorem dX9_add_1 : decode cX9_add 1 = .ok (.getfield 22, 3) := by decide +kernel
theorem dX9_add_4 : decode cX9_add 4 = .ok (.iload_n 1, 1) := by decide +kernel
theorem dX9_add_5 : decode cX9_add 5 = .ok (.iaload, 1) := by decide +kernel
theorem dX9_add_6 : decode cX9_add 6 = .ok (.istore_n 2, 1) := by decide +kernel
theorem dX9_add_7 : decode cX9_add 7 = .ok (.aload_n 0, 1) := by decide +kernel
theorem dX9_add_8 : decode cX9_add 8 = .ok (.aload_n 0, 1) := by decide +kernel
theorem dX9_add_9 : decode cX9_add 9 = .ok (.getfield 129, 3) := by decide +kernel
theorem dX9_add_12 : decode cX9_add 12 = .ok (.ifCond .eq 11, 3) := by decide +kernel
theorem dX9_add_15 : decode cX9_add 15 = .ok (.iload_n 2, 1) := by decide +kernel
theorem dX9_add_16 : decode cX9_add 16 = .ok (.aload_n 0, 1) := by decide +kernel
theorem dX9_add_17 : decode cX9_add 17 = .ok (.getfield 135, 3) := by decide +kernel
theorem dX9_add_20 : decode cX9_add 20 = .ok (.if_icmp .ge 7, 3) := by decide +kernel
theorem dX9_add_23 : decode cX9_add 23 = .ok (.iload_n 2, 1) := by decide +kernel
theorem dX9_add_24 : decode cX9_add 24 = .ok (.goto 7, 3) := by decide +kernel
theorem dX9_add_27 : decode cX9_add 27 = .ok (.aload_n 0, 1) := by decide +kernel
theorem dX9_add_28 : decode cX9_add 28 = .ok (.getfield 135, 3) := by decide +kernel
theorem dX9_add_31 : decode cX9_add 31 = .ok (.putfield 135, 3) := by decide +kernel
theorem dX9_add_34 : decode cX9_add 34 = .ok (.aload_n 0, 1) := by decide +kernel
theorem dX9_add_35 : decode cX9_add 35 = .ok (.aload_n 0, 1) := by decide +kernel
theorem dX9_add_36 : decode cX9_add 36 = .ok (.getfield 129, 3) := by decide +kernel
theorem dX9_add_39 : decode cX9_add 39 = .ok (.ifCond .eq 11, 3) := by decide +kernel
theorem dX9_add_42 : decode cX9_add 42 = .ok (.iload_n 2, 1) := by decide +kernel
theorem dX9_add_43 : decode cX9_add 43 = .ok (.aload_n 0, 1) := by decide +kernel
theorem dX9_add_44 : decode cX9_add 44 = .ok (.getfield 138, 3) := by decide +kernel
theorem dX9_add_47 : decode cX9_add 47 = .ok (.if_icmp .le 7, 3) := by decide +kernel
theorem dX9_add_50 : decode cX9_add 50 = .ok (.iload_n 2, 1) := by decide +kernel
theorem dX9_add_51 : decode cX9_add 51 = .ok (.goto 7, 3) := by decide +kernel
theorem dX9_add_54 : decode cX9_add 54 = .ok (.aload_n 0, 1) := by decide +kernel
theorem dX9_add_55 : decode cX9_add 55 = .ok (.getfield 138, 3) := by decide +kernel
theorem dX9_add_58 : decode cX9_add 58 = .ok (.putfield 138, 3) := by decide +kernel
theorem dX9_add_61 : decode cX9_add 61 = .ok (.aload_n 0, 1) := by decide +kernel
theorem dX9_add_62 : decode cX9_add 62 = .ok (.dup, 1) := by decide +kernel
theorem dX9_add_63 : decode cX9_add 63 = .ok (.getfield 129, 3) := by decide +kernel
theorem dX9_add_66 : decode cX9_add 66 = .ok (.iconst 1, 1) := by decide +kernel
theorem dX9_add_67 : decode cX9_add 67 = .ok (.iadd, 1) := by decide +kernel
theorem dX9_add_68 : decode cX9_add 68 = .ok (.putfield 129, 3) := by decide +kernel
theorem dX9_add_71 : decode cX9_add 71 = .ok (.aload_n 0, 1) := by decide +kernel
theorem dX9_add_72 : decode cX9_add 72 = .ok (.dup, 1) := by decide +kernel
theorem dX9_add_73 : decode cX9_add 73 = .ok (.getfield 132, 3) := by decide +kernel
theorem dX9_add_76 : decode cX9_add 76 = .ok (.iload_n 2, 1) := by decide +kernel
theorem dX9_add_77 : decode cX9_add 77 = .ok (.iadd, 1) := by decide +kernel
theorem dX9_add_78 : decode cX9_add 78 = .ok (.putfield 132, 3) := by decide +kernel
theorem dX9_add_81 : decode cX9_add 81 = .ok (.return_, 1) := by decide +kernel
theorem dX9_value_0 : decode cX9_value 0 = .ok (.iload_n 1, 1) := by decide +kernel
theorem dX9_value_1 : decode cX9_value 1 = .ok (.ifCond .ne 10, 3) := by decide +kernel
theorem dX9_value_4 : decode cX9_value 4 = .ok (.aload_n 0, 1) := by decide +kernel
theorem dX9_value_5 : decode cX9_value 5 = .ok (.getfield 129, 3) := by decide +kernel
theorem dX9_value_8 : decode cX9_value 8 = .ok (.goto 31, 3) := by decide +kernel
theorem dX9_value_11 : decode cX9_value 11 = .ok (.iload_n 1, 1) := by decide +kernel
theorem dX9_value_12 : decode cX9_value 12 = .ok (.iconst 1, 1) := by decide +kernel
theorem dX9_value_13 : decode cX9_value 13 = .ok (.if_icmp .ne 10, 3) := by decide +kernel
theorem dX9_value_16 : decode cX9_value 16 = .ok (.aload_n 0, 1) := by decide +kernel
theorem dX9_value_17 : decode cX9_value 17 = .ok (.getfield 132, 3) := by decide +kernel
theorem dX9_value_20 : decode cX9_value 20 = .ok (.goto 19, 3) := by decide +kernel
theorem dX9_value_23 : decode cX9_value 23 = .ok (.iload_n 1, 1) := by decide +kernel
theorem dX9_value_24 : decode cX9_value 24 = .ok (.iconst 2, 1) := by decide +kernel
theorem dX9_value_25 : decode cX9_value 25 = .ok (.if_icmp .ne 10, 3) := by decide +kernel
theorem dX9_value_28 : decode cX9_value 28 = .ok (.aload_n 0, 1) := by decide +kernel
theorem dX9_value_29 : decode cX9_value 29 = .ok (.getfield 135, 3) := by decide +kernel
theorem dX9_value_32 : decode cX9_value 32 = .ok (.goto 7, 3) := by decide +kernel
theorem dX9_value_35 : decode cX9_value 35 = .ok (.aload_n 0, 1) := by decide +kernel
theorem dX9_value_36 : decode cX9_value 36 = .ok (.getfield 138, 3) := by decide +kernel
theorem dX9_value_39 : decode cX9_value 39 = .ok (.ireturn, 1) := by decide +kernel
set_option maxRecDepth 20000 in
theorem ggX9_ask_X9_isCuboid : GoodIn wsX9_ask wsX9_isCuboid := goodIn_r _ [16, 17, 18, 19, 15, 20, 3, 21, 22, 23, 24, 79, 80, 81, 82, 83, 84, 85, 86, 87, 88, 89, 90, 91, 92, 93, 94, 95, 96, 97, 98, 99, 100, 101, 102, 103] (by decide +kernel) (by decide +kernel)
set_option maxRecDepth 20000 in
theorem gX9_ask_X9_isCuboid : GoodIn wsX9_ask (wsV RX9 96 RX9 yX9_isCuboid wsX9_isCuboid) := goodIn_app (goodIn_of _ (by decide +kernel)) ggX9_ask_X9_isCuboid
set_option maxRecDepth 20000 in
theorem ggX9_ask_X9_in : GoodIn wsX9_ask wsX9_in := goodIn_r _ [24] (by decide +kernel) (by decide +kernel)
set_option maxRecDepth 20000 in
theorem gX9_ask_X9_in : GoodIn wsX9_ask (va_wsS RX9 67 yX9_in wsX9_in) := goodIn_app (goodIn_of _ (by decide +kernel)) ggX9_ask_X9_in
set_option maxRecDepth 20000 in
theorem ggX9_ask_X9_levelIn : GoodIn wsX9_ask wsX9_levelIn := goodIn_r _ [28, 3, 21, 79, 80, 81, 82, 83, 84, 85, 86, 87, 88, 89, 90, 91, 92, 93, 94, 95, 96, 97, 98, 99, 100, 101, 102, 103] (by decide +kernel) (by decide +kernel)
set_option maxRecDepth 20000 in
theorem gX9_ask_X9_levelIn : GoodIn wsX9_ask (wsV RX9 99 RX9 yX9_levelIn wsX9_levelIn) := goodIn_app (goodIn_of _ (by decide +kernel)) ggX9_ask_X9_levelIn
set_option maxRecDepth 20000 in
theorem ggX9_ask_X9_many : GoodIn wsX9_ask wsX9_many := goodIn_r _ [32, 21, 33, 79, 80, 81, 82, 83, 84, 85, 86, 87, 88, 89, 90, 91, 92, 93, 94, 95, 96, 97, 98, 99, 100, 101, 102, 103] (by decide +kernel) (by decide +kernel)
set_option maxRecDepth 20000 in
theorem gX9_ask_X9_many : GoodIn wsX9_ask (wsV RX9 84 RX9 yX9_many wsX9_many) := goodIn_app (goodIn_of _ (by decide +kernel)) ggX9_ask_X9_many
set_option maxRecDepth 20000 in
theorem ggX9_ask_X9_measure : GoodIn wsX9_ask wsX9_measure := goodIn_r _ [37, 6, 38, 17, 18, 19, 15, 20, 3, 21, 39, 40, 41, 42, 43, 44, 45, 46, 47, 48, 7, 9, 8, 25, 26, 27, 28, 49, 50, 51, 52, 53, 54, 55, 56, 57, 79, 80, 81, 82, 83, 84, 85, 86, 87, 88, 89, 90, 91, 92, 93, 94, 95, 96, 97, 98, 99, 100, 101, 102, 103] (by decide +kernel) (by decide +kernel)
set_option maxRecDepth 20000 in
theorem gX9_ask_X9_measure : GoodIn wsX9_ask (wsV RX9 114 RX9 yX9_measure wsX9_measure) := goodIn_app (goodIn_of _ (by decide +kernel)) ggX9_ask_X9_measure
set_option maxRecDepth 20000 in
theorem ggX9_ask_X9_serverOf : GoodIn wsX9_ask wsX9_serverOf := goodIn_r _ [61, 62, 38, 6, 17, 18, 19, 15, 20, 3, 21, 79, 80, 81, 82, 83, 84, 85, 86, 87, 88, 89, 90, 91, 92, 93, 94, 95, 96, 97, 98, 99, 100, 101, 102, 103] (by decide +kernel) (by decide +kernel)
set_option maxRecDepth 20000 in
theorem gX9_ask_X9_serverOf : GoodIn wsX9_ask (wsV RX9 117 RX9 yX9_serverOf wsX9_serverOf) := goodIn_app (goodIn_of _ (by decide +kernel)) ggX9_ask_X9_serverOf
set_option maxRecDepth 20000 in
theorem ggX9_ask_X9_begin : GoodIn wsX9_ask wsX9_begin := goodIn_r _ [66, 10, 67, 68, 69, 79, 80, 81, 82, 83, 84, 85, 86, 87, 88, 89, 90, 91, 92, 93, 94, 95, 96, 97, 98, 99, 100, 101, 102, 103] (by decide +kernel) (by decide +kernel)
set_option maxRecDepth 20000 in
theorem gX9_ask_X9_begin : GoodIn wsX9_ask (wsV RX9 144 RX9 yX9_begin wsX9_begin) := goodIn_app (goodIn_of _ (by decide +kernel)) ggX9_ask_X9_begin
set_option maxRecDepth 20000 in
theorem ggX9_ask_X9_liesIn : GoodIn wsX9_ask wsX9_liesIn := goodIn_r _ [52, 21, 53, 79, 80, 81, 82, 83, 84, 85, 86, 87, 88, 89, 90, 91, 92, 93, 94, 95, 96, 97, 98, 99, 100, 101, 102, 103] (by decide +kernel) (by decide +kernel)
set_option maxRecDepth 20000 in
theorem gX9_ask_X9_liesIn : GoodIn wsX9_ask (wsV RX9 88 RX9 yX9_liesIn wsX9_liesIn) := goodIn_app (goodIn_of _ (by decide +kernel)) ggX9_ask_X9_liesIn
set_option maxRecDepth 20000 in
theorem ggX9_ask_X9_add : GoodIn wsX9_ask wsX9_add := goodIn_r _ [73, 74, 10, 68, 69, 67, 79, 80, 81, 82, 83, 84, 85, 86, 87, 88, 89, 90, 91, 92, 93, 94, 95, 96, 97, 98, 99, 100, 101, 102, 103] (by decide +kernel) (by decide +kernel)
set_option maxRecDepth 20000 in
theorem gX9_ask_X9_add : GoodIn wsX9_ask (wsV RX9 147 RX9 yX9_add wsX9_add) := goodIn_app (goodIn_of _ (by decide +kernel)) ggX9_ask_X9_add
set_option maxRecDepth 20000 in
theorem ggX9_ask_X9_value : GoodIn wsX9_ask wsX9_value := goodIn_r _ [78, 10, 67, 68, 69, 79, 80, 81, 82, 83, 84, 85, 86, 87, 88, 89, 90, 91, 92, 93, 94, 95, 96, 97, 98, 99, 100, 101, 102, 103] (by decide +kernel) (by decide +kernel)
set_option maxRecDepth 20000 in
theorem gX9_ask_X9_value : GoodIn wsX9_ask (wsV RX9 151 RX9 yX9_value wsX9_value) := goodIn_app (goodIn_of _ (by decide +kernel)) ggX9_ask_X9_value
theorem dX9_ask_0 : decode cX9_ask 0 = .ok (.aload_n 0, 1) := by decide +kernel
theorem dX9_ask_1 : decode cX9_ask 1 = .ok (.iconst 0, 1) := by decide +kernel
theorem dX9_ask_2 : decode cX9_ask 2 = .ok (.putfield 60, 3) := by decide +kernel
theorem dX9_ask_5 : decode cX9_ask 5 = .ok (.aload_n 0, 1) := by decide +kernel
theorem dX9_ask_6 : decode cX9_ask 6 = .ok (.iload_n 1, 1) := by decide +kernel
theorem dX9_ask_7 : decode cX9_ask 7 = .ok (.invokevirtual 96, 3) := by decide +kernel
theorem dX9_ask_10 : decode cX9_ask 10 = .ok (.ifCond .eq 12, 3) := by decide +kernel
theorem dX9_ask_13 : decode cX9_ask 13 = .ok (.iload_n 2, 1) := by decide +kernel
theorem dX9_ask_14 : decode cX9_ask 14 = .ok (.iconst 0, 1) := by decide +kernel
theorem dX9_ask_15 : decode cX9_ask 15 = .ok (.iconst 3, 1) := by decide +kernel
theorem dX9_ask_16 : decode cX9_ask 16 = .ok (.invokestatic 67, 3) := by decide +kernel
theorem dX9_ask_19 : decode cX9_ask 19 = .ok (.ifCond .ne 6, 3) := by decide +kernel
theorem dX9_ask_22 : decode cX9_ask 22 = .ok (.ldc 74, 2) := by decide +kernel
theorem dX9_ask_24 : decode cX9_ask 24 = .ok (.ireturn, 1) := by decide +kernel
theorem dX9_ask_25 : decode cX9_ask 25 = .ok (.iconst 0, 1) := by decide +kernel
theorem dX9_ask_26 : decode cX9_ask 26 = .ok (.istore_n 3, 1) := by decide +kernel
theorem dX9_ask_27 : decode cX9_ask 27 = .ok (.iload_n 3, 1) := by decide +kernel
theorem dX9_ask_28 : decode cX9_ask 28 = .ok (.aload_n 0, 1) := by decide +kernel
theorem dX9_ask_29 : decode cX9_ask 29 = .ok (.getfield 64, 3) := by decide +kernel
theorem dX9_ask_32 : decode cX9_ask 32 = .ok (.if_icmp .ge 32, 3) := by decide +kernel
theorem dX9_ask_35 : decode cX9_ask 35 = .ok (.aload_n 0, 1) := by decide +kernel
theorem dX9_ask_36 : decode cX9_ask 36 = .ok (.getfield 29, 3) := by decide +kernel
theorem dX9_ask_39 : decode cX9_ask 39 = .ok (.iload_n 3, 1) := by decide +kernel
theorem dX9_ask_40 : decode cX9_ask 40 = .ok (.iaload, 1) := by decide +kernel
theorem dX9_ask_41 : decode cX9_ask 41 = .ok (.aload_n 0, 1) := by decide +kernel
theorem dX9_ask_42 : decode cX9_ask 42 = .ok (.iload_n 3, 1) := by decide +kernel
theorem dX9_ask_43 : decode cX9_ask 43 = .ok (.aload_n 0, 1) := by decide +kernel
theorem dX9_ask_44 : decode cX9_ask 44 = .ok (.iload_n 1, 1) := by decide +kernel
theorem dX9_ask_45 : decode cX9_ask 45 = .ok (.iload_n 3, 1) := by decide +kernel
theorem dX9_ask_46 : decode cX9_ask 46 = .ok (.invokevirtual 99, 3) := by decide +kernel
theorem dX9_ask_49 : decode cX9_ask 49 = .ok (.invokevirtual 84, 3) := by decide +kernel
theorem dX9_ask_52 : decode cX9_ask 52 = .ok (.if_icmp .lt 6, 3) := by decide +kernel
theorem dX9_ask_55 : decode cX9_ask 55 = .ok (.ldc 74, 2) := by decide +kernel
theorem dX9_ask_57 : decode cX9_ask 57 = .ok (.ireturn, 1) := by decide +kernel
theorem dX9_ask_58 : decode cX9_ask 58 = .ok (.iinc 3 1, 3) := by decide +kernel
theorem dX9_ask_61 : decode cX9_ask 61 = .ok (.goto (-34), 3) := by decide +kernel
theorem dX9_ask_64 : decode cX9_ask 64 = .ok (.aload_n 0, 1) := by decide +kernel
theorem dX9_ask_65 : decode cX9_ask 65 = .ok (.invokevirtual 114, 3) := by decide +kernel
theorem dX9_ask_68 : decode cX9_ask 68 = .ok (.aload_n 0, 1) := by decide +kernel
theorem dX9_ask_69 : decode cX9_ask 69 = .ok (.dup, 1) := by decide +kernel
theorem dX9_ask_70 : decode cX9_ask 70 = .ok (.getfield 141, 3) := by decide +kernel
theorem dX9_ask_73 : decode cX9_ask 73 = .ok (.aload_n 0, 1) := by decide +kernel
theorem dX9_ask_74 : decode cX9_ask 74 = .ok (.getfield 50, 3) := by decide +kernel
theorem dX9_ask_77 : decode cX9_ask 77 = .ok (.aload_n 0, 1) := by decide +kernel
theorem dX9_ask_78 : decode cX9_ask 78 = .ok (.iload_n 1, 1) := by decide +kernel
theorem dX9_ask_79 : decode cX9_ask 79 = .ok (.invokevirtual 117, 3) := by decide +kernel
theorem dX9_ask_82 : decode cX9_ask 82 = .ok (.iaload, 1) := by decide +kernel
theorem dX9_ask_83 : decode cX9_ask 83 = .ok (.iadd, 1) := by decide +kernel
theorem dX9_ask_84 : decode cX9_ask 84 = .ok (.putfield 141, 3) := by decide +kernel
theorem dX9_ask_87 : decode cX9_ask 87 = .ok (.aload_n 0, 1) := by decide +kernel
theorem dX9_ask_88 : decode cX9_ask 88 = .ok (.invokevirtual 144, 3) := by decide +kernel
theorem dX9_ask_91 : decode cX9_ask 91 = .ok (.iconst 0, 1) := by decide +kernel
theorem dX9_ask_92 : decode cX9_ask 92 = .ok (.istore_n 3, 1) := by decide +kernel
theorem dX9_ask_93 : decode cX9_ask 93 = .ok (.iload_n 3, 1) := by decide +kernel
theorem dX9_ask_94 : decode cX9_ask 94 = .ok (.aload_n 0, 1) := by decide +kernel
theorem dX9_ask_95 : decode cX9_ask 95 = .ok (.getfield 71, 3) := by decide +kernel
theorem dX9_ask_98 : decode cX9_ask 98 = .ok (.if_icmp .ge 91, 3) := by decide +kernel
theorem dX9_ask_101 : decode cX9_ask 101 = .ok (.aload_n 0, 1) := by decide +kernel
theorem dX9_ask_102 : decode cX9_ask 102 = .ok (.getfield 25, 3) := by decide +kernel
theorem dX9_ask_105 : decode cX9_ask 105 = .ok (.iload_n 3, 1) := by decide +kernel
theorem dX9_ask_106 : decode cX9_ask 106 = .ok (.baload, 1) := by decide +kernel
theorem dX9_ask_107 : decode cX9_ask 107 = .ok (.istore 4, 2) := by decide +kernel
theorem dX9_ask_109 : decode cX9_ask 109 = .ok (.iconst 0, 1) := by decide +kernel
theorem dX9_ask_110 : decode cX9_ask 110 = .ok (.istore 5, 2) := by decide +kernel
theorem dX9_ask_112 : decode cX9_ask 112 = .ok (.iload 5, 2) := by decide +kernel
theorem dX9_ask_114 : decode cX9_ask 114 = .ok (.aload_n 0, 1) := by decide +kernel
theorem dX9_ask_115 : decode cX9_ask 115 = .ok (.getfield 64, 3) := by decide +kernel
theorem dX9_ask_118 : decode cX9_ask 118 = .ok (.if_icmp .ge 55, 3) := by decide +kernel
theorem dX9_ask_121 : decode cX9_ask 121 = .ok (.iload 4, 2) := by decide +kernel
theorem dX9_ask_123 : decode cX9_ask 123 = .ok (.ifCond .eq 50, 3) := by decide +kernel
theorem dX9_ask_126 : decode cX9_ask 126 = .ok (.aload_n 0, 1) := by decide +kernel
theorem dX9_ask_127 : decode cX9_ask 127 = .ok (.iload 5, 2) := by decide +kernel
theorem dX9_ask_129 : decode cX9_ask 129 = .ok (.aload_n 0, 1) := by decide +kernel
theorem dX9_ask_130 : decode cX9_ask 130 = .ok (.getfield 19, 3) := by decide +kernel
theorem dX9_ask_133 : decode cX9_ask 133 = .ok (.iconst 4, 1) := by decide +kernel
theorem dX9_ask_134 : decode cX9_ask 134 = .ok (.iload_n 3, 1) := by decide +kernel
theorem dX9_ask_135 : decode cX9_ask 135 = .ok (.imul, 1) := by decide +kernel
theorem dX9_ask_136 : decode cX9_ask 136 = .ok (.iload 5, 2) := by decide +kernel
theorem dX9_ask_138 : decode cX9_ask 138 = .ok (.iadd, 1) := by decide +kernel
theorem dX9_ask_139 : decode cX9_ask 139 = .ok (.iaload, 1) := by decide +kernel
theorem dX9_ask_140 : decode cX9_ask 140 = .ok (.aload_n 0, 1) := by decide +kernel
theorem dX9_ask_141 : decode cX9_ask 141 = .ok (.iload_n 1, 1) := by decide +kernel
theorem dX9_ask_142 : decode cX9_ask 142 = .ok (.iload 5, 2) := by decide +kernel
theorem dX9_ask_144 : decode cX9_ask 144 = .ok (.invokevirtual 99, 3) := by decide +kernel
theorem dX9_ask_147 : decode cX9_ask 147 = .ok (.invokevirtual 88, 3) := by decide +kernel
theorem dX9_ask_150 : decode cX9_ask 150 = .ok (.aload_n 0, 1) := by decide +kernel
theorem dX9_ask_151 : decode cX9_ask 151 = .ok (.getfield 29, 3) := by decide +kernel
theorem dX9_ask_154 : decode cX9_ask 154 = .ok (.iload 5, 2) := by decide +kernel
theorem dX9_ask_156 : decode cX9_ask 156 = .ok (.iaload, 1) := by decide +kernel
theorem dX9_ask_157 : decode cX9_ask 157 = .ok (.if_icmp .ne 7, 3) := by decide +kernel
theorem dX9_ask_160 : decode cX9_ask 160 = .ok (.iconst 1, 1) := by decide +kernel
theorem dX9_ask_161 : decode cX9_ask 161 = .ok (.goto 4, 3) := by decide +kernel
theorem dX9_ask_164 : decode cX9_ask 164 = .ok (.iconst 0, 1) := by decide +kernel
theorem dX9_ask_165 : decode cX9_ask 165 = .ok (.istore 4, 2) := by decide +kernel
theorem dX9_ask_167 : decode cX9_ask 167 = .ok (.iinc 5 1, 3) := by decide +kernel
theorem dX9_ask_170 : decode cX9_ask 170 = .ok (.goto (-58), 3) := by decide +kernel
theorem dX9_ask_173 : decode cX9_ask 173 = .ok (.iload 4, 2) := by decide +kernel
theorem dX9_ask_175 : decode cX9_ask 175 = .ok (.ifCond .eq 8, 3) := by decide +kernel
theorem dX9_ask_178 : decode cX9_ask 178 = .ok (.aload_n 0, 1) := by decide +kernel
theorem dX9_ask_179 : decode cX9_ask 179 = .ok (.iload_n 3, 1) := by decide +kernel
theorem dX9_ask_180 : decode cX9_ask 180 = .ok (.invokevirtual 147, 3) := by decide +kernel
theorem dX9_ask_183 : decode cX9_ask 183 = .ok (.iinc 3 1, 3) := by decide +kernel
theorem dX9_ask_186 : decode cX9_ask 186 = .ok (.goto (-93), 3) := by decide +kernel
theorem dX9_ask_189 : decode cX9_ask 189 = .ok (.aload_n 0, 1) := by decide +kernel
theorem dX9_ask_190 : decode cX9_ask 190 = .ok (.getfield 129, 3) := by decide +kernel
theorem dX9_ask_193 : decode cX9_ask 193 = .ok (.ifCond .ne 8, 3) := by decide +kernel
theorem dX9_ask_196 : decode cX9_ask 196 = .ok (.ldc 150, 2) := by decide +kernel
theorem dX9_ask_198 : decode cX9_ask 198 = .ok (.goto 8, 3) := by decide +kernel
theorem dX9_ask_201 : decode cX9_ask 201 = .ok (.aload_n 0, 1) := by decide +kernel
theorem dX9_ask_202 : decode cX9_ask 202 = .ok (.iload_n 2, 1) := by decide +kernel
theorem dX9_ask_203 : decode cX9_ask 203 = .ok (.invokevirtual 151, 3) := by decide +kernel
theorem dX9_ask_206 : decode cX9_ask 206 = .ok (.ireturn, 1) := by decide +kernel
set_option maxRecDepth 20000 in
theorem ggX9_group_X9_isCuboid : GoodIn wsX9_group wsX9_isCuboid := goodIn_r _ [9, 10, 11, 12, 8, 13, 14, 15, 16, 17, 18, 36, 37, 38, 39, 40, 41, 42, 43, 44, 45, 46, 47, 48, 49, 50, 51, 52, 53, 54, 55, 56, 57, 58, 59, 60] (by decide +kernel) (by decide +kernel)
set_option maxRecDepth 20000 in
theorem gX9_group_X9_isCuboid : GoodIn wsX9_group (wsV RX9 96 RX9 yX9_isCuboid wsX9_isCuboid) := goodIn_app (goodIn_of _ (by decide +kernel)) ggX9_group_X9_isCuboid
set_option maxRecDepth 20000 in
theorem ggX9_group_X9_findGroups : GoodIn wsX9_group wsX9_findGroups := goodIn_r _ [22, 3, 14, 23, 24, 25, 26, 27, 28, 29, 8, 30, 15, 31, 32, 33, 34, 35, 36, 37, 38, 39, 40, 41, 42, 43, 44, 45, 46, 47, 48, 49, 50, 51, 52, 53, 54, 55, 56, 57, 58, 59, 60] (by decide +kernel) (by decide +kernel)
set_option maxRecDepth 20000 in
theorem gX9_group_X9_findGroups : GoodIn wsX9_group (wsV RX9 102 RX9 yX9_findGroups wsX9_findGroups) := goodIn_app (goodIn_of _ (by decide +kernel)) ggX9_group_X9_findGroups
theorem dX9_group_0 : decode cX9_group 0 = .ok (.aload_n 0, 1) := by decide +kernel
theorem dX9_group_1 : decode cX9_group 1 = .ok (.iconst 0, 1) := by decide +kernel
theorem dX9_group_2 : decode cX9_group 2 = .ok (.putfield 60, 3) := by decide +kernel
theorem dX9_group_5 : decode cX9_group 5 = .ok (.aload_n 0, 1) := by decide +kernel
theorem dX9_group_6 : decode cX9_group 6 = .ok (.iload_n 1, 1) := by decide +kernel
theorem dX9_group_7 : decode cX9_group 7 = .ok (.invokevirtual 96, 3) := by decide +kernel
theorem dX9_group_10 : decode cX9_group 10 = .ok (.ifCond .eq 7, 3) := by decide +kernel
theorem dX9_group_13 : decode cX9_group 13 = .ok (.iload_n 2, 1) := by decide +kernel
theorem dX9_group_14 : decode cX9_group 14 = .ok (.ifCond .ge 6, 3) := by decide +kernel
theorem dX9_group_17 : decode cX9_group 17 = .ok (.ldc 74, 2) := by decide +kernel
theorem dX9_group_19 : decode cX9_group 19 = .ok (.ireturn, 1) := by decide +kernel
theorem dX9_group_20 : decode cX9_group 20 = .ok (.aload_n 0, 1) := by decide +kernel
theorem dX9_group_21 : decode cX9_group 21 = .ok (.iload_n 1, 1) := by decide +kernel
theorem dX9_group_22 : decode cX9_group 22 = .ok (.invokevirtual 102, 3) := by decide +kernel
theorem dX9_group_25 : decode cX9_group 25 = .ok (.iconst 0, 1) := by decide +kernel
theorem dX9_group_26 : decode cX9_group 26 = .ok (.istore_n 3, 1) := by decide +kernel
theorem dX9_group_27 : decode cX9_group 27 = .ok (.iconst 0, 1) := by decide +kernel
theorem dX9_group_28 : decode cX9_group 28 = .ok (.istore 4, 2) := by decide +kernel
theorem dX9_group_30 : decode cX9_group 30 = .ok (.iload 4, 2) := by decide +kernel
theorem dX9_group_32 : decode cX9_group 32 = .ok (.sipush 10000, 3) := by decide +kernel
theorem dX9_group_35 : decode cX9_group 35 = .ok (.if_icmp .ge 30, 3) := by decide +kernel
theorem dX9_group_38 : decode cX9_group 38 = .ok (.aload_n 0, 1) := by decide +kernel
theorem dX9_group_39 : decode cX9_group 39 = .ok (.getfield 44, 3) := by decide +kernel
theorem dX9_group_42 : decode cX9_group 42 = .ok (.iload 4, 2) := by decide +kernel
theorem dX9_group_44 : decode cX9_group 44 = .ok (.baload, 1) := by decide +kernel
theorem dX9_group_45 : decode cX9_group 45 = .ok (.ifCond .eq 14, 3) := by decide +kernel
theorem dX9_group_48 : decode cX9_group 48 = .ok (.iload_n 3, 1) := by decide +kernel
theorem dX9_group_49 : decode cX9_group 49 = .ok (.iload_n 2, 1) := by decide +kernel
theorem dX9_group_50 : decode cX9_group 50 = .ok (.if_icmp .ne 6, 3) := by decide +kernel
theorem dX9_group_53 : decode cX9_group 53 = .ok (.iload 4, 2) := by decide +kernel
theorem dX9_group_55 : decode cX9_group 55 = .ok (.ireturn, 1) := by decide +kernel
theorem dX9_group_56 : decode cX9_group 56 = .ok (.iinc 3 1, 3) := by decide +kernel
theorem dX9_group_59 : decode cX9_group 59 = .ok (.iinc 4 1, 3) := by decide +kernel
theorem dX9_group_62 : decode cX9_group 62 = .ok (.goto (-32), 3) := by decide +kernel
theorem dX9_group_65 : decode cX9_group 65 = .ok (.ldc 150, 2) := by decide +kernel
theorem dX9_group_67 : decode cX9_group 67 = .ok (.ireturn, 1) := by decide +kernel
theorem dX9_read_0 : decode cX9_read 0 = .ok (.aload_n 0, 1) := by decide +kernel
theorem dX9_read_1 : decode cX9_read 1 = .ok (.iconst 0, 1) := by decide +kernel
theorem dX9_read_2 : decode cX9_read 2 = .ok (.putfield 60, 3) := by decide +kernel
theorem dX9_read_5 : decode cX9_read 5 = .ok (.aload_n 0, 1) := by decide +kernel
theorem dX9_read_6 : decode cX9_read 6 = .ok (.getfield 141, 3) := by decide +kernel
theorem dX9_read_9 : decode cX9_read 9 = .ok (.ireturn, 1) := by decide +kernel
set_option maxRecDepth 20000 in
theorem ggX9_filter_X9_isDimension : GoodIn wsX9_filter wsX9_isDimension := goodIn_r _ [9, 10, 11, 12, 8, 13, 20, 21, 22, 23, 24, 25, 26, 27, 28, 29, 30, 31, 32, 33, 34, 35, 36, 37, 38, 39, 40, 41, 42, 43, 44] (by decide +kernel) (by decide +kernel)
set_option maxRecDepth 20000 in
theorem gX9_filter_X9_isDimension : GoodIn wsX9_filter (wsV RX9 80 RX9 yX9_isDimension wsX9_isDimension) := goodIn_app (goodIn_of _ (by decide +kernel)) ggX9_filter_X9_isDimension
set_option maxRecDepth 20000 in
theorem ggX9_filter_X9_many : GoodIn wsX9_filter wsX9_many := goodIn_r _ [17, 18, 19, 20, 21, 22, 23, 24, 25, 26, 27, 28, 29, 30, 31, 32, 33, 34, 35, 36, 37, 38, 39, 40, 41, 42, 43, 44] (by decide +kernel) (by decide +kernel)
set_option maxRecDepth 20000 in
theorem gX9_filter_X9_many : GoodIn wsX9_filter (wsV RX9 84 RX9 yX9_many wsX9_many) := goodIn_app (goodIn_of _ (by decide +kernel)) ggX9_filter_X9_many
set_option maxRecDepth 20000 in
theorem ggX9_filter_X9_in : GoodIn wsX9_filter wsX9_in := goodIn_r _ [13] (by decide +kernel) (by decide +kernel)
set_option maxRecDepth 20000 in
theorem gX9_filter_X9_in : GoodIn wsX9_filter (va_wsS RX9 67 yX9_in wsX9_in) := goodIn_app (goodIn_of _ (by decide +kernel)) ggX9_filter_X9_in
theorem dX9_filter_0 : decode cX9_filter 0 = .ok (.aload_n 0, 1) := by decide +kernel
theorem dX9_filter_1 : decode cX9_filter 1 = .ok (.iconst 0, 1) := by decide +kernel
theorem dX9_filter_2 : decode cX9_filter 2 = .ok (.putfield 60, 3) := by decide +kernel
theorem dX9_filter_5 : decode cX9_filter 5 = .ok (.aload_n 0, 1) := by decide +kernel
theorem dX9_filter_6 : decode cX9_filter 6 = .ok (.iload_n 1, 1) := by decide +kernel
theorem dX9_filter_7 : decode cX9_filter 7 = .ok (.invokevirtual 80, 3) := by decide +kernel
theorem dX9_filter_10 : decode cX9_filter 10 = .ok (.ifCond .eq 19, 3) := by decide +kernel
theorem dX9_filter_13 : decode cX9_filter 13 = .ok (.iload_n 3, 1) := by decide +kernel
theorem dX9_filter_14 : decode cX9_filter 14 = .ok (.iconst 0, 1) := by decide +kernel
theorem dX9_filter_15 : decode cX9_filter 15 = .ok (.aload_n 0, 1) := by decide +kernel
theorem dX9_filter_16 : decode cX9_filter 16 = .ok (.iload_n 1, 1) := by decide +kernel
theorem dX9_filter_17 : decode cX9_filter 17 = .ok (.iload_n 2, 1) := by decide +kernel
theorem dX9_filter_18 : decode cX9_filter 18 = .ok (.invokevirtual 84, 3) := by decide +kernel
theorem dX9_filter_21 : decode cX9_filter 21 = .ok (.iconst 1, 1) := by decide +kernel
theorem dX9_filter_22 : decode cX9_filter 22 = .ok (.isub, 1) := by decide +kernel
theorem dX9_filter_23 : decode cX9_filter 23 = .ok (.invokestatic 67, 3) := by decide +kernel
theorem dX9_filter_26 : decode cX9_filter 26 = .ok (.ifCond .ne 6, 3) := by decide +kernel
theorem dX9_filter_29 : decode cX9_filter 29 = .ok (.ldc 74, 2) := by decide +kernel
theorem dX9_filter_31 : decode cX9_filter 31 = .ok (.ireturn, 1) := by decide +kernel
theorem dX9_filter_32 : decode cX9_filter 32 = .ok (.aload_n 0, 1) := by decide +kernel
theorem dX9_filter_33 : decode cX9_filter 33 = .ok (.getfield 32, 3) := by decide +kernel
theorem dX9_filter_36 : decode cX9_filter 36 = .ok (.iload_n 1, 1) := by decide +kernel
theorem dX9_filter_37 : decode cX9_filter 37 = .ok (.iload_n 2, 1) := by decide +kernel
theorem dX9_filter_38 : decode cX9_filter 38 = .ok (.iastore, 1) := by decide +kernel
theorem dX9_filter_39 : decode cX9_filter 39 = .ok (.aload_n 0, 1) := by decide +kernel
theorem dX9_filter_40 : decode cX9_filter 40 = .ok (.getfield 35, 3) := by decide +kernel
theorem dX9_filter_43 : decode cX9_filter 43 = .ok (.iload_n 1, 1) := by decide +kernel
theorem dX9_filter_44 : decode cX9_filter 44 = .ok (.iload_n 3, 1) := by decide +kernel
theorem dX9_filter_45 : decode cX9_filter 45 = .ok (.iastore, 1) := by decide +kernel
theorem dX9_filter_46 : decode cX9_filter 46 = .ok (.iconst 0, 1) := by decide +kernel
theorem dX9_filter_47 : decode cX9_filter 47 = .ok (.ireturn, 1) := by decide +kernel
set_option maxRecDepth 20000 in
theorem ggX9_passes_X9_liesIn : GoodIn wsX9_passes wsX9_liesIn := goodIn_r _ [10, 11, 12, 13, 14, 15, 16, 17, 18, 19, 20, 21, 22, 23, 24, 25, 26, 27, 28, 29, 30, 31, 32, 33, 34, 35, 36, 37] (by decide +kernel) (by decide +kernel)
set_option maxRecDepth 20000 in
theorem gX9_passes_X9_liesIn : GoodIn wsX9_passes (wsV RX9 88 RX9 yX9_liesIn wsX9_liesIn) := goodIn_app (goodIn_of _ (by decide +kernel)) ggX9_passes_X9_liesIn
theorem dX9_passes_0 : decode cX9_passes 0 = .ok (.aload_n 0, 1) := by decide +kernel
theorem dX9_passes_1 : decode cX9_passes 1 = .ok (.getfield 25, 3) := by decide +kernel
theorem dX9_passes_4 : decode cX9_passes 4 = .ok (.iload_n 1, 1) := by decide +kernel
theorem dX9_passes_5 : decode cX9_passes 5 = .ok (.baload, 1) := by decide +kernel
theorem dX9_passes_6 : decode cX9_passes 6 = .ok (.istore_n 2, 1) := by decide +kernel
theorem dX9_passes_7 : decode cX9_passes 7 = .ok (.iconst 0, 1) := by decide +kernel
theorem dX9_passes_8 : decode cX9_passes 8 = .ok (.istore_n 3, 1) := by decide +kernel
theorem dX9_passes_9 : decode cX9_passes 9 = .ok (.iload_n 3, 1) := by decide +kernel
theorem dX9_passes_10 : decode cX9_passes 10 = .ok (.aload_n 0, 1) := by decide +kernel
theorem dX9_passes_11 : decode cX9_passes 11 = .ok (.getfield 64, 3) := by decide +kernel
theorem dX9_passes_14 : decode cX9_passes 14 = .ok (.if_icmp .ge 49, 3) := by decide +kernel
theorem dX9_passes_17 : decode cX9_passes 17 = .ok (.iload_n 2, 1) := by decide +kernel
theorem dX9_passes_18 : decode cX9_passes 18 = .ok (.ifCond .eq 45, 3) := by decide +kernel
theorem dX9_passes_21 : decode cX9_passes 21 = .ok (.aload_n 0, 1) := by decide +kernel
theorem dX9_passes_22 : decode cX9_passes 22 = .ok (.iload_n 3, 1) := by decide +kernel
theorem dX9_passes_23 : decode cX9_passes 23 = .ok (.aload_n 0, 1) := by decide +kernel
theorem dX9_passes_24 : decode cX9_passes 24 = .ok (.getfield 19, 3) := by decide +kernel
theorem dX9_passes_27 : decode cX9_passes 27 = .ok (.iconst 4, 1) := by decide +kernel
theorem dX9_passes_28 : decode cX9_passes 28 = .ok (.iload_n 1, 1) := by decide +kernel
theorem dX9_passes_29 : decode cX9_passes 29 = .ok (.imul, 1) := by decide +kernel
theorem dX9_passes_30 : decode cX9_passes 30 = .ok (.iload_n 3, 1) := by decide +kernel
theorem dX9_passes_31 : decode cX9_passes 31 = .ok (.iadd, 1) := by decide +kernel
theorem dX9_passes_32 : decode cX9_passes 32 = .ok (.iaload, 1) := by decide +kernel
theorem dX9_passes_33 : decode cX9_passes 33 = .ok (.aload_n 0, 1) := by decide +kernel
theorem dX9_passes_34 : decode cX9_passes 34 = .ok (.getfield 32, 3) := by decide +kernel
theorem dX9_passes_37 : decode cX9_passes 37 = .ok (.iload_n 3, 1) := by decide +kernel
theorem dX9_passes_38 : decode cX9_passes 38 = .ok (.iaload, 1) := by decide +kernel
theorem dX9_passes_39 : decode cX9_passes 39 = .ok (.invokevirtual 88, 3) := by decide +kernel
theorem dX9_passes_42 : decode cX9_passes 42 = .ok (.aload_n 0, 1) := by decide +kernel
theorem dX9_passes_43 : decode cX9_passes 43 = .ok (.getfield 35, 3) := by decide +kernel
theorem dX9_passes_46 : decode cX9_passes 46 = .ok (.iload_n 3, 1) := by decide +kernel
theorem dX9_passes_47 : decode cX9_passes 47 = .ok (.iaload, 1) := by decide +kernel
theorem dX9_passes_48 : decode cX9_passes 48 = .ok (.if_icmp .ne 7, 3) := by decide +kernel
theorem dX9_passes_51 : decode cX9_passes 51 = .ok (.iconst 1, 1) := by decide +kernel
theorem dX9_passes_52 : decode cX9_passes 52 = .ok (.goto 4, 3) := by decide +kernel
theorem dX9_passes_55 : decode cX9_passes 55 = .ok (.iconst 0, 1) := by decide +kernel
theorem dX9_passes_56 : decode cX9_passes 56 = .ok (.istore_n 2, 1) := by decide +kernel
theorem dX9_passes_57 : decode cX9_passes 57 = .ok (.iinc 3 1, 3) := by decide +kernel
theorem dX9_passes_60 : decode cX9_passes 60 = .ok (.goto (-51), 3) := by decide +kernel
theorem dX9_passes_63 : decode cX9_passes 63 = .ok (.iload_n 2, 1) := by decide +kernel
theorem dX9_passes_64 : decode cX9_passes 64 = .ok (.ireturn, 1) := by decide +kernel
set_option maxRecDepth 20000 in
theorem ggX9_total_X9_in : GoodIn wsX9_total wsX9_in := goodIn_r _ [9] (by decide +kernel) (by decide +kernel)
set_option maxRecDepth 20000 in
theorem gX9_total_X9_in : GoodIn wsX9_total (va_wsS RX9 67 yX9_in wsX9_in) := goodIn_app (goodIn_of _ (by decide +kernel)) ggX9_total_X9_in
set_option maxRecDepth 20000 in
theorem ggX9_total_X9_begin : GoodIn wsX9_total wsX9_begin := goodIn_r _ [13, 4, 14, 15, 16, 41, 42, 43, 44, 45, 46, 47, 48, 49, 50, 51, 52, 53, 54, 55, 56, 57, 58, 59, 60, 61, 62, 63, 64, 65] (by decide +kernel) (by decide +kernel)
set_option maxRecDepth 20000 in
theorem gX9_total_X9_begin : GoodIn wsX9_total (wsV RX9 144 RX9 yX9_begin wsX9_begin) := goodIn_app (goodIn_of _ (by decide +kernel)) ggX9_total_X9_begin
set_option maxRecDepth 20000 in
theorem ggX9_total_X9_passes : GoodIn wsX9_total wsX9_passes := goodIn_r _ [20, 21, 22, 23, 24, 25, 26, 27, 28, 8, 29, 30, 31, 41, 42, 43, 44, 45, 46, 47, 48, 49, 50, 51, 52, 53, 54, 55, 56, 57, 58, 59, 60, 61, 62, 63, 64, 65] (by decide +kernel) (by decide +kernel)
set_option maxRecDepth 20000 in
theorem gX9_total_X9_passes : GoodIn wsX9_total (wsV RX9 154 RX9 yX9_passes wsX9_passes) := goodIn_app (goodIn_of _ (by decide +kernel)) ggX9_total_X9_passes
set_option maxRecDepth 20000 in
theorem ggX9_total_X9_add : GoodIn wsX9_total wsX9_add := goodIn_r _ [35, 36, 4, 15, 16, 14, 41, 42, 43, 44, 45, 46, 47, 48, 49, 50, 51, 52, 53, 54, 55, 56, 57, 58, 59, 60, 61, 62, 63, 64, 65] (by decide +kernel) (by decide +kernel)
set_option maxRecDepth 20000 in
theorem gX9_total_X9_add : GoodIn wsX9_total (wsV RX9 147 RX9 yX9_add wsX9_add) := goodIn_app (goodIn_of _ (by decide +kernel)) ggX9_total_X9_add
set_option maxRecDepth 20000 in
theorem ggX9_total_X9_value : GoodIn wsX9_total wsX9_value := goodIn_r _ [40, 4, 14, 15, 16, 41, 42, 43, 44, 45, 46, 47, 48, 49, 50, 51, 52, 53, 54, 55, 56, 57, 58, 59, 60, 61, 62, 63, 64, 65] (by decide +kernel) (by decide +kernel)
set_option maxRecDepth 20000 in
theorem gX9_total_X9_value : GoodIn wsX9_total (wsV RX9 151 RX9 yX9_value wsX9_value) := goodIn_app (goodIn_of _ (by decide +kernel)) ggX9_total_X9_value
theorem dX9_total_0 : decode cX9_total 0 = .ok (.aload_n 0, 1) := by decide +kernel
theorem dX9_total_1 : decode cX9_total 1 = .ok (.iconst 0, 1) := by decide +kernel
theorem dX9_total_2 : decode cX9_total 2 = .ok (.putfield 60, 3) := by decide +kernel
theorem dX9_total_5 : decode cX9_total 5 = .ok (.iload_n 1, 1) := by decide +kernel
theorem dX9_total_6 : decode cX9_total 6 = .ok (.iconst 0, 1) := by decide +kernel
theorem dX9_total_7 : decode cX9_total 7 = .ok (.iconst 3, 1) := by decide +kernel
theorem dX9_total_8 : decode cX9_total 8 = .ok (.invokestatic 67, 3) := by decide +kernel
theorem dX9_total_11 : decode cX9_total 11 = .ok (.ifCond .ne 6, 3) := by decide +kernel
theorem dX9_total_14 : decode cX9_total 14 = .ok (.ldc 74, 2) := by decide +kernel
theorem dX9_total_16 : decode cX9_total 16 = .ok (.ireturn, 1) := by decide +kernel
theorem dX9_total_17 : decode cX9_total 17 = .ok (.aload_n 0, 1) := by decide +kernel
theorem dX9_total_18 : decode cX9_total 18 = .ok (.invokevirtual 144, 3) := by decide +kernel
theorem dX9_total_21 : decode cX9_total 21 = .ok (.iconst 0, 1) := by decide +kernel
theorem dX9_total_22 : decode cX9_total 22 = .ok (.istore_n 2, 1) := by decide +kernel
theorem dX9_total_23 : decode cX9_total 23 = .ok (.iload_n 2, 1) := by decide +kernel
theorem dX9_total_24 : decode cX9_total 24 = .ok (.aload_n 0, 1) := by decide +kernel
theorem dX9_total_25 : decode cX9_total 25 = .ok (.getfield 71, 3) := by decide +kernel
theorem dX9_total_28 : decode cX9_total 28 = .ok (.if_icmp .ge 22, 3) := by decide +kernel
theorem dX9_total_31 : decode cX9_total 31 = .ok (.aload_n 0, 1) := by decide +kernel
theorem dX9_total_32 : decode cX9_total 32 = .ok (.iload_n 2, 1) := by decide +kernel
theorem dX9_total_33 : decode cX9_total 33 = .ok (.invokevirtual 154, 3) := by decide +kernel
theorem dX9_total_36 : decode cX9_total 36 = .ok (.ifCond .eq 8, 3) := by decide +kernel
theorem dX9_total_39 : decode cX9_total 39 = .ok (.aload_n 0, 1) := by decide +kernel
theorem dX9_total_40 : decode cX9_total 40 = .ok (.iload_n 2, 1) := by decide +kernel
theorem dX9_total_41 : decode cX9_total 41 = .ok (.invokevirtual 147, 3) := by decide +kernel
theorem dX9_total_44 : decode cX9_total 44 = .ok (.iinc 2 1, 3) := by decide +kernel
theorem dX9_total_47 : decode cX9_total 47 = .ok (.goto (-24), 3) := by decide +kernel
theorem dX9_total_50 : decode cX9_total 50 = .ok (.aload_n 0, 1) := by decide +kernel
theorem dX9_total_51 : decode cX9_total 51 = .ok (.getfield 129, 3) := by decide +kernel
theorem dX9_total_54 : decode cX9_total 54 = .ok (.ifCond .ne 13, 3) := by decide +kernel
theorem dX9_total_57 : decode cX9_total 57 = .ok (.iload_n 1, 1) := by decide +kernel
theorem dX9_total_58 : decode cX9_total 58 = .ok (.iconst 1, 1) := by decide +kernel
theorem dX9_total_59 : decode cX9_total 59 = .ok (.if_icmp .le 8, 3) := by decide +kernel
theorem dX9_total_62 : decode cX9_total 62 = .ok (.ldc 150, 2) := by decide +kernel
theorem dX9_total_64 : decode cX9_total 64 = .ok (.goto 8, 3) := by decide +kernel
theorem dX9_total_67 : decode cX9_total 67 = .ok (.aload_n 0, 1) := by decide +kernel
theorem dX9_total_68 : decode cX9_total 68 = .ok (.iload_n 1, 1) := by decide +kernel
theorem dX9_total_69 : decode cX9_total 69 = .ok (.invokevirtual 151, 3) := by decide +kernel
theorem dX9_total_72 : decode cX9_total 72 = .ok (.ireturn, 1) := by decide +kernel
theorem dX9_say_0 : decode cX9_say 0 = .ok (.aload_n 0, 1) := by decide +kernel
theorem dX9_say_1 : decode cX9_say 1 = .ok (.getfield 41, 3) := by decide +kernel
theorem dX9_say_4 : decode cX9_say 4 = .ok (.aload_n 0, 1) := by decide +kernel
theorem dX9_say_5 : decode cX9_say 5 = .ok (.getfield 157, 3) := by decide +kernel
theorem dX9_say_8 : decode cX9_say 8 = .ok (.iload_n 1, 1) := by decide +kernel
theorem dX9_say_9 : decode cX9_say 9 = .ok (.iastore, 1) := by decide +kernel
theorem dX9_say_10 : decode cX9_say 10 = .ok (.aload_n 0, 1) := by decide +kernel
theorem dX9_say_11 : decode cX9_say 11 = .ok (.dup, 1) := by decide +kernel
theorem dX9_say_12 : decode cX9_say 12 = .ok (.getfield 157, 3) := by decide +kernel
theorem dX9_say_15 : decode cX9_say 15 = .ok (.iconst 1, 1) := by decide +kernel
theorem dX9_say_16 : decode cX9_say 16 = .ok (.iadd, 1) := by decide +kernel
theorem dX9_say_17 : decode cX9_say 17 = .ok (.putfield 157, 3) := by decide +kernel
theorem dX9_say_20 : decode cX9_say 20 = .ok (.return_, 1) := by decide +kernel
set_option maxRecDepth 20000 in
theorem ggX9_sayNumber_X9_say : GoodIn wsX9_sayNumber wsX9_say := goodIn_r _ [5, 6, 7, 8, 9, 10, 11, 12, 13, 14, 15, 16, 17, 18, 19, 20, 21, 22, 23, 24, 25, 26, 27, 28, 29, 30, 31, 32] (by decide +kernel) (by decide +kernel)
set_option maxRecDepth 20000 in
theorem gX9_sayNumber_X9_say : GoodIn wsX9_sayNumber (wsV RX9 160 RX9 yX9_say wsX9_say) := goodIn_app (goodIn_of _ (by decide +kernel)) ggX9_sayNumber_X9_say
theorem dX9_sayNumber_0 : decode cX9_sayNumber 0 = .ok (.iload_n 1, 1) := by decide +kernel
theorem dX9_sayNumber_1 : decode cX9_sayNumber 1 = .ok (.ifCond .ge 9, 3) := by decide +kernel
theorem dX9_sayNumber_4 : decode cX9_sayNumber 4 = .ok (.aload_n 0, 1) := by decide +kernel
theorem dX9_sayNumber_5 : decode cX9_sayNumber 5 = .ok (.bipush 45, 2) := by decide +kernel
theorem dX9_sayNumber_7 : decode cX9_sayNumber 7 = .ok (.invokevirtual 160, 3) := by decide +kernel
theorem dX9_sayNumber_10 : decode cX9_sayNumber 10 = .ok (.iload_n 1, 1) := by decide +kernel
theorem dX9_sayNumber_11 : decode cX9_sayNumber 11 = .ok (.ifCond .ge 8, 3) := by decide +kernel
theorem dX9_sayNumber_14 : decode cX9_sayNumber 14 = .ok (.iload_n 1, 1) := by decide +kernel
