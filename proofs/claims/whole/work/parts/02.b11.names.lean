theorem dX9_sayNumber_15 : decode cX9_sayNumber 15 = .ok (.ineg, 1) := by decide +kernel
theorem dX9_sayNumber_16 : decode cX9_sayNumber 16 = .ok (.goto 4, 3) := by decide +kernel
theorem dX9_sayNumber_19 : decode cX9_sayNumber 19 = .ok (.iload_n 1, 1) := by decide +kernel
theorem dX9_sayNumber_20 : decode cX9_sayNumber 20 = .ok (.istore_n 2, 1) := by decide +kernel
theorem dX9_sayNumber_21 : decode cX9_sayNumber 21 = .ok (.iconst 1, 1) := by decide +kernel
theorem dX9_sayNumber_22 : decode cX9_sayNumber 22 = .ok (.istore_n 3, 1) := by decide +kernel
theorem dX9_sayNumber_23 : decode cX9_sayNumber 23 = .ok (.iload_n 2, 1) := by decide +kernel
theorem dX9_sayNumber_24 : decode cX9_sayNumber 24 = .ok (.iload_n 3, 1) := by decide +kernel
theorem dX9_sayNumber_25 : decode cX9_sayNumber 25 = .ok (.idiv, 1) := by decide +kernel
theorem dX9_sayNumber_26 : decode cX9_sayNumber 26 = .ok (.bipush 10, 2) := by decide +kernel
theorem dX9_sayNumber_28 : decode cX9_sayNumber 28 = .ok (.if_icmp .lt 11, 3) := by decide +kernel
theorem dX9_sayNumber_31 : decode cX9_sayNumber 31 = .ok (.iload_n 3, 1) := by decide +kernel
theorem dX9_sayNumber_32 : decode cX9_sayNumber 32 = .ok (.bipush 10, 2) := by decide +kernel
theorem dX9_sayNumber_34 : decode cX9_sayNumber 34 = .ok (.imul, 1) := by decide +kernel
theorem dX9_sayNumber_35 : decode cX9_sayNumber 35 = .ok (.istore_n 3, 1) := by decide +kernel
theorem dX9_sayNumber_36 : decode cX9_sayNumber 36 = .ok (.goto (-13), 3) := by decide +kernel
theorem dX9_sayNumber_39 : decode cX9_sayNumber 39 = .ok (.iload_n 3, 1) := by decide +kernel
theorem dX9_sayNumber_40 : decode cX9_sayNumber 40 = .ok (.istore 4, 2) := by decide +kernel
theorem dX9_sayNumber_42 : decode cX9_sayNumber 42 = .ok (.iload 4, 2) := by decide +kernel
theorem dX9_sayNumber_44 : decode cX9_sayNumber 44 = .ok (.ifCond .le 27, 3) := by decide +kernel
theorem dX9_sayNumber_47 : decode cX9_sayNumber 47 = .ok (.aload_n 0, 1) := by decide +kernel
theorem dX9_sayNumber_48 : decode cX9_sayNumber 48 = .ok (.bipush 48, 2) := by decide +kernel
theorem dX9_sayNumber_50 : decode cX9_sayNumber 50 = .ok (.iload_n 2, 1) := by decide +kernel
theorem dX9_sayNumber_51 : decode cX9_sayNumber 51 = .ok (.iload 4, 2) := by decide +kernel
theorem dX9_sayNumber_53 : decode cX9_sayNumber 53 = .ok (.idiv, 1) := by decide +kernel
theorem dX9_sayNumber_54 : decode cX9_sayNumber 54 = .ok (.bipush 10, 2) := by decide +kernel
theorem dX9_sayNumber_56 : decode cX9_sayNumber 56 = .ok (.irem, 1) := by decide +kernel
theorem dX9_sayNumber_57 : decode cX9_sayNumber 57 = .ok (.iadd, 1) := by decide +kernel
theorem dX9_sayNumber_58 : decode cX9_sayNumber 58 = .ok (.invokevirtual 160, 3) := by decide +kernel
theorem dX9_sayNumber_61 : decode cX9_sayNumber 61 = .ok (.iload 4, 2) := by decide +kernel
theorem dX9_sayNumber_63 : decode cX9_sayNumber 63 = .ok (.bipush 10, 2) := by decide +kernel
theorem dX9_sayNumber_65 : decode cX9_sayNumber 65 = .ok (.idiv, 1) := by decide +kernel
theorem dX9_sayNumber_66 : decode cX9_sayNumber 66 = .ok (.istore 4, 2) := by decide +kernel
theorem dX9_sayNumber_68 : decode cX9_sayNumber 68 = .ok (.goto (-26), 3) := by decide +kernel
theorem dX9_sayNumber_71 : decode cX9_sayNumber 71 = .ok (.return_, 1) := by decide +kernel
set_option maxRecDepth 20000 in
theorem ggX9_cell_X9_begin : GoodIn wsX9_cell wsX9_begin := goodIn_r _ [8, 3, 9, 10, 11, 45, 46, 47, 48, 49, 50, 51, 52, 53, 54, 55, 56, 57, 58, 59, 60, 61, 62, 63, 64, 65, 66, 67, 68, 69] (by decide +kernel) (by decide +kernel)
set_option maxRecDepth 20000 in
theorem gX9_cell_X9_begin : GoodIn wsX9_cell (wsV RX9 144 RX9 yX9_begin wsX9_begin) := goodIn_app (goodIn_of _ (by decide +kernel)) ggX9_cell_X9_begin
set_option maxRecDepth 20000 in
theorem ggX9_cell_X9_passes : GoodIn wsX9_cell wsX9_passes := goodIn_r _ [15, 16, 17, 2, 18, 19, 20, 21, 22, 7, 23, 24, 25, 45, 46, 47, 48, 49, 50, 51, 52, 53, 54, 55, 56, 57, 58, 59, 60, 61, 62, 63, 64, 65, 66, 67, 68, 69] (by decide +kernel) (by decide +kernel)
set_option maxRecDepth 20000 in
theorem gX9_cell_X9_passes : GoodIn wsX9_cell (wsV RX9 154 RX9 yX9_passes wsX9_passes) := goodIn_app (goodIn_of _ (by decide +kernel)) ggX9_cell_X9_passes
set_option maxRecDepth 20000 in
theorem ggX9_cell_X9_liesIn : GoodIn wsX9_cell wsX9_liesIn := goodIn_r _ [23, 24, 25, 45, 46, 47, 48, 49, 50, 51, 52, 53, 54, 55, 56, 57, 58, 59, 60, 61, 62, 63, 64, 65, 66, 67, 68, 69] (by decide +kernel) (by decide +kernel)
set_option maxRecDepth 20000 in
theorem gX9_cell_X9_liesIn : GoodIn wsX9_cell (wsV RX9 88 RX9 yX9_liesIn wsX9_liesIn) := goodIn_app (goodIn_of _ (by decide +kernel)) ggX9_cell_X9_liesIn
set_option maxRecDepth 20000 in
theorem ggX9_cell_X9_add : GoodIn wsX9_cell wsX9_add := goodIn_r _ [29, 30, 3, 10, 11, 9, 45, 46, 47, 48, 49, 50, 51, 52, 53, 54, 55, 56, 57, 58, 59, 60, 61, 62, 63, 64, 65, 66, 67, 68, 69] (by decide +kernel) (by decide +kernel)
set_option maxRecDepth 20000 in
theorem gX9_cell_X9_add : GoodIn wsX9_cell (wsV RX9 147 RX9 yX9_add wsX9_add) := goodIn_app (goodIn_of _ (by decide +kernel)) ggX9_cell_X9_add
set_option maxRecDepth 20000 in
theorem ggX9_cell_X9_say : GoodIn wsX9_cell wsX9_say := goodIn_r _ [34, 35, 36, 45, 46, 47, 48, 49, 50, 51, 52, 53, 54, 55, 56, 57, 58, 59, 60, 61, 62, 63, 64, 65, 66, 67, 68, 69] (by decide +kernel) (by decide +kernel)
set_option maxRecDepth 20000 in
theorem gX9_cell_X9_say : GoodIn wsX9_cell (wsV RX9 160 RX9 yX9_say wsX9_say) := goodIn_app (goodIn_of _ (by decide +kernel)) ggX9_cell_X9_say
set_option maxRecDepth 20000 in
theorem ggX9_cell_X9_value : GoodIn wsX9_cell wsX9_value := goodIn_r _ [40, 3, 9, 10, 11, 45, 46, 47, 48, 49, 50, 51, 52, 53, 54, 55, 56, 57, 58, 59, 60, 61, 62, 63, 64, 65, 66, 67, 68, 69] (by decide +kernel) (by decide +kernel)
set_option maxRecDepth 20000 in
theorem gX9_cell_X9_value : GoodIn wsX9_cell (wsV RX9 151 RX9 yX9_value wsX9_value) := goodIn_app (goodIn_of _ (by decide +kernel)) ggX9_cell_X9_value
set_option maxRecDepth 20000 in
theorem ggX9_cell_X9_sayNumber : GoodIn wsX9_cell wsX9_sayNumber := goodIn_r _ [44, 31, 32, 33, 7, 34, 35, 36, 45, 46, 47, 48, 49, 50, 51, 52, 53, 54, 55, 56, 57, 58, 59, 60, 61, 62, 63, 64, 65, 66, 67, 68, 69] (by decide +kernel) (by decide +kernel)
set_option maxRecDepth 20000 in
theorem gX9_cell_X9_sayNumber : GoodIn wsX9_cell (wsV RX9 163 RX9 yX9_sayNumber wsX9_sayNumber) := goodIn_app (goodIn_of _ (by decide +kernel)) ggX9_cell_X9_sayNumber
theorem dX9_cell_0 : decode cX9_cell 0 = .ok (.aload_n 0, 1) := by decide +kernel
theorem dX9_cell_1 : decode cX9_cell 1 = .ok (.invokevirtual 144, 3) := by decide +kernel
theorem dX9_cell_4 : decode cX9_cell 4 = .ok (.iconst 0, 1) := by decide +kernel
theorem dX9_cell_5 : decode cX9_cell 5 = .ok (.istore 8, 2) := by decide +kernel
theorem dX9_cell_7 : decode cX9_cell 7 = .ok (.iload 8, 2) := by decide +kernel
theorem dX9_cell_9 : decode cX9_cell 9 = .ok (.aload_n 0, 1) := by decide +kernel
theorem dX9_cell_10 : decode cX9_cell 10 = .ok (.getfield 71, 3) := by decide +kernel
theorem dX9_cell_13 : decode cX9_cell 13 = .ok (.if_icmp .ge 91, 3) := by decide +kernel
theorem dX9_cell_16 : decode cX9_cell 16 = .ok (.aload_n 0, 1) := by decide +kernel
theorem dX9_cell_17 : decode cX9_cell 17 = .ok (.iload 8, 2) := by decide +kernel
theorem dX9_cell_19 : decode cX9_cell 19 = .ok (.invokevirtual 154, 3) := by decide +kernel
theorem dX9_cell_22 : decode cX9_cell 22 = .ok (.ifCond .eq 62, 3) := by decide +kernel
theorem dX9_cell_25 : decode cX9_cell 25 = .ok (.iload_n 3, 1) := by decide +kernel
theorem dX9_cell_26 : decode cX9_cell 26 = .ok (.ifCond .lt 24, 3) := by decide +kernel
theorem dX9_cell_29 : decode cX9_cell 29 = .ok (.aload_n 0, 1) := by decide +kernel
theorem dX9_cell_30 : decode cX9_cell 30 = .ok (.iload_n 1, 1) := by decide +kernel
theorem dX9_cell_31 : decode cX9_cell 31 = .ok (.aload_n 0, 1) := by decide +kernel
theorem dX9_cell_32 : decode cX9_cell 32 = .ok (.getfield 19, 3) := by decide +kernel
theorem dX9_cell_35 : decode cX9_cell 35 = .ok (.iconst 4, 1) := by decide +kernel
theorem dX9_cell_36 : decode cX9_cell 36 = .ok (.iload 8, 2) := by decide +kernel
theorem dX9_cell_38 : decode cX9_cell 38 = .ok (.imul, 1) := by decide +kernel
theorem dX9_cell_39 : decode cX9_cell 39 = .ok (.iload_n 1, 1) := by decide +kernel
theorem dX9_cell_40 : decode cX9_cell 40 = .ok (.iadd, 1) := by decide +kernel
theorem dX9_cell_41 : decode cX9_cell 41 = .ok (.iaload, 1) := by decide +kernel
theorem dX9_cell_42 : decode cX9_cell 42 = .ok (.iload_n 2, 1) := by decide +kernel
theorem dX9_cell_43 : decode cX9_cell 43 = .ok (.invokevirtual 88, 3) := by decide +kernel
theorem dX9_cell_46 : decode cX9_cell 46 = .ok (.iload_n 3, 1) := by decide +kernel
theorem dX9_cell_47 : decode cX9_cell 47 = .ok (.if_icmp .ne 37, 3) := by decide +kernel
theorem dX9_cell_50 : decode cX9_cell 50 = .ok (.iload 6, 2) := by decide +kernel
theorem dX9_cell_52 : decode cX9_cell 52 = .ok (.ifCond .lt 28, 3) := by decide +kernel
theorem dX9_cell_55 : decode cX9_cell 55 = .ok (.aload_n 0, 1) := by decide +kernel
theorem dX9_cell_56 : decode cX9_cell 56 = .ok (.iload 4, 2) := by decide +kernel
theorem dX9_cell_58 : decode cX9_cell 58 = .ok (.aload_n 0, 1) := by decide +kernel
theorem dX9_cell_59 : decode cX9_cell 59 = .ok (.getfield 19, 3) := by decide +kernel
theorem dX9_cell_62 : decode cX9_cell 62 = .ok (.iconst 4, 1) := by decide +kernel
theorem dX9_cell_63 : decode cX9_cell 63 = .ok (.iload 8, 2) := by decide +kernel
theorem dX9_cell_65 : decode cX9_cell 65 = .ok (.imul, 1) := by decide +kernel
theorem dX9_cell_66 : decode cX9_cell 66 = .ok (.iload 4, 2) := by decide +kernel
theorem dX9_cell_68 : decode cX9_cell 68 = .ok (.iadd, 1) := by decide +kernel
theorem dX9_cell_69 : decode cX9_cell 69 = .ok (.iaload, 1) := by decide +kernel
theorem dX9_cell_70 : decode cX9_cell 70 = .ok (.iload 5, 2) := by decide +kernel
theorem dX9_cell_72 : decode cX9_cell 72 = .ok (.invokevirtual 88, 3) := by decide +kernel
theorem dX9_cell_75 : decode cX9_cell 75 = .ok (.iload 6, 2) := by decide +kernel
theorem dX9_cell_77 : decode cX9_cell 77 = .ok (.if_icmp .ne 7, 3) := by decide +kernel
theorem dX9_cell_80 : decode cX9_cell 80 = .ok (.iconst 1, 1) := by decide +kernel
theorem dX9_cell_81 : decode cX9_cell 81 = .ok (.goto 4, 3) := by decide +kernel
theorem dX9_cell_84 : decode cX9_cell 84 = .ok (.iconst 0, 1) := by decide +kernel
theorem dX9_cell_85 : decode cX9_cell 85 = .ok (.istore 9, 2) := by decide +kernel
theorem dX9_cell_87 : decode cX9_cell 87 = .ok (.iload 9, 2) := by decide +kernel
theorem dX9_cell_89 : decode cX9_cell 89 = .ok (.ifCond .eq 9, 3) := by decide +kernel
theorem dX9_cell_92 : decode cX9_cell 92 = .ok (.aload_n 0, 1) := by decide +kernel
theorem dX9_cell_93 : decode cX9_cell 93 = .ok (.iload 8, 2) := by decide +kernel
theorem dX9_cell_95 : decode cX9_cell 95 = .ok (.invokevirtual 147, 3) := by decide +kernel
theorem dX9_cell_98 : decode cX9_cell 98 = .ok (.iinc 8 1, 3) := by decide +kernel
theorem dX9_cell_101 : decode cX9_cell 101 = .ok (.goto (-94), 3) := by decide +kernel
theorem dX9_cell_104 : decode cX9_cell 104 = .ok (.aload_n 0, 1) := by decide +kernel
theorem dX9_cell_105 : decode cX9_cell 105 = .ok (.getfield 129, 3) := by decide +kernel
theorem dX9_cell_108 : decode cX9_cell 108 = .ok (.ifCond .ne 12, 3) := by decide +kernel
theorem dX9_cell_111 : decode cX9_cell 111 = .ok (.aload_n 0, 1) := by decide +kernel
theorem dX9_cell_112 : decode cX9_cell 112 = .ok (.bipush 46, 2) := by decide +kernel
theorem dX9_cell_114 : decode cX9_cell 114 = .ok (.invokevirtual 160, 3) := by decide +kernel
theorem dX9_cell_117 : decode cX9_cell 117 = .ok (.goto 13, 3) := by decide +kernel
theorem dX9_cell_120 : decode cX9_cell 120 = .ok (.aload_n 0, 1) := by decide +kernel
theorem dX9_cell_121 : decode cX9_cell 121 = .ok (.aload_n 0, 1) := by decide +kernel
theorem dX9_cell_122 : decode cX9_cell 122 = .ok (.iload 7, 2) := by decide +kernel
theorem dX9_cell_124 : decode cX9_cell 124 = .ok (.invokevirtual 151, 3) := by decide +kernel
theorem dX9_cell_127 : decode cX9_cell 127 = .ok (.invokevirtual 163, 3) := by decide +kernel
theorem dX9_cell_130 : decode cX9_cell 130 = .ok (.return_, 1) := by decide +kernel
set_option maxRecDepth 20000 in
theorem ggX9_isSide_X9_isDimension : GoodIn wsX9_isSide wsX9_isDimension := goodIn_r _ [5, 6, 7, 8, 4, 9, 16, 17, 18, 19, 20, 21, 22, 23, 24, 25, 26, 27, 28, 29, 30, 31, 32, 33, 34, 35, 36, 37, 38, 39, 40] (by decide +kernel) (by decide +kernel)
set_option maxRecDepth 20000 in
theorem gX9_isSide_X9_isDimension : GoodIn wsX9_isSide (wsV RX9 80 RX9 yX9_isDimension wsX9_isDimension) := goodIn_app (goodIn_of _ (by decide +kernel)) ggX9_isSide_X9_isDimension
set_option maxRecDepth 20000 in
theorem ggX9_isSide_X9_many : GoodIn wsX9_isSide wsX9_many := goodIn_r _ [13, 14, 15, 16, 17, 18, 19, 20, 21, 22, 23, 24, 25, 26, 27, 28, 29, 30, 31, 32, 33, 34, 35, 36, 37, 38, 39, 40] (by decide +kernel) (by decide +kernel)
set_option maxRecDepth 20000 in
theorem gX9_isSide_X9_many : GoodIn wsX9_isSide (wsV RX9 84 RX9 yX9_many wsX9_many) := goodIn_app (goodIn_of _ (by decide +kernel)) ggX9_isSide_X9_many
theorem dX9_isSide_0 : decode cX9_isSide 0 = .ok (.iload_n 1, 1) := by decide +kernel
theorem dX9_isSide_1 : decode cX9_isSide 1 = .ok (.ifCond .lt 33, 3) := by decide +kernel
theorem dX9_isSide_4 : decode cX9_isSide 4 = .ok (.aload_n 0, 1) := by decide +kernel
theorem dX9_isSide_5 : decode cX9_isSide 5 = .ok (.iload_n 1, 1) := by decide +kernel
theorem dX9_isSide_6 : decode cX9_isSide 6 = .ok (.bipush 10, 2) := by decide +kernel
theorem dX9_isSide_8 : decode cX9_isSide 8 = .ok (.idiv, 1) := by decide +kernel
theorem dX9_isSide_9 : decode cX9_isSide 9 = .ok (.invokevirtual 80, 3) := by decide +kernel
theorem dX9_isSide_12 : decode cX9_isSide 12 = .ok (.ifCond .eq 22, 3) := by decide +kernel
theorem dX9_isSide_15 : decode cX9_isSide 15 = .ok (.aload_n 0, 1) := by decide +kernel
theorem dX9_isSide_16 : decode cX9_isSide 16 = .ok (.iload_n 1, 1) := by decide +kernel
theorem dX9_isSide_17 : decode cX9_isSide 17 = .ok (.bipush 10, 2) := by decide +kernel
theorem dX9_isSide_19 : decode cX9_isSide 19 = .ok (.idiv, 1) := by decide +kernel
theorem dX9_isSide_20 : decode cX9_isSide 20 = .ok (.iload_n 1, 1) := by decide +kernel
theorem dX9_isSide_21 : decode cX9_isSide 21 = .ok (.bipush 10, 2) := by decide +kernel
theorem dX9_isSide_23 : decode cX9_isSide 23 = .ok (.irem, 1) := by decide +kernel
theorem dX9_isSide_24 : decode cX9_isSide 24 = .ok (.invokevirtual 84, 3) := by decide +kernel
theorem dX9_isSide_27 : decode cX9_isSide 27 = .ok (.ifCond .le 7, 3) := by decide +kernel
theorem dX9_isSide_30 : decode cX9_isSide 30 = .ok (.iconst 1, 1) := by decide +kernel
theorem dX9_isSide_31 : decode cX9_isSide 31 = .ok (.goto 4, 3) := by decide +kernel
theorem dX9_isSide_34 : decode cX9_isSide 34 = .ok (.iconst 0, 1) := by decide +kernel
theorem dX9_isSide_35 : decode cX9_isSide 35 = .ok (.ireturn, 1) := by decide +kernel
set_option maxRecDepth 20000 in
theorem ggX9_table_X9_isSide : GoodIn wsX9_table wsX9_isSide := goodIn_r _ [8, 9, 10, 11, 7, 12, 13, 14, 15, 16, 17, 18, 19, 20, 21, 22, 67, 68, 69, 70, 71, 72, 73, 74, 75, 76, 77, 78, 79, 80, 81, 82, 83, 84, 85, 86, 87, 88, 89, 90, 91] (by decide +kernel) (by decide +kernel)
set_option maxRecDepth 20000 in
theorem gX9_table_X9_isSide : GoodIn wsX9_table (wsV RX9 166 RX9 yX9_isSide wsX9_isSide) := goodIn_app (goodIn_of _ (by decide +kernel)) ggX9_table_X9_isSide
set_option maxRecDepth 20000 in
theorem ggX9_table_X9_in : GoodIn wsX9_table wsX9_in := goodIn_r _ [16] (by decide +kernel) (by decide +kernel)
set_option maxRecDepth 20000 in
theorem gX9_table_X9_in : GoodIn wsX9_table (va_wsS RX9 67 yX9_in wsX9_in) := goodIn_app (goodIn_of _ (by decide +kernel)) ggX9_table_X9_in
set_option maxRecDepth 20000 in
theorem ggX9_table_X9_many : GoodIn wsX9_table wsX9_many := goodIn_r _ [20, 21, 22, 67, 68, 69, 70, 71, 72, 73, 74, 75, 76, 77, 78, 79, 80, 81, 82, 83, 84, 85, 86, 87, 88, 89, 90, 91] (by decide +kernel) (by decide +kernel)
set_option maxRecDepth 20000 in
theorem gX9_table_X9_many : GoodIn wsX9_table (wsV RX9 84 RX9 yX9_many wsX9_many) := goodIn_app (goodIn_of _ (by decide +kernel)) ggX9_table_X9_many
set_option maxRecDepth 20000 in
theorem ggX9_table_X9_cell : GoodIn wsX9_table wsX9_cell := goodIn_r _ [26, 27, 28, 29, 30, 31, 32, 7, 33, 34, 35, 36, 37, 38, 39, 40, 41, 13, 42, 43, 44, 45, 46, 47, 21, 48, 49, 50, 51, 52, 53, 54, 55, 56, 57, 58, 3, 59, 60, 61, 62, 63, 64, 65, 66, 67, 68, 69, 70, 71, 72, 73, 74, 75, 76, 77, 78, 79, 80, 81, 82, 83, 84, 85, 86, 87, 88, 89, 90, 91] (by decide +kernel) (by decide +kernel)
set_option maxRecDepth 20000 in
theorem gX9_table_X9_cell : GoodIn wsX9_table (wsV RX9 169 RX9 yX9_cell wsX9_cell) := goodIn_app (goodIn_of _ (by decide +kernel)) ggX9_table_X9_cell
set_option maxRecDepth 20000 in
theorem ggX9_table_X9_say : GoodIn wsX9_table wsX9_say := goodIn_r _ [57, 58, 3, 67, 68, 69, 70, 71, 72, 73, 74, 75, 76, 77, 78, 79, 80, 81, 82, 83, 84, 85, 86, 87, 88, 89, 90, 91] (by decide +kernel) (by decide +kernel)
set_option maxRecDepth 20000 in
theorem gX9_table_X9_say : GoodIn wsX9_table (wsV RX9 160 RX9 yX9_say wsX9_say) := goodIn_app (goodIn_of _ (by decide +kernel)) ggX9_table_X9_say
theorem dX9_table_0 : decode cX9_table 0 = .ok (.aload_n 0, 1) := by decide +kernel
theorem dX9_table_1 : decode cX9_table 1 = .ok (.iconst 0, 1) := by decide +kernel
theorem dX9_table_2 : decode cX9_table 2 = .ok (.putfield 60, 3) := by decide +kernel
theorem dX9_table_5 : decode cX9_table 5 = .ok (.aload_n 0, 1) := by decide +kernel
theorem dX9_table_6 : decode cX9_table 6 = .ok (.iload_n 1, 1) := by decide +kernel
theorem dX9_table_7 : decode cX9_table 7 = .ok (.invokevirtual 166, 3) := by decide +kernel
theorem dX9_table_10 : decode cX9_table 10 = .ok (.ifCond .eq 20, 3) := by decide +kernel
theorem dX9_table_13 : decode cX9_table 13 = .ok (.aload_n 0, 1) := by decide +kernel
theorem dX9_table_14 : decode cX9_table 14 = .ok (.iload_n 2, 1) := by decide +kernel
theorem dX9_table_15 : decode cX9_table 15 = .ok (.invokevirtual 166, 3) := by decide +kernel
theorem dX9_table_18 : decode cX9_table 18 = .ok (.ifCond .eq 12, 3) := by decide +kernel
theorem dX9_table_21 : decode cX9_table 21 = .ok (.iload_n 3, 1) := by decide +kernel
theorem dX9_table_22 : decode cX9_table 22 = .ok (.iconst 0, 1) := by decide +kernel
theorem dX9_table_23 : decode cX9_table 23 = .ok (.iconst 3, 1) := by decide +kernel
theorem dX9_table_24 : decode cX9_table 24 = .ok (.invokestatic 67, 3) := by decide +kernel
theorem dX9_table_27 : decode cX9_table 27 = .ok (.ifCond .ne 6, 3) := by decide +kernel
theorem dX9_table_30 : decode cX9_table 30 = .ok (.ldc 74, 2) := by decide +kernel
theorem dX9_table_32 : decode cX9_table 32 = .ok (.ireturn, 1) := by decide +kernel
theorem dX9_table_33 : decode cX9_table 33 = .ok (.aload_n 0, 1) := by decide +kernel
theorem dX9_table_34 : decode cX9_table 34 = .ok (.iconst 0, 1) := by decide +kernel
theorem dX9_table_35 : decode cX9_table 35 = .ok (.putfield 157, 3) := by decide +kernel
theorem dX9_table_38 : decode cX9_table 38 = .ok (.aload_n 0, 1) := by decide +kernel
theorem dX9_table_39 : decode cX9_table 39 = .ok (.iload_n 1, 1) := by decide +kernel
theorem dX9_table_40 : decode cX9_table 40 = .ok (.bipush 10, 2) := by decide +kernel
theorem dX9_table_42 : decode cX9_table 42 = .ok (.idiv, 1) := by decide +kernel
theorem dX9_table_43 : decode cX9_table 43 = .ok (.iload_n 1, 1) := by decide +kernel
theorem dX9_table_44 : decode cX9_table 44 = .ok (.bipush 10, 2) := by decide +kernel
theorem dX9_table_46 : decode cX9_table 46 = .ok (.irem, 1) := by decide +kernel
theorem dX9_table_47 : decode cX9_table 47 = .ok (.invokevirtual 84, 3) := by decide +kernel
theorem dX9_table_50 : decode cX9_table 50 = .ok (.istore 4, 2) := by decide +kernel
theorem dX9_table_52 : decode cX9_table 52 = .ok (.aload_n 0, 1) := by decide +kernel
theorem dX9_table_53 : decode cX9_table 53 = .ok (.iload_n 2, 1) := by decide +kernel
theorem dX9_table_54 : decode cX9_table 54 = .ok (.bipush 10, 2) := by decide +kernel
theorem dX9_table_56 : decode cX9_table 56 = .ok (.idiv, 1) := by decide +kernel
theorem dX9_table_57 : decode cX9_table 57 = .ok (.iload_n 2, 1) := by decide +kernel
theorem dX9_table_58 : decode cX9_table 58 = .ok (.bipush 10, 2) := by decide +kernel
theorem dX9_table_60 : decode cX9_table 60 = .ok (.irem, 1) := by decide +kernel
theorem dX9_table_61 : decode cX9_table 61 = .ok (.invokevirtual 84, 3) := by decide +kernel
theorem dX9_table_64 : decode cX9_table 64 = .ok (.istore 5, 2) := by decide +kernel
theorem dX9_table_66 : decode cX9_table 66 = .ok (.iconst 0, 1) := by decide +kernel
theorem dX9_table_67 : decode cX9_table 67 = .ok (.istore 6, 2) := by decide +kernel
theorem dX9_table_69 : decode cX9_table 69 = .ok (.iload 6, 2) := by decide +kernel
theorem dX9_table_71 : decode cX9_table 71 = .ok (.iload 4, 2) := by decide +kernel
theorem dX9_table_73 : decode cX9_table 73 = .ok (.if_icmp .gt 90, 3) := by decide +kernel
theorem dX9_table_76 : decode cX9_table 76 = .ok (.iconst 0, 1) := by decide +kernel
theorem dX9_table_77 : decode cX9_table 77 = .ok (.istore 7, 2) := by decide +kernel
theorem dX9_table_79 : decode cX9_table 79 = .ok (.iload 7, 2) := by decide +kernel
theorem dX9_table_81 : decode cX9_table 81 = .ok (.iload 5, 2) := by decide +kernel
theorem dX9_table_83 : decode cX9_table 83 = .ok (.if_icmp .gt 74, 3) := by decide +kernel
theorem dX9_table_86 : decode cX9_table 86 = .ok (.aload_n 0, 1) := by decide +kernel
theorem dX9_table_87 : decode cX9_table 87 = .ok (.iload_n 1, 1) := by decide +kernel
theorem dX9_table_88 : decode cX9_table 88 = .ok (.bipush 10, 2) := by decide +kernel
theorem dX9_table_90 : decode cX9_table 90 = .ok (.idiv, 1) := by decide +kernel
theorem dX9_table_91 : decode cX9_table 91 = .ok (.iload_n 1, 1) := by decide +kernel
theorem dX9_table_92 : decode cX9_table 92 = .ok (.bipush 10, 2) := by decide +kernel
theorem dX9_table_94 : decode cX9_table 94 = .ok (.irem, 1) := by decide +kernel
theorem dX9_table_95 : decode cX9_table 95 = .ok (.iload 6, 2) := by decide +kernel
theorem dX9_table_97 : decode cX9_table 97 = .ok (.iload 4, 2) := by decide +kernel
theorem dX9_table_99 : decode cX9_table 99 = .ok (.if_icmp .ne 7, 3) := by decide +kernel
theorem dX9_table_102 : decode cX9_table 102 = .ok (.iconst (-1), 1) := by decide +kernel
theorem dX9_table_103 : decode cX9_table 103 = .ok (.goto 5, 3) := by decide +kernel
theorem dX9_table_106 : decode cX9_table 106 = .ok (.iload 6, 2) := by decide +kernel
theorem dX9_table_108 : decode cX9_table 108 = .ok (.iload_n 2, 1) := by decide +kernel
theorem dX9_table_109 : decode cX9_table 109 = .ok (.bipush 10, 2) := by decide +kernel
theorem dX9_table_111 : decode cX9_table 111 = .ok (.idiv, 1) := by decide +kernel
theorem dX9_table_112 : decode cX9_table 112 = .ok (.iload_n 2, 1) := by decide +kernel
theorem dX9_table_113 : decode cX9_table 113 = .ok (.bipush 10, 2) := by decide +kernel
theorem dX9_table_115 : decode cX9_table 115 = .ok (.irem, 1) := by decide +kernel
theorem dX9_table_116 : decode cX9_table 116 = .ok (.iload 7, 2) := by decide +kernel
theorem dX9_table_118 : decode cX9_table 118 = .ok (.iload 5, 2) := by decide +kernel
theorem dX9_table_120 : decode cX9_table 120 = .ok (.if_icmp .ne 7, 3) := by decide +kernel
theorem dX9_table_123 : decode cX9_table 123 = .ok (.iconst (-1), 1) := by decide +kernel
theorem dX9_table_124 : decode cX9_table 124 = .ok (.goto 5, 3) := by decide +kernel
theorem dX9_table_127 : decode cX9_table 127 = .ok (.iload 7, 2) := by decide +kernel
theorem dX9_table_129 : decode cX9_table 129 = .ok (.iload_n 3, 1) := by decide +kernel
theorem dX9_table_130 : decode cX9_table 130 = .ok (.invokevirtual 169, 3) := by decide +kernel
theorem dX9_table_133 : decode cX9_table 133 = .ok (.aload_n 0, 1) := by decide +kernel
theorem dX9_table_134 : decode cX9_table 134 = .ok (.iload 7, 2) := by decide +kernel
theorem dX9_table_136 : decode cX9_table 136 = .ok (.iload 5, 2) := by decide +kernel
theorem dX9_table_138 : decode cX9_table 138 = .ok (.if_icmp .ne 8, 3) := by decide +kernel
theorem dX9_table_141 : decode cX9_table 141 = .ok (.bipush 10, 2) := by decide +kernel
theorem dX9_table_143 : decode cX9_table 143 = .ok (.goto 5, 3) := by decide +kernel
theorem dX9_table_146 : decode cX9_table 146 = .ok (.bipush 32, 2) := by decide +kernel
theorem dX9_table_148 : decode cX9_table 148 = .ok (.invokevirtual 160, 3) := by decide +kernel
theorem dX9_table_151 : decode cX9_table 151 = .ok (.iinc 7 1, 3) := by decide +kernel
theorem dX9_table_154 : decode cX9_table 154 = .ok (.goto (-75), 3) := by decide +kernel
theorem dX9_table_157 : decode cX9_table 157 = .ok (.iinc 6 1, 3) := by decide +kernel
theorem dX9_table_160 : decode cX9_table 160 = .ok (.goto (-91), 3) := by decide +kernel
theorem dX9_table_163 : decode cX9_table 163 = .ok (.aload_n 0, 1) := by decide +kernel
theorem dX9_table_164 : decode cX9_table 164 = .ok (.getfield 157, 3) := by decide +kernel
theorem dX9_table_167 : decode cX9_table 167 = .ok (.ireturn, 1) := by decide +kernel
set_option maxRecDepth 20000 in
theorem ggX9_out_X9_in : GoodIn wsX9_out wsX9_in := goodIn_r _ [8] (by decide +kernel) (by decide +kernel)
set_option maxRecDepth 20000 in
theorem gX9_out_X9_in : GoodIn wsX9_out (va_wsS RX9 67 yX9_in wsX9_in) := goodIn_app (goodIn_of _ (by decide +kernel)) ggX9_out_X9_in
theorem dX9_out_0 : decode cX9_out 0 = .ok (.aload_n 0, 1) := by decide +kernel
theorem dX9_out_1 : decode cX9_out 1 = .ok (.iconst 0, 1) := by decide +kernel
theorem dX9_out_2 : decode cX9_out 2 = .ok (.putfield 60, 3) := by decide +kernel
theorem dX9_out_5 : decode cX9_out 5 = .ok (.iload_n 1, 1) := by decide +kernel
theorem dX9_out_6 : decode cX9_out 6 = .ok (.iconst 0, 1) := by decide +kernel
theorem dX9_out_7 : decode cX9_out 7 = .ok (.aload_n 0, 1) := by decide +kernel
theorem dX9_out_8 : decode cX9_out 8 = .ok (.getfield 157, 3) := by decide +kernel
theorem dX9_out_11 : decode cX9_out 11 = .ok (.iconst 1, 1) := by decide +kernel
theorem dX9_out_12 : decode cX9_out 12 = .ok (.isub, 1) := by decide +kernel
theorem dX9_out_13 : decode cX9_out 13 = .ok (.invokestatic 67, 3) := by decide +kernel
theorem dX9_out_16 : decode cX9_out 16 = .ok (.ifCond .eq 12, 3) := by decide +kernel
theorem dX9_out_19 : decode cX9_out 19 = .ok (.aload_n 0, 1) := by decide +kernel
theorem dX9_out_20 : decode cX9_out 20 = .ok (.getfield 41, 3) := by decide +kernel
theorem dX9_out_23 : decode cX9_out 23 = .ok (.iload_n 1, 1) := by decide +kernel
theorem dX9_out_24 : decode cX9_out 24 = .ok (.iaload, 1) := by decide +kernel
theorem dX9_out_25 : decode cX9_out 25 = .ok (.goto 5, 3) := by decide +kernel
theorem dX9_out_28 : decode cX9_out 28 = .ok (.ldc 150, 2) := by decide +kernel
theorem dX9_out_30 : decode cX9_out 30 = .ok (.ireturn, 1) := by decide +kernel
set_option maxRecDepth 20000 in
theorem ggX9_count_X9_thereMany : GoodIn wsX9_count wsX9_thereMany := goodIn_r _ [11, 3, 12, 38, 39, 40, 41, 42, 43, 44, 45, 46, 47, 48, 49, 50, 51, 52, 53, 54, 55, 56, 57, 58, 59, 60, 61, 62] (by decide +kernel) (by decide +kernel)
set_option maxRecDepth 20000 in
theorem gX9_count_X9_thereMany : GoodIn wsX9_count (wsV RX9 173 RX9 yX9_thereMany wsX9_thereMany) := goodIn_app (goodIn_of _ (by decide +kernel)) ggX9_count_X9_thereMany
set_option maxRecDepth 20000 in
theorem ggX9_count_X9_all : GoodIn wsX9_count wsX9_all := goodIn_r _ [16, 2, 17, 38, 39, 40, 41, 42, 43, 44, 45, 46, 47, 48, 49, 50, 51, 52, 53, 54, 55, 56, 57, 58, 59, 60, 61, 62] (by decide +kernel) (by decide +kernel)
set_option maxRecDepth 20000 in
theorem gX9_count_X9_all : GoodIn wsX9_count (wsV RX9 92 RX9 yX9_all wsX9_all) := goodIn_app (goodIn_of _ (by decide +kernel)) ggX9_count_X9_all
set_option maxRecDepth 20000 in
theorem ggX9_count_X9_sizeOf : GoodIn wsX9_count wsX9_sizeOf := goodIn_r _ [21, 22, 23, 24, 25, 10, 26, 2, 27, 3, 28, 12, 29, 30, 31, 32, 17, 33, 34, 35, 36, 37, 38, 39, 40, 41, 42, 43, 44, 45, 46, 47, 48, 49, 50, 51, 52, 53, 54, 55, 56, 57, 58, 59, 60, 61, 62] (by decide +kernel) (by decide +kernel)
set_option maxRecDepth 20000 in
theorem gX9_count_X9_sizeOf : GoodIn wsX9_count (wsV RX9 106 RX9 yX9_sizeOf wsX9_sizeOf) := goodIn_app (goodIn_of _ (by decide +kernel)) ggX9_count_X9_sizeOf
theorem dX9_count_0 : decode cX9_count 0 = .ok (.aload_n 0, 1) := by decide +kernel
theorem dX9_count_1 : decode cX9_count 1 = .ok (.iconst 0, 1) := by decide +kernel
theorem dX9_count_2 : decode cX9_count 2 = .ok (.putfield 60, 3) := by decide +kernel
theorem dX9_count_5 : decode cX9_count 5 = .ok (.iconst 0, 1) := by decide +kernel
theorem dX9_count_6 : decode cX9_count 6 = .ok (.istore_n 2, 1) := by decide +kernel
theorem dX9_count_7 : decode cX9_count 7 = .ok (.iload_n 1, 1) := by decide +kernel
theorem dX9_count_8 : decode cX9_count 8 = .ok (.tableswitch 134 0 5 #[40, 45, 50, 55, 90, 95], 40) := by decide +kernel
theorem dX9_count_48 : decode cX9_count 48 = .ok (.aload_n 0, 1) := by decide +kernel
theorem dX9_count_49 : decode cX9_count 49 = .ok (.getfield 64, 3) := by decide +kernel
theorem dX9_count_52 : decode cX9_count 52 = .ok (.ireturn, 1) := by decide +kernel
theorem dX9_count_53 : decode cX9_count 53 = .ok (.aload_n 0, 1) := by decide +kernel
theorem dX9_count_54 : decode cX9_count 54 = .ok (.getfield 71, 3) := by decide +kernel
theorem dX9_count_57 : decode cX9_count 57 = .ok (.ireturn, 1) := by decide +kernel
theorem dX9_count_58 : decode cX9_count 58 = .ok (.aload_n 0, 1) := by decide +kernel
theorem dX9_count_59 : decode cX9_count 59 = .ok (.invokevirtual 173, 3) := by decide +kernel
theorem dX9_count_62 : decode cX9_count 62 = .ok (.ireturn, 1) := by decide +kernel
theorem dX9_count_63 : decode cX9_count 63 = .ok (.iconst 0, 1) := by decide +kernel
theorem dX9_count_64 : decode cX9_count 64 = .ok (.istore_n 3, 1) := by decide +kernel
theorem dX9_count_65 : decode cX9_count 65 = .ok (.iload_n 3, 1) := by decide +kernel
theorem dX9_count_66 : decode cX9_count 66 = .ok (.aload_n 0, 1) := by decide +kernel
theorem dX9_count_67 : decode cX9_count 67 = .ok (.invokevirtual 92, 3) := by decide +kernel
theorem dX9_count_70 : decode cX9_count 70 = .ok (.if_icmp .ge 26, 3) := by decide +kernel
theorem dX9_count_73 : decode cX9_count 73 = .ok (.iload_n 2, 1) := by decide +kernel
theorem dX9_count_74 : decode cX9_count 74 = .ok (.aload_n 0, 1) := by decide +kernel
theorem dX9_count_75 : decode cX9_count 75 = .ok (.getfield 38, 3) := by decide +kernel
theorem dX9_count_78 : decode cX9_count 78 = .ok (.iload_n 3, 1) := by decide +kernel
theorem dX9_count_79 : decode cX9_count 79 = .ok (.baload, 1) := by decide +kernel
theorem dX9_count_80 : decode cX9_count 80 = .ok (.ifCond .eq 7, 3) := by decide +kernel
theorem dX9_count_83 : decode cX9_count 83 = .ok (.iconst 1, 1) := by decide +kernel
theorem dX9_count_84 : decode cX9_count 84 = .ok (.goto 4, 3) := by decide +kernel
theorem dX9_count_87 : decode cX9_count 87 = .ok (.iconst 0, 1) := by decide +kernel
theorem dX9_count_88 : decode cX9_count 88 = .ok (.iadd, 1) := by decide +kernel
theorem dX9_count_89 : decode cX9_count 89 = .ok (.istore_n 2, 1) := by decide +kernel
theorem dX9_count_90 : decode cX9_count 90 = .ok (.iinc 3 1, 3) := by decide +kernel
theorem dX9_count_93 : decode cX9_count 93 = .ok (.goto (-28), 3) := by decide +kernel
theorem dX9_count_96 : decode cX9_count 96 = .ok (.iload_n 2, 1) := by decide +kernel
theorem dX9_count_97 : decode cX9_count 97 = .ok (.ireturn, 1) := by decide +kernel
theorem dX9_count_98 : decode cX9_count 98 = .ok (.aload_n 0, 1) := by decide +kernel
theorem dX9_count_99 : decode cX9_count 99 = .ok (.getfield 157, 3) := by decide +kernel
theorem dX9_count_102 : decode cX9_count 102 = .ok (.ireturn, 1) := by decide +kernel
theorem dX9_count_103 : decode cX9_count 103 = .ok (.iconst 0, 1) := by decide +kernel
theorem dX9_count_104 : decode cX9_count 104 = .ok (.istore_n 3, 1) := by decide +kernel
theorem dX9_count_105 : decode cX9_count 105 = .ok (.iload_n 3, 1) := by decide +kernel
theorem dX9_count_106 : decode cX9_count 106 = .ok (.aload_n 0, 1) := by decide +kernel
theorem dX9_count_107 : decode cX9_count 107 = .ok (.invokevirtual 92, 3) := by decide +kernel
theorem dX9_count_110 : decode cX9_count 110 = .ok (.if_icmp .ge 30, 3) := by decide +kernel
theorem dX9_count_113 : decode cX9_count 113 = .ok (.iload_n 2, 1) := by decide +kernel
theorem dX9_count_114 : decode cX9_count 114 = .ok (.aload_n 0, 1) := by decide +kernel
theorem dX9_count_115 : decode cX9_count 115 = .ok (.getfield 38, 3) := by decide +kernel
theorem dX9_count_118 : decode cX9_count 118 = .ok (.iload_n 3, 1) := by decide +kernel
theorem dX9_count_119 : decode cX9_count 119 = .ok (.baload, 1) := by decide +kernel
theorem dX9_count_120 : decode cX9_count 120 = .ok (.ifCond .eq 11, 3) := by decide +kernel
theorem dX9_count_123 : decode cX9_count 123 = .ok (.aload_n 0, 1) := by decide +kernel
theorem dX9_count_124 : decode cX9_count 124 = .ok (.iload_n 3, 1) := by decide +kernel
theorem dX9_count_125 : decode cX9_count 125 = .ok (.invokevirtual 106, 3) := by decide +kernel
theorem dX9_count_128 : decode cX9_count 128 = .ok (.goto 4, 3) := by decide +kernel
theorem dX9_count_131 : decode cX9_count 131 = .ok (.iconst 0, 1) := by decide +kernel
theorem dX9_count_132 : decode cX9_count 132 = .ok (.iadd, 1) := by decide +kernel
theorem dX9_count_133 : decode cX9_count 133 = .ok (.istore_n 2, 1) := by decide +kernel
theorem dX9_count_134 : decode cX9_count 134 = .ok (.iinc 3 1, 3) := by decide +kernel
theorem dX9_count_137 : decode cX9_count 137 = .ok (.goto (-32), 3) := by decide +kernel
theorem dX9_count_140 : decode cX9_count 140 = .ok (.iload_n 2, 1) := by decide +kernel
theorem dX9_count_141 : decode cX9_count 141 = .ok (.ireturn, 1) := by decide +kernel
theorem dX9_count_142 : decode cX9_count 142 = .ok (.ldc 74, 2) := by decide +kernel
theorem dX9_count_144 : decode cX9_count 144 = .ok (.ireturn, 1) := by decide +kernel
theorem dJ9_abs_0f7a4_0 : decode cJ9_abs_0f7a4 0 = .ok (.iload_n 0, 1) := by decide +kernel
theorem dJ9_abs_0f7a4_1 : decode cJ9_abs_0f7a4 1 = .ok (.ifCond .ge 8, 3) := by decide +kernel
theorem dJ9_abs_0f7a4_4 : decode cJ9_abs_0f7a4 4 = .ok (.iload_n 0, 1) := by decide +kernel
theorem dJ9_abs_0f7a4_5 : decode cJ9_abs_0f7a4 5 = .ok (.ineg, 1) := by decide +kernel
theorem dJ9_abs_0f7a4_6 : decode cJ9_abs_0f7a4 6 = .ok (.goto 4, 3) := by decide +kernel
theorem dJ9_abs_0f7a4_9 : decode cJ9_abs_0f7a4 9 = .ok (.iload_n 0, 1) := by decide +kernel
theorem dJ9_abs_0f7a4_10 : decode cJ9_abs_0f7a4 10 = .ok (.ireturn, 1) := by decide +kernel
theorem dJ9_max_7cf53_0 : decode cJ9_max_7cf53 0 = .ok (.iload_n 0, 1) := by decide +kernel
theorem dJ9_max_7cf53_1 : decode cJ9_max_7cf53 1 = .ok (.iload_n 1, 1) := by decide +kernel
theorem dJ9_max_7cf53_2 : decode cJ9_max_7cf53 2 = .ok (.if_icmp .lt 7, 3) := by decide +kernel
theorem dJ9_max_7cf53_5 : decode cJ9_max_7cf53 5 = .ok (.iload_n 0, 1) := by decide +kernel
theorem dJ9_max_7cf53_6 : decode cJ9_max_7cf53 6 = .ok (.goto 4, 3) := by decide +kernel
theorem dJ9_max_7cf53_9 : decode cJ9_max_7cf53 9 = .ok (.iload_n 1, 1) := by decide +kernel
theorem dJ9_max_7cf53_10 : decode cJ9_max_7cf53 10 = .ok (.ireturn, 1) := by decide +kernel
theorem dJ9_min_7cf53_0 : decode cJ9_min_7cf53 0 = .ok (.iload_n 0, 1) := by decide +kernel
theorem dJ9_min_7cf53_1 : decode cJ9_min_7cf53 1 = .ok (.iload_n 1, 1) := by decide +kernel
theorem dJ9_min_7cf53_2 : decode cJ9_min_7cf53 2 = .ok (.if_icmp .gt 7, 3) := by decide +kernel
theorem dJ9_min_7cf53_5 : decode cJ9_min_7cf53 5 = .ok (.iload_n 0, 1) := by decide +kernel
theorem dJ9_min_7cf53_6 : decode cJ9_min_7cf53 6 = .ok (.goto 4, 3) := by decide +kernel
theorem dJ9_min_7cf53_9 : decode cJ9_min_7cf53 9 = .ok (.iload_n 1, 1) := by decide +kernel
theorem dJ9_min_7cf53_10 : decode cJ9_min_7cf53 10 = .ok (.ireturn, 1) := by decide +kernel
theorem dJ7_fill_d0a16_0 : decode cJ7_fill_d0a16 0 = .ok (.iconst 0, 1) := by decide +kernel
theorem dJ7_fill_d0a16_1 : decode cJ7_fill_d0a16 1 = .ok (.istore_n 3, 1) := by decide +kernel
theorem dJ7_fill_d0a16_2 : decode cJ7_fill_d0a16 2 = .ok (.aload_n 0, 1) := by decide +kernel
theorem dJ7_fill_d0a16_3 : decode cJ7_fill_d0a16 3 = .ok (.arraylength, 1) := by decide +kernel
theorem dJ7_fill_d0a16_4 : decode cJ7_fill_d0a16 4 = .ok (.istore 4, 2) := by decide +kernel
theorem dJ7_fill_d0a16_6 : decode cJ7_fill_d0a16 6 = .ok (.iload_n 3, 1) := by decide +kernel
theorem dJ7_fill_d0a16_7 : decode cJ7_fill_d0a16 7 = .ok (.iload 4, 2) := by decide +kernel
theorem dJ7_fill_d0a16_9 : decode cJ7_fill_d0a16 9 = .ok (.if_icmp .ge 13, 3) := by decide +kernel
theorem dJ7_fill_d0a16_12 : decode cJ7_fill_d0a16 12 = .ok (.aload_n 0, 1) := by decide +kernel
theorem dJ7_fill_d0a16_13 : decode cJ7_fill_d0a16 13 = .ok (.iload_n 3, 1) := by decide +kernel
theorem dJ7_fill_d0a16_14 : decode cJ7_fill_d0a16 14 = .ok (.lload_n 1, 1) := by decide +kernel
theorem dJ7_fill_d0a16_15 : decode cJ7_fill_d0a16 15 = .ok (.lastore, 1) := by decide +kernel
theorem dJ7_fill_d0a16_16 : decode cJ7_fill_d0a16 16 = .ok (.iinc 3 1, 3) := by decide +kernel
theorem dJ7_fill_d0a16_19 : decode cJ7_fill_d0a16 19 = .ok (.goto (-13), 3) := by decide +kernel
theorem dJ7_fill_d0a16_22 : decode cJ7_fill_d0a16 22 = .ok (.return_, 1) := by decide +kernel
theorem dJ7_fill_53178_0 : decode cJ7_fill_53178 0 = .ok (.iconst 0, 1) := by decide +kernel
theorem dJ7_fill_53178_1 : decode cJ7_fill_53178 1 = .ok (.istore_n 2, 1) := by decide +kernel
theorem dJ7_fill_53178_2 : decode cJ7_fill_53178 2 = .ok (.aload_n 0, 1) := by decide +kernel
theorem dJ7_fill_53178_3 : decode cJ7_fill_53178 3 = .ok (.arraylength, 1) := by decide +kernel
theorem dJ7_fill_53178_4 : decode cJ7_fill_53178 4 = .ok (.istore_n 3, 1) := by decide +kernel
theorem dJ7_fill_53178_5 : decode cJ7_fill_53178 5 = .ok (.iload_n 2, 1) := by decide +kernel
theorem dJ7_fill_53178_6 : decode cJ7_fill_53178 6 = .ok (.iload_n 3, 1) := by decide +kernel
theorem dJ7_fill_53178_7 : decode cJ7_fill_53178 7 = .ok (.if_icmp .ge 13, 3) := by decide +kernel
theorem dJ7_fill_53178_10 : decode cJ7_fill_53178 10 = .ok (.aload_n 0, 1) := by decide +kernel
theorem dJ7_fill_53178_11 : decode cJ7_fill_53178 11 = .ok (.iload_n 2, 1) := by decide +kernel
theorem dJ7_fill_53178_12 : decode cJ7_fill_53178 12 = .ok (.iload_n 1, 1) := by decide +kernel
theorem dJ7_fill_53178_13 : decode cJ7_fill_53178 13 = .ok (.iastore, 1) := by decide +kernel
theorem dJ7_fill_53178_14 : decode cJ7_fill_53178 14 = .ok (.iinc 2 1, 3) := by decide +kernel
theorem dJ7_fill_53178_17 : decode cJ7_fill_53178 17 = .ok (.goto (-12), 3) := by decide +kernel
theorem dJ7_fill_53178_20 : decode cJ7_fill_53178 20 = .ok (.return_, 1) := by decide +kernel
