set_option maxRecDepth 20000 in
theorem gX8_tallyGroup_X7_clear : GoodIn wsX8_tallyGroup (wsV RX8 189 RX7 yX7_clear wsX7_clear) := goodIn_app (goodIn_of _ (by decide +kernel)) ggX8_tallyGroup_X7_clear
set_option maxRecDepth 20000 in
theorem ggX8_tallyGroup_X2_isThere : GoodIn wsX8_tallyGroup wsX2_isThere := goodIn_r _ [18, 19, 20, 21, 22, 17, 23, 24, 77, 78, 79, 80, 81] (by decide +kernel) (by decide +kernel)
set_option maxRecDepth 20000 in
theorem gX8_tallyGroup_X2_isThere : GoodIn wsX8_tallyGroup (wsV RX8 120 RX2 yX2_isThere wsX2_isThere) := goodIn_app (goodIn_of _ (by decide +kernel)) ggX8_tallyGroup_X2_isThere
set_option maxRecDepth 20000 in
theorem ggX8_tallyGroup_X2_cellOf : GoodIn wsX8_tallyGroup wsX2_cellOf := goodIn_r _ [28, 29, 20, 21, 22, 17, 23, 24, 77, 78, 79, 80, 81] (by decide +kernel) (by decide +kernel)
set_option maxRecDepth 20000 in
theorem gX8_tallyGroup_X2_cellOf : GoodIn wsX8_tallyGroup (wsV RX8 227 RX2 yX2_cellOf wsX2_cellOf) := goodIn_app (goodIn_of _ (by decide +kernel)) ggX8_tallyGroup_X2_cellOf
set_option maxRecDepth 20000 in
theorem ggX8_tallyGroup_X6_groupOf : GoodIn wsX8_tallyGroup wsX6_groupOf := goodIn_r _ [34, 35, 36, 37, 38, 33, 39, 40, 41, 42, 43, 44, 45, 46, 86, 87, 88, 89, 90, 91, 92, 93] (by decide +kernel) (by decide +kernel)
set_option maxRecDepth 20000 in
theorem gX8_tallyGroup_X6_groupOf : GoodIn wsX8_tallyGroup (wsV RX8 233 RX6 yX6_groupOf wsX6_groupOf) := goodIn_app (goodIn_of _ (by decide +kernel)) ggX8_tallyGroup_X6_groupOf
set_option maxRecDepth 20000 in
theorem ggX8_tallyGroup_X2_measureOf : GoodIn wsX8_tallyGroup wsX2_measureOf := goodIn_r _ [50, 51, 20, 21, 22, 17, 23, 24, 77, 78, 79, 80, 81] (by decide +kernel) (by decide +kernel)
set_option maxRecDepth 20000 in
theorem gX8_tallyGroup_X2_measureOf : GoodIn wsX8_tallyGroup (wsV RX8 195 RX2 yX2_measureOf wsX2_measureOf) := goodIn_app (goodIn_of _ (by decide +kernel)) ggX8_tallyGroup_X2_measureOf
set_option maxRecDepth 20000 in
theorem ggX8_tallyGroup_X7_add : GoodIn wsX8_tallyGroup wsX7_add := goodIn_r _ [55, 9, 56, 57, 58, 59, 60, 61, 62, 63, 64, 65, 66, 67, 7, 68, 82, 83, 84, 85] (by decide +kernel) (by decide +kernel)
set_option maxRecDepth 20000 in
theorem gX8_tallyGroup_X7_add : GoodIn wsX8_tallyGroup (wsV RX8 198 RX7 yX7_add wsX7_add) := goodIn_app (goodIn_of _ (by decide +kernel)) ggX8_tallyGroup_X7_add
theorem dX8_tallyGroup_0 : decode cX8_tallyGroup 0 = .ok (.aload_n 0, 1) := by decide +kernel
theorem dX8_tallyGroup_1 : decode cX8_tallyGroup 1 = .ok (.getfield 44, 3) := by decide +kernel
theorem dX8_tallyGroup_4 : decode cX8_tallyGroup 4 = .ok (.invokevirtual 189, 3) := by decide +kernel
theorem dX8_tallyGroup_7 : decode cX8_tallyGroup 7 = .ok (.iconst 0, 1) := by decide +kernel
theorem dX8_tallyGroup_8 : decode cX8_tallyGroup 8 = .ok (.istore_n 3, 1) := by decide +kernel
theorem dX8_tallyGroup_9 : decode cX8_tallyGroup 9 = .ok (.iload_n 3, 1) := by decide +kernel
theorem dX8_tallyGroup_10 : decode cX8_tallyGroup 10 = .ok (.aload_n 0, 1) := by decide +kernel
theorem dX8_tallyGroup_11 : decode cX8_tallyGroup 11 = .ok (.getfield 19, 3) := by decide +kernel
theorem dX8_tallyGroup_14 : decode cX8_tallyGroup 14 = .ok (.getfield 64, 3) := by decide +kernel
theorem dX8_tallyGroup_17 : decode cX8_tallyGroup 17 = .ok (.if_icmp .ge 56, 3) := by decide +kernel
theorem dX8_tallyGroup_20 : decode cX8_tallyGroup 20 = .ok (.aload_n 0, 1) := by decide +kernel
theorem dX8_tallyGroup_21 : decode cX8_tallyGroup 21 = .ok (.getfield 19, 3) := by decide +kernel
theorem dX8_tallyGroup_24 : decode cX8_tallyGroup 24 = .ok (.iload_n 3, 1) := by decide +kernel
theorem dX8_tallyGroup_25 : decode cX8_tallyGroup 25 = .ok (.invokevirtual 120, 3) := by decide +kernel
theorem dX8_tallyGroup_28 : decode cX8_tallyGroup 28 = .ok (.ifCond .eq 39, 3) := by decide +kernel
theorem dX8_tallyGroup_31 : decode cX8_tallyGroup 31 = .ok (.aload_n 0, 1) := by decide +kernel
theorem dX8_tallyGroup_32 : decode cX8_tallyGroup 32 = .ok (.getfield 12, 3) := by decide +kernel
theorem dX8_tallyGroup_35 : decode cX8_tallyGroup 35 = .ok (.aload_n 0, 1) := by decide +kernel
theorem dX8_tallyGroup_36 : decode cX8_tallyGroup 36 = .ok (.getfield 19, 3) := by decide +kernel
theorem dX8_tallyGroup_39 : decode cX8_tallyGroup 39 = .ok (.iload_n 3, 1) := by decide +kernel
theorem dX8_tallyGroup_40 : decode cX8_tallyGroup 40 = .ok (.invokevirtual 227, 3) := by decide +kernel
theorem dX8_tallyGroup_43 : decode cX8_tallyGroup 43 = .ok (.iload_n 1, 1) := by decide +kernel
theorem dX8_tallyGroup_44 : decode cX8_tallyGroup 44 = .ok (.invokevirtual 233, 3) := by decide +kernel
theorem dX8_tallyGroup_47 : decode cX8_tallyGroup 47 = .ok (.iload_n 2, 1) := by decide +kernel
theorem dX8_tallyGroup_48 : decode cX8_tallyGroup 48 = .ok (.if_icmp .ne 19, 3) := by decide +kernel
theorem dX8_tallyGroup_51 : decode cX8_tallyGroup 51 = .ok (.aload_n 0, 1) := by decide +kernel
theorem dX8_tallyGroup_52 : decode cX8_tallyGroup 52 = .ok (.getfield 44, 3) := by decide +kernel
theorem dX8_tallyGroup_55 : decode cX8_tallyGroup 55 = .ok (.iconst 0, 1) := by decide +kernel
theorem dX8_tallyGroup_56 : decode cX8_tallyGroup 56 = .ok (.aload_n 0, 1) := by decide +kernel
theorem dX8_tallyGroup_57 : decode cX8_tallyGroup 57 = .ok (.getfield 19, 3) := by decide +kernel
theorem dX8_tallyGroup_60 : decode cX8_tallyGroup 60 = .ok (.iload_n 3, 1) := by decide +kernel
theorem dX8_tallyGroup_61 : decode cX8_tallyGroup 61 = .ok (.invokevirtual 195, 3) := by decide +kernel
theorem dX8_tallyGroup_64 : decode cX8_tallyGroup 64 = .ok (.invokevirtual 198, 3) := by decide +kernel
theorem dX8_tallyGroup_67 : decode cX8_tallyGroup 67 = .ok (.iinc 3 1, 3) := by decide +kernel
theorem dX8_tallyGroup_70 : decode cX8_tallyGroup 70 = .ok (.goto (-61), 3) := by decide +kernel
theorem dX8_tallyGroup_73 : decode cX8_tallyGroup 73 = .ok (.return_, 1) := by decide +kernel
set_option maxRecDepth 20000 in
theorem ggX8_tallyTable_X7_clear : GoodIn wsX8_tallyTable wsX7_clear := goodIn_r _ [7, 8, 9, 10, 11, 12, 116, 117, 118, 119] (by decide +kernel) (by decide +kernel)
set_option maxRecDepth 20000 in
theorem gX8_tallyTable_X7_clear : GoodIn wsX8_tallyTable (wsV RX8 189 RX7 yX7_clear wsX7_clear) := goodIn_app (goodIn_of _ (by decide +kernel)) ggX8_tallyTable_X7_clear
set_option maxRecDepth 20000 in
theorem ggX8_tallyTable_X8_isInSight : GoodIn wsX8_tallyTable wsX8_isInSight := goodIn_r _ [17, 2, 18, 19, 20, 21, 22, 23, 24, 25, 26, 27, 28, 29, 30, 31, 32, 33, 34, 35, 36, 37, 38, 39, 40, 41, 42, 43, 44, 45, 46, 47, 48, 49, 50, 51, 52, 53, 54, 55, 56, 57, 58, 59, 60, 103, 104, 105, 106, 107, 108, 109, 110, 111, 112, 113, 114, 115, 120, 121, 122, 123, 124, 125, 126, 127] (by decide +kernel) (by decide +kernel)
set_option maxRecDepth 20000 in
theorem gX8_tallyTable_X8_isInSight : GoodIn wsX8_tallyTable (wsV RX8 192 RX8 yX8_isInSight wsX8_isInSight) := goodIn_app (goodIn_of _ (by decide +kernel)) ggX8_tallyTable_X8_isInSight
set_option maxRecDepth 20000 in
theorem ggX8_tallyTable_X8_homeOnSide : GoodIn wsX8_tallyTable wsX8_homeOnSide := goodIn_r _ [64, 18, 2, 30, 31, 32, 22, 33, 34, 25, 26, 27, 28, 29, 65, 66, 67, 38, 68, 69, 70, 71, 72, 40, 41, 42, 43, 44, 45, 73, 54, 55, 49, 56, 57, 58, 59, 60, 103, 104, 105, 106, 107, 108, 109, 110, 111, 112, 113, 114, 115, 120, 121, 122, 123, 124, 125, 126, 127] (by decide +kernel) (by decide +kernel)
set_option maxRecDepth 20000 in
theorem gX8_tallyTable_X8_homeOnSide : GoodIn wsX8_tallyTable (wsV RX8 236 RX8 yX8_homeOnSide wsX8_homeOnSide) := goodIn_app (goodIn_of _ (by decide +kernel)) ggX8_tallyTable_X8_homeOnSide
set_option maxRecDepth 20000 in
theorem ggX8_tallyTable_X2_measureOf : GoodIn wsX8_tallyTable wsX2_measureOf := goodIn_r _ [77, 78, 25, 26, 27, 22, 28, 29, 111, 112, 113, 114, 115] (by decide +kernel) (by decide +kernel)
set_option maxRecDepth 20000 in
theorem gX8_tallyTable_X2_measureOf : GoodIn wsX8_tallyTable (wsV RX8 195 RX2 yX2_measureOf wsX2_measureOf) := goodIn_app (goodIn_of _ (by decide +kernel)) ggX8_tallyTable_X2_measureOf
set_option maxRecDepth 20000 in
theorem ggX8_tallyTable_X7_addToCross : GoodIn wsX8_tallyTable wsX7_addToCross := goodIn_r _ [82, 83, 84, 6, 85, 86, 87, 88, 89, 8, 90, 91, 92, 93, 94, 95, 96, 97, 98, 99, 100, 101, 102, 116, 117, 118, 119] (by decide +kernel) (by decide +kernel)
set_option maxRecDepth 20000 in
theorem gX8_tallyTable_X7_addToCross : GoodIn wsX8_tallyTable (wsV RX8 239 RX7 yX7_addToCross wsX7_addToCross) := goodIn_app (goodIn_of _ (by decide +kernel)) ggX8_tallyTable_X7_addToCross
theorem dX8_tallyTable_0 : decode cX8_tallyTable 0 = .ok (.aload_n 0, 1) := by decide +kernel
theorem dX8_tallyTable_1 : decode cX8_tallyTable 1 = .ok (.getfield 44, 3) := by decide +kernel
theorem dX8_tallyTable_4 : decode cX8_tallyTable 4 = .ok (.invokevirtual 189, 3) := by decide +kernel
theorem dX8_tallyTable_7 : decode cX8_tallyTable 7 = .ok (.iconst 0, 1) := by decide +kernel
theorem dX8_tallyTable_8 : decode cX8_tallyTable 8 = .ok (.istore_n 3, 1) := by decide +kernel
theorem dX8_tallyTable_9 : decode cX8_tallyTable 9 = .ok (.iload_n 3, 1) := by decide +kernel
theorem dX8_tallyTable_10 : decode cX8_tallyTable 10 = .ok (.aload_n 0, 1) := by decide +kernel
theorem dX8_tallyTable_11 : decode cX8_tallyTable 11 = .ok (.getfield 19, 3) := by decide +kernel
theorem dX8_tallyTable_14 : decode cX8_tallyTable 14 = .ok (.getfield 64, 3) := by decide +kernel
theorem dX8_tallyTable_17 : decode cX8_tallyTable 17 = .ok (.if_icmp .ge 52, 3) := by decide +kernel
theorem dX8_tallyTable_20 : decode cX8_tallyTable 20 = .ok (.aload_n 0, 1) := by decide +kernel
theorem dX8_tallyTable_21 : decode cX8_tallyTable 21 = .ok (.iload_n 3, 1) := by decide +kernel
theorem dX8_tallyTable_22 : decode cX8_tallyTable 22 = .ok (.invokevirtual 192, 3) := by decide +kernel
theorem dX8_tallyTable_25 : decode cX8_tallyTable 25 = .ok (.ifCond .eq 38, 3) := by decide +kernel
theorem dX8_tallyTable_28 : decode cX8_tallyTable 28 = .ok (.aload_n 0, 1) := by decide +kernel
theorem dX8_tallyTable_29 : decode cX8_tallyTable 29 = .ok (.iload_n 3, 1) := by decide +kernel
theorem dX8_tallyTable_30 : decode cX8_tallyTable 30 = .ok (.iload_n 1, 1) := by decide +kernel
theorem dX8_tallyTable_31 : decode cX8_tallyTable 31 = .ok (.invokevirtual 236, 3) := by decide +kernel
theorem dX8_tallyTable_34 : decode cX8_tallyTable 34 = .ok (.istore 4, 2) := by decide +kernel
theorem dX8_tallyTable_36 : decode cX8_tallyTable 36 = .ok (.aload_n 0, 1) := by decide +kernel
theorem dX8_tallyTable_37 : decode cX8_tallyTable 37 = .ok (.iload_n 3, 1) := by decide +kernel
theorem dX8_tallyTable_38 : decode cX8_tallyTable 38 = .ok (.iload_n 2, 1) := by decide +kernel
theorem dX8_tallyTable_39 : decode cX8_tallyTable 39 = .ok (.invokevirtual 236, 3) := by decide +kernel
theorem dX8_tallyTable_42 : decode cX8_tallyTable 42 = .ok (.istore 5, 2) := by decide +kernel
theorem dX8_tallyTable_44 : decode cX8_tallyTable 44 = .ok (.aload_n 0, 1) := by decide +kernel
theorem dX8_tallyTable_45 : decode cX8_tallyTable 45 = .ok (.getfield 44, 3) := by decide +kernel
theorem dX8_tallyTable_48 : decode cX8_tallyTable 48 = .ok (.iload 4, 2) := by decide +kernel
theorem dX8_tallyTable_50 : decode cX8_tallyTable 50 = .ok (.iload 5, 2) := by decide +kernel
theorem dX8_tallyTable_52 : decode cX8_tallyTable 52 = .ok (.aload_n 0, 1) := by decide +kernel
theorem dX8_tallyTable_53 : decode cX8_tallyTable 53 = .ok (.getfield 19, 3) := by decide +kernel
theorem dX8_tallyTable_56 : decode cX8_tallyTable 56 = .ok (.iload_n 3, 1) := by decide +kernel
theorem dX8_tallyTable_57 : decode cX8_tallyTable 57 = .ok (.invokevirtual 195, 3) := by decide +kernel
theorem dX8_tallyTable_60 : decode cX8_tallyTable 60 = .ok (.invokevirtual 239, 3) := by decide +kernel
theorem dX8_tallyTable_63 : decode cX8_tallyTable 63 = .ok (.iinc 3 1, 3) := by decide +kernel
theorem dX8_tallyTable_66 : decode cX8_tallyTable 66 = .ok (.goto (-57), 3) := by decide +kernel
theorem dX8_tallyTable_69 : decode cX8_tallyTable 69 = .ok (.return_, 1) := by decide +kernel
set_option maxRecDepth 20000 in
theorem ggX8_homeOnSide_X2_cellOf : GoodIn wsX8_homeOnSide wsX2_cellOf := goodIn_r _ [7, 8, 9, 10, 11, 6, 12, 13, 46, 47, 48, 49, 50] (by decide +kernel) (by decide +kernel)
set_option maxRecDepth 20000 in
theorem gX8_homeOnSide_X2_cellOf : GoodIn wsX8_homeOnSide (wsV RX8 227 RX2 yX2_cellOf wsX2_cellOf) := goodIn_app (goodIn_of _ (by decide +kernel)) ggX8_homeOnSide_X2_cellOf
set_option maxRecDepth 20000 in
theorem ggX8_homeOnSide_X6_homeIn : GoodIn wsX8_homeOnSide wsX6_homeIn := goodIn_r _ [18, 19, 20, 21, 17, 22, 23, 24, 25, 26, 27, 28, 29, 30, 31, 32, 33, 34, 35, 36, 37, 51, 52, 53, 54, 55, 56, 57, 58] (by decide +kernel) (by decide +kernel)
set_option maxRecDepth 20000 in
theorem gX8_homeOnSide_X6_homeIn : GoodIn wsX8_homeOnSide (wsV RX8 242 RX6 yX6_homeIn wsX6_homeIn) := goodIn_app (goodIn_of _ (by decide +kernel)) ggX8_homeOnSide_X6_homeIn
theorem dX8_homeOnSide_0 : decode cX8_homeOnSide 0 = .ok (.aload_n 0, 1) := by decide +kernel
theorem dX8_homeOnSide_1 : decode cX8_homeOnSide 1 = .ok (.getfield 12, 3) := by decide +kernel
theorem dX8_homeOnSide_4 : decode cX8_homeOnSide 4 = .ok (.aload_n 0, 1) := by decide +kernel
theorem dX8_homeOnSide_5 : decode cX8_homeOnSide 5 = .ok (.getfield 19, 3) := by decide +kernel
theorem dX8_homeOnSide_8 : decode cX8_homeOnSide 8 = .ok (.iload_n 1, 1) := by decide +kernel
theorem dX8_homeOnSide_9 : decode cX8_homeOnSide 9 = .ok (.invokevirtual 227, 3) := by decide +kernel
theorem dX8_homeOnSide_12 : decode cX8_homeOnSide 12 = .ok (.iload_n 2, 1) := by decide +kernel
theorem dX8_homeOnSide_13 : decode cX8_homeOnSide 13 = .ok (.bipush 10, 2) := by decide +kernel
theorem dX8_homeOnSide_15 : decode cX8_homeOnSide 15 = .ok (.idiv, 1) := by decide +kernel
theorem dX8_homeOnSide_16 : decode cX8_homeOnSide 16 = .ok (.iload_n 2, 1) := by decide +kernel
theorem dX8_homeOnSide_17 : decode cX8_homeOnSide 17 = .ok (.bipush 10, 2) := by decide +kernel
theorem dX8_homeOnSide_19 : decode cX8_homeOnSide 19 = .ok (.irem, 1) := by decide +kernel
theorem dX8_homeOnSide_20 : decode cX8_homeOnSide 20 = .ok (.invokevirtual 242, 3) := by decide +kernel
theorem dX8_homeOnSide_23 : decode cX8_homeOnSide 23 = .ok (.ireturn, 1) := by decide +kernel
set_option maxRecDepth 20000 in
theorem ggX8_writeTable_X5_clear : GoodIn wsX8_writeTable wsX5_clear := goodIn_r _ [6, 7, 56, 57] (by decide +kernel) (by decide +kernel)
set_option maxRecDepth 20000 in
theorem gX8_writeTable_X5_clear : GoodIn wsX8_writeTable (wsV RX8 245 RX5 yX5_clear wsX5_clear) := goodIn_app (goodIn_of _ (by decide +kernel)) ggX8_writeTable_X5_clear
set_option maxRecDepth 20000 in
theorem ggX8_writeTable_X7_placeOf : GoodIn wsX8_writeTable wsX7_placeOf := goodIn_r _ [11] (by decide +kernel) (by decide +kernel)
set_option maxRecDepth 20000 in
theorem gX8_writeTable_X7_placeOf : GoodIn wsX8_writeTable (va_wsS RX8 246 yX7_placeOf wsX7_placeOf) := goodIn_app (goodIn_of _ (by decide +kernel)) ggX8_writeTable_X7_placeOf
set_option maxRecDepth 20000 in
theorem ggX8_writeTable_X8_writeCell : GoodIn wsX8_writeTable wsX8_writeCell := goodIn_r _ [16, 17, 1, 18, 19, 20, 10, 21, 22, 23, 24, 25, 26, 27, 28, 5, 29, 7, 30, 31, 32, 33, 34, 35, 36, 37, 38, 39, 40, 41, 42, 43, 44, 45, 46, 47, 48, 49, 50, 51, 52, 53, 54, 55, 58, 59, 60, 61, 56, 57] (by decide +kernel) (by decide +kernel)
set_option maxRecDepth 20000 in
theorem gX8_writeTable_X8_writeCell : GoodIn wsX8_writeTable (wsV RX8 249 RX8 yX8_writeCell wsX8_writeCell) := goodIn_app (goodIn_of _ (by decide +kernel)) ggX8_writeTable_X8_writeCell
set_option maxRecDepth 20000 in
theorem ggX8_writeTable_X5_put : GoodIn wsX8_writeTable wsX5_put := goodIn_r _ [29, 7, 30, 56, 57] (by decide +kernel) (by decide +kernel)
set_option maxRecDepth 20000 in
theorem gX8_writeTable_X5_put : GoodIn wsX8_writeTable (wsV RX8 252 RX5 yX5_put wsX5_put) := goodIn_app (goodIn_of _ (by decide +kernel)) ggX8_writeTable_X5_put
theorem dX8_writeTable_0 : decode cX8_writeTable 0 = .ok (.aload_n 0, 1) := by decide +kernel
theorem dX8_writeTable_1 : decode cX8_writeTable 1 = .ok (.getfield 51, 3) := by decide +kernel
theorem dX8_writeTable_4 : decode cX8_writeTable 4 = .ok (.invokevirtual 245, 3) := by decide +kernel
theorem dX8_writeTable_7 : decode cX8_writeTable 7 = .ok (.iconst 0, 1) := by decide +kernel
theorem dX8_writeTable_8 : decode cX8_writeTable 8 = .ok (.istore 4, 2) := by decide +kernel
theorem dX8_writeTable_10 : decode cX8_writeTable 10 = .ok (.iload 4, 2) := by decide +kernel
theorem dX8_writeTable_12 : decode cX8_writeTable 12 = .ok (.iload_n 1, 1) := by decide +kernel
theorem dX8_writeTable_13 : decode cX8_writeTable 13 = .ok (.if_icmp .gt 81, 3) := by decide +kernel
theorem dX8_writeTable_16 : decode cX8_writeTable 16 = .ok (.iload 4, 2) := by decide +kernel
theorem dX8_writeTable_18 : decode cX8_writeTable 18 = .ok (.iload_n 1, 1) := by decide +kernel
theorem dX8_writeTable_19 : decode cX8_writeTable 19 = .ok (.if_icmp .ge 8, 3) := by decide +kernel
theorem dX8_writeTable_22 : decode cX8_writeTable 22 = .ok (.iload 4, 2) := by decide +kernel
theorem dX8_writeTable_24 : decode cX8_writeTable 24 = .ok (.goto 5, 3) := by decide +kernel
theorem dX8_writeTable_27 : decode cX8_writeTable 27 = .ok (.bipush 8, 2) := by decide +kernel
theorem dX8_writeTable_29 : decode cX8_writeTable 29 = .ok (.istore 5, 2) := by decide +kernel
theorem dX8_writeTable_31 : decode cX8_writeTable 31 = .ok (.iconst 0, 1) := by decide +kernel
theorem dX8_writeTable_32 : decode cX8_writeTable 32 = .ok (.istore 6, 2) := by decide +kernel
theorem dX8_writeTable_34 : decode cX8_writeTable 34 = .ok (.iload 6, 2) := by decide +kernel
theorem dX8_writeTable_36 : decode cX8_writeTable 36 = .ok (.iload_n 2, 1) := by decide +kernel
theorem dX8_writeTable_37 : decode cX8_writeTable 37 = .ok (.if_icmp .ge 30, 3) := by decide +kernel
theorem dX8_writeTable_40 : decode cX8_writeTable 40 = .ok (.aload_n 0, 1) := by decide +kernel
theorem dX8_writeTable_41 : decode cX8_writeTable 41 = .ok (.iload 5, 2) := by decide +kernel
theorem dX8_writeTable_43 : decode cX8_writeTable 43 = .ok (.iload 6, 2) := by decide +kernel
theorem dX8_writeTable_45 : decode cX8_writeTable 45 = .ok (.invokestatic 246, 3) := by decide +kernel
theorem dX8_writeTable_48 : decode cX8_writeTable 48 = .ok (.iload_n 3, 1) := by decide +kernel
theorem dX8_writeTable_49 : decode cX8_writeTable 49 = .ok (.invokevirtual 249, 3) := by decide +kernel
theorem dX8_writeTable_52 : decode cX8_writeTable 52 = .ok (.aload_n 0, 1) := by decide +kernel
theorem dX8_writeTable_53 : decode cX8_writeTable 53 = .ok (.getfield 51, 3) := by decide +kernel
theorem dX8_writeTable_56 : decode cX8_writeTable 56 = .ok (.bipush 32, 2) := by decide +kernel
theorem dX8_writeTable_58 : decode cX8_writeTable 58 = .ok (.invokevirtual 252, 3) := by decide +kernel
theorem dX8_writeTable_61 : decode cX8_writeTable 61 = .ok (.iinc 6 1, 3) := by decide +kernel
theorem dX8_writeTable_64 : decode cX8_writeTable 64 = .ok (.goto (-30), 3) := by decide +kernel
theorem dX8_writeTable_67 : decode cX8_writeTable 67 = .ok (.aload_n 0, 1) := by decide +kernel
theorem dX8_writeTable_68 : decode cX8_writeTable 68 = .ok (.iload 5, 2) := by decide +kernel
theorem dX8_writeTable_70 : decode cX8_writeTable 70 = .ok (.bipush 8, 2) := by decide +kernel
theorem dX8_writeTable_72 : decode cX8_writeTable 72 = .ok (.invokestatic 246, 3) := by decide +kernel
theorem dX8_writeTable_75 : decode cX8_writeTable 75 = .ok (.iload_n 3, 1) := by decide +kernel
theorem dX8_writeTable_76 : decode cX8_writeTable 76 = .ok (.invokevirtual 249, 3) := by decide +kernel
theorem dX8_writeTable_79 : decode cX8_writeTable 79 = .ok (.aload_n 0, 1) := by decide +kernel
theorem dX8_writeTable_80 : decode cX8_writeTable 80 = .ok (.getfield 51, 3) := by decide +kernel
theorem dX8_writeTable_83 : decode cX8_writeTable 83 = .ok (.bipush 10, 2) := by decide +kernel
theorem dX8_writeTable_85 : decode cX8_writeTable 85 = .ok (.invokevirtual 252, 3) := by decide +kernel
theorem dX8_writeTable_88 : decode cX8_writeTable 88 = .ok (.iinc 4 1, 3) := by decide +kernel
theorem dX8_writeTable_91 : decode cX8_writeTable 91 = .ok (.goto (-81), 3) := by decide +kernel
theorem dX8_writeTable_94 : decode cX8_writeTable 94 = .ok (.return_, 1) := by decide +kernel
set_option maxRecDepth 20000 in
theorem ggX8_writeCell_X7_isEmpty : GoodIn wsX8_writeCell wsX7_isEmpty := goodIn_r _ [7, 8, 9, 10, 6, 11, 44, 45, 46, 47] (by decide +kernel) (by decide +kernel)
set_option maxRecDepth 20000 in
theorem gX8_writeCell_X7_isEmpty : GoodIn wsX8_writeCell (wsV RX8 173 RX7 yX7_isEmpty wsX7_isEmpty) := goodIn_app (goodIn_of _ (by decide +kernel)) ggX8_writeCell_X7_isEmpty
set_option maxRecDepth 20000 in
theorem ggX8_writeCell_X5_put : GoodIn wsX8_writeCell wsX5_put := goodIn_r _ [16, 17, 18, 48, 49] (by decide +kernel) (by decide +kernel)
set_option maxRecDepth 20000 in
theorem gX8_writeCell_X5_put : GoodIn wsX8_writeCell (wsV RX8 252 RX5 yX5_put wsX5_put) := goodIn_app (goodIn_of _ (by decide +kernel)) ggX8_writeCell_X5_put
set_option maxRecDepth 20000 in
theorem ggX8_writeCell_X7_valueOf : GoodIn wsX8_writeCell wsX7_valueOf := goodIn_r _ [22, 8, 23, 24, 25, 9, 10, 6, 11, 44, 45, 46, 47] (by decide +kernel) (by decide +kernel)
set_option maxRecDepth 20000 in
theorem gX8_writeCell_X7_valueOf : GoodIn wsX8_writeCell (wsV RX8 177 RX7 yX7_valueOf wsX7_valueOf) := goodIn_app (goodIn_of _ (by decide +kernel)) ggX8_writeCell_X7_valueOf
set_option maxRecDepth 20000 in
theorem ggX8_writeCell_X5_putNumber : GoodIn wsX8_writeCell wsX5_putNumber := goodIn_r _ [29, 30, 31, 32, 33, 34, 35, 13, 14, 15, 16, 17, 18, 48, 49] (by decide +kernel) (by decide +kernel)
set_option maxRecDepth 20000 in
theorem gX8_writeCell_X5_putNumber : GoodIn wsX8_writeCell (wsV RX8 256 RX5 yX5_putNumber wsX5_putNumber) := goodIn_app (goodIn_of _ (by decide +kernel)) ggX8_writeCell_X5_putNumber
theorem dX8_writeCell_0 : decode cX8_writeCell 0 = .ok (.aload_n 0, 1) := by decide +kernel
theorem dX8_writeCell_1 : decode cX8_writeCell 1 = .ok (.getfield 44, 3) := by decide +kernel
theorem dX8_writeCell_4 : decode cX8_writeCell 4 = .ok (.iload_n 1, 1) := by decide +kernel
theorem dX8_writeCell_5 : decode cX8_writeCell 5 = .ok (.invokevirtual 173, 3) := by decide +kernel
theorem dX8_writeCell_8 : decode cX8_writeCell 8 = .ok (.ifCond .eq 15, 3) := by decide +kernel
theorem dX8_writeCell_11 : decode cX8_writeCell 11 = .ok (.aload_n 0, 1) := by decide +kernel
theorem dX8_writeCell_12 : decode cX8_writeCell 12 = .ok (.getfield 51, 3) := by decide +kernel
theorem dX8_writeCell_15 : decode cX8_writeCell 15 = .ok (.bipush 46, 2) := by decide +kernel
theorem dX8_writeCell_17 : decode cX8_writeCell 17 = .ok (.invokevirtual 252, 3) := by decide +kernel
theorem dX8_writeCell_20 : decode cX8_writeCell 20 = .ok (.goto 19, 3) := by decide +kernel
theorem dX8_writeCell_23 : decode cX8_writeCell 23 = .ok (.aload_n 0, 1) := by decide +kernel
theorem dX8_writeCell_24 : decode cX8_writeCell 24 = .ok (.getfield 51, 3) := by decide +kernel
theorem dX8_writeCell_27 : decode cX8_writeCell 27 = .ok (.aload_n 0, 1) := by decide +kernel
theorem dX8_writeCell_28 : decode cX8_writeCell 28 = .ok (.getfield 44, 3) := by decide +kernel
theorem dX8_writeCell_31 : decode cX8_writeCell 31 = .ok (.iload_n 1, 1) := by decide +kernel
theorem dX8_writeCell_32 : decode cX8_writeCell 32 = .ok (.iload_n 2, 1) := by decide +kernel
theorem dX8_writeCell_33 : decode cX8_writeCell 33 = .ok (.invokevirtual 177, 3) := by decide +kernel
theorem dX8_writeCell_36 : decode cX8_writeCell 36 = .ok (.invokevirtual 256, 3) := by decide +kernel
theorem dX8_writeCell_39 : decode cX8_writeCell 39 = .ok (.return_, 1) := by decide +kernel
theorem dX9_init_0 : decode cX9_init 0 = .ok (.aload_n 0, 1) := by decide +kernel
theorem dX9_init_1 : decode cX9_init 1 = .ok (.invokespecial 1, 3) := by decide +kernel
theorem dX9_init_4 : decode cX9_init 4 = .ok (.aload_n 0, 1) := by decide +kernel
theorem dX9_init_5 : decode cX9_init 5 = .ok (.iconst 4, 1) := by decide +kernel
theorem dX9_init_6 : decode cX9_init 6 = .ok (.newarray .int, 2) := by decide +kernel
theorem dX9_init_8 : decode cX9_init 8 = .ok (.putfield 7, 3) := by decide +kernel
theorem dX9_init_11 : decode cX9_init 11 = .ok (.aload_n 0, 1) := by decide +kernel
theorem dX9_init_12 : decode cX9_init 12 = .ok (.bipush 12, 2) := by decide +kernel
theorem dX9_init_14 : decode cX9_init 14 = .ok (.newarray .int, 2) := by decide +kernel
theorem dX9_init_16 : decode cX9_init 16 = .ok (.putfield 13, 3) := by decide +kernel
theorem dX9_init_19 : decode cX9_init 19 = .ok (.aload_n 0, 1) := by decide +kernel
theorem dX9_init_20 : decode cX9_init 20 = .ok (.bipush 96, 2) := by decide +kernel
theorem dX9_init_22 : decode cX9_init 22 = .ok (.newarray .int, 2) := by decide +kernel
theorem dX9_init_24 : decode cX9_init 24 = .ok (.putfield 16, 3) := by decide +kernel
theorem dX9_init_27 : decode cX9_init 27 = .ok (.aload_n 0, 1) := by decide +kernel
theorem dX9_init_28 : decode cX9_init 28 = .ok (.sipush 1200, 3) := by decide +kernel
theorem dX9_init_31 : decode cX9_init 31 = .ok (.newarray .int, 2) := by decide +kernel
theorem dX9_init_33 : decode cX9_init 33 = .ok (.putfield 19, 3) := by decide +kernel
theorem dX9_init_36 : decode cX9_init 36 = .ok (.aload_n 0, 1) := by decide +kernel
theorem dX9_init_37 : decode cX9_init 37 = .ok (.sipush 300, 3) := by decide +kernel
theorem dX9_init_40 : decode cX9_init 40 = .ok (.newarray .int, 2) := by decide +kernel
theorem dX9_init_42 : decode cX9_init 42 = .ok (.putfield 22, 3) := by decide +kernel
theorem dX9_init_45 : decode cX9_init 45 = .ok (.aload_n 0, 1) := by decide +kernel
theorem dX9_init_46 : decode cX9_init 46 = .ok (.sipush 300, 3) := by decide +kernel
theorem dX9_init_49 : decode cX9_init 49 = .ok (.newarray .boolean, 2) := by decide +kernel
theorem dX9_init_51 : decode cX9_init 51 = .ok (.putfield 25, 3) := by decide +kernel
theorem dX9_init_54 : decode cX9_init 54 = .ok (.aload_n 0, 1) := by decide +kernel
theorem dX9_init_55 : decode cX9_init 55 = .ok (.iconst 4, 1) := by decide +kernel
theorem dX9_init_56 : decode cX9_init 56 = .ok (.newarray .int, 2) := by decide +kernel
theorem dX9_init_58 : decode cX9_init 58 = .ok (.putfield 29, 3) := by decide +kernel
theorem dX9_init_61 : decode cX9_init 61 = .ok (.aload_n 0, 1) := by decide +kernel
theorem dX9_init_62 : decode cX9_init 62 = .ok (.iconst 4, 1) := by decide +kernel
theorem dX9_init_63 : decode cX9_init 63 = .ok (.newarray .int, 2) := by decide +kernel
theorem dX9_init_65 : decode cX9_init 65 = .ok (.putfield 32, 3) := by decide +kernel
theorem dX9_init_68 : decode cX9_init 68 = .ok (.aload_n 0, 1) := by decide +kernel
theorem dX9_init_69 : decode cX9_init 69 = .ok (.iconst 4, 1) := by decide +kernel
theorem dX9_init_70 : decode cX9_init 70 = .ok (.newarray .int, 2) := by decide +kernel
theorem dX9_init_72 : decode cX9_init 72 = .ok (.putfield 35, 3) := by decide +kernel
theorem dX9_init_75 : decode cX9_init 75 = .ok (.aload_n 0, 1) := by decide +kernel
theorem dX9_init_76 : decode cX9_init 76 = .ok (.sipush 256, 3) := by decide +kernel
theorem dX9_init_79 : decode cX9_init 79 = .ok (.newarray .boolean, 2) := by decide +kernel
theorem dX9_init_81 : decode cX9_init 81 = .ok (.putfield 38, 3) := by decide +kernel
theorem dX9_init_84 : decode cX9_init 84 = .ok (.aload_n 0, 1) := by decide +kernel
theorem dX9_init_85 : decode cX9_init 85 = .ok (.sipush 2000, 3) := by decide +kernel
theorem dX9_init_88 : decode cX9_init 88 = .ok (.newarray .int, 2) := by decide +kernel
theorem dX9_init_90 : decode cX9_init 90 = .ok (.putfield 41, 3) := by decide +kernel
theorem dX9_init_93 : decode cX9_init 93 = .ok (.aload_n 0, 1) := by decide +kernel
theorem dX9_init_94 : decode cX9_init 94 = .ok (.sipush 10000, 3) := by decide +kernel
theorem dX9_init_97 : decode cX9_init 97 = .ok (.newarray .boolean, 2) := by decide +kernel
theorem dX9_init_99 : decode cX9_init 99 = .ok (.putfield 44, 3) := by decide +kernel
theorem dX9_init_102 : decode cX9_init 102 = .ok (.aload_n 0, 1) := by decide +kernel
theorem dX9_init_103 : decode cX9_init 103 = .ok (.iconst 4, 1) := by decide +kernel
theorem dX9_init_104 : decode cX9_init 104 = .ok (.newarray .int, 2) := by decide +kernel
theorem dX9_init_106 : decode cX9_init 106 = .ok (.putfield 47, 3) := by decide +kernel
theorem dX9_init_109 : decode cX9_init 109 = .ok (.aload_n 0, 1) := by decide +kernel
theorem dX9_init_110 : decode cX9_init 110 = .ok (.sipush 256, 3) := by decide +kernel
theorem dX9_init_113 : decode cX9_init 113 = .ok (.newarray .int, 2) := by decide +kernel
theorem dX9_init_115 : decode cX9_init 115 = .ok (.putfield 50, 3) := by decide +kernel
theorem dX9_init_118 : decode cX9_init 118 = .ok (.aload_n 0, 1) := by decide +kernel
theorem dX9_init_119 : decode cX9_init 119 = .ok (.ldc 53, 2) := by decide +kernel
theorem dX9_init_121 : decode cX9_init 121 = .ok (.newarray .boolean, 2) := by decide +kernel
theorem dX9_init_123 : decode cX9_init 123 = .ok (.putfield 54, 3) := by decide +kernel
theorem dX9_init_126 : decode cX9_init 126 = .ok (.aload_n 0, 1) := by decide +kernel
theorem dX9_init_127 : decode cX9_init 127 = .ok (.sipush 256, 3) := by decide +kernel
theorem dX9_init_130 : decode cX9_init 130 = .ok (.newarray .int, 2) := by decide +kernel
theorem dX9_init_132 : decode cX9_init 132 = .ok (.putfield 57, 3) := by decide +kernel
theorem dX9_init_135 : decode cX9_init 135 = .ok (.aload_n 0, 1) := by decide +kernel
theorem dX9_init_136 : decode cX9_init 136 = .ok (.getfield 38, 3) := by decide +kernel
theorem dX9_init_139 : decode cX9_init 139 = .ok (.iconst 0, 1) := by decide +kernel
theorem dX9_init_140 : decode cX9_init 140 = .ok (.iconst 1, 1) := by decide +kernel
theorem dX9_init_141 : decode cX9_init 141 = .ok (.bastore, 1) := by decide +kernel
theorem dX9_init_142 : decode cX9_init 142 = .ok (.return_, 1) := by decide +kernel
theorem dX9_in_0 : decode cX9_in 0 = .ok (.iload_n 0, 1) := by decide +kernel
theorem dX9_in_1 : decode cX9_in 1 = .ok (.iload_n 1, 1) := by decide +kernel
theorem dX9_in_2 : decode cX9_in 2 = .ok (.if_icmp .lt 12, 3) := by decide +kernel
theorem dX9_in_5 : decode cX9_in 5 = .ok (.iload_n 0, 1) := by decide +kernel
theorem dX9_in_6 : decode cX9_in 6 = .ok (.iload_n 2, 1) := by decide +kernel
theorem dX9_in_7 : decode cX9_in 7 = .ok (.if_icmp .gt 7, 3) := by decide +kernel
theorem dX9_in_10 : decode cX9_in 10 = .ok (.iconst 1, 1) := by decide +kernel
theorem dX9_in_11 : decode cX9_in 11 = .ok (.goto 4, 3) := by decide +kernel
theorem dX9_in_14 : decode cX9_in 14 = .ok (.iconst 0, 1) := by decide +kernel
theorem dX9_in_15 : decode cX9_in 15 = .ok (.ireturn, 1) := by decide +kernel
set_option maxRecDepth 20000 in
theorem ggX9_isDimension_X9_in : GoodIn wsX9_isDimension wsX9_in := goodIn_r _ [5] (by decide +kernel) (by decide +kernel)
set_option maxRecDepth 20000 in
theorem gX9_isDimension_X9_in : GoodIn wsX9_isDimension (va_wsS RX9 67 yX9_in wsX9_in) := goodIn_app (goodIn_of _ (by decide +kernel)) ggX9_isDimension_X9_in
theorem dX9_isDimension_0 : decode cX9_isDimension 0 = .ok (.iload_n 1, 1) := by decide +kernel
theorem dX9_isDimension_1 : decode cX9_isDimension 1 = .ok (.iconst 0, 1) := by decide +kernel
theorem dX9_isDimension_2 : decode cX9_isDimension 2 = .ok (.aload_n 0, 1) := by decide +kernel
theorem dX9_isDimension_3 : decode cX9_isDimension 3 = .ok (.getfield 64, 3) := by decide +kernel
theorem dX9_isDimension_6 : decode cX9_isDimension 6 = .ok (.iconst 1, 1) := by decide +kernel
theorem dX9_isDimension_7 : decode cX9_isDimension 7 = .ok (.isub, 1) := by decide +kernel
theorem dX9_isDimension_8 : decode cX9_isDimension 8 = .ok (.invokestatic 67, 3) := by decide +kernel
theorem dX9_isDimension_11 : decode cX9_isDimension 11 = .ok (.ireturn, 1) := by decide +kernel
theorem dX9_thereMany_0 : decode cX9_thereMany 0 = .ok (.iconst 0, 1) := by decide +kernel
theorem dX9_thereMany_1 : decode cX9_thereMany 1 = .ok (.istore_n 1, 1) := by decide +kernel
theorem dX9_thereMany_2 : decode cX9_thereMany 2 = .ok (.iconst 0, 1) := by decide +kernel
theorem dX9_thereMany_3 : decode cX9_thereMany 3 = .ok (.istore_n 2, 1) := by decide +kernel
theorem dX9_thereMany_4 : decode cX9_thereMany 4 = .ok (.iload_n 2, 1) := by decide +kernel
theorem dX9_thereMany_5 : decode cX9_thereMany 5 = .ok (.aload_n 0, 1) := by decide +kernel
theorem dX9_thereMany_6 : decode cX9_thereMany 6 = .ok (.getfield 71, 3) := by decide +kernel
theorem dX9_thereMany_9 : decode cX9_thereMany 9 = .ok (.if_icmp .ge 26, 3) := by decide +kernel
theorem dX9_thereMany_12 : decode cX9_thereMany 12 = .ok (.iload_n 1, 1) := by decide +kernel
theorem dX9_thereMany_13 : decode cX9_thereMany 13 = .ok (.aload_n 0, 1) := by decide +kernel
theorem dX9_thereMany_14 : decode cX9_thereMany 14 = .ok (.getfield 25, 3) := by decide +kernel
theorem dX9_thereMany_17 : decode cX9_thereMany 17 = .ok (.iload_n 2, 1) := by decide +kernel
theorem dX9_thereMany_18 : decode cX9_thereMany 18 = .ok (.baload, 1) := by decide +kernel
theorem dX9_thereMany_19 : decode cX9_thereMany 19 = .ok (.ifCond .eq 7, 3) := by decide +kernel
theorem dX9_thereMany_22 : decode cX9_thereMany 22 = .ok (.iconst 1, 1) := by decide +kernel
theorem dX9_thereMany_23 : decode cX9_thereMany 23 = .ok (.goto 4, 3) := by decide +kernel
theorem dX9_thereMany_26 : decode cX9_thereMany 26 = .ok (.iconst 0, 1) := by decide +kernel
theorem dX9_thereMany_27 : decode cX9_thereMany 27 = .ok (.iadd, 1) := by decide +kernel
theorem dX9_thereMany_28 : decode cX9_thereMany 28 = .ok (.istore_n 1, 1) := by decide +kernel
theorem dX9_thereMany_29 : decode cX9_thereMany 29 = .ok (.iinc 2 1, 3) := by decide +kernel
theorem dX9_thereMany_32 : decode cX9_thereMany 32 = .ok (.goto (-28), 3) := by decide +kernel
theorem dX9_thereMany_35 : decode cX9_thereMany 35 = .ok (.iload_n 1, 1) := by decide +kernel
theorem dX9_thereMany_36 : decode cX9_thereMany 36 = .ok (.ireturn, 1) := by decide +kernel
theorem dX9_keepNone_0 : decode cX9_keepNone 0 = .ok (.iconst 0, 1) := by decide +kernel
theorem dX9_keepNone_1 : decode cX9_keepNone 1 = .ok (.istore_n 1, 1) := by decide +kernel
theorem dX9_keepNone_2 : decode cX9_keepNone 2 = .ok (.iload_n 1, 1) := by decide +kernel
theorem dX9_keepNone_3 : decode cX9_keepNone 3 = .ok (.sipush 256, 3) := by decide +kernel
theorem dX9_keepNone_6 : decode cX9_keepNone 6 = .ok (.if_icmp .ge 24, 3) := by decide +kernel
theorem dX9_keepNone_9 : decode cX9_keepNone 9 = .ok (.aload_n 0, 1) := by decide +kernel
theorem dX9_keepNone_10 : decode cX9_keepNone 10 = .ok (.getfield 38, 3) := by decide +kernel
theorem dX9_keepNone_13 : decode cX9_keepNone 13 = .ok (.iload_n 1, 1) := by decide +kernel
theorem dX9_keepNone_14 : decode cX9_keepNone 14 = .ok (.iload_n 1, 1) := by decide +kernel
theorem dX9_keepNone_15 : decode cX9_keepNone 15 = .ok (.ifCond .ne 7, 3) := by decide +kernel
theorem dX9_keepNone_18 : decode cX9_keepNone 18 = .ok (.iconst 1, 1) := by decide +kernel
theorem dX9_keepNone_19 : decode cX9_keepNone 19 = .ok (.goto 4, 3) := by decide +kernel
theorem dX9_keepNone_22 : decode cX9_keepNone 22 = .ok (.iconst 0, 1) := by decide +kernel
theorem dX9_keepNone_23 : decode cX9_keepNone 23 = .ok (.bastore, 1) := by decide +kernel
theorem dX9_keepNone_24 : decode cX9_keepNone 24 = .ok (.iinc 1 1, 3) := by decide +kernel
theorem dX9_keepNone_27 : decode cX9_keepNone 27 = .ok (.goto (-25), 3) := by decide +kernel
theorem dX9_keepNone_30 : decode cX9_keepNone 30 = .ok (.return_, 1) := by decide +kernel
set_option maxRecDepth 20000 in
theorem ggX9_dimension_X9_in : GoodIn wsX9_dimension wsX9_in := goodIn_r _ [14] (by decide +kernel) (by decide +kernel)
set_option maxRecDepth 20000 in
theorem gX9_dimension_X9_in : GoodIn wsX9_dimension (va_wsS RX9 67 yX9_in wsX9_in) := goodIn_app (goodIn_of _ (by decide +kernel)) ggX9_dimension_X9_in
set_option maxRecDepth 20000 in
theorem ggX9_dimension_X9_keepNone : GoodIn wsX9_dimension wsX9_keepNone := goodIn_r _ [18, 19, 20, 21, 22, 23, 24, 25, 26, 27, 28, 29, 30, 31, 32, 33, 34, 35, 36, 37, 38, 39, 40, 41, 42, 43, 44] (by decide +kernel) (by decide +kernel)
set_option maxRecDepth 20000 in
theorem gX9_dimension_X9_keepNone : GoodIn wsX9_dimension (wsV RX9 77 RX9 yX9_keepNone wsX9_keepNone) := goodIn_app (goodIn_of _ (by decide +kernel)) ggX9_dimension_X9_keepNone
theorem dX9_dimension_0 : decode cX9_dimension 0 = .ok (.aload_n 0, 1) := by decide +kernel
theorem dX9_dimension_1 : decode cX9_dimension 1 = .ok (.iconst 0, 1) := by decide +kernel
theorem dX9_dimension_2 : decode cX9_dimension 2 = .ok (.putfield 60, 3) := by decide +kernel
theorem dX9_dimension_5 : decode cX9_dimension 5 = .ok (.iload_n 1, 1) := by decide +kernel
theorem dX9_dimension_6 : decode cX9_dimension 6 = .ok (.iconst 1, 1) := by decide +kernel
theorem dX9_dimension_7 : decode cX9_dimension 7 = .ok (.bipush 8, 2) := by decide +kernel
theorem dX9_dimension_9 : decode cX9_dimension 9 = .ok (.invokestatic 67, 3) := by decide +kernel
theorem dX9_dimension_12 : decode cX9_dimension 12 = .ok (.ifCond .ne 6, 3) := by decide +kernel
theorem dX9_dimension_15 : decode cX9_dimension 15 = .ok (.ldc 74, 2) := by decide +kernel
theorem dX9_dimension_17 : decode cX9_dimension 17 = .ok (.ireturn, 1) := by decide +kernel
theorem dX9_dimension_18 : decode cX9_dimension 18 = .ok (.aload_n 0, 1) := by decide +kernel
theorem dX9_dimension_19 : decode cX9_dimension 19 = .ok (.getfield 71, 3) := by decide +kernel
theorem dX9_dimension_22 : decode cX9_dimension 22 = .ok (.ifCond .le 6, 3) := by decide +kernel
theorem dX9_dimension_25 : decode cX9_dimension 25 = .ok (.ldc 75, 2) := by decide +kernel
theorem dX9_dimension_27 : decode cX9_dimension 27 = .ok (.ireturn, 1) := by decide +kernel
theorem dX9_dimension_28 : decode cX9_dimension 28 = .ok (.aload_n 0, 1) := by decide +kernel
theorem dX9_dimension_29 : decode cX9_dimension 29 = .ok (.getfield 64, 3) := by decide +kernel
theorem dX9_dimension_32 : decode cX9_dimension 32 = .ok (.iconst 4, 1) := by decide +kernel
theorem dX9_dimension_33 : decode cX9_dimension 33 = .ok (.if_icmp .ne 6, 3) := by decide +kernel
theorem dX9_dimension_36 : decode cX9_dimension 36 = .ok (.ldc 76, 2) := by decide +kernel
theorem dX9_dimension_38 : decode cX9_dimension 38 = .ok (.ireturn, 1) := by decide +kernel
theorem dX9_dimension_39 : decode cX9_dimension 39 = .ok (.aload_n 0, 1) := by decide +kernel
theorem dX9_dimension_40 : decode cX9_dimension 40 = .ok (.getfield 7, 3) := by decide +kernel
theorem dX9_dimension_43 : decode cX9_dimension 43 = .ok (.aload_n 0, 1) := by decide +kernel
theorem dX9_dimension_44 : decode cX9_dimension 44 = .ok (.getfield 64, 3) := by decide +kernel
theorem dX9_dimension_47 : decode cX9_dimension 47 = .ok (.iconst 1, 1) := by decide +kernel
theorem dX9_dimension_48 : decode cX9_dimension 48 = .ok (.iastore, 1) := by decide +kernel
theorem dX9_dimension_49 : decode cX9_dimension 49 = .ok (.aload_n 0, 1) := by decide +kernel
theorem dX9_dimension_50 : decode cX9_dimension 50 = .ok (.getfield 13, 3) := by decide +kernel
theorem dX9_dimension_53 : decode cX9_dimension 53 = .ok (.iconst 3, 1) := by decide +kernel
theorem dX9_dimension_54 : decode cX9_dimension 54 = .ok (.aload_n 0, 1) := by decide +kernel
theorem dX9_dimension_55 : decode cX9_dimension 55 = .ok (.getfield 64, 3) := by decide +kernel
theorem dX9_dimension_58 : decode cX9_dimension 58 = .ok (.imul, 1) := by decide +kernel
theorem dX9_dimension_59 : decode cX9_dimension 59 = .ok (.iload_n 1, 1) := by decide +kernel
theorem dX9_dimension_60 : decode cX9_dimension 60 = .ok (.iastore, 1) := by decide +kernel
theorem dX9_dimension_61 : decode cX9_dimension 61 = .ok (.aload_n 0, 1) := by decide +kernel
theorem dX9_dimension_62 : decode cX9_dimension 62 = .ok (.getfield 32, 3) := by decide +kernel
theorem dX9_dimension_65 : decode cX9_dimension 65 = .ok (.aload_n 0, 1) := by decide +kernel
theorem dX9_dimension_66 : decode cX9_dimension 66 = .ok (.getfield 64, 3) := by decide +kernel
theorem dX9_dimension_69 : decode cX9_dimension 69 = .ok (.iconst 1, 1) := by decide +kernel
theorem dX9_dimension_70 : decode cX9_dimension 70 = .ok (.iastore, 1) := by decide +kernel
theorem dX9_dimension_71 : decode cX9_dimension 71 = .ok (.aload_n 0, 1) := by decide +kernel
theorem dX9_dimension_72 : decode cX9_dimension 72 = .ok (.getfield 35, 3) := by decide +kernel
theorem dX9_dimension_75 : decode cX9_dimension 75 = .ok (.aload_n 0, 1) := by decide +kernel
theorem dX9_dimension_76 : decode cX9_dimension 76 = .ok (.getfield 64, 3) := by decide +kernel
theorem dX9_dimension_79 : decode cX9_dimension 79 = .ok (.iconst 0, 1) := by decide +kernel
theorem dX9_dimension_80 : decode cX9_dimension 80 = .ok (.iastore, 1) := by decide +kernel
theorem dX9_dimension_81 : decode cX9_dimension 81 = .ok (.aload_n 0, 1) := by decide +kernel
theorem dX9_dimension_82 : decode cX9_dimension 82 = .ok (.dup, 1) := by decide +kernel
theorem dX9_dimension_83 : decode cX9_dimension 83 = .ok (.getfield 64, 3) := by decide +kernel
theorem dX9_dimension_86 : decode cX9_dimension 86 = .ok (.iconst 1, 1) := by decide +kernel
theorem dX9_dimension_87 : decode cX9_dimension 87 = .ok (.iadd, 1) := by decide +kernel
theorem dX9_dimension_88 : decode cX9_dimension 88 = .ok (.putfield 64, 3) := by decide +kernel
theorem dX9_dimension_91 : decode cX9_dimension 91 = .ok (.aload_n 0, 1) := by decide +kernel
theorem dX9_dimension_92 : decode cX9_dimension 92 = .ok (.invokevirtual 77, 3) := by decide +kernel
theorem dX9_dimension_95 : decode cX9_dimension 95 = .ok (.aload_n 0, 1) := by decide +kernel
theorem dX9_dimension_96 : decode cX9_dimension 96 = .ok (.getfield 64, 3) := by decide +kernel
theorem dX9_dimension_99 : decode cX9_dimension 99 = .ok (.iconst 1, 1) := by decide +kernel
theorem dX9_dimension_100 : decode cX9_dimension 100 = .ok (.isub, 1) := by decide +kernel
theorem dX9_dimension_101 : decode cX9_dimension 101 = .ok (.ireturn, 1) := by decide +kernel
set_option maxRecDepth 20000 in
theorem ggX9_level_X9_isDimension : GoodIn wsX9_level wsX9_isDimension := goodIn_r _ [14, 15, 16, 17, 13, 18, 24, 25, 26, 27, 28, 29, 30, 31, 32, 33, 34, 35, 36, 37, 38, 39, 40, 41, 42, 43, 44, 45, 46, 47, 48] (by decide +kernel) (by decide +kernel)
set_option maxRecDepth 20000 in
theorem gX9_level_X9_isDimension : GoodIn wsX9_level (wsV RX9 80 RX9 yX9_isDimension wsX9_isDimension) := goodIn_app (goodIn_of _ (by decide +kernel)) ggX9_level_X9_isDimension
set_option maxRecDepth 20000 in
theorem ggX9_level_X9_in : GoodIn wsX9_level wsX9_in := goodIn_r _ [18] (by decide +kernel) (by decide +kernel)
set_option maxRecDepth 20000 in
theorem gX9_level_X9_in : GoodIn wsX9_level (va_wsS RX9 67 yX9_in wsX9_in) := goodIn_app (goodIn_of _ (by decide +kernel)) ggX9_level_X9_in
set_option maxRecDepth 20000 in
theorem ggX9_level_X9_keepNone : GoodIn wsX9_level wsX9_keepNone := goodIn_r _ [22, 23, 24, 25, 26, 27, 28, 29, 30, 31, 32, 33, 34, 35, 36, 37, 38, 39, 40, 41, 42, 43, 44, 45, 46, 47, 48] (by decide +kernel) (by decide +kernel)
set_option maxRecDepth 20000 in
theorem gX9_level_X9_keepNone : GoodIn wsX9_level (wsV RX9 77 RX9 yX9_keepNone wsX9_keepNone) := goodIn_app (goodIn_of _ (by decide +kernel)) ggX9_level_X9_keepNone
theorem dX9_level_0 : decode cX9_level 0 = .ok (.aload_n 0, 1) := by decide +kernel
theorem dX9_level_1 : decode cX9_level 1 = .ok (.iconst 0, 1) := by decide +kernel
theorem dX9_level_2 : decode cX9_level 2 = .ok (.putfield 60, 3) := by decide +kernel
theorem dX9_level_5 : decode cX9_level 5 = .ok (.aload_n 0, 1) := by decide +kernel
theorem dX9_level_6 : decode cX9_level 6 = .ok (.iload_n 1, 1) := by decide +kernel
theorem dX9_level_7 : decode cX9_level 7 = .ok (.invokevirtual 80, 3) := by decide +kernel
theorem dX9_level_10 : decode cX9_level 10 = .ok (.ifCond .eq 28, 3) := by decide +kernel
theorem dX9_level_13 : decode cX9_level 13 = .ok (.iload_n 2, 1) := by decide +kernel
theorem dX9_level_14 : decode cX9_level 14 = .ok (.iconst 1, 1) := by decide +kernel
theorem dX9_level_15 : decode cX9_level 15 = .ok (.aload_n 0, 1) := by decide +kernel
theorem dX9_level_16 : decode cX9_level 16 = .ok (.getfield 13, 3) := by decide +kernel
theorem dX9_level_19 : decode cX9_level 19 = .ok (.iconst 3, 1) := by decide +kernel
theorem dX9_level_20 : decode cX9_level 20 = .ok (.iload_n 1, 1) := by decide +kernel
theorem dX9_level_21 : decode cX9_level 21 = .ok (.imul, 1) := by decide +kernel
theorem dX9_level_22 : decode cX9_level 22 = .ok (.aload_n 0, 1) := by decide +kernel
theorem dX9_level_23 : decode cX9_level 23 = .ok (.getfield 7, 3) := by decide +kernel
theorem dX9_level_26 : decode cX9_level 26 = .ok (.iload_n 1, 1) := by decide +kernel
theorem dX9_level_27 : decode cX9_level 27 = .ok (.iaload, 1) := by decide +kernel
theorem dX9_level_28 : decode cX9_level 28 = .ok (.iadd, 1) := by decide +kernel
theorem dX9_level_29 : decode cX9_level 29 = .ok (.iconst 1, 1) := by decide +kernel
theorem dX9_level_30 : decode cX9_level 30 = .ok (.isub, 1) := by decide +kernel
theorem dX9_level_31 : decode cX9_level 31 = .ok (.iaload, 1) := by decide +kernel
theorem dX9_level_32 : decode cX9_level 32 = .ok (.invokestatic 67, 3) := by decide +kernel
theorem dX9_level_35 : decode cX9_level 35 = .ok (.ifCond .ne 6, 3) := by decide +kernel
theorem dX9_level_38 : decode cX9_level 38 = .ok (.ldc 74, 2) := by decide +kernel
theorem dX9_level_40 : decode cX9_level 40 = .ok (.ireturn, 1) := by decide +kernel
theorem dX9_level_41 : decode cX9_level 41 = .ok (.aload_n 0, 1) := by decide +kernel
theorem dX9_level_42 : decode cX9_level 42 = .ok (.getfield 71, 3) := by decide +kernel
theorem dX9_level_45 : decode cX9_level 45 = .ok (.ifCond .le 6, 3) := by decide +kernel
theorem dX9_level_48 : decode cX9_level 48 = .ok (.ldc 75, 2) := by decide +kernel
theorem dX9_level_50 : decode cX9_level 50 = .ok (.ireturn, 1) := by decide +kernel
theorem dX9_level_51 : decode cX9_level 51 = .ok (.aload_n 0, 1) := by decide +kernel
theorem dX9_level_52 : decode cX9_level 52 = .ok (.getfield 7, 3) := by decide +kernel
theorem dX9_level_55 : decode cX9_level 55 = .ok (.iload_n 1, 1) := by decide +kernel
theorem dX9_level_56 : decode cX9_level 56 = .ok (.iaload, 1) := by decide +kernel
theorem dX9_level_57 : decode cX9_level 57 = .ok (.iconst 3, 1) := by decide +kernel
theorem dX9_level_58 : decode cX9_level 58 = .ok (.if_icmp .ne 6, 3) := by decide +kernel
theorem dX9_level_61 : decode cX9_level 61 = .ok (.ldc 76, 2) := by decide +kernel
theorem dX9_level_63 : decode cX9_level 63 = .ok (.ireturn, 1) := by decide +kernel
theorem dX9_level_64 : decode cX9_level 64 = .ok (.aload_n 0, 1) := by decide +kernel
theorem dX9_level_65 : decode cX9_level 65 = .ok (.getfield 13, 3) := by decide +kernel
theorem dX9_level_68 : decode cX9_level 68 = .ok (.iconst 3, 1) := by decide +kernel
theorem dX9_level_69 : decode cX9_level 69 = .ok (.iload_n 1, 1) := by decide +kernel
theorem dX9_level_70 : decode cX9_level 70 = .ok (.imul, 1) := by decide +kernel
theorem dX9_level_71 : decode cX9_level 71 = .ok (.aload_n 0, 1) := by decide +kernel
theorem dX9_level_72 : decode cX9_level 72 = .ok (.getfield 7, 3) := by decide +kernel
theorem dX9_level_75 : decode cX9_level 75 = .ok (.iload_n 1, 1) := by decide +kernel
theorem dX9_level_76 : decode cX9_level 76 = .ok (.iaload, 1) := by decide +kernel
theorem dX9_level_77 : decode cX9_level 77 = .ok (.iadd, 1) := by decide +kernel
theorem dX9_level_78 : decode cX9_level 78 = .ok (.iload_n 2, 1) := by decide +kernel
theorem dX9_level_79 : decode cX9_level 79 = .ok (.iastore, 1) := by decide +kernel
theorem dX9_level_80 : decode cX9_level 80 = .ok (.aload_n 0, 1) := by decide +kernel
theorem dX9_level_81 : decode cX9_level 81 = .ok (.getfield 7, 3) := by decide +kernel
theorem dX9_level_84 : decode cX9_level 84 = .ok (.iload_n 1, 1) := by decide +kernel
theorem dX9_level_85 : decode cX9_level 85 = .ok (.dup2, 1) := by decide +kernel
theorem dX9_level_86 : decode cX9_level 86 = .ok (.iaload, 1) := by decide +kernel
theorem dX9_level_87 : decode cX9_level 87 = .ok (.iconst 1, 1) := by decide +kernel
theorem dX9_level_88 : decode cX9_level 88 = .ok (.iadd, 1) := by decide +kernel
theorem dX9_level_89 : decode cX9_level 89 = .ok (.iastore, 1) := by decide +kernel
theorem dX9_level_90 : decode cX9_level 90 = .ok (.aload_n 0, 1) := by decide +kernel
theorem dX9_level_91 : decode cX9_level 91 = .ok (.getfield 32, 3) := by decide +kernel
theorem dX9_level_94 : decode cX9_level 94 = .ok (.iload_n 1, 1) := by decide +kernel
theorem dX9_level_95 : decode cX9_level 95 = .ok (.aload_n 0, 1) := by decide +kernel
theorem dX9_level_96 : decode cX9_level 96 = .ok (.getfield 7, 3) := by decide +kernel
theorem dX9_level_99 : decode cX9_level 99 = .ok (.iload_n 1, 1) := by decide +kernel
theorem dX9_level_100 : decode cX9_level 100 = .ok (.iaload, 1) := by decide +kernel
theorem dX9_level_101 : decode cX9_level 101 = .ok (.iastore, 1) := by decide +kernel
theorem dX9_level_102 : decode cX9_level 102 = .ok (.aload_n 0, 1) := by decide +kernel
theorem dX9_level_103 : decode cX9_level 103 = .ok (.getfield 35, 3) := by decide +kernel
theorem dX9_level_106 : decode cX9_level 106 = .ok (.iload_n 1, 1) := by decide +kernel
theorem dX9_level_107 : decode cX9_level 107 = .ok (.iconst 0, 1) := by decide +kernel
theorem dX9_level_108 : decode cX9_level 108 = .ok (.iastore, 1) := by decide +kernel
theorem dX9_level_109 : decode cX9_level 109 = .ok (.aload_n 0, 1) := by decide +kernel
theorem dX9_level_110 : decode cX9_level 110 = .ok (.invokevirtual 77, 3) := by decide +kernel
theorem dX9_level_113 : decode cX9_level 113 = .ok (.aload_n 0, 1) := by decide +kernel
theorem dX9_level_114 : decode cX9_level 114 = .ok (.getfield 7, 3) := by decide +kernel
theorem dX9_level_117 : decode cX9_level 117 = .ok (.iload_n 1, 1) := by decide +kernel
theorem dX9_level_118 : decode cX9_level 118 = .ok (.iaload, 1) := by decide +kernel
theorem dX9_level_119 : decode cX9_level 119 = .ok (.iconst 1, 1) := by decide +kernel
theorem dX9_level_120 : decode cX9_level 120 = .ok (.isub, 1) := by decide +kernel
theorem dX9_level_121 : decode cX9_level 121 = .ok (.ireturn, 1) := by decide +kernel
theorem dX9_many_0 : decode cX9_many 0 = .ok (.iload_n 2, 1) := by decide +kernel
theorem dX9_many_1 : decode cX9_many 1 = .ok (.ifCond .lt 13, 3) := by decide +kernel
theorem dX9_many_4 : decode cX9_many 4 = .ok (.iload_n 2, 1) := by decide +kernel
theorem dX9_many_5 : decode cX9_many 5 = .ok (.aload_n 0, 1) := by decide +kernel
theorem dX9_many_6 : decode cX9_many 6 = .ok (.getfield 7, 3) := by decide +kernel
theorem dX9_many_9 : decode cX9_many 9 = .ok (.iload_n 1, 1) := by decide +kernel
theorem dX9_many_10 : decode cX9_many 10 = .ok (.iaload, 1) := by decide +kernel
theorem dX9_many_11 : decode cX9_many 11 = .ok (.if_icmp .le 7, 3) := by decide +kernel
theorem dX9_many_14 : decode cX9_many 14 = .ok (.iconst 0, 1) := by decide +kernel
theorem dX9_many_15 : decode cX9_many 15 = .ok (.goto 27, 3) := by decide +kernel
theorem dX9_many_18 : decode cX9_many 18 = .ok (.iload_n 2, 1) := by decide +kernel
theorem dX9_many_19 : decode cX9_many 19 = .ok (.aload_n 0, 1) := by decide +kernel
theorem dX9_many_20 : decode cX9_many 20 = .ok (.getfield 7, 3) := by decide +kernel
theorem dX9_many_23 : decode cX9_many 23 = .ok (.iload_n 1, 1) := by decide +kernel
theorem dX9_many_24 : decode cX9_many 24 = .ok (.iaload, 1) := by decide +kernel
theorem dX9_many_25 : decode cX9_many 25 = .ok (.if_icmp .ne 7, 3) := by decide +kernel
theorem dX9_many_28 : decode cX9_many 28 = .ok (.iconst 1, 1) := by decide +kernel
theorem dX9_many_29 : decode cX9_many 29 = .ok (.goto 13, 3) := by decide +kernel
theorem dX9_many_32 : decode cX9_many 32 = .ok (.aload_n 0, 1) := by decide +kernel
theorem dX9_many_33 : decode cX9_many 33 = .ok (.getfield 13, 3) := by decide +kernel
theorem dX9_many_36 : decode cX9_many 36 = .ok (.iconst 3, 1) := by decide +kernel
theorem dX9_many_37 : decode cX9_many 37 = .ok (.iload_n 1, 1) := by decide +kernel
theorem dX9_many_38 : decode cX9_many 38 = .ok (.imul, 1) := by decide +kernel
theorem dX9_many_39 : decode cX9_many 39 = .ok (.iload_n 2, 1) := by decide +kernel
theorem dX9_many_40 : decode cX9_many 40 = .ok (.iadd, 1) := by decide +kernel
theorem dX9_many_41 : decode cX9_many 41 = .ok (.iaload, 1) := by decide +kernel
theorem dX9_many_42 : decode cX9_many 42 = .ok (.ireturn, 1) := by decide +kernel
set_option maxRecDepth 20000 in
theorem ggX9_parent_X9_isDimension : GoodIn wsX9_parent wsX9_isDimension := goodIn_r _ [9, 10, 11, 12, 8, 13, 19, 20, 21, 22, 23, 24, 25, 26, 27, 28, 29, 30, 31, 32, 33, 34, 35, 36, 37, 38, 39, 40, 41, 42, 43] (by decide +kernel) (by decide +kernel)
set_option maxRecDepth 20000 in
theorem gX9_parent_X9_isDimension : GoodIn wsX9_parent (wsV RX9 80 RX9 yX9_isDimension wsX9_isDimension) := goodIn_app (goodIn_of _ (by decide +kernel)) ggX9_parent_X9_isDimension
set_option maxRecDepth 20000 in
theorem ggX9_parent_X9_in : GoodIn wsX9_parent wsX9_in := goodIn_r _ [13] (by decide +kernel) (by decide +kernel)
set_option maxRecDepth 20000 in
theorem gX9_parent_X9_in : GoodIn wsX9_parent (va_wsS RX9 67 yX9_in wsX9_in) := goodIn_app (goodIn_of _ (by decide +kernel)) ggX9_parent_X9_in
set_option maxRecDepth 20000 in
theorem ggX9_parent_X9_many : GoodIn wsX9_parent wsX9_many := goodIn_r _ [17, 2, 18, 19, 20, 21, 22, 23, 24, 25, 26, 27, 28, 29, 30, 31, 32, 33, 34, 35, 36, 37, 38, 39, 40, 41, 42, 43] (by decide +kernel) (by decide +kernel)
set_option maxRecDepth 20000 in
theorem gX9_parent_X9_many : GoodIn wsX9_parent (wsV RX9 84 RX9 yX9_many wsX9_many) := goodIn_app (goodIn_of _ (by decide +kernel)) ggX9_parent_X9_many
theorem dX9_parent_0 : decode cX9_parent 0 = .ok (.aload_n 0, 1) := by decide +kernel
theorem dX9_parent_1 : decode cX9_parent 1 = .ok (.iconst 0, 1) := by decide +kernel
theorem dX9_parent_2 : decode cX9_parent 2 = .ok (.putfield 60, 3) := by decide +kernel
theorem dX9_parent_5 : decode cX9_parent 5 = .ok (.aload_n 0, 1) := by decide +kernel
theorem dX9_parent_6 : decode cX9_parent 6 = .ok (.iload_n 1, 1) := by decide +kernel
theorem dX9_parent_7 : decode cX9_parent 7 = .ok (.invokevirtual 80, 3) := by decide +kernel
theorem dX9_parent_10 : decode cX9_parent 10 = .ok (.ifCond .eq 54, 3) := by decide +kernel
theorem dX9_parent_13 : decode cX9_parent 13 = .ok (.iload_n 2, 1) := by decide +kernel
theorem dX9_parent_14 : decode cX9_parent 14 = .ok (.iconst 0, 1) := by decide +kernel
theorem dX9_parent_15 : decode cX9_parent 15 = .ok (.aload_n 0, 1) := by decide +kernel
theorem dX9_parent_16 : decode cX9_parent 16 = .ok (.getfield 7, 3) := by decide +kernel
theorem dX9_parent_19 : decode cX9_parent 19 = .ok (.iload_n 1, 1) := by decide +kernel
theorem dX9_parent_20 : decode cX9_parent 20 = .ok (.iaload, 1) := by decide +kernel
theorem dX9_parent_21 : decode cX9_parent 21 = .ok (.iconst 2, 1) := by decide +kernel
theorem dX9_parent_22 : decode cX9_parent 22 = .ok (.isub, 1) := by decide +kernel
theorem dX9_parent_23 : decode cX9_parent 23 = .ok (.invokestatic 67, 3) := by decide +kernel
theorem dX9_parent_26 : decode cX9_parent 26 = .ok (.ifCond .eq 38, 3) := by decide +kernel
theorem dX9_parent_29 : decode cX9_parent 29 = .ok (.iload_n 3, 1) := by decide +kernel
theorem dX9_parent_30 : decode cX9_parent 30 = .ok (.iconst 0, 1) := by decide +kernel
theorem dX9_parent_31 : decode cX9_parent 31 = .ok (.aload_n 0, 1) := by decide +kernel
theorem dX9_parent_32 : decode cX9_parent 32 = .ok (.iload_n 1, 1) := by decide +kernel
theorem dX9_parent_33 : decode cX9_parent 33 = .ok (.iload_n 2, 1) := by decide +kernel
theorem dX9_parent_34 : decode cX9_parent 34 = .ok (.invokevirtual 84, 3) := by decide +kernel
theorem dX9_parent_37 : decode cX9_parent 37 = .ok (.iconst 1, 1) := by decide +kernel
theorem dX9_parent_38 : decode cX9_parent 38 = .ok (.isub, 1) := by decide +kernel
theorem dX9_parent_39 : decode cX9_parent 39 = .ok (.invokestatic 67, 3) := by decide +kernel
theorem dX9_parent_42 : decode cX9_parent 42 = .ok (.ifCond .eq 22, 3) := by decide +kernel
theorem dX9_parent_45 : decode cX9_parent 45 = .ok (.iload 4, 2) := by decide +kernel
theorem dX9_parent_47 : decode cX9_parent 47 = .ok (.iconst 0, 1) := by decide +kernel
theorem dX9_parent_48 : decode cX9_parent 48 = .ok (.aload_n 0, 1) := by decide +kernel
theorem dX9_parent_49 : decode cX9_parent 49 = .ok (.iload_n 1, 1) := by decide +kernel
theorem dX9_parent_50 : decode cX9_parent 50 = .ok (.iload_n 2, 1) := by decide +kernel
theorem dX9_parent_51 : decode cX9_parent 51 = .ok (.iconst 1, 1) := by decide +kernel
theorem dX9_parent_52 : decode cX9_parent 52 = .ok (.iadd, 1) := by decide +kernel
theorem dX9_parent_53 : decode cX9_parent 53 = .ok (.invokevirtual 84, 3) := by decide +kernel
theorem dX9_parent_56 : decode cX9_parent 56 = .ok (.iconst 1, 1) := by decide +kernel
theorem dX9_parent_57 : decode cX9_parent 57 = .ok (.isub, 1) := by decide +kernel
theorem dX9_parent_58 : decode cX9_parent 58 = .ok (.invokestatic 67, 3) := by decide +kernel
theorem dX9_parent_61 : decode cX9_parent 61 = .ok (.ifCond .ne 6, 3) := by decide +kernel
theorem dX9_parent_64 : decode cX9_parent 64 = .ok (.ldc 74, 2) := by decide +kernel
theorem dX9_parent_66 : decode cX9_parent 66 = .ok (.ireturn, 1) := by decide +kernel
theorem dX9_parent_67 : decode cX9_parent 67 = .ok (.bipush 24, 2) := by decide +kernel
theorem dX9_parent_69 : decode cX9_parent 69 = .ok (.iload_n 1, 1) := by decide +kernel
theorem dX9_parent_70 : decode cX9_parent 70 = .ok (.imul, 1) := by decide +kernel
theorem dX9_parent_71 : decode cX9_parent 71 = .ok (.bipush 8, 2) := by decide +kernel
theorem dX9_parent_73 : decode cX9_parent 73 = .ok (.iload_n 2, 1) := by decide +kernel
theorem dX9_parent_74 : decode cX9_parent 74 = .ok (.imul, 1) := by decide +kernel
theorem dX9_parent_75 : decode cX9_parent 75 = .ok (.iadd, 1) := by decide +kernel
theorem dX9_parent_76 : decode cX9_parent 76 = .ok (.iload_n 3, 1) := by decide +kernel
theorem dX9_parent_77 : decode cX9_parent 77 = .ok (.iadd, 1) := by decide +kernel
theorem dX9_parent_78 : decode cX9_parent 78 = .ok (.istore 5, 2) := by decide +kernel
theorem dX9_parent_80 : decode cX9_parent 80 = .ok (.aload_n 0, 1) := by decide +kernel
theorem dX9_parent_81 : decode cX9_parent 81 = .ok (.getfield 16, 3) := by decide +kernel
theorem dX9_parent_84 : decode cX9_parent 84 = .ok (.iload 5, 2) := by decide +kernel
theorem dX9_parent_86 : decode cX9_parent 86 = .ok (.iaload, 1) := by decide +kernel
theorem dX9_parent_87 : decode cX9_parent 87 = .ok (.istore 6, 2) := by decide +kernel
theorem dX9_parent_89 : decode cX9_parent 89 = .ok (.aload_n 0, 1) := by decide +kernel
theorem dX9_parent_90 : decode cX9_parent 90 = .ok (.getfield 16, 3) := by decide +kernel
theorem dX9_parent_93 : decode cX9_parent 93 = .ok (.iload 5, 2) := by decide +kernel
theorem dX9_parent_95 : decode cX9_parent 95 = .ok (.iload 4, 2) := by decide +kernel
theorem dX9_parent_97 : decode cX9_parent 97 = .ok (.iastore, 1) := by decide +kernel
theorem dX9_parent_98 : decode cX9_parent 98 = .ok (.iload 6, 2) := by decide +kernel
theorem dX9_parent_100 : decode cX9_parent 100 = .ok (.ireturn, 1) := by decide +kernel
theorem dX9_liesIn_0 : decode cX9_liesIn 0 = .ok (.iload_n 3, 1) := by decide +kernel
theorem dX9_liesIn_1 : decode cX9_liesIn 1 = .ok (.aload_n 0, 1) := by decide +kernel
theorem dX9_liesIn_2 : decode cX9_liesIn 2 = .ok (.getfield 7, 3) := by decide +kernel
theorem dX9_liesIn_5 : decode cX9_liesIn 5 = .ok (.iload_n 1, 1) := by decide +kernel
theorem dX9_liesIn_6 : decode cX9_liesIn 6 = .ok (.iaload, 1) := by decide +kernel
theorem dX9_liesIn_7 : decode cX9_liesIn 7 = .ok (.if_icmp .ne 5, 3) := by decide +kernel
theorem dX9_liesIn_10 : decode cX9_liesIn 10 = .ok (.iconst 0, 1) := by decide +kernel
theorem dX9_liesIn_11 : decode cX9_liesIn 11 = .ok (.ireturn, 1) := by decide +kernel
theorem dX9_liesIn_12 : decode cX9_liesIn 12 = .ok (.iload_n 2, 1) := by decide +kernel
theorem dX9_liesIn_13 : decode cX9_liesIn 13 = .ok (.istore 4, 2) := by decide +kernel
theorem dX9_liesIn_15 : decode cX9_liesIn 15 = .ok (.iconst 0, 1) := by decide +kernel
theorem dX9_liesIn_16 : decode cX9_liesIn 16 = .ok (.istore 5, 2) := by decide +kernel
theorem dX9_liesIn_18 : decode cX9_liesIn 18 = .ok (.iload 5, 2) := by decide +kernel
theorem dX9_liesIn_20 : decode cX9_liesIn 20 = .ok (.iload_n 3, 1) := by decide +kernel
theorem dX9_liesIn_21 : decode cX9_liesIn 21 = .ok (.if_icmp .ge 29, 3) := by decide +kernel
theorem dX9_liesIn_24 : decode cX9_liesIn 24 = .ok (.aload_n 0, 1) := by decide +kernel
theorem dX9_liesIn_25 : decode cX9_liesIn 25 = .ok (.getfield 16, 3) := by decide +kernel
theorem dX9_liesIn_28 : decode cX9_liesIn 28 = .ok (.bipush 24, 2) := by decide +kernel
theorem dX9_liesIn_30 : decode cX9_liesIn 30 = .ok (.iload_n 1, 1) := by decide +kernel
theorem dX9_liesIn_31 : decode cX9_liesIn 31 = .ok (.imul, 1) := by decide +kernel
theorem dX9_liesIn_32 : decode cX9_liesIn 32 = .ok (.bipush 8, 2) := by decide +kernel
theorem dX9_liesIn_34 : decode cX9_liesIn 34 = .ok (.iload 5, 2) := by decide +kernel
theorem dX9_liesIn_36 : decode cX9_liesIn 36 = .ok (.imul, 1) := by decide +kernel
theorem dX9_liesIn_37 : decode cX9_liesIn 37 = .ok (.iadd, 1) := by decide +kernel
theorem dX9_liesIn_38 : decode cX9_liesIn 38 = .ok (.iload 4, 2) := by decide +kernel
theorem dX9_liesIn_40 : decode cX9_liesIn 40 = .ok (.iadd, 1) := by decide +kernel
theorem dX9_liesIn_41 : decode cX9_liesIn 41 = .ok (.iaload, 1) := by decide +kernel
theorem dX9_liesIn_42 : decode cX9_liesIn 42 = .ok (.istore 4, 2) := by decide +kernel
theorem dX9_liesIn_44 : decode cX9_liesIn 44 = .ok (.iinc 5 1, 3) := by decide +kernel
theorem dX9_liesIn_47 : decode cX9_liesIn 47 = .ok (.goto (-29), 3) := by decide +kernel
theorem dX9_liesIn_50 : decode cX9_liesIn 50 = .ok (.iload 4, 2) := by decide +kernel
theorem dX9_liesIn_52 : decode cX9_liesIn 52 = .ok (.ireturn, 1) := by decide +kernel
set_option maxRecDepth 20000 in
theorem ggX9_lies_X9_isDimension : GoodIn wsX9_lies wsX9_isDimension := goodIn_r _ [7, 8, 9, 10, 6, 11, 23, 24, 25, 26, 27, 28, 29, 30, 31, 32, 33, 34, 35, 36, 37, 38, 39, 40, 41, 42, 43, 44, 45, 46, 47] (by decide +kernel) (by decide +kernel)
set_option maxRecDepth 20000 in
theorem gX9_lies_X9_isDimension : GoodIn wsX9_lies (wsV RX9 80 RX9 yX9_isDimension wsX9_isDimension) := goodIn_app (goodIn_of _ (by decide +kernel)) ggX9_lies_X9_isDimension
set_option maxRecDepth 20000 in
theorem ggX9_lies_X9_many : GoodIn wsX9_lies wsX9_many := goodIn_r _ [15, 16, 17, 23, 24, 25, 26, 27, 28, 29, 30, 31, 32, 33, 34, 35, 36, 37, 38, 39, 40, 41, 42, 43, 44, 45, 46, 47] (by decide +kernel) (by decide +kernel)
set_option maxRecDepth 20000 in
theorem gX9_lies_X9_many : GoodIn wsX9_lies (wsV RX9 84 RX9 yX9_many wsX9_many) := goodIn_app (goodIn_of _ (by decide +kernel)) ggX9_lies_X9_many
set_option maxRecDepth 20000 in
theorem ggX9_lies_X9_in : GoodIn wsX9_lies wsX9_in := goodIn_r _ [11] (by decide +kernel) (by decide +kernel)
set_option maxRecDepth 20000 in
theorem gX9_lies_X9_in : GoodIn wsX9_lies (va_wsS RX9 67 yX9_in wsX9_in) := goodIn_app (goodIn_of _ (by decide +kernel)) ggX9_lies_X9_in
set_option maxRecDepth 20000 in
theorem ggX9_lies_X9_liesIn : GoodIn wsX9_lies wsX9_liesIn := goodIn_r _ [21, 16, 22, 23, 24, 25, 26, 27, 28, 29, 30, 31, 32, 33, 34, 35, 36, 37, 38, 39, 40, 41, 42, 43, 44, 45, 46, 47] (by decide +kernel) (by decide +kernel)
set_option maxRecDepth 20000 in
theorem gX9_lies_X9_liesIn : GoodIn wsX9_lies (wsV RX9 88 RX9 yX9_liesIn wsX9_liesIn) := goodIn_app (goodIn_of _ (by decide +kernel)) ggX9_lies_X9_liesIn
theorem dX9_lies_0 : decode cX9_lies 0 = .ok (.aload_n 0, 1) := by decide +kernel
theorem dX9_lies_1 : decode cX9_lies 1 = .ok (.iconst 0, 1) := by decide +kernel
theorem dX9_lies_2 : decode cX9_lies 2 = .ok (.putfield 60, 3) := by decide +kernel
theorem dX9_lies_5 : decode cX9_lies 5 = .ok (.aload_n 0, 1) := by decide +kernel
theorem dX9_lies_6 : decode cX9_lies 6 = .ok (.iload_n 1, 1) := by decide +kernel
theorem dX9_lies_7 : decode cX9_lies 7 = .ok (.invokevirtual 80, 3) := by decide +kernel
theorem dX9_lies_10 : decode cX9_lies 10 = .ok (.ifCond .eq 28, 3) := by decide +kernel
theorem dX9_lies_13 : decode cX9_lies 13 = .ok (.iload_n 2, 1) := by decide +kernel
theorem dX9_lies_14 : decode cX9_lies 14 = .ok (.iconst 0, 1) := by decide +kernel
theorem dX9_lies_15 : decode cX9_lies 15 = .ok (.aload_n 0, 1) := by decide +kernel
theorem dX9_lies_16 : decode cX9_lies 16 = .ok (.iload_n 1, 1) := by decide +kernel
theorem dX9_lies_17 : decode cX9_lies 17 = .ok (.iconst 0, 1) := by decide +kernel
theorem dX9_lies_18 : decode cX9_lies 18 = .ok (.invokevirtual 84, 3) := by decide +kernel
theorem dX9_lies_21 : decode cX9_lies 21 = .ok (.iconst 1, 1) := by decide +kernel
theorem dX9_lies_22 : decode cX9_lies 22 = .ok (.isub, 1) := by decide +kernel
theorem dX9_lies_23 : decode cX9_lies 23 = .ok (.invokestatic 67, 3) := by decide +kernel
theorem dX9_lies_26 : decode cX9_lies 26 = .ok (.ifCond .eq 12, 3) := by decide +kernel
theorem dX9_lies_29 : decode cX9_lies 29 = .ok (.aload_n 0, 1) := by decide +kernel
theorem dX9_lies_30 : decode cX9_lies 30 = .ok (.iload_n 1, 1) := by decide +kernel
theorem dX9_lies_31 : decode cX9_lies 31 = .ok (.iload_n 3, 1) := by decide +kernel
theorem dX9_lies_32 : decode cX9_lies 32 = .ok (.invokevirtual 84, 3) := by decide +kernel
theorem dX9_lies_35 : decode cX9_lies 35 = .ok (.ifCond .ne 6, 3) := by decide +kernel
theorem dX9_lies_38 : decode cX9_lies 38 = .ok (.ldc 74, 2) := by decide +kernel
theorem dX9_lies_40 : decode cX9_lies 40 = .ok (.ireturn, 1) := by decide +kernel
theorem dX9_lies_41 : decode cX9_lies 41 = .ok (.aload_n 0, 1) := by decide +kernel
theorem dX9_lies_42 : decode cX9_lies 42 = .ok (.iload_n 1, 1) := by decide +kernel
theorem dX9_lies_43 : decode cX9_lies 43 = .ok (.iload_n 2, 1) := by decide +kernel
theorem dX9_lies_44 : decode cX9_lies 44 = .ok (.iload_n 3, 1) := by decide +kernel
theorem dX9_lies_45 : decode cX9_lies 45 = .ok (.invokevirtual 88, 3) := by decide +kernel
theorem dX9_lies_48 : decode cX9_lies 48 = .ok (.ireturn, 1) := by decide +kernel
set_option maxRecDepth 20000 in
theorem ggX9_members_X9_isDimension : GoodIn wsX9_members wsX9_isDimension := goodIn_r _ [7, 8, 9, 10, 6, 11, 18, 19, 20, 21, 22, 23, 24, 25, 26, 27, 28, 29, 30, 31, 32, 33, 34, 35, 36, 37, 38, 39, 40, 41, 42] (by decide +kernel) (by decide +kernel)
set_option maxRecDepth 20000 in
theorem gX9_members_X9_isDimension : GoodIn wsX9_members (wsV RX9 80 RX9 yX9_isDimension wsX9_isDimension) := goodIn_app (goodIn_of _ (by decide +kernel)) ggX9_members_X9_isDimension
set_option maxRecDepth 20000 in
theorem ggX9_members_X9_many : GoodIn wsX9_members wsX9_many := goodIn_r _ [15, 16, 17, 18, 19, 20, 21, 22, 23, 24, 25, 26, 27, 28, 29, 30, 31, 32, 33, 34, 35, 36, 37, 38, 39, 40, 41, 42] (by decide +kernel) (by decide +kernel)
set_option maxRecDepth 20000 in
theorem gX9_members_X9_many : GoodIn wsX9_members (wsV RX9 84 RX9 yX9_many wsX9_many) := goodIn_app (goodIn_of _ (by decide +kernel)) ggX9_members_X9_many
theorem dX9_members_0 : decode cX9_members 0 = .ok (.aload_n 0, 1) := by decide +kernel
theorem dX9_members_1 : decode cX9_members 1 = .ok (.iconst 0, 1) := by decide +kernel
theorem dX9_members_2 : decode cX9_members 2 = .ok (.putfield 60, 3) := by decide +kernel
theorem dX9_members_5 : decode cX9_members 5 = .ok (.aload_n 0, 1) := by decide +kernel
theorem dX9_members_6 : decode cX9_members 6 = .ok (.iload_n 1, 1) := by decide +kernel
theorem dX9_members_7 : decode cX9_members 7 = .ok (.invokevirtual 80, 3) := by decide +kernel
theorem dX9_members_10 : decode cX9_members 10 = .ok (.ifCond .eq 21, 3) := by decide +kernel
theorem dX9_members_13 : decode cX9_members 13 = .ok (.aload_n 0, 1) := by decide +kernel
theorem dX9_members_14 : decode cX9_members 14 = .ok (.iload_n 1, 1) := by decide +kernel
theorem dX9_members_15 : decode cX9_members 15 = .ok (.iload_n 2, 1) := by decide +kernel
theorem dX9_members_16 : decode cX9_members 16 = .ok (.invokevirtual 84, 3) := by decide +kernel
theorem dX9_members_19 : decode cX9_members 19 = .ok (.ifCond .le 12, 3) := by decide +kernel
theorem dX9_members_22 : decode cX9_members 22 = .ok (.aload_n 0, 1) := by decide +kernel
theorem dX9_members_23 : decode cX9_members 23 = .ok (.iload_n 1, 1) := by decide +kernel
theorem dX9_members_24 : decode cX9_members 24 = .ok (.iload_n 2, 1) := by decide +kernel
theorem dX9_members_25 : decode cX9_members 25 = .ok (.invokevirtual 84, 3) := by decide +kernel
theorem dX9_members_28 : decode cX9_members 28 = .ok (.goto 5, 3) := by decide +kernel
theorem dX9_members_31 : decode cX9_members 31 = .ok (.ldc 74, 2) := by decide +kernel
theorem dX9_members_33 : decode cX9_members 33 = .ok (.ireturn, 1) := by decide +kernel
set_option maxRecDepth 20000 in
theorem ggX9_fact_X9_many : GoodIn wsX9_fact wsX9_many := goodIn_r _ [14, 15, 16, 20, 21, 22, 23, 24, 25, 26, 27, 28, 29, 30, 31, 32, 33, 34, 35, 36, 37, 38, 39, 40, 41, 42, 43, 44] (by decide +kernel) (by decide +kernel)
set_option maxRecDepth 20000 in
theorem gX9_fact_X9_many : GoodIn wsX9_fact (wsV RX9 84 RX9 yX9_many wsX9_many) := goodIn_app (goodIn_of _ (by decide +kernel)) ggX9_fact_X9_many
set_option maxRecDepth 20000 in
theorem ggX9_fact_X9_in : GoodIn wsX9_fact wsX9_in := goodIn_r _ [19] (by decide +kernel) (by decide +kernel)
set_option maxRecDepth 20000 in
theorem gX9_fact_X9_in : GoodIn wsX9_fact (va_wsS RX9 67 yX9_in wsX9_in) := goodIn_app (goodIn_of _ (by decide +kernel)) ggX9_fact_X9_in
theorem dX9_fact_0 : decode cX9_fact 0 = .ok (.aload_n 0, 1) := by decide +kernel
theorem dX9_fact_1 : decode cX9_fact 1 = .ok (.iconst 0, 1) := by decide +kernel
theorem dX9_fact_2 : decode cX9_fact 2 = .ok (.putfield 60, 3) := by decide +kernel
theorem dX9_fact_5 : decode cX9_fact 5 = .ok (.iconst 0, 1) := by decide +kernel
theorem dX9_fact_6 : decode cX9_fact 6 = .ok (.istore_n 2, 1) := by decide +kernel
theorem dX9_fact_7 : decode cX9_fact 7 = .ok (.iload_n 2, 1) := by decide +kernel
