theorem dX4_isKept_8 : decode cX4_isKept 8 = .ok (.aload_n 0, 1) := by decide +kernel
theorem dX4_isKept_9 : decode cX4_isKept 9 = .ok (.getfield 18, 3) := by decide +kernel
theorem dX4_isKept_12 : decode cX4_isKept 12 = .ok (.iload_n 1, 1) := by decide +kernel
theorem dX4_isKept_13 : decode cX4_isKept 13 = .ok (.baload, 1) := by decide +kernel
theorem dX4_isKept_14 : decode cX4_isKept 14 = .ok (.ifCond .eq 7, 3) := by decide +kernel
theorem dX4_isKept_17 : decode cX4_isKept 17 = .ok (.iconst 1, 1) := by decide +kernel
theorem dX4_isKept_18 : decode cX4_isKept 18 = .ok (.goto 4, 3) := by decide +kernel
theorem dX4_isKept_21 : decode cX4_isKept 21 = .ok (.iconst 0, 1) := by decide +kernel
theorem dX4_isKept_22 : decode cX4_isKept 22 = .ok (.ireturn, 1) := by decide +kernel
set_option maxRecDepth 20000 in
theorem ggX4_mark_X4_has : GoodIn wsX4_mark wsX4_has := goodIn_r _ [6, 7, 8, 9, 10, 11, 12, 13, 14, 15] (by decide +kernel) (by decide +kernel)
set_option maxRecDepth 20000 in
theorem gX4_mark_X4_has : GoodIn wsX4_mark (wsV RX4 75 RX4 yX4_has wsX4_has) := goodIn_app (goodIn_of _ (by decide +kernel)) ggX4_mark_X4_has
theorem dX4_mark_0 : decode cX4_mark 0 = .ok (.aload_n 0, 1) := by decide +kernel
theorem dX4_mark_1 : decode cX4_mark 1 = .ok (.iload_n 1, 1) := by decide +kernel
theorem dX4_mark_2 : decode cX4_mark 2 = .ok (.invokevirtual 75, 3) := by decide +kernel
theorem dX4_mark_5 : decode cX4_mark 5 = .ok (.ifCond .eq 13, 3) := by decide +kernel
theorem dX4_mark_8 : decode cX4_mark 8 = .ok (.aload_n 0, 1) := by decide +kernel
theorem dX4_mark_9 : decode cX4_mark 9 = .ok (.getfield 18, 3) := by decide +kernel
theorem dX4_mark_12 : decode cX4_mark 12 = .ok (.iload_n 1, 1) := by decide +kernel
theorem dX4_mark_13 : decode cX4_mark 13 = .ok (.baload, 1) := by decide +kernel
theorem dX4_mark_14 : decode cX4_mark 14 = .ok (.iload_n 2, 1) := by decide +kernel
theorem dX4_mark_15 : decode cX4_mark 15 = .ok (.if_icmp .ne 5, 3) := by decide +kernel
theorem dX4_mark_18 : decode cX4_mark 18 = .ok (.iconst 0, 1) := by decide +kernel
theorem dX4_mark_19 : decode cX4_mark 19 = .ok (.ireturn, 1) := by decide +kernel
theorem dX4_mark_20 : decode cX4_mark 20 = .ok (.aload_n 0, 1) := by decide +kernel
theorem dX4_mark_21 : decode cX4_mark 21 = .ok (.getfield 18, 3) := by decide +kernel
theorem dX4_mark_24 : decode cX4_mark 24 = .ok (.iload_n 1, 1) := by decide +kernel
theorem dX4_mark_25 : decode cX4_mark 25 = .ok (.iload_n 2, 1) := by decide +kernel
theorem dX4_mark_26 : decode cX4_mark 26 = .ok (.bastore, 1) := by decide +kernel
theorem dX4_mark_27 : decode cX4_mark 27 = .ok (.iconst 1, 1) := by decide +kernel
theorem dX4_mark_28 : decode cX4_mark 28 = .ok (.ireturn, 1) := by decide +kernel
set_option maxRecDepth 20000 in
theorem ggX4_sizeOf_X4_has : GoodIn wsX4_sizeOf wsX4_has := goodIn_r _ [7, 8, 68, 69, 70, 71, 72, 73, 74, 75] (by decide +kernel) (by decide +kernel)
set_option maxRecDepth 20000 in
theorem gX4_sizeOf_X4_has : GoodIn wsX4_sizeOf (wsV RX4 75 RX4 yX4_has wsX4_has) := goodIn_app (goodIn_of _ (by decide +kernel)) ggX4_sizeOf_X4_has
set_option maxRecDepth 20000 in
theorem ggX4_sizeOf_X4_collectGroups : GoodIn wsX4_sizeOf wsX4_collectGroups := goodIn_r _ [12, 2, 13, 14, 15, 16, 17, 6, 18, 19, 3, 4, 5, 7, 8, 20, 21, 22, 23, 24, 25, 26, 27, 28, 29, 30, 31, 32, 33, 34, 35, 36, 37, 38, 39, 40, 41, 42, 43, 44, 45, 46, 47, 48, 49, 50, 51, 52, 53, 54, 55, 56, 57, 58, 59, 60, 61, 62, 63, 64, 65, 66, 67, 68, 69, 70, 71, 72, 73, 74, 75, 78, 79, 80, 81, 82, 76, 77, 83, 84, 85, 86, 87, 88, 89, 90] (by decide +kernel) (by decide +kernel)
set_option maxRecDepth 20000 in
theorem gX4_sizeOf_X4_collectGroups : GoodIn wsX4_sizeOf (wsV RX4 86 RX4 yX4_collectGroups wsX4_collectGroups) := goodIn_app (goodIn_of _ (by decide +kernel)) ggX4_sizeOf_X4_collectGroups
theorem dX4_sizeOf_0 : decode cX4_sizeOf 0 = .ok (.aload_n 0, 1) := by decide +kernel
theorem dX4_sizeOf_1 : decode cX4_sizeOf 1 = .ok (.iload_n 1, 1) := by decide +kernel
theorem dX4_sizeOf_2 : decode cX4_sizeOf 2 = .ok (.invokevirtual 75, 3) := by decide +kernel
theorem dX4_sizeOf_5 : decode cX4_sizeOf 5 = .ok (.ifCond .ne 5, 3) := by decide +kernel
theorem dX4_sizeOf_8 : decode cX4_sizeOf 8 = .ok (.iconst 0, 1) := by decide +kernel
theorem dX4_sizeOf_9 : decode cX4_sizeOf 9 = .ok (.ireturn, 1) := by decide +kernel
theorem dX4_sizeOf_10 : decode cX4_sizeOf 10 = .ok (.aload_n 0, 1) := by decide +kernel
theorem dX4_sizeOf_11 : decode cX4_sizeOf 11 = .ok (.getfield 15, 3) := by decide +kernel
theorem dX4_sizeOf_14 : decode cX4_sizeOf 14 = .ok (.iload_n 1, 1) := by decide +kernel
theorem dX4_sizeOf_15 : decode cX4_sizeOf 15 = .ok (.iaload, 1) := by decide +kernel
theorem dX4_sizeOf_16 : decode cX4_sizeOf 16 = .ok (.iconst (-1), 1) := by decide +kernel
theorem dX4_sizeOf_17 : decode cX4_sizeOf 17 = .ok (.if_icmp .ne 21, 3) := by decide +kernel
theorem dX4_sizeOf_20 : decode cX4_sizeOf 20 = .ok (.aload_n 0, 1) := by decide +kernel
theorem dX4_sizeOf_21 : decode cX4_sizeOf 21 = .ok (.iload_n 1, 1) := by decide +kernel
theorem dX4_sizeOf_22 : decode cX4_sizeOf 22 = .ok (.invokevirtual 86, 3) := by decide +kernel
theorem dX4_sizeOf_25 : decode cX4_sizeOf 25 = .ok (.aload_n 0, 1) := by decide +kernel
theorem dX4_sizeOf_26 : decode cX4_sizeOf 26 = .ok (.getfield 15, 3) := by decide +kernel
theorem dX4_sizeOf_29 : decode cX4_sizeOf 29 = .ok (.iload_n 1, 1) := by decide +kernel
theorem dX4_sizeOf_30 : decode cX4_sizeOf 30 = .ok (.aload_n 0, 1) := by decide +kernel
theorem dX4_sizeOf_31 : decode cX4_sizeOf 31 = .ok (.getfield 28, 3) := by decide +kernel
theorem dX4_sizeOf_34 : decode cX4_sizeOf 34 = .ok (.getfield 90, 3) := by decide +kernel
theorem dX4_sizeOf_37 : decode cX4_sizeOf 37 = .ok (.iastore, 1) := by decide +kernel
theorem dX4_sizeOf_38 : decode cX4_sizeOf 38 = .ok (.aload_n 0, 1) := by decide +kernel
theorem dX4_sizeOf_39 : decode cX4_sizeOf 39 = .ok (.getfield 15, 3) := by decide +kernel
theorem dX4_sizeOf_42 : decode cX4_sizeOf 42 = .ok (.iload_n 1, 1) := by decide +kernel
theorem dX4_sizeOf_43 : decode cX4_sizeOf 43 = .ok (.iaload, 1) := by decide +kernel
theorem dX4_sizeOf_44 : decode cX4_sizeOf 44 = .ok (.ireturn, 1) := by decide +kernel
set_option maxRecDepth 20000 in
theorem ggX4_collectGroups_X4_levelsOf : GoodIn wsX4_collectGroups wsX4_levelsOf := goodIn_r _ [8, 9, 10, 11, 12, 7, 13, 14, 63, 64, 65, 66, 67, 68, 69, 70] (by decide +kernel) (by decide +kernel)
set_option maxRecDepth 20000 in
theorem gX4_collectGroups_X4_levelsOf : GoodIn wsX4_collectGroups (wsV RX4 79 RX4 yX4_levelsOf wsX4_levelsOf) := goodIn_app (goodIn_of _ (by decide +kernel)) ggX4_collectGroups_X4_levelsOf
set_option maxRecDepth 20000 in
theorem ggX4_collectGroups_X3_clear : GoodIn wsX4_collectGroups wsX3_clear := goodIn_r _ [19, 20, 21, 22, 23, 24, 25, 76, 77] (by decide +kernel) (by decide +kernel)
set_option maxRecDepth 20000 in
theorem gX4_collectGroups_X3_clear : GoodIn wsX4_collectGroups (wsV RX4 93 RX3 yX3_clear wsX3_clear) := goodIn_app (goodIn_of _ (by decide +kernel)) ggX4_collectGroups_X3_clear
set_option maxRecDepth 20000 in
theorem ggX4_collectGroups_X2_isThere : GoodIn wsX4_collectGroups wsX2_isThere := goodIn_r _ [30, 31, 32, 33, 34, 29, 35, 36, 71, 72, 73, 74, 75] (by decide +kernel) (by decide +kernel)
set_option maxRecDepth 20000 in
theorem gX4_collectGroups_X2_isThere : GoodIn wsX4_collectGroups (wsV RX4 101 RX2 yX2_isThere wsX2_isThere) := goodIn_app (goodIn_of _ (by decide +kernel)) ggX4_collectGroups_X2_isThere
set_option maxRecDepth 20000 in
theorem ggX4_collectGroups_X2_cellOf : GoodIn wsX4_collectGroups wsX2_cellOf := goodIn_r _ [40, 41, 32, 33, 34, 29, 35, 36, 71, 72, 73, 74, 75] (by decide +kernel) (by decide +kernel)
set_option maxRecDepth 20000 in
theorem gX4_collectGroups_X2_cellOf : GoodIn wsX4_collectGroups (wsV RX4 104 RX2 yX2_cellOf wsX2_cellOf) := goodIn_app (goodIn_of _ (by decide +kernel)) ggX4_collectGroups_X2_cellOf
set_option maxRecDepth 20000 in
theorem ggX4_collectGroups_X6_groupOf : GoodIn wsX4_collectGroups wsX6_groupOf := goodIn_r _ [46, 47, 48, 49, 50, 45, 51, 52, 53, 54, 55, 56, 57, 58, 78, 79, 80, 81, 82, 83, 84, 85] (by decide +kernel) (by decide +kernel)
set_option maxRecDepth 20000 in
theorem gX4_collectGroups_X6_groupOf : GoodIn wsX4_collectGroups (wsV RX4 107 RX6 yX6_groupOf wsX6_groupOf) := goodIn_app (goodIn_of _ (by decide +kernel)) ggX4_collectGroups_X6_groupOf
set_option maxRecDepth 20000 in
theorem ggX4_collectGroups_X3_add : GoodIn wsX4_collectGroups wsX3_add := goodIn_r _ [62, 20, 21, 76, 77] (by decide +kernel) (by decide +kernel)
set_option maxRecDepth 20000 in
theorem gX4_collectGroups_X3_add : GoodIn wsX4_collectGroups (wsV RX4 110 RX3 yX3_add wsX3_add) := goodIn_app (goodIn_of _ (by decide +kernel)) ggX4_collectGroups_X3_add
theorem dX4_collectGroups_0 : decode cX4_collectGroups 0 = .ok (.aload_n 0, 1) := by decide +kernel
theorem dX4_collectGroups_1 : decode cX4_collectGroups 1 = .ok (.iload_n 1, 1) := by decide +kernel
theorem dX4_collectGroups_2 : decode cX4_collectGroups 2 = .ok (.invokevirtual 79, 3) := by decide +kernel
theorem dX4_collectGroups_5 : decode cX4_collectGroups 5 = .ok (.istore_n 2, 1) := by decide +kernel
theorem dX4_collectGroups_6 : decode cX4_collectGroups 6 = .ok (.aload_n 0, 1) := by decide +kernel
theorem dX4_collectGroups_7 : decode cX4_collectGroups 7 = .ok (.getfield 28, 3) := by decide +kernel
theorem dX4_collectGroups_10 : decode cX4_collectGroups 10 = .ok (.invokevirtual 93, 3) := by decide +kernel
theorem dX4_collectGroups_13 : decode cX4_collectGroups 13 = .ok (.iconst 0, 1) := by decide +kernel
theorem dX4_collectGroups_14 : decode cX4_collectGroups 14 = .ok (.istore_n 3, 1) := by decide +kernel
theorem dX4_collectGroups_15 : decode cX4_collectGroups 15 = .ok (.iload_n 3, 1) := by decide +kernel
theorem dX4_collectGroups_16 : decode cX4_collectGroups 16 = .ok (.aload_n 0, 1) := by decide +kernel
theorem dX4_collectGroups_17 : decode cX4_collectGroups 17 = .ok (.getfield 36, 3) := by decide +kernel
theorem dX4_collectGroups_20 : decode cX4_collectGroups 20 = .ok (.getfield 96, 3) := by decide +kernel
theorem dX4_collectGroups_23 : decode cX4_collectGroups 23 = .ok (.if_icmp .ge 43, 3) := by decide +kernel
theorem dX4_collectGroups_26 : decode cX4_collectGroups 26 = .ok (.aload_n 0, 1) := by decide +kernel
theorem dX4_collectGroups_27 : decode cX4_collectGroups 27 = .ok (.getfield 36, 3) := by decide +kernel
theorem dX4_collectGroups_30 : decode cX4_collectGroups 30 = .ok (.iload_n 3, 1) := by decide +kernel
theorem dX4_collectGroups_31 : decode cX4_collectGroups 31 = .ok (.invokevirtual 101, 3) := by decide +kernel
theorem dX4_collectGroups_34 : decode cX4_collectGroups 34 = .ok (.ifCond .eq 26, 3) := by decide +kernel
theorem dX4_collectGroups_37 : decode cX4_collectGroups 37 = .ok (.aload_n 0, 1) := by decide +kernel
theorem dX4_collectGroups_38 : decode cX4_collectGroups 38 = .ok (.getfield 28, 3) := by decide +kernel
theorem dX4_collectGroups_41 : decode cX4_collectGroups 41 = .ok (.aload_n 0, 1) := by decide +kernel
theorem dX4_collectGroups_42 : decode cX4_collectGroups 42 = .ok (.getfield 32, 3) := by decide +kernel
theorem dX4_collectGroups_45 : decode cX4_collectGroups 45 = .ok (.aload_n 0, 1) := by decide +kernel
theorem dX4_collectGroups_46 : decode cX4_collectGroups 46 = .ok (.getfield 36, 3) := by decide +kernel
theorem dX4_collectGroups_49 : decode cX4_collectGroups 49 = .ok (.iload_n 3, 1) := by decide +kernel
theorem dX4_collectGroups_50 : decode cX4_collectGroups 50 = .ok (.invokevirtual 104, 3) := by decide +kernel
theorem dX4_collectGroups_53 : decode cX4_collectGroups 53 = .ok (.iload_n 2, 1) := by decide +kernel
theorem dX4_collectGroups_54 : decode cX4_collectGroups 54 = .ok (.invokevirtual 107, 3) := by decide +kernel
theorem dX4_collectGroups_57 : decode cX4_collectGroups 57 = .ok (.invokevirtual 110, 3) := by decide +kernel
theorem dX4_collectGroups_60 : decode cX4_collectGroups 60 = .ok (.iinc 3 1, 3) := by decide +kernel
theorem dX4_collectGroups_63 : decode cX4_collectGroups 63 = .ok (.goto (-48), 3) := by decide +kernel
theorem dX4_collectGroups_66 : decode cX4_collectGroups 66 = .ok (.return_, 1) := by decide +kernel
set_option maxRecDepth 20000 in
theorem ggX4_groupAt_X4_collectGroups : GoodIn wsX4_groupAt wsX4_collectGroups := goodIn_r _ [6, 1, 7, 8, 9, 10, 11, 5, 12, 13, 14, 15, 16, 17, 18, 19, 20, 21, 22, 23, 24, 25, 26, 27, 28, 29, 30, 31, 32, 33, 34, 35, 36, 37, 38, 39, 40, 41, 42, 43, 44, 45, 46, 47, 48, 49, 50, 51, 52, 53, 54, 55, 56, 57, 58, 59, 60, 61, 62, 63, 64, 65, 66, 71, 72, 73, 74, 75, 76, 77, 78, 79, 80, 81, 82, 83, 84, 85, 86, 87, 88, 89, 90, 91, 92, 93] (by decide +kernel) (by decide +kernel)
set_option maxRecDepth 20000 in
theorem gX4_groupAt_X4_collectGroups : GoodIn wsX4_groupAt (wsV RX4 86 RX4 yX4_collectGroups wsX4_collectGroups) := goodIn_app (goodIn_of _ (by decide +kernel)) ggX4_groupAt_X4_collectGroups
set_option maxRecDepth 20000 in
theorem ggX4_groupAt_X3_at : GoodIn wsX4_groupAt wsX3_at := goodIn_r _ [70, 25, 24, 84, 85] (by decide +kernel) (by decide +kernel)
set_option maxRecDepth 20000 in
theorem gX4_groupAt_X3_at : GoodIn wsX4_groupAt (wsV RX4 113 RX3 yX3_at wsX3_at) := goodIn_app (goodIn_of _ (by decide +kernel)) ggX4_groupAt_X3_at
theorem dX4_groupAt_0 : decode cX4_groupAt 0 = .ok (.aload_n 0, 1) := by decide +kernel
theorem dX4_groupAt_1 : decode cX4_groupAt 1 = .ok (.iload_n 1, 1) := by decide +kernel
theorem dX4_groupAt_2 : decode cX4_groupAt 2 = .ok (.invokevirtual 86, 3) := by decide +kernel
theorem dX4_groupAt_5 : decode cX4_groupAt 5 = .ok (.aload_n 0, 1) := by decide +kernel
theorem dX4_groupAt_6 : decode cX4_groupAt 6 = .ok (.getfield 28, 3) := by decide +kernel
theorem dX4_groupAt_9 : decode cX4_groupAt 9 = .ok (.iload_n 2, 1) := by decide +kernel
theorem dX4_groupAt_10 : decode cX4_groupAt 10 = .ok (.invokevirtual 113, 3) := by decide +kernel
theorem dX4_groupAt_13 : decode cX4_groupAt 13 = .ok (.ireturn, 1) := by decide +kernel
set_option maxRecDepth 20000 in
theorem ggX4_serverOf_X4_canServe : GoodIn wsX4_serverOf wsX4_canServe := goodIn_r _ [7, 8, 9, 10, 6, 11, 12, 13, 14, 15, 16, 1, 17, 18, 19, 20, 21, 81, 82, 83, 84, 85, 86, 87, 88] (by decide +kernel) (by decide +kernel)
set_option maxRecDepth 20000 in
theorem gX4_serverOf_X4_canServe : GoodIn wsX4_serverOf (wsV RX4 116 RX4 yX4_canServe wsX4_canServe) := goodIn_app (goodIn_of _ (by decide +kernel)) ggX4_serverOf_X4_canServe
set_option maxRecDepth 20000 in
theorem ggX4_serverOf_X4_sizeOf : GoodIn wsX4_serverOf wsX4_sizeOf := goodIn_r _ [25, 26, 27, 13, 14, 15, 6, 16, 1, 28, 29, 30, 31, 32, 33, 8, 9, 10, 11, 12, 34, 35, 36, 37, 38, 39, 40, 41, 42, 43, 44, 45, 46, 47, 48, 49, 50, 51, 52, 53, 54, 55, 56, 57, 58, 59, 60, 61, 62, 63, 19, 64, 65, 66, 67, 68, 69, 70, 71, 72, 73, 74, 75, 76, 77, 78, 79, 80, 81, 82, 83, 84, 85, 86, 87, 88, 89, 90, 91, 92, 93, 94, 95, 96, 97, 98, 99, 100, 101, 102, 103] (by decide +kernel) (by decide +kernel)
set_option maxRecDepth 20000 in
theorem gX4_serverOf_X4_sizeOf : GoodIn wsX4_serverOf (wsV RX4 119 RX4 yX4_sizeOf wsX4_sizeOf) := goodIn_app (goodIn_of _ (by decide +kernel)) ggX4_serverOf_X4_sizeOf
theorem dX4_serverOf_0 : decode cX4_serverOf 0 = .ok (.iconst 0, 1) := by decide +kernel
theorem dX4_serverOf_1 : decode cX4_serverOf 1 = .ok (.istore_n 2, 1) := by decide +kernel
theorem dX4_serverOf_2 : decode cX4_serverOf 2 = .ok (.iconst 1, 1) := by decide +kernel
theorem dX4_serverOf_3 : decode cX4_serverOf 3 = .ok (.istore_n 3, 1) := by decide +kernel
theorem dX4_serverOf_4 : decode cX4_serverOf 4 = .ok (.iload_n 3, 1) := by decide +kernel
theorem dX4_serverOf_5 : decode cX4_serverOf 5 = .ok (.aload_n 0, 1) := by decide +kernel
theorem dX4_serverOf_6 : decode cX4_serverOf 6 = .ok (.getfield 55, 3) := by decide +kernel
theorem dX4_serverOf_9 : decode cX4_serverOf 9 = .ok (.if_icmp .ge 42, 3) := by decide +kernel
theorem dX4_serverOf_12 : decode cX4_serverOf 12 = .ok (.aload_n 0, 1) := by decide +kernel
theorem dX4_serverOf_13 : decode cX4_serverOf 13 = .ok (.getfield 18, 3) := by decide +kernel
theorem dX4_serverOf_16 : decode cX4_serverOf 16 = .ok (.iload_n 3, 1) := by decide +kernel
theorem dX4_serverOf_17 : decode cX4_serverOf 17 = .ok (.baload, 1) := by decide +kernel
theorem dX4_serverOf_18 : decode cX4_serverOf 18 = .ok (.ifCond .eq 27, 3) := by decide +kernel
theorem dX4_serverOf_21 : decode cX4_serverOf 21 = .ok (.aload_n 0, 1) := by decide +kernel
theorem dX4_serverOf_22 : decode cX4_serverOf 22 = .ok (.iload_n 3, 1) := by decide +kernel
theorem dX4_serverOf_23 : decode cX4_serverOf 23 = .ok (.iload_n 1, 1) := by decide +kernel
theorem dX4_serverOf_24 : decode cX4_serverOf 24 = .ok (.invokevirtual 116, 3) := by decide +kernel
theorem dX4_serverOf_27 : decode cX4_serverOf 27 = .ok (.ifCond .eq 18, 3) := by decide +kernel
theorem dX4_serverOf_30 : decode cX4_serverOf 30 = .ok (.aload_n 0, 1) := by decide +kernel
theorem dX4_serverOf_31 : decode cX4_serverOf 31 = .ok (.iload_n 3, 1) := by decide +kernel
theorem dX4_serverOf_32 : decode cX4_serverOf 32 = .ok (.invokevirtual 119, 3) := by decide +kernel
theorem dX4_serverOf_35 : decode cX4_serverOf 35 = .ok (.aload_n 0, 1) := by decide +kernel
theorem dX4_serverOf_36 : decode cX4_serverOf 36 = .ok (.iload_n 2, 1) := by decide +kernel
theorem dX4_serverOf_37 : decode cX4_serverOf 37 = .ok (.invokevirtual 119, 3) := by decide +kernel
theorem dX4_serverOf_40 : decode cX4_serverOf 40 = .ok (.if_icmp .ge 5, 3) := by decide +kernel
theorem dX4_serverOf_43 : decode cX4_serverOf 43 = .ok (.iload_n 3, 1) := by decide +kernel
theorem dX4_serverOf_44 : decode cX4_serverOf 44 = .ok (.istore_n 2, 1) := by decide +kernel
theorem dX4_serverOf_45 : decode cX4_serverOf 45 = .ok (.iinc 3 1, 3) := by decide +kernel
theorem dX4_serverOf_48 : decode cX4_serverOf 48 = .ok (.goto (-44), 3) := by decide +kernel
theorem dX4_serverOf_51 : decode cX4_serverOf 51 = .ok (.iload_n 2, 1) := by decide +kernel
theorem dX4_serverOf_52 : decode cX4_serverOf 52 = .ok (.ireturn, 1) := by decide +kernel
set_option maxRecDepth 20000 in
theorem ggX4_costOf_X4_serverOf : GoodIn wsX4_costOf wsX4_serverOf := goodIn_r _ [5, 6, 7, 8, 9, 10, 4, 11, 12, 13, 14, 15, 16, 17, 18, 19, 20, 21, 22, 23, 24, 25, 26, 27, 28, 29, 30, 31, 32, 33, 34, 35, 36, 37, 38, 39, 40, 41, 42, 43, 44, 45, 46, 47, 48, 49, 50, 51, 52, 53, 54, 55, 56, 57, 58, 59, 60, 61, 62, 63, 64, 65, 66, 67, 68, 69, 70, 71, 72, 73, 74, 75, 76, 77, 78, 79, 80, 81, 82, 83, 84, 85, 86, 87, 88, 89, 90, 91, 92, 93, 94, 95, 96, 97, 98, 99, 100, 101, 102, 103, 104, 105, 106, 107] (by decide +kernel) (by decide +kernel)
set_option maxRecDepth 20000 in
theorem gX4_costOf_X4_serverOf : GoodIn wsX4_costOf (wsV RX4 122 RX4 yX4_serverOf wsX4_serverOf) := goodIn_app (goodIn_of _ (by decide +kernel)) ggX4_costOf_X4_serverOf
set_option maxRecDepth 20000 in
theorem ggX4_costOf_X4_sizeOf : GoodIn wsX4_costOf wsX4_sizeOf := goodIn_r _ [29, 30, 31, 17, 18, 19, 4, 20, 6, 32, 33, 34, 35, 36, 37, 12, 13, 14, 15, 16, 38, 39, 40, 41, 42, 43, 44, 45, 46, 47, 48, 49, 50, 51, 52, 53, 54, 55, 56, 57, 58, 59, 60, 61, 62, 63, 64, 65, 66, 67, 23, 68, 69, 70, 71, 72, 73, 74, 75, 76, 77, 78, 79, 80, 81, 82, 83, 84, 85, 86, 87, 88, 89, 90, 91, 92, 93, 94, 95, 96, 97, 98, 99, 100, 101, 102, 103, 104, 105, 106, 107] (by decide +kernel) (by decide +kernel)
set_option maxRecDepth 20000 in
theorem gX4_costOf_X4_sizeOf : GoodIn wsX4_costOf (wsV RX4 119 RX4 yX4_sizeOf wsX4_sizeOf) := goodIn_app (goodIn_of _ (by decide +kernel)) ggX4_costOf_X4_sizeOf
theorem dX4_costOf_0 : decode cX4_costOf 0 = .ok (.aload_n 0, 1) := by decide +kernel
theorem dX4_costOf_1 : decode cX4_costOf 1 = .ok (.aload_n 0, 1) := by decide +kernel
theorem dX4_costOf_2 : decode cX4_costOf 2 = .ok (.iload_n 1, 1) := by decide +kernel
theorem dX4_costOf_3 : decode cX4_costOf 3 = .ok (.invokevirtual 122, 3) := by decide +kernel
theorem dX4_costOf_6 : decode cX4_costOf 6 = .ok (.invokevirtual 119, 3) := by decide +kernel
theorem dX4_costOf_9 : decode cX4_costOf 9 = .ok (.ireturn, 1) := by decide +kernel
set_option maxRecDepth 20000 in
theorem ggX4_gainOf_X4_isKept : GoodIn wsX4_gainOf wsX4_isKept := goodIn_r _ [8, 3, 9, 10, 11, 7, 12, 2, 101, 102, 103, 104, 105, 106, 107, 108] (by decide +kernel) (by decide +kernel)
set_option maxRecDepth 20000 in
theorem gX4_gainOf_X4_isKept : GoodIn wsX4_gainOf (wsV RX4 125 RX4 yX4_isKept wsX4_isKept) := goodIn_app (goodIn_of _ (by decide +kernel)) ggX4_gainOf_X4_isKept
set_option maxRecDepth 20000 in
theorem ggX4_gainOf_X4_fillBare : GoodIn wsX4_gainOf wsX4_fillBare := goodIn_r _ [16, 2, 17, 18, 19, 20, 7, 21, 22, 9, 10, 11, 12, 23, 24, 25, 26, 27, 28, 29, 30, 31, 32, 33, 34, 35, 36, 37, 38, 39, 40, 41, 42, 43, 44, 45, 46, 47, 48, 49, 50, 51, 52, 53, 54, 55, 56, 57, 58, 59, 60, 61, 62, 63, 64, 65, 66, 67, 68, 69, 70, 71, 72, 73, 74, 75, 76, 77, 78, 79, 80, 81, 82, 83, 84, 101, 102, 103, 104, 105, 106, 107, 108, 109, 110, 111, 112, 113, 114, 115, 116, 117, 118, 119, 120, 121, 122, 123] (by decide +kernel) (by decide +kernel)
set_option maxRecDepth 20000 in
theorem gX4_gainOf_X4_fillBare : GoodIn wsX4_gainOf (wsV RX4 128 RX4 yX4_fillBare wsX4_fillBare) := goodIn_app (goodIn_of _ (by decide +kernel)) ggX4_gainOf_X4_fillBare
set_option maxRecDepth 20000 in
theorem ggX4_gainOf_X4_lower : GoodIn wsX4_gainOf wsX4_lower := goodIn_r _ [88, 2, 33, 17, 89, 90, 91, 92, 9, 10, 11, 7, 12, 93, 94, 64, 95, 96, 101, 102, 103, 104, 105, 106, 107, 108] (by decide +kernel) (by decide +kernel)
set_option maxRecDepth 20000 in
theorem gX4_gainOf_X4_lower : GoodIn wsX4_gainOf (wsV RX4 132 RX4 yX4_lower wsX4_lower) := goodIn_app (goodIn_of _ (by decide +kernel)) ggX4_gainOf_X4_lower
set_option maxRecDepth 20000 in
theorem ggX4_gainOf_X4_sparedBy : GoodIn wsX4_gainOf wsX4_sparedBy := goodIn_r _ [100, 2, 17, 33, 9, 10, 11, 7, 12, 93, 94, 64, 95, 96, 101, 102, 103, 104, 105, 106, 107, 108] (by decide +kernel) (by decide +kernel)
set_option maxRecDepth 20000 in
theorem gX4_gainOf_X4_sparedBy : GoodIn wsX4_gainOf (wsV RX4 136 RX4 yX4_sparedBy wsX4_sparedBy) := goodIn_app (goodIn_of _ (by decide +kernel)) ggX4_gainOf_X4_sparedBy
theorem dX4_gainOf_0 : decode cX4_gainOf 0 = .ok (.aload_n 0, 1) := by decide +kernel
theorem dX4_gainOf_1 : decode cX4_gainOf 1 = .ok (.iload_n 1, 1) := by decide +kernel
theorem dX4_gainOf_2 : decode cX4_gainOf 2 = .ok (.invokevirtual 125, 3) := by decide +kernel
theorem dX4_gainOf_5 : decode cX4_gainOf 5 = .ok (.ifCond .eq 5, 3) := by decide +kernel
theorem dX4_gainOf_8 : decode cX4_gainOf 8 = .ok (.iconst 0, 1) := by decide +kernel
theorem dX4_gainOf_9 : decode cX4_gainOf 9 = .ok (.ireturn, 1) := by decide +kernel
theorem dX4_gainOf_10 : decode cX4_gainOf 10 = .ok (.aload_n 0, 1) := by decide +kernel
theorem dX4_gainOf_11 : decode cX4_gainOf 11 = .ok (.aload_n 0, 1) := by decide +kernel
theorem dX4_gainOf_12 : decode cX4_gainOf 12 = .ok (.getfield 22, 3) := by decide +kernel
theorem dX4_gainOf_15 : decode cX4_gainOf 15 = .ok (.invokevirtual 128, 3) := by decide +kernel
theorem dX4_gainOf_18 : decode cX4_gainOf 18 = .ok (.iconst 1, 1) := by decide +kernel
theorem dX4_gainOf_19 : decode cX4_gainOf 19 = .ok (.istore_n 2, 1) := by decide +kernel
theorem dX4_gainOf_20 : decode cX4_gainOf 20 = .ok (.iload_n 2, 1) := by decide +kernel
theorem dX4_gainOf_21 : decode cX4_gainOf 21 = .ok (.aload_n 0, 1) := by decide +kernel
theorem dX4_gainOf_22 : decode cX4_gainOf 22 = .ok (.getfield 55, 3) := by decide +kernel
theorem dX4_gainOf_25 : decode cX4_gainOf 25 = .ok (.if_icmp .ge 31, 3) := by decide +kernel
theorem dX4_gainOf_28 : decode cX4_gainOf 28 = .ok (.aload_n 0, 1) := by decide +kernel
theorem dX4_gainOf_29 : decode cX4_gainOf 29 = .ok (.getfield 18, 3) := by decide +kernel
theorem dX4_gainOf_32 : decode cX4_gainOf 32 = .ok (.iload_n 2, 1) := by decide +kernel
theorem dX4_gainOf_33 : decode cX4_gainOf 33 = .ok (.baload, 1) := by decide +kernel
theorem dX4_gainOf_34 : decode cX4_gainOf 34 = .ok (.ifCond .eq 16, 3) := by decide +kernel
theorem dX4_gainOf_37 : decode cX4_gainOf 37 = .ok (.aload_n 0, 1) := by decide +kernel
theorem dX4_gainOf_38 : decode cX4_gainOf 38 = .ok (.aload_n 0, 1) := by decide +kernel
theorem dX4_gainOf_39 : decode cX4_gainOf 39 = .ok (.getfield 22, 3) := by decide +kernel
theorem dX4_gainOf_42 : decode cX4_gainOf 42 = .ok (.aload_n 0, 1) := by decide +kernel
theorem dX4_gainOf_43 : decode cX4_gainOf 43 = .ok (.getfield 22, 3) := by decide +kernel
theorem dX4_gainOf_46 : decode cX4_gainOf 46 = .ok (.iload_n 2, 1) := by decide +kernel
theorem dX4_gainOf_47 : decode cX4_gainOf 47 = .ok (.invokevirtual 132, 3) := by decide +kernel
theorem dX4_gainOf_50 : decode cX4_gainOf 50 = .ok (.iinc 2 1, 3) := by decide +kernel
theorem dX4_gainOf_53 : decode cX4_gainOf 53 = .ok (.goto (-33), 3) := by decide +kernel
theorem dX4_gainOf_56 : decode cX4_gainOf 56 = .ok (.aload_n 0, 1) := by decide +kernel
theorem dX4_gainOf_57 : decode cX4_gainOf 57 = .ok (.iload_n 1, 1) := by decide +kernel
theorem dX4_gainOf_58 : decode cX4_gainOf 58 = .ok (.aload_n 0, 1) := by decide +kernel
theorem dX4_gainOf_59 : decode cX4_gainOf 59 = .ok (.getfield 22, 3) := by decide +kernel
theorem dX4_gainOf_62 : decode cX4_gainOf 62 = .ok (.invokevirtual 136, 3) := by decide +kernel
theorem dX4_gainOf_65 : decode cX4_gainOf 65 = .ok (.ireturn, 1) := by decide +kernel
set_option maxRecDepth 20000 in
theorem ggX4_fillBare_X4_sizeOf : GoodIn wsX4_fillBare wsX4_sizeOf := goodIn_r _ [7, 2, 8, 9, 10, 11, 6, 12, 1, 13, 14, 15, 16, 17, 18, 19, 20, 21, 22, 23, 24, 25, 26, 27, 28, 29, 30, 31, 32, 33, 34, 35, 36, 37, 38, 39, 40, 41, 42, 43, 44, 45, 46, 47, 48, 49, 50, 51, 52, 53, 54, 55, 56, 57, 58, 59, 60, 61, 62, 63, 64, 65, 66, 67, 68, 69, 70, 71, 75, 76, 77, 78, 79, 80, 81, 82, 83, 84, 85, 86, 87, 88, 89, 90, 91, 92, 93, 94, 95, 96, 97] (by decide +kernel) (by decide +kernel)
set_option maxRecDepth 20000 in
theorem gX4_fillBare_X4_sizeOf : GoodIn wsX4_fillBare (wsV RX4 119 RX4 yX4_sizeOf wsX4_sizeOf) := goodIn_app (goodIn_of _ (by decide +kernel)) ggX4_fillBare_X4_sizeOf
set_option maxRecDepth 20000 in
theorem ggX4_fillBare_J7_fill_53178 : GoodIn wsX4_fillBare wsJ7_fill_53178 := goodIn_r _ [74] (by decide +kernel) (by decide +kernel)
set_option maxRecDepth 20000 in
theorem gX4_fillBare_J7_fill_53178 : GoodIn wsX4_fillBare (va_wsS RX4 69 yJ7_fill_53178 wsJ7_fill_53178) := goodIn_app (goodIn_of _ (by decide +kernel)) ggX4_fillBare_J7_fill_53178
theorem dX4_fillBare_0 : decode cX4_fillBare 0 = .ok (.iconst 0, 1) := by decide +kernel
theorem dX4_fillBare_1 : decode cX4_fillBare 1 = .ok (.istore_n 2, 1) := by decide +kernel
theorem dX4_fillBare_2 : decode cX4_fillBare 2 = .ok (.iload_n 2, 1) := by decide +kernel
theorem dX4_fillBare_3 : decode cX4_fillBare 3 = .ok (.aload_n 0, 1) := by decide +kernel
theorem dX4_fillBare_4 : decode cX4_fillBare 4 = .ok (.getfield 55, 3) := by decide +kernel
theorem dX4_fillBare_7 : decode cX4_fillBare 7 = .ok (.if_icmp .ge 15, 3) := by decide +kernel
theorem dX4_fillBare_10 : decode cX4_fillBare 10 = .ok (.aload_n 0, 1) := by decide +kernel
theorem dX4_fillBare_11 : decode cX4_fillBare 11 = .ok (.iload_n 2, 1) := by decide +kernel
theorem dX4_fillBare_12 : decode cX4_fillBare 12 = .ok (.invokevirtual 119, 3) := by decide +kernel
theorem dX4_fillBare_15 : decode cX4_fillBare 15 = .ok (.pop, 1) := by decide +kernel
theorem dX4_fillBare_16 : decode cX4_fillBare 16 = .ok (.iinc 2 1, 3) := by decide +kernel
theorem dX4_fillBare_19 : decode cX4_fillBare 19 = .ok (.goto (-17), 3) := by decide +kernel
theorem dX4_fillBare_22 : decode cX4_fillBare 22 = .ok (.aload_n 1, 1) := by decide +kernel
theorem dX4_fillBare_23 : decode cX4_fillBare 23 = .ok (.aload_n 0, 1) := by decide +kernel
theorem dX4_fillBare_24 : decode cX4_fillBare 24 = .ok (.getfield 15, 3) := by decide +kernel
theorem dX4_fillBare_27 : decode cX4_fillBare 27 = .ok (.iconst 0, 1) := by decide +kernel
theorem dX4_fillBare_28 : decode cX4_fillBare 28 = .ok (.iaload, 1) := by decide +kernel
theorem dX4_fillBare_29 : decode cX4_fillBare 29 = .ok (.invokestatic 69, 3) := by decide +kernel
theorem dX4_fillBare_32 : decode cX4_fillBare 32 = .ok (.return_, 1) := by decide +kernel
set_option maxRecDepth 20000 in
theorem ggX4_sparedBy_X4_has : GoodIn wsX4_sparedBy wsX4_has := goodIn_r _ [8, 1, 14, 15, 16, 17, 18, 19, 20, 21] (by decide +kernel) (by decide +kernel)
set_option maxRecDepth 20000 in
theorem gX4_sparedBy_X4_has : GoodIn wsX4_sparedBy (wsV RX4 75 RX4 yX4_has wsX4_has) := goodIn_app (goodIn_of _ (by decide +kernel)) ggX4_sparedBy_X4_has
set_option maxRecDepth 20000 in
theorem ggX4_sparedBy_X6_isNowhereAbove : GoodIn wsX4_sparedBy wsX6_isNowhereAbove := goodIn_r _ [12, 13] (by decide +kernel) (by decide +kernel)
set_option maxRecDepth 20000 in
theorem gX4_sparedBy_X6_isNowhereAbove : GoodIn wsX4_sparedBy (va_wsS RX4 82 yX6_isNowhereAbove wsX6_isNowhereAbove) := goodIn_app (goodIn_of _ (by decide +kernel)) ggX4_sparedBy_X6_isNowhereAbove
theorem dX4_sparedBy_0 : decode cX4_sparedBy 0 = .ok (.aload_n 0, 1) := by decide +kernel
theorem dX4_sparedBy_1 : decode cX4_sparedBy 1 = .ok (.iload_n 1, 1) := by decide +kernel
theorem dX4_sparedBy_2 : decode cX4_sparedBy 2 = .ok (.invokevirtual 75, 3) := by decide +kernel
theorem dX4_sparedBy_5 : decode cX4_sparedBy 5 = .ok (.ifCond .ne 5, 3) := by decide +kernel
theorem dX4_sparedBy_8 : decode cX4_sparedBy 8 = .ok (.iconst 0, 1) := by decide +kernel
theorem dX4_sparedBy_9 : decode cX4_sparedBy 9 = .ok (.ireturn, 1) := by decide +kernel
theorem dX4_sparedBy_10 : decode cX4_sparedBy 10 = .ok (.iconst 0, 1) := by decide +kernel
theorem dX4_sparedBy_11 : decode cX4_sparedBy 11 = .ok (.istore_n 3, 1) := by decide +kernel
theorem dX4_sparedBy_12 : decode cX4_sparedBy 12 = .ok (.iload_n 1, 1) := by decide +kernel
theorem dX4_sparedBy_13 : decode cX4_sparedBy 13 = .ok (.istore 4, 2) := by decide +kernel
theorem dX4_sparedBy_15 : decode cX4_sparedBy 15 = .ok (.iload 4, 2) := by decide +kernel
theorem dX4_sparedBy_17 : decode cX4_sparedBy 17 = .ok (.aload_n 0, 1) := by decide +kernel
theorem dX4_sparedBy_18 : decode cX4_sparedBy 18 = .ok (.getfield 55, 3) := by decide +kernel
theorem dX4_sparedBy_21 : decode cX4_sparedBy 21 = .ok (.if_icmp .ge 62, 3) := by decide +kernel
theorem dX4_sparedBy_24 : decode cX4_sparedBy 24 = .ok (.iload 4, 2) := by decide +kernel
theorem dX4_sparedBy_26 : decode cX4_sparedBy 26 = .ok (.aload_n 2, 1) := by decide +kernel
theorem dX4_sparedBy_27 : decode cX4_sparedBy 27 = .ok (.arraylength, 1) := by decide +kernel
theorem dX4_sparedBy_28 : decode cX4_sparedBy 28 = .ok (.if_icmp .ge 55, 3) := by decide +kernel
theorem dX4_sparedBy_31 : decode cX4_sparedBy 31 = .ok (.aload_n 2, 1) := by decide +kernel
theorem dX4_sparedBy_32 : decode cX4_sparedBy 32 = .ok (.iload 4, 2) := by decide +kernel
theorem dX4_sparedBy_34 : decode cX4_sparedBy 34 = .ok (.iaload, 1) := by decide +kernel
theorem dX4_sparedBy_35 : decode cX4_sparedBy 35 = .ok (.aload_n 0, 1) := by decide +kernel
theorem dX4_sparedBy_36 : decode cX4_sparedBy 36 = .ok (.getfield 15, 3) := by decide +kernel
theorem dX4_sparedBy_39 : decode cX4_sparedBy 39 = .ok (.iload_n 1, 1) := by decide +kernel
theorem dX4_sparedBy_40 : decode cX4_sparedBy 40 = .ok (.iaload, 1) := by decide +kernel
theorem dX4_sparedBy_41 : decode cX4_sparedBy 41 = .ok (.if_icmp .le 36, 3) := by decide +kernel
theorem dX4_sparedBy_44 : decode cX4_sparedBy 44 = .ok (.aload_n 0, 1) := by decide +kernel
theorem dX4_sparedBy_45 : decode cX4_sparedBy 45 = .ok (.getfield 9, 3) := by decide +kernel
theorem dX4_sparedBy_48 : decode cX4_sparedBy 48 = .ok (.iload_n 1, 1) := by decide +kernel
theorem dX4_sparedBy_49 : decode cX4_sparedBy 49 = .ok (.iaload, 1) := by decide +kernel
theorem dX4_sparedBy_50 : decode cX4_sparedBy 50 = .ok (.aload_n 0, 1) := by decide +kernel
theorem dX4_sparedBy_51 : decode cX4_sparedBy 51 = .ok (.getfield 9, 3) := by decide +kernel
theorem dX4_sparedBy_54 : decode cX4_sparedBy 54 = .ok (.iload 4, 2) := by decide +kernel
theorem dX4_sparedBy_56 : decode cX4_sparedBy 56 = .ok (.iaload, 1) := by decide +kernel
theorem dX4_sparedBy_57 : decode cX4_sparedBy 57 = .ok (.invokestatic 82, 3) := by decide +kernel
theorem dX4_sparedBy_60 : decode cX4_sparedBy 60 = .ok (.ifCond .eq 17, 3) := by decide +kernel
theorem dX4_sparedBy_63 : decode cX4_sparedBy 63 = .ok (.iload_n 3, 1) := by decide +kernel
theorem dX4_sparedBy_64 : decode cX4_sparedBy 64 = .ok (.aload_n 2, 1) := by decide +kernel
theorem dX4_sparedBy_65 : decode cX4_sparedBy 65 = .ok (.iload 4, 2) := by decide +kernel
theorem dX4_sparedBy_67 : decode cX4_sparedBy 67 = .ok (.iaload, 1) := by decide +kernel
theorem dX4_sparedBy_68 : decode cX4_sparedBy 68 = .ok (.aload_n 0, 1) := by decide +kernel
theorem dX4_sparedBy_69 : decode cX4_sparedBy 69 = .ok (.getfield 15, 3) := by decide +kernel
theorem dX4_sparedBy_72 : decode cX4_sparedBy 72 = .ok (.iload_n 1, 1) := by decide +kernel
theorem dX4_sparedBy_73 : decode cX4_sparedBy 73 = .ok (.iaload, 1) := by decide +kernel
theorem dX4_sparedBy_74 : decode cX4_sparedBy 74 = .ok (.isub, 1) := by decide +kernel
theorem dX4_sparedBy_75 : decode cX4_sparedBy 75 = .ok (.iadd, 1) := by decide +kernel
theorem dX4_sparedBy_76 : decode cX4_sparedBy 76 = .ok (.istore_n 3, 1) := by decide +kernel
theorem dX4_sparedBy_77 : decode cX4_sparedBy 77 = .ok (.iinc 4 1, 3) := by decide +kernel
theorem dX4_sparedBy_80 : decode cX4_sparedBy 80 = .ok (.goto (-65), 3) := by decide +kernel
theorem dX4_sparedBy_83 : decode cX4_sparedBy 83 = .ok (.iload_n 3, 1) := by decide +kernel
theorem dX4_sparedBy_84 : decode cX4_sparedBy 84 = .ok (.ireturn, 1) := by decide +kernel
set_option maxRecDepth 20000 in
theorem ggX4_lower_X4_has : GoodIn wsX4_lower wsX4_has := goodIn_r _ [12, 1, 18, 19, 20, 21, 22, 23, 24, 25] (by decide +kernel) (by decide +kernel)
set_option maxRecDepth 20000 in
theorem gX4_lower_X4_has : GoodIn wsX4_lower (wsV RX4 75 RX4 yX4_has wsX4_has) := goodIn_app (goodIn_of _ (by decide +kernel)) ggX4_lower_X4_has
set_option maxRecDepth 20000 in
theorem ggX4_lower_X6_isNowhereAbove : GoodIn wsX4_lower wsX6_isNowhereAbove := goodIn_r _ [16, 17] (by decide +kernel) (by decide +kernel)
set_option maxRecDepth 20000 in
theorem gX4_lower_X6_isNowhereAbove : GoodIn wsX4_lower (va_wsS RX4 82 yX6_isNowhereAbove wsX6_isNowhereAbove) := goodIn_app (goodIn_of _ (by decide +kernel)) ggX4_lower_X6_isNowhereAbove
theorem dX4_lower_0 : decode cX4_lower 0 = .ok (.aload_n 0, 1) := by decide +kernel
theorem dX4_lower_1 : decode cX4_lower 1 = .ok (.iload_n 3, 1) := by decide +kernel
theorem dX4_lower_2 : decode cX4_lower 2 = .ok (.invokevirtual 75, 3) := by decide +kernel
theorem dX4_lower_5 : decode cX4_lower 5 = .ok (.ifCond .ne 4, 3) := by decide +kernel
theorem dX4_lower_8 : decode cX4_lower 8 = .ok (.return_, 1) := by decide +kernel
theorem dX4_lower_9 : decode cX4_lower 9 = .ok (.iconst 0, 1) := by decide +kernel
theorem dX4_lower_10 : decode cX4_lower 10 = .ok (.istore 4, 2) := by decide +kernel
theorem dX4_lower_12 : decode cX4_lower 12 = .ok (.iload 4, 2) := by decide +kernel
theorem dX4_lower_14 : decode cX4_lower 14 = .ok (.aload_n 0, 1) := by decide +kernel
theorem dX4_lower_15 : decode cX4_lower 15 = .ok (.getfield 55, 3) := by decide +kernel
theorem dX4_lower_18 : decode cX4_lower 18 = .ok (.if_icmp .ge 70, 3) := by decide +kernel
theorem dX4_lower_21 : decode cX4_lower 21 = .ok (.iload 4, 2) := by decide +kernel
theorem dX4_lower_23 : decode cX4_lower 23 = .ok (.aload_n 1, 1) := by decide +kernel
theorem dX4_lower_24 : decode cX4_lower 24 = .ok (.arraylength, 1) := by decide +kernel
theorem dX4_lower_25 : decode cX4_lower 25 = .ok (.if_icmp .ge 63, 3) := by decide +kernel
theorem dX4_lower_28 : decode cX4_lower 28 = .ok (.iload 4, 2) := by decide +kernel
theorem dX4_lower_30 : decode cX4_lower 30 = .ok (.aload_n 2, 1) := by decide +kernel
theorem dX4_lower_31 : decode cX4_lower 31 = .ok (.arraylength, 1) := by decide +kernel
theorem dX4_lower_32 : decode cX4_lower 32 = .ok (.if_icmp .ge 56, 3) := by decide +kernel
theorem dX4_lower_35 : decode cX4_lower 35 = .ok (.aload_n 0, 1) := by decide +kernel
theorem dX4_lower_36 : decode cX4_lower 36 = .ok (.getfield 9, 3) := by decide +kernel
theorem dX4_lower_39 : decode cX4_lower 39 = .ok (.iload_n 3, 1) := by decide +kernel
theorem dX4_lower_40 : decode cX4_lower 40 = .ok (.iaload, 1) := by decide +kernel
theorem dX4_lower_41 : decode cX4_lower 41 = .ok (.aload_n 0, 1) := by decide +kernel
theorem dX4_lower_42 : decode cX4_lower 42 = .ok (.getfield 9, 3) := by decide +kernel
theorem dX4_lower_45 : decode cX4_lower 45 = .ok (.iload 4, 2) := by decide +kernel
theorem dX4_lower_47 : decode cX4_lower 47 = .ok (.iaload, 1) := by decide +kernel
theorem dX4_lower_48 : decode cX4_lower 48 = .ok (.invokestatic 82, 3) := by decide +kernel
theorem dX4_lower_51 : decode cX4_lower 51 = .ok (.istore 5, 2) := by decide +kernel
theorem dX4_lower_53 : decode cX4_lower 53 = .ok (.aload_n 2, 1) := by decide +kernel
theorem dX4_lower_54 : decode cX4_lower 54 = .ok (.iload 4, 2) := by decide +kernel
theorem dX4_lower_56 : decode cX4_lower 56 = .ok (.iload 5, 2) := by decide +kernel
theorem dX4_lower_58 : decode cX4_lower 58 = .ok (.ifCond .eq 19, 3) := by decide +kernel
theorem dX4_lower_61 : decode cX4_lower 61 = .ok (.aload_n 1, 1) := by decide +kernel
theorem dX4_lower_62 : decode cX4_lower 62 = .ok (.iload 4, 2) := by decide +kernel
theorem dX4_lower_64 : decode cX4_lower 64 = .ok (.iaload, 1) := by decide +kernel
theorem dX4_lower_65 : decode cX4_lower 65 = .ok (.aload_n 0, 1) := by decide +kernel
theorem dX4_lower_66 : decode cX4_lower 66 = .ok (.getfield 15, 3) := by decide +kernel
theorem dX4_lower_69 : decode cX4_lower 69 = .ok (.iload_n 3, 1) := by decide +kernel
theorem dX4_lower_70 : decode cX4_lower 70 = .ok (.iaload, 1) := by decide +kernel
theorem dX4_lower_71 : decode cX4_lower 71 = .ok (.invokestatic 49, 3) := by decide +kernel
theorem dX4_lower_74 : decode cX4_lower 74 = .ok (.goto 7, 3) := by decide +kernel
theorem dX4_lower_77 : decode cX4_lower 77 = .ok (.aload_n 1, 1) := by decide +kernel
theorem dX4_lower_78 : decode cX4_lower 78 = .ok (.iload 4, 2) := by decide +kernel
theorem dX4_lower_80 : decode cX4_lower 80 = .ok (.iaload, 1) := by decide +kernel
theorem dX4_lower_81 : decode cX4_lower 81 = .ok (.iastore, 1) := by decide +kernel
theorem dX4_lower_82 : decode cX4_lower 82 = .ok (.iinc 4 1, 3) := by decide +kernel
theorem dX4_lower_85 : decode cX4_lower 85 = .ok (.goto (-73), 3) := by decide +kernel
theorem dX4_lower_88 : decode cX4_lower 88 = .ok (.return_, 1) := by decide +kernel
set_option maxRecDepth 20000 in
theorem ggX4_chooseGreedily_X4_keepOnlyFirst : GoodIn wsX4_chooseGreedily wsX4_keepOnlyFirst := goodIn_r _ [6, 7, 109, 110, 111, 112, 113, 114, 115, 116] (by decide +kernel) (by decide +kernel)
set_option maxRecDepth 20000 in
theorem gX4_chooseGreedily_X4_keepOnlyFirst : GoodIn wsX4_chooseGreedily (wsV RX4 63 RX4 yX4_keepOnlyFirst wsX4_keepOnlyFirst) := goodIn_app (goodIn_of _ (by decide +kernel)) ggX4_chooseGreedily_X4_keepOnlyFirst
set_option maxRecDepth 20000 in
theorem ggX4_chooseGreedily_X4_fillBare : GoodIn wsX4_chooseGreedily wsX4_fillBare := goodIn_r _ [11, 12, 13, 14, 15, 16, 5, 17, 18, 19, 20, 21, 22, 23, 24, 25, 26, 27, 28, 29, 30, 31, 32, 33, 34, 35, 36, 37, 38, 39, 40, 41, 42, 43, 44, 45, 46, 47, 48, 49, 50, 51, 52, 53, 54, 55, 56, 57, 58, 59, 60, 61, 62, 63, 64, 65, 66, 67, 68, 69, 70, 71, 72, 73, 74, 75, 76, 77, 78, 79, 80, 81, 82, 83, 84, 109, 110, 111, 112, 113, 114, 115, 116, 117, 118, 119, 120, 121, 122, 123, 124, 125, 126, 127, 128, 129, 130, 131] (by decide +kernel) (by decide +kernel)
set_option maxRecDepth 20000 in
theorem gX4_chooseGreedily_X4_fillBare : GoodIn wsX4_chooseGreedily (wsV RX4 128 RX4 yX4_fillBare wsX4_fillBare) := goodIn_app (goodIn_of _ (by decide +kernel)) ggX4_chooseGreedily_X4_fillBare
set_option maxRecDepth 20000 in
theorem ggX4_chooseGreedily_X4_worthMost : GoodIn wsX4_chooseGreedily wsX4_worthMost := goodIn_r _ [88, 12, 1, 89, 90, 91, 5, 92, 13, 33, 19, 20, 21, 22, 93, 94, 64, 95, 96, 109, 110, 111, 112, 113, 114, 115, 116] (by decide +kernel) (by decide +kernel)
set_option maxRecDepth 20000 in
theorem gX4_chooseGreedily_X4_worthMost : GoodIn wsX4_chooseGreedily (wsV RX4 140 RX4 yX4_worthMost wsX4_worthMost) := goodIn_app (goodIn_of _ (by decide +kernel)) ggX4_chooseGreedily_X4_worthMost
set_option maxRecDepth 20000 in
theorem ggX4_chooseGreedily_X4_sparedBy : GoodIn wsX4_chooseGreedily wsX4_sparedBy := goodIn_r _ [92, 12, 13, 33, 19, 20, 21, 5, 22, 93, 94, 64, 95, 96, 109, 110, 111, 112, 113, 114, 115, 116] (by decide +kernel) (by decide +kernel)
set_option maxRecDepth 20000 in
theorem gX4_chooseGreedily_X4_sparedBy : GoodIn wsX4_chooseGreedily (wsV RX4 136 RX4 yX4_sparedBy wsX4_sparedBy) := goodIn_app (goodIn_of _ (by decide +kernel)) ggX4_chooseGreedily_X4_sparedBy
set_option maxRecDepth 20000 in
theorem ggX4_chooseGreedily_X4_mark : GoodIn wsX4_chooseGreedily wsX4_mark := goodIn_r _ [100, 7, 19, 20, 21, 5, 22, 12, 109, 110, 111, 112, 113, 114, 115, 116] (by decide +kernel) (by decide +kernel)
set_option maxRecDepth 20000 in
theorem gX4_chooseGreedily_X4_mark : GoodIn wsX4_chooseGreedily (wsV RX4 143 RX4 yX4_mark wsX4_mark) := goodIn_app (goodIn_of _ (by decide +kernel)) ggX4_chooseGreedily_X4_mark
set_option maxRecDepth 20000 in
theorem ggX4_chooseGreedily_X4_lower : GoodIn wsX4_chooseGreedily wsX4_lower := goodIn_r _ [104, 12, 33, 13, 105, 106, 107, 108, 19, 20, 21, 5, 22, 93, 94, 64, 95, 96, 109, 110, 111, 112, 113, 114, 115, 116] (by decide +kernel) (by decide +kernel)
set_option maxRecDepth 20000 in
theorem gX4_chooseGreedily_X4_lower : GoodIn wsX4_chooseGreedily (wsV RX4 132 RX4 yX4_lower wsX4_lower) := goodIn_app (goodIn_of _ (by decide +kernel)) ggX4_chooseGreedily_X4_lower
theorem dX4_chooseGreedily_0 : decode cX4_chooseGreedily 0 = .ok (.aload_n 0, 1) := by decide +kernel
theorem dX4_chooseGreedily_1 : decode cX4_chooseGreedily 1 = .ok (.invokevirtual 63, 3) := by decide +kernel
theorem dX4_chooseGreedily_4 : decode cX4_chooseGreedily 4 = .ok (.aload_n 0, 1) := by decide +kernel
theorem dX4_chooseGreedily_5 : decode cX4_chooseGreedily 5 = .ok (.aload_n 0, 1) := by decide +kernel
theorem dX4_chooseGreedily_6 : decode cX4_chooseGreedily 6 = .ok (.getfield 22, 3) := by decide +kernel
theorem dX4_chooseGreedily_9 : decode cX4_chooseGreedily 9 = .ok (.invokevirtual 128, 3) := by decide +kernel
theorem dX4_chooseGreedily_12 : decode cX4_chooseGreedily 12 = .ok (.iconst 0, 1) := by decide +kernel
theorem dX4_chooseGreedily_13 : decode cX4_chooseGreedily 13 = .ok (.istore_n 2, 1) := by decide +kernel
theorem dX4_chooseGreedily_14 : decode cX4_chooseGreedily 14 = .ok (.iconst 0, 1) := by decide +kernel
theorem dX4_chooseGreedily_15 : decode cX4_chooseGreedily 15 = .ok (.istore_n 3, 1) := by decide +kernel
theorem dX4_chooseGreedily_16 : decode cX4_chooseGreedily 16 = .ok (.iload_n 3, 1) := by decide +kernel
theorem dX4_chooseGreedily_17 : decode cX4_chooseGreedily 17 = .ok (.iload_n 1, 1) := by decide +kernel
theorem dX4_chooseGreedily_18 : decode cX4_chooseGreedily 18 = .ok (.if_icmp .ge 62, 3) := by decide +kernel
theorem dX4_chooseGreedily_21 : decode cX4_chooseGreedily 21 = .ok (.aload_n 0, 1) := by decide +kernel
theorem dX4_chooseGreedily_22 : decode cX4_chooseGreedily 22 = .ok (.invokevirtual 140, 3) := by decide +kernel
theorem dX4_chooseGreedily_25 : decode cX4_chooseGreedily 25 = .ok (.istore 4, 2) := by decide +kernel
theorem dX4_chooseGreedily_27 : decode cX4_chooseGreedily 27 = .ok (.aload_n 0, 1) := by decide +kernel
theorem dX4_chooseGreedily_28 : decode cX4_chooseGreedily 28 = .ok (.iload 4, 2) := by decide +kernel
theorem dX4_chooseGreedily_30 : decode cX4_chooseGreedily 30 = .ok (.aload_n 0, 1) := by decide +kernel
theorem dX4_chooseGreedily_31 : decode cX4_chooseGreedily 31 = .ok (.getfield 22, 3) := by decide +kernel
theorem dX4_chooseGreedily_34 : decode cX4_chooseGreedily 34 = .ok (.invokevirtual 136, 3) := by decide +kernel
theorem dX4_chooseGreedily_37 : decode cX4_chooseGreedily 37 = .ok (.istore 5, 2) := by decide +kernel
theorem dX4_chooseGreedily_39 : decode cX4_chooseGreedily 39 = .ok (.iload 5, 2) := by decide +kernel
theorem dX4_chooseGreedily_41 : decode cX4_chooseGreedily 41 = .ok (.ifCond .gt 6, 3) := by decide +kernel
theorem dX4_chooseGreedily_44 : decode cX4_chooseGreedily 44 = .ok (.goto 36, 3) := by decide +kernel
theorem dX4_chooseGreedily_47 : decode cX4_chooseGreedily 47 = .ok (.aload_n 0, 1) := by decide +kernel
theorem dX4_chooseGreedily_48 : decode cX4_chooseGreedily 48 = .ok (.iload 4, 2) := by decide +kernel
theorem dX4_chooseGreedily_50 : decode cX4_chooseGreedily 50 = .ok (.iconst 1, 1) := by decide +kernel
theorem dX4_chooseGreedily_51 : decode cX4_chooseGreedily 51 = .ok (.invokevirtual 143, 3) := by decide +kernel
theorem dX4_chooseGreedily_54 : decode cX4_chooseGreedily 54 = .ok (.pop, 1) := by decide +kernel
theorem dX4_chooseGreedily_55 : decode cX4_chooseGreedily 55 = .ok (.aload_n 0, 1) := by decide +kernel
theorem dX4_chooseGreedily_56 : decode cX4_chooseGreedily 56 = .ok (.aload_n 0, 1) := by decide +kernel
theorem dX4_chooseGreedily_57 : decode cX4_chooseGreedily 57 = .ok (.getfield 22, 3) := by decide +kernel
theorem dX4_chooseGreedily_60 : decode cX4_chooseGreedily 60 = .ok (.aload_n 0, 1) := by decide +kernel
theorem dX4_chooseGreedily_61 : decode cX4_chooseGreedily 61 = .ok (.getfield 22, 3) := by decide +kernel
theorem dX4_chooseGreedily_64 : decode cX4_chooseGreedily 64 = .ok (.iload 4, 2) := by decide +kernel
theorem dX4_chooseGreedily_66 : decode cX4_chooseGreedily 66 = .ok (.invokevirtual 132, 3) := by decide +kernel
theorem dX4_chooseGreedily_69 : decode cX4_chooseGreedily 69 = .ok (.iload_n 2, 1) := by decide +kernel
theorem dX4_chooseGreedily_70 : decode cX4_chooseGreedily 70 = .ok (.iload 5, 2) := by decide +kernel
theorem dX4_chooseGreedily_72 : decode cX4_chooseGreedily 72 = .ok (.iadd, 1) := by decide +kernel
theorem dX4_chooseGreedily_73 : decode cX4_chooseGreedily 73 = .ok (.istore_n 2, 1) := by decide +kernel
theorem dX4_chooseGreedily_74 : decode cX4_chooseGreedily 74 = .ok (.iinc 3 1, 3) := by decide +kernel
theorem dX4_chooseGreedily_77 : decode cX4_chooseGreedily 77 = .ok (.goto (-61), 3) := by decide +kernel
theorem dX4_chooseGreedily_80 : decode cX4_chooseGreedily 80 = .ok (.iload_n 2, 1) := by decide +kernel
theorem dX4_chooseGreedily_81 : decode cX4_chooseGreedily 81 = .ok (.ireturn, 1) := by decide +kernel
set_option maxRecDepth 20000 in
theorem ggX4_worthMost_X4_sparedBy : GoodIn wsX4_worthMost wsX4_sparedBy := goodIn_r _ [7, 1, 8, 9, 10, 11, 12, 6, 13, 14, 15, 16, 17, 18, 19, 20, 21, 22, 23, 24, 25, 26] (by decide +kernel) (by decide +kernel)
set_option maxRecDepth 20000 in
theorem gX4_worthMost_X4_sparedBy : GoodIn wsX4_worthMost (wsV RX4 136 RX4 yX4_sparedBy wsX4_sparedBy) := goodIn_app (goodIn_of _ (by decide +kernel)) ggX4_worthMost_X4_sparedBy
theorem dX4_worthMost_0 : decode cX4_worthMost 0 = .ok (.iconst 0, 1) := by decide +kernel
theorem dX4_worthMost_1 : decode cX4_worthMost 1 = .ok (.istore_n 1, 1) := by decide +kernel
theorem dX4_worthMost_2 : decode cX4_worthMost 2 = .ok (.iconst 0, 1) := by decide +kernel
theorem dX4_worthMost_3 : decode cX4_worthMost 3 = .ok (.istore_n 2, 1) := by decide +kernel
theorem dX4_worthMost_4 : decode cX4_worthMost 4 = .ok (.iconst 0, 1) := by decide +kernel
theorem dX4_worthMost_5 : decode cX4_worthMost 5 = .ok (.istore_n 3, 1) := by decide +kernel
theorem dX4_worthMost_6 : decode cX4_worthMost 6 = .ok (.iload_n 3, 1) := by decide +kernel
theorem dX4_worthMost_7 : decode cX4_worthMost 7 = .ok (.aload_n 0, 1) := by decide +kernel
theorem dX4_worthMost_8 : decode cX4_worthMost 8 = .ok (.getfield 55, 3) := by decide +kernel
theorem dX4_worthMost_11 : decode cX4_worthMost 11 = .ok (.if_icmp .ge 31, 3) := by decide +kernel
theorem dX4_worthMost_14 : decode cX4_worthMost 14 = .ok (.aload_n 0, 1) := by decide +kernel
theorem dX4_worthMost_15 : decode cX4_worthMost 15 = .ok (.iload_n 3, 1) := by decide +kernel
theorem dX4_worthMost_16 : decode cX4_worthMost 16 = .ok (.aload_n 0, 1) := by decide +kernel
theorem dX4_worthMost_17 : decode cX4_worthMost 17 = .ok (.getfield 22, 3) := by decide +kernel
theorem dX4_worthMost_20 : decode cX4_worthMost 20 = .ok (.invokevirtual 136, 3) := by decide +kernel
theorem dX4_worthMost_23 : decode cX4_worthMost 23 = .ok (.istore 4, 2) := by decide +kernel
theorem dX4_worthMost_25 : decode cX4_worthMost 25 = .ok (.iload 4, 2) := by decide +kernel
theorem dX4_worthMost_27 : decode cX4_worthMost 27 = .ok (.iload_n 2, 1) := by decide +kernel
theorem dX4_worthMost_28 : decode cX4_worthMost 28 = .ok (.if_icmp .le 8, 3) := by decide +kernel
theorem dX4_worthMost_31 : decode cX4_worthMost 31 = .ok (.iload_n 3, 1) := by decide +kernel
theorem dX4_worthMost_32 : decode cX4_worthMost 32 = .ok (.istore_n 1, 1) := by decide +kernel
theorem dX4_worthMost_33 : decode cX4_worthMost 33 = .ok (.iload 4, 2) := by decide +kernel
theorem dX4_worthMost_35 : decode cX4_worthMost 35 = .ok (.istore_n 2, 1) := by decide +kernel
theorem dX4_worthMost_36 : decode cX4_worthMost 36 = .ok (.iinc 3 1, 3) := by decide +kernel
theorem dX4_worthMost_39 : decode cX4_worthMost 39 = .ok (.goto (-33), 3) := by decide +kernel
theorem dX4_worthMost_42 : decode cX4_worthMost 42 = .ok (.iload_n 1, 1) := by decide +kernel
theorem dX4_worthMost_43 : decode cX4_worthMost 43 = .ok (.ireturn, 1) := by decide +kernel
theorem dX4_keptCount_0 : decode cX4_keptCount 0 = .ok (.iconst 0, 1) := by decide +kernel
theorem dX4_keptCount_1 : decode cX4_keptCount 1 = .ok (.istore_n 1, 1) := by decide +kernel
theorem dX4_keptCount_2 : decode cX4_keptCount 2 = .ok (.iconst 0, 1) := by decide +kernel
theorem dX4_keptCount_3 : decode cX4_keptCount 3 = .ok (.istore_n 2, 1) := by decide +kernel
theorem dX4_keptCount_4 : decode cX4_keptCount 4 = .ok (.iload_n 2, 1) := by decide +kernel
theorem dX4_keptCount_5 : decode cX4_keptCount 5 = .ok (.aload_n 0, 1) := by decide +kernel
theorem dX4_keptCount_6 : decode cX4_keptCount 6 = .ok (.getfield 55, 3) := by decide +kernel
theorem dX4_keptCount_9 : decode cX4_keptCount 9 = .ok (.if_icmp .ge 26, 3) := by decide +kernel
theorem dX4_keptCount_12 : decode cX4_keptCount 12 = .ok (.iload_n 1, 1) := by decide +kernel
theorem dX4_keptCount_13 : decode cX4_keptCount 13 = .ok (.aload_n 0, 1) := by decide +kernel
theorem dX4_keptCount_14 : decode cX4_keptCount 14 = .ok (.getfield 18, 3) := by decide +kernel
theorem dX4_keptCount_17 : decode cX4_keptCount 17 = .ok (.iload_n 2, 1) := by decide +kernel
theorem dX4_keptCount_18 : decode cX4_keptCount 18 = .ok (.baload, 1) := by decide +kernel
theorem dX4_keptCount_19 : decode cX4_keptCount 19 = .ok (.ifCond .eq 7, 3) := by decide +kernel
theorem dX4_keptCount_22 : decode cX4_keptCount 22 = .ok (.iconst 1, 1) := by decide +kernel
theorem dX4_keptCount_23 : decode cX4_keptCount 23 = .ok (.goto 4, 3) := by decide +kernel
theorem dX4_keptCount_26 : decode cX4_keptCount 26 = .ok (.iconst 0, 1) := by decide +kernel
theorem dX4_keptCount_27 : decode cX4_keptCount 27 = .ok (.iadd, 1) := by decide +kernel
theorem dX4_keptCount_28 : decode cX4_keptCount 28 = .ok (.istore_n 1, 1) := by decide +kernel
theorem dX4_keptCount_29 : decode cX4_keptCount 29 = .ok (.iinc 2 1, 3) := by decide +kernel
theorem dX4_keptCount_32 : decode cX4_keptCount 32 = .ok (.goto (-28), 3) := by decide +kernel
theorem dX4_keptCount_35 : decode cX4_keptCount 35 = .ok (.iload_n 1, 1) := by decide +kernel
theorem dX4_keptCount_36 : decode cX4_keptCount 36 = .ok (.ireturn, 1) := by decide +kernel
set_option maxRecDepth 20000 in
theorem ggX4_keptGroups_X4_sizeOf : GoodIn wsX4_keptGroups wsX4_sizeOf := goodIn_r _ [7, 8, 9, 10, 11, 12, 6, 13, 1, 14, 15, 16, 17, 18, 19, 20, 21, 22, 23, 24, 25, 26, 27, 28, 29, 30, 31, 32, 33, 34, 35, 36, 37, 38, 39, 40, 41, 42, 43, 44, 45, 46, 47, 48, 49, 50, 51, 52, 53, 54, 55, 56, 57, 58, 59, 60, 61, 62, 63, 64, 65, 66, 67, 68, 69, 70, 71, 72, 73, 74, 75, 76, 77, 78, 79, 80, 81, 82, 83, 84, 85, 86, 87, 88, 89, 90, 91, 92, 93, 94, 95] (by decide +kernel) (by decide +kernel)
set_option maxRecDepth 20000 in
theorem gX4_keptGroups_X4_sizeOf : GoodIn wsX4_keptGroups (wsV RX4 119 RX4 yX4_sizeOf wsX4_sizeOf) := goodIn_app (goodIn_of _ (by decide +kernel)) ggX4_keptGroups_X4_sizeOf
theorem dX4_keptGroups_0 : decode cX4_keptGroups 0 = .ok (.iconst 0, 1) := by decide +kernel
theorem dX4_keptGroups_1 : decode cX4_keptGroups 1 = .ok (.istore_n 1, 1) := by decide +kernel
theorem dX4_keptGroups_2 : decode cX4_keptGroups 2 = .ok (.iconst 0, 1) := by decide +kernel
theorem dX4_keptGroups_3 : decode cX4_keptGroups 3 = .ok (.istore_n 2, 1) := by decide +kernel
theorem dX4_keptGroups_4 : decode cX4_keptGroups 4 = .ok (.iload_n 2, 1) := by decide +kernel
theorem dX4_keptGroups_5 : decode cX4_keptGroups 5 = .ok (.aload_n 0, 1) := by decide +kernel
theorem dX4_keptGroups_6 : decode cX4_keptGroups 6 = .ok (.getfield 55, 3) := by decide +kernel
theorem dX4_keptGroups_9 : decode cX4_keptGroups 9 = .ok (.if_icmp .ge 30, 3) := by decide +kernel
theorem dX4_keptGroups_12 : decode cX4_keptGroups 12 = .ok (.iload_n 1, 1) := by decide +kernel
theorem dX4_keptGroups_13 : decode cX4_keptGroups 13 = .ok (.aload_n 0, 1) := by decide +kernel
theorem dX4_keptGroups_14 : decode cX4_keptGroups 14 = .ok (.getfield 18, 3) := by decide +kernel
theorem dX4_keptGroups_17 : decode cX4_keptGroups 17 = .ok (.iload_n 2, 1) := by decide +kernel
theorem dX4_keptGroups_18 : decode cX4_keptGroups 18 = .ok (.baload, 1) := by decide +kernel
theorem dX4_keptGroups_19 : decode cX4_keptGroups 19 = .ok (.ifCond .eq 11, 3) := by decide +kernel
theorem dX4_keptGroups_22 : decode cX4_keptGroups 22 = .ok (.aload_n 0, 1) := by decide +kernel
theorem dX4_keptGroups_23 : decode cX4_keptGroups 23 = .ok (.iload_n 2, 1) := by decide +kernel
theorem dX4_keptGroups_24 : decode cX4_keptGroups 24 = .ok (.invokevirtual 119, 3) := by decide +kernel
theorem dX4_keptGroups_27 : decode cX4_keptGroups 27 = .ok (.goto 4, 3) := by decide +kernel
theorem dX4_keptGroups_30 : decode cX4_keptGroups 30 = .ok (.iconst 0, 1) := by decide +kernel
theorem dX4_keptGroups_31 : decode cX4_keptGroups 31 = .ok (.iadd, 1) := by decide +kernel
theorem dX4_keptGroups_32 : decode cX4_keptGroups 32 = .ok (.istore_n 1, 1) := by decide +kernel
theorem dX4_keptGroups_33 : decode cX4_keptGroups 33 = .ok (.iinc 2 1, 3) := by decide +kernel
theorem dX4_keptGroups_36 : decode cX4_keptGroups 36 = .ok (.goto (-32), 3) := by decide +kernel
theorem dX4_keptGroups_39 : decode cX4_keptGroups 39 = .ok (.iload_n 1, 1) := by decide +kernel
theorem dX4_keptGroups_40 : decode cX4_keptGroups 40 = .ok (.ireturn, 1) := by decide +kernel
theorem dX5_init_0 : decode cX5_init 0 = .ok (.aload_n 0, 1) := by decide +kernel
theorem dX5_init_1 : decode cX5_init 1 = .ok (.invokespecial 1, 3) := by decide +kernel
theorem dX5_init_4 : decode cX5_init 4 = .ok (.aload_n 0, 1) := by decide +kernel
theorem dX5_init_5 : decode cX5_init 5 = .ok (.sipush 648, 3) := by decide +kernel
theorem dX5_init_8 : decode cX5_init 8 = .ok (.newarray .byte, 2) := by decide +kernel
theorem dX5_init_10 : decode cX5_init 10 = .ok (.putfield 9, 3) := by decide +kernel
theorem dX5_init_13 : decode cX5_init 13 = .ok (.return_, 1) := by decide +kernel
theorem dX5_clear_0 : decode cX5_clear 0 = .ok (.aload_n 0, 1) := by decide +kernel
theorem dX5_clear_1 : decode cX5_clear 1 = .ok (.iconst 0, 1) := by decide +kernel
theorem dX5_clear_2 : decode cX5_clear 2 = .ok (.putfield 13, 3) := by decide +kernel
theorem dX5_clear_5 : decode cX5_clear 5 = .ok (.return_, 1) := by decide +kernel
theorem dX5_put_0 : decode cX5_put 0 = .ok (.aload_n 0, 1) := by decide +kernel
theorem dX5_put_1 : decode cX5_put 1 = .ok (.getfield 13, 3) := by decide +kernel
theorem dX5_put_4 : decode cX5_put 4 = .ok (.sipush 648, 3) := by decide +kernel
theorem dX5_put_7 : decode cX5_put 7 = .ok (.if_icmp .ge 24, 3) := by decide +kernel
theorem dX5_put_10 : decode cX5_put 10 = .ok (.aload_n 0, 1) := by decide +kernel
theorem dX5_put_11 : decode cX5_put 11 = .ok (.getfield 9, 3) := by decide +kernel
theorem dX5_put_14 : decode cX5_put 14 = .ok (.aload_n 0, 1) := by decide +kernel
theorem dX5_put_15 : decode cX5_put 15 = .ok (.getfield 13, 3) := by decide +kernel
theorem dX5_put_18 : decode cX5_put 18 = .ok (.iload_n 1, 1) := by decide +kernel
theorem dX5_put_19 : decode cX5_put 19 = .ok (.i2b, 1) := by decide +kernel
theorem dX5_put_20 : decode cX5_put 20 = .ok (.bastore, 1) := by decide +kernel
theorem dX5_put_21 : decode cX5_put 21 = .ok (.aload_n 0, 1) := by decide +kernel
theorem dX5_put_22 : decode cX5_put 22 = .ok (.dup, 1) := by decide +kernel
theorem dX5_put_23 : decode cX5_put 23 = .ok (.getfield 13, 3) := by decide +kernel
theorem dX5_put_26 : decode cX5_put 26 = .ok (.iconst 1, 1) := by decide +kernel
theorem dX5_put_27 : decode cX5_put 27 = .ok (.iadd, 1) := by decide +kernel
theorem dX5_put_28 : decode cX5_put 28 = .ok (.putfield 13, 3) := by decide +kernel
theorem dX5_put_31 : decode cX5_put 31 = .ok (.return_, 1) := by decide +kernel
set_option maxRecDepth 20000 in
theorem ggX5_putNumber_X5_put : GoodIn wsX5_putNumber wsX5_put := goodIn_r _ [10, 11, 12, 13, 14] (by decide +kernel) (by decide +kernel)
set_option maxRecDepth 20000 in
theorem gX5_putNumber_X5_put : GoodIn wsX5_putNumber (wsV RX5 23 RX5 yX5_put wsX5_put) := goodIn_app (goodIn_of _ (by decide +kernel)) ggX5_putNumber_X5_put
theorem dX5_putNumber_0 : decode cX5_putNumber 0 = .ok (.iload_n 1, 1) := by decide +kernel
theorem dX5_putNumber_1 : decode cX5_putNumber 1 = .ok (.invokestatic 17, 3) := by decide +kernel
theorem dX5_putNumber_4 : decode cX5_putNumber 4 = .ok (.istore_n 2, 1) := by decide +kernel
theorem dX5_putNumber_5 : decode cX5_putNumber 5 = .ok (.iload_n 1, 1) := by decide +kernel
theorem dX5_putNumber_6 : decode cX5_putNumber 6 = .ok (.ifCond .ge 9, 3) := by decide +kernel
theorem dX5_putNumber_9 : decode cX5_putNumber 9 = .ok (.aload_n 0, 1) := by decide +kernel
theorem dX5_putNumber_10 : decode cX5_putNumber 10 = .ok (.bipush 45, 2) := by decide +kernel
theorem dX5_putNumber_12 : decode cX5_putNumber 12 = .ok (.invokevirtual 23, 3) := by decide +kernel
theorem dX5_putNumber_15 : decode cX5_putNumber 15 = .ok (.iconst 0, 1) := by decide +kernel
theorem dX5_putNumber_16 : decode cX5_putNumber 16 = .ok (.istore_n 3, 1) := by decide +kernel
theorem dX5_putNumber_17 : decode cX5_putNumber 17 = .ok (.ldc 27, 2) := by decide +kernel
theorem dX5_putNumber_19 : decode cX5_putNumber 19 = .ok (.istore 4, 2) := by decide +kernel
theorem dX5_putNumber_21 : decode cX5_putNumber 21 = .ok (.iload 4, 2) := by decide +kernel
theorem dX5_putNumber_23 : decode cX5_putNumber 23 = .ok (.ifCond .le 56, 3) := by decide +kernel
theorem dX5_putNumber_26 : decode cX5_putNumber 26 = .ok (.iload_n 2, 1) := by decide +kernel
theorem dX5_putNumber_27 : decode cX5_putNumber 27 = .ok (.iload 4, 2) := by decide +kernel
theorem dX5_putNumber_29 : decode cX5_putNumber 29 = .ok (.idiv, 1) := by decide +kernel
theorem dX5_putNumber_30 : decode cX5_putNumber 30 = .ok (.bipush 10, 2) := by decide +kernel
theorem dX5_putNumber_32 : decode cX5_putNumber 32 = .ok (.irem, 1) := by decide +kernel
theorem dX5_putNumber_33 : decode cX5_putNumber 33 = .ok (.istore 5, 2) := by decide +kernel
theorem dX5_putNumber_35 : decode cX5_putNumber 35 = .ok (.iload_n 3, 1) := by decide +kernel
theorem dX5_putNumber_36 : decode cX5_putNumber 36 = .ok (.ifCond .ne 14, 3) := by decide +kernel
theorem dX5_putNumber_39 : decode cX5_putNumber 39 = .ok (.iload 5, 2) := by decide +kernel
theorem dX5_putNumber_41 : decode cX5_putNumber 41 = .ok (.ifCond .gt 9, 3) := by decide +kernel
theorem dX5_putNumber_44 : decode cX5_putNumber 44 = .ok (.iload 4, 2) := by decide +kernel
theorem dX5_putNumber_46 : decode cX5_putNumber 46 = .ok (.iconst 1, 1) := by decide +kernel
theorem dX5_putNumber_47 : decode cX5_putNumber 47 = .ok (.if_icmp .ne 7, 3) := by decide +kernel
theorem dX5_putNumber_50 : decode cX5_putNumber 50 = .ok (.iconst 1, 1) := by decide +kernel
theorem dX5_putNumber_51 : decode cX5_putNumber 51 = .ok (.goto 4, 3) := by decide +kernel
theorem dX5_putNumber_54 : decode cX5_putNumber 54 = .ok (.iconst 0, 1) := by decide +kernel
theorem dX5_putNumber_55 : decode cX5_putNumber 55 = .ok (.istore_n 3, 1) := by decide +kernel
theorem dX5_putNumber_56 : decode cX5_putNumber 56 = .ok (.iload_n 3, 1) := by decide +kernel
theorem dX5_putNumber_57 : decode cX5_putNumber 57 = .ok (.ifCond .eq 12, 3) := by decide +kernel
theorem dX5_putNumber_60 : decode cX5_putNumber 60 = .ok (.aload_n 0, 1) := by decide +kernel
theorem dX5_putNumber_61 : decode cX5_putNumber 61 = .ok (.bipush 48, 2) := by decide +kernel
theorem dX5_putNumber_63 : decode cX5_putNumber 63 = .ok (.iload 5, 2) := by decide +kernel
theorem dX5_putNumber_65 : decode cX5_putNumber 65 = .ok (.iadd, 1) := by decide +kernel
theorem dX5_putNumber_66 : decode cX5_putNumber 66 = .ok (.invokevirtual 23, 3) := by decide +kernel
theorem dX5_putNumber_69 : decode cX5_putNumber 69 = .ok (.iload 4, 2) := by decide +kernel
theorem dX5_putNumber_71 : decode cX5_putNumber 71 = .ok (.bipush 10, 2) := by decide +kernel
theorem dX5_putNumber_73 : decode cX5_putNumber 73 = .ok (.idiv, 1) := by decide +kernel
theorem dX5_putNumber_74 : decode cX5_putNumber 74 = .ok (.istore 4, 2) := by decide +kernel
theorem dX5_putNumber_76 : decode cX5_putNumber 76 = .ok (.goto (-55), 3) := by decide +kernel
theorem dX5_putNumber_79 : decode cX5_putNumber 79 = .ok (.return_, 1) := by decide +kernel
theorem dX5_byteAt_0 : decode cX5_byteAt 0 = .ok (.iload_n 1, 1) := by decide +kernel
theorem dX5_byteAt_1 : decode cX5_byteAt 1 = .ok (.ifCond .lt 20, 3) := by decide +kernel
theorem dX5_byteAt_4 : decode cX5_byteAt 4 = .ok (.iload_n 1, 1) := by decide +kernel
theorem dX5_byteAt_5 : decode cX5_byteAt 5 = .ok (.aload_n 0, 1) := by decide +kernel
theorem dX5_byteAt_6 : decode cX5_byteAt 6 = .ok (.getfield 13, 3) := by decide +kernel
theorem dX5_byteAt_9 : decode cX5_byteAt 9 = .ok (.if_icmp .ge 12, 3) := by decide +kernel
theorem dX5_byteAt_12 : decode cX5_byteAt 12 = .ok (.aload_n 0, 1) := by decide +kernel
theorem dX5_byteAt_13 : decode cX5_byteAt 13 = .ok (.getfield 9, 3) := by decide +kernel
theorem dX5_byteAt_16 : decode cX5_byteAt 16 = .ok (.iload_n 1, 1) := by decide +kernel
theorem dX5_byteAt_17 : decode cX5_byteAt 17 = .ok (.baload, 1) := by decide +kernel
theorem dX5_byteAt_18 : decode cX5_byteAt 18 = .ok (.goto 4, 3) := by decide +kernel
theorem dX5_byteAt_21 : decode cX5_byteAt 21 = .ok (.iconst 0, 1) := by decide +kernel
theorem dX5_byteAt_22 : decode cX5_byteAt 22 = .ok (.ireturn, 1) := by decide +kernel
set_option maxRecDepth 20000 in
theorem ggX6_init_X1_init : GoodIn wsX6_init wsX1_init := goodIn_r _ [10, 11, 2, 3, 12, 13, 14, 15, 18, 19, 20, 21, 22, 23] (by decide +kernel) (by decide +kernel)
set_option maxRecDepth 20000 in
theorem gX6_init_X1_init_n17 : GoodIn wsX6_init (wsX1_init) := ggX6_init_X1_init
theorem dX6_init_0 : decode cX6_init 0 = .ok (.aload_n 0, 1) := by decide +kernel
theorem dX6_init_1 : decode cX6_init 1 = .ok (.invokespecial 3, 3) := by decide +kernel
theorem dX6_init_4 : decode cX6_init 4 = .ok (.aload_n 0, 1) := by decide +kernel
theorem dX6_init_5 : decode cX6_init 5 = .ok (.iconst 4, 1) := by decide +kernel
theorem dX6_init_6 : decode cX6_init 6 = .ok (.anewarray 9, 3) := by decide +kernel
theorem dX6_init_9 : decode cX6_init 9 = .ok (.putfield 11, 3) := by decide +kernel
theorem dX6_init_12 : decode cX6_init 12 = .ok (.iconst 0, 1) := by decide +kernel
theorem dX6_init_13 : decode cX6_init 13 = .ok (.istore_n 1, 1) := by decide +kernel
theorem dX6_init_14 : decode cX6_init 14 = .ok (.iload_n 1, 1) := by decide +kernel
theorem dX6_init_15 : decode cX6_init 15 = .ok (.iconst 4, 1) := by decide +kernel
theorem dX6_init_16 : decode cX6_init 16 = .ok (.if_icmp .ge 22, 3) := by decide +kernel
theorem dX6_init_19 : decode cX6_init 19 = .ok (.aload_n 0, 1) := by decide +kernel
theorem dX6_init_20 : decode cX6_init 20 = .ok (.getfield 11, 3) := by decide +kernel
theorem dX6_init_23 : decode cX6_init 23 = .ok (.iload_n 1, 1) := by decide +kernel
theorem dX6_init_24 : decode cX6_init 24 = .ok (.new 9, 3) := by decide +kernel
theorem dX6_init_27 : decode cX6_init 27 = .ok (.dup, 1) := by decide +kernel
theorem dX6_init_28 : decode cX6_init 28 = .ok (.invokespecial 17, 3) := by decide +kernel
theorem dX6_init_31 : decode cX6_init 31 = .ok (.aastore, 1) := by decide +kernel
theorem dX6_init_32 : decode cX6_init 32 = .ok (.iinc 1 1, 3) := by decide +kernel
theorem dX6_init_35 : decode cX6_init 35 = .ok (.goto (-21), 3) := by decide +kernel
theorem dX6_init_38 : decode cX6_init 38 = .ok (.aload_n 0, 1) := by decide +kernel
theorem dX6_init_39 : decode cX6_init 39 = .ok (.iconst 0, 1) := by decide +kernel
theorem dX6_init_40 : decode cX6_init 40 = .ok (.putfield 18, 3) := by decide +kernel
theorem dX6_init_43 : decode cX6_init 43 = .ok (.return_, 1) := by decide +kernel
theorem dX6_find_0 : decode cX6_find 0 = .ok (.iload_n 1, 1) := by decide +kernel
theorem dX6_find_1 : decode cX6_find 1 = .ok (.ifCond .lt 11, 3) := by decide +kernel
theorem dX6_find_4 : decode cX6_find 4 = .ok (.iload_n 1, 1) := by decide +kernel
theorem dX6_find_5 : decode cX6_find 5 = .ok (.aload_n 0, 1) := by decide +kernel
theorem dX6_find_6 : decode cX6_find 6 = .ok (.getfield 18, 3) := by decide +kernel
theorem dX6_find_9 : decode cX6_find 9 = .ok (.if_icmp .lt 7, 3) := by decide +kernel
theorem dX6_find_12 : decode cX6_find 12 = .ok (.aconst_null, 1) := by decide +kernel
theorem dX6_find_13 : decode cX6_find 13 = .ok (.goto 9, 3) := by decide +kernel
theorem dX6_find_16 : decode cX6_find 16 = .ok (.aload_n 0, 1) := by decide +kernel
theorem dX6_find_17 : decode cX6_find 17 = .ok (.getfield 11, 3) := by decide +kernel
theorem dX6_find_20 : decode cX6_find 20 = .ok (.iload_n 1, 1) := by decide +kernel
theorem dX6_find_21 : decode cX6_find 21 = .ok (.aaload, 1) := by decide +kernel
theorem dX6_find_22 : decode cX6_find 22 = .ok (.areturn, 1) := by decide +kernel
set_option maxRecDepth 20000 in
theorem ggX6_open_X1_open : GoodIn wsX6_open wsX1_open := goodIn_r _ [7, 8, 9, 10, 11, 6, 12, 13, 14, 15, 16, 17, 18, 19, 20, 21, 22, 23, 24, 25, 26, 27, 28, 31, 32, 33, 34, 35, 36] (by decide +kernel) (by decide +kernel)
set_option maxRecDepth 20000 in
theorem gX6_open_X1_open : GoodIn wsX6_open (wsV RX6 22 RX1 yX1_open wsX1_open) := goodIn_app (goodIn_of _ (by decide +kernel)) ggX6_open_X1_open
theorem dX6_open_0 : decode cX6_open 0 = .ok (.aload_n 0, 1) := by decide +kernel
theorem dX6_open_1 : decode cX6_open 1 = .ok (.getfield 18, 3) := by decide +kernel
theorem dX6_open_4 : decode cX6_open 4 = .ok (.istore_n 2, 1) := by decide +kernel
theorem dX6_open_5 : decode cX6_open 5 = .ok (.iload_n 2, 1) := by decide +kernel
theorem dX6_open_6 : decode cX6_open 6 = .ok (.iconst 4, 1) := by decide +kernel
theorem dX6_open_7 : decode cX6_open 7 = .ok (.if_icmp .ge 20, 3) := by decide +kernel
theorem dX6_open_10 : decode cX6_open 10 = .ok (.aload_n 0, 1) := by decide +kernel
theorem dX6_open_11 : decode cX6_open 11 = .ok (.getfield 11, 3) := by decide +kernel
theorem dX6_open_14 : decode cX6_open 14 = .ok (.iload_n 2, 1) := by decide +kernel
theorem dX6_open_15 : decode cX6_open 15 = .ok (.aaload, 1) := by decide +kernel
theorem dX6_open_16 : decode cX6_open 16 = .ok (.iload_n 1, 1) := by decide +kernel
theorem dX6_open_17 : decode cX6_open 17 = .ok (.invokevirtual 22, 3) := by decide +kernel
theorem dX6_open_20 : decode cX6_open 20 = .ok (.aload_n 0, 1) := by decide +kernel
theorem dX6_open_21 : decode cX6_open 21 = .ok (.iload_n 2, 1) := by decide +kernel
theorem dX6_open_22 : decode cX6_open 22 = .ok (.iconst 1, 1) := by decide +kernel
theorem dX6_open_23 : decode cX6_open 23 = .ok (.iadd, 1) := by decide +kernel
theorem dX6_open_24 : decode cX6_open 24 = .ok (.putfield 18, 3) := by decide +kernel
theorem dX6_open_27 : decode cX6_open 27 = .ok (.iload_n 2, 1) := by decide +kernel
theorem dX6_open_28 : decode cX6_open 28 = .ok (.ireturn, 1) := by decide +kernel
theorem dX6_cuboidCount_0 : decode cX6_cuboidCount 0 = .ok (.iconst 1, 1) := by decide +kernel
theorem dX6_cuboidCount_1 : decode cX6_cuboidCount 1 = .ok (.istore_n 1, 1) := by decide +kernel
theorem dX6_cuboidCount_2 : decode cX6_cuboidCount 2 = .ok (.iconst 0, 1) := by decide +kernel
theorem dX6_cuboidCount_3 : decode cX6_cuboidCount 3 = .ok (.istore_n 2, 1) := by decide +kernel
theorem dX6_cuboidCount_4 : decode cX6_cuboidCount 4 = .ok (.iload_n 2, 1) := by decide +kernel
theorem dX6_cuboidCount_5 : decode cX6_cuboidCount 5 = .ok (.aload_n 0, 1) := by decide +kernel
theorem dX6_cuboidCount_6 : decode cX6_cuboidCount 6 = .ok (.getfield 18, 3) := by decide +kernel
theorem dX6_cuboidCount_9 : decode cX6_cuboidCount 9 = .ok (.if_icmp .ge 23, 3) := by decide +kernel
theorem dX6_cuboidCount_12 : decode cX6_cuboidCount 12 = .ok (.iload_n 1, 1) := by decide +kernel
theorem dX6_cuboidCount_13 : decode cX6_cuboidCount 13 = .ok (.aload_n 0, 1) := by decide +kernel
theorem dX6_cuboidCount_14 : decode cX6_cuboidCount 14 = .ok (.getfield 11, 3) := by decide +kernel
theorem dX6_cuboidCount_17 : decode cX6_cuboidCount 17 = .ok (.iload_n 2, 1) := by decide +kernel
theorem dX6_cuboidCount_18 : decode cX6_cuboidCount 18 = .ok (.aaload, 1) := by decide +kernel
theorem dX6_cuboidCount_19 : decode cX6_cuboidCount 19 = .ok (.getfield 26, 3) := by decide +kernel
theorem dX6_cuboidCount_22 : decode cX6_cuboidCount 22 = .ok (.iconst 1, 1) := by decide +kernel
theorem dX6_cuboidCount_23 : decode cX6_cuboidCount 23 = .ok (.iadd, 1) := by decide +kernel
theorem dX6_cuboidCount_24 : decode cX6_cuboidCount 24 = .ok (.imul, 1) := by decide +kernel
theorem dX6_cuboidCount_25 : decode cX6_cuboidCount 25 = .ok (.istore_n 1, 1) := by decide +kernel
theorem dX6_cuboidCount_26 : decode cX6_cuboidCount 26 = .ok (.iinc 2 1, 3) := by decide +kernel
