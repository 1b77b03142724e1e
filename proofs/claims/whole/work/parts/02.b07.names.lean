theorem dX8_fact_58 : decode cX8_fact 58 = .ok (.getfield 19, 3) := by decide +kernel
theorem dX8_fact_61 : decode cX8_fact 61 = .ok (.iload_n 2, 1) := by decide +kernel
theorem dX8_fact_62 : decode cX8_fact 62 = .ok (.iload_n 1, 1) := by decide +kernel
theorem dX8_fact_63 : decode cX8_fact 63 = .ok (.invokevirtual 117, 3) := by decide +kernel
theorem dX8_fact_66 : decode cX8_fact 66 = .ok (.ireturn, 1) := by decide +kernel
set_option maxRecDepth 20000 in
theorem ggX8_drop_X2_isThere : GoodIn wsX8_drop wsX2_isThere := goodIn_r _ [9, 10, 11, 12, 13, 8, 14, 15, 45, 46, 47, 48, 49] (by decide +kernel) (by decide +kernel)
set_option maxRecDepth 20000 in
theorem gX8_drop_X2_isThere : GoodIn wsX8_drop (wsV RX8 120 RX2 yX2_isThere wsX2_isThere) := goodIn_app (goodIn_of _ (by decide +kernel)) ggX8_drop_X2_isThere
set_option maxRecDepth 20000 in
theorem ggX8_drop_X4_forgetSizes : GoodIn wsX8_drop wsX4_forgetSizes := goodIn_r _ [20, 21, 22, 23, 24, 25, 50, 51, 52, 53, 54, 55, 56, 57] (by decide +kernel) (by decide +kernel)
set_option maxRecDepth 20000 in
theorem gX8_drop_X4_forgetSizes : GoodIn wsX8_drop (wsV RX8 102 RX4 yX4_forgetSizes wsX4_forgetSizes) := goodIn_app (goodIn_of _ (by decide +kernel)) ggX8_drop_X4_forgetSizes
set_option maxRecDepth 20000 in
theorem ggX8_drop_X2_strike : GoodIn wsX8_drop wsX2_strike := goodIn_r _ [29, 10, 30, 31, 6, 7, 8, 9, 11, 12, 13, 14, 15, 32, 33, 34, 35, 36, 45, 46, 47, 48, 49] (by decide +kernel) (by decide +kernel)
set_option maxRecDepth 20000 in
theorem gX8_drop_X2_strike : GoodIn wsX8_drop (wsV RX8 123 RX2 yX2_strike wsX2_strike) := goodIn_app (goodIn_of _ (by decide +kernel)) ggX8_drop_X2_strike
theorem dX8_drop_0 : decode cX8_drop 0 = .ok (.iload_n 1, 1) := by decide +kernel
theorem dX8_drop_1 : decode cX8_drop 1 = .ok (.ifCond .lt 14, 3) := by decide +kernel
theorem dX8_drop_4 : decode cX8_drop 4 = .ok (.iload_n 1, 1) := by decide +kernel
theorem dX8_drop_5 : decode cX8_drop 5 = .ok (.aload_n 0, 1) := by decide +kernel
theorem dX8_drop_6 : decode cX8_drop 6 = .ok (.getfield 19, 3) := by decide +kernel
theorem dX8_drop_9 : decode cX8_drop 9 = .ok (.getfield 64, 3) := by decide +kernel
theorem dX8_drop_12 : decode cX8_drop 12 = .ok (.if_icmp .lt 6, 3) := by decide +kernel
theorem dX8_drop_15 : decode cX8_drop 15 = .ok (.ldc 63, 2) := by decide +kernel
theorem dX8_drop_17 : decode cX8_drop 17 = .ok (.ireturn, 1) := by decide +kernel
theorem dX8_drop_18 : decode cX8_drop 18 = .ok (.aload_n 0, 1) := by decide +kernel
theorem dX8_drop_19 : decode cX8_drop 19 = .ok (.getfield 19, 3) := by decide +kernel
theorem dX8_drop_22 : decode cX8_drop 22 = .ok (.iload_n 1, 1) := by decide +kernel
theorem dX8_drop_23 : decode cX8_drop 23 = .ok (.invokevirtual 120, 3) := by decide +kernel
theorem dX8_drop_26 : decode cX8_drop 26 = .ok (.ifCond .ne 6, 3) := by decide +kernel
theorem dX8_drop_29 : decode cX8_drop 29 = .ok (.ldc 67, 2) := by decide +kernel
theorem dX8_drop_31 : decode cX8_drop 31 = .ok (.ireturn, 1) := by decide +kernel
theorem dX8_drop_32 : decode cX8_drop 32 = .ok (.aload_n 0, 1) := by decide +kernel
theorem dX8_drop_33 : decode cX8_drop 33 = .ok (.getfield 28, 3) := by decide +kernel
theorem dX8_drop_36 : decode cX8_drop 36 = .ok (.invokevirtual 102, 3) := by decide +kernel
theorem dX8_drop_39 : decode cX8_drop 39 = .ok (.aload_n 0, 1) := by decide +kernel
theorem dX8_drop_40 : decode cX8_drop 40 = .ok (.getfield 19, 3) := by decide +kernel
theorem dX8_drop_43 : decode cX8_drop 43 = .ok (.iload_n 1, 1) := by decide +kernel
theorem dX8_drop_44 : decode cX8_drop 44 = .ok (.invokevirtual 123, 3) := by decide +kernel
theorem dX8_drop_47 : decode cX8_drop 47 = .ok (.ireturn, 1) := by decide +kernel
theorem dX8_pick_0 : decode cX8_pick 0 = .ok (.iload_n 1, 1) := by decide +kernel
theorem dX8_pick_1 : decode cX8_pick 1 = .ok (.ifCond .lt 18, 3) := by decide +kernel
theorem dX8_pick_4 : decode cX8_pick 4 = .ok (.iload_n 1, 1) := by decide +kernel
theorem dX8_pick_5 : decode cX8_pick 5 = .ok (.iconst 4, 1) := by decide +kernel
theorem dX8_pick_6 : decode cX8_pick 6 = .ok (.if_icmp .ge 13, 3) := by decide +kernel
theorem dX8_pick_9 : decode cX8_pick 9 = .ok (.iload_n 2, 1) := by decide +kernel
theorem dX8_pick_10 : decode cX8_pick 10 = .ok (.ifCond .lt 9, 3) := by decide +kernel
theorem dX8_pick_13 : decode cX8_pick 13 = .ok (.iload_n 2, 1) := by decide +kernel
theorem dX8_pick_14 : decode cX8_pick 14 = .ok (.bipush 8, 2) := by decide +kernel
theorem dX8_pick_16 : decode cX8_pick 16 = .ok (.if_icmp .lt 6, 3) := by decide +kernel
theorem dX8_pick_19 : decode cX8_pick 19 = .ok (.ldc 63, 2) := by decide +kernel
theorem dX8_pick_21 : decode cX8_pick 21 = .ok (.ireturn, 1) := by decide +kernel
theorem dX8_pick_22 : decode cX8_pick 22 = .ok (.aload_n 0, 1) := by decide +kernel
theorem dX8_pick_23 : decode cX8_pick 23 = .ok (.getfield 55, 3) := by decide +kernel
theorem dX8_pick_26 : decode cX8_pick 26 = .ok (.iload_n 1, 1) := by decide +kernel
theorem dX8_pick_27 : decode cX8_pick 27 = .ok (.iaload, 1) := by decide +kernel
theorem dX8_pick_28 : decode cX8_pick 28 = .ok (.istore_n 3, 1) := by decide +kernel
theorem dX8_pick_29 : decode cX8_pick 29 = .ok (.aload_n 0, 1) := by decide +kernel
theorem dX8_pick_30 : decode cX8_pick 30 = .ok (.getfield 55, 3) := by decide +kernel
theorem dX8_pick_33 : decode cX8_pick 33 = .ok (.iload_n 1, 1) := by decide +kernel
theorem dX8_pick_34 : decode cX8_pick 34 = .ok (.iload_n 2, 1) := by decide +kernel
theorem dX8_pick_35 : decode cX8_pick 35 = .ok (.iastore, 1) := by decide +kernel
theorem dX8_pick_36 : decode cX8_pick 36 = .ok (.iload_n 3, 1) := by decide +kernel
theorem dX8_pick_37 : decode cX8_pick 37 = .ok (.ireturn, 1) := by decide +kernel
theorem dX8_cuboids_0 : decode cX8_cuboids 0 = .ok (.aload_n 0, 1) := by decide +kernel
theorem dX8_cuboids_1 : decode cX8_cuboids 1 = .ok (.getfield 28, 3) := by decide +kernel
theorem dX8_cuboids_4 : decode cX8_cuboids 4 = .ok (.getfield 126, 3) := by decide +kernel
theorem dX8_cuboids_7 : decode cX8_cuboids 7 = .ok (.ireturn, 1) := by decide +kernel
set_option maxRecDepth 20000 in
theorem ggX8_levelOf_X4_has : GoodIn wsX8_levelOf wsX4_has := goodIn_r _ [8, 9, 34, 35, 36, 37, 38, 39, 40, 41] (by decide +kernel) (by decide +kernel)
set_option maxRecDepth 20000 in
theorem gX8_levelOf_X4_has : GoodIn wsX8_levelOf (wsV RX8 129 RX4 yX4_has wsX4_has) := goodIn_app (goodIn_of _ (by decide +kernel)) ggX8_levelOf_X4_has
set_option maxRecDepth 20000 in
theorem ggX8_levelOf_X6_find : GoodIn wsX8_levelOf wsX6_find := goodIn_r _ [14, 15, 16, 42, 43] (by decide +kernel) (by decide +kernel)
set_option maxRecDepth 20000 in
theorem gX8_levelOf_X6_find : GoodIn wsX8_levelOf (wsV RX8 79 RX6 yX6_find wsX6_find) := goodIn_app (goodIn_of _ (by decide +kernel)) ggX8_levelOf_X6_find
set_option maxRecDepth 20000 in
theorem ggX8_levelOf_X4_levelsOf : GoodIn wsX8_levelOf wsX4_levelsOf := goodIn_r _ [20, 21, 22, 5, 6, 7, 8, 9, 34, 35, 36, 37, 38, 39, 40, 41] (by decide +kernel) (by decide +kernel)
set_option maxRecDepth 20000 in
theorem gX8_levelOf_X4_levelsOf : GoodIn wsX8_levelOf (wsV RX8 132 RX4 yX4_levelsOf wsX4_levelsOf) := goodIn_app (goodIn_of _ (by decide +kernel)) ggX8_levelOf_X4_levelsOf
set_option maxRecDepth 20000 in
theorem ggX8_levelOf_X6_levelIn : GoodIn wsX8_levelOf wsX6_levelIn := goodIn_r _ [25] (by decide +kernel) (by decide +kernel)
set_option maxRecDepth 20000 in
theorem gX8_levelOf_X6_levelIn : GoodIn wsX8_levelOf (va_wsS RX8 135 yX6_levelIn wsX6_levelIn) := goodIn_app (goodIn_of _ (by decide +kernel)) ggX8_levelOf_X6_levelIn
theorem dX8_levelOf_0 : decode cX8_levelOf 0 = .ok (.aload_n 0, 1) := by decide +kernel
theorem dX8_levelOf_1 : decode cX8_levelOf 1 = .ok (.getfield 28, 3) := by decide +kernel
theorem dX8_levelOf_4 : decode cX8_levelOf 4 = .ok (.iload_n 1, 1) := by decide +kernel
theorem dX8_levelOf_5 : decode cX8_levelOf 5 = .ok (.invokevirtual 129, 3) := by decide +kernel
theorem dX8_levelOf_8 : decode cX8_levelOf 8 = .ok (.ifCond .eq 14, 3) := by decide +kernel
theorem dX8_levelOf_11 : decode cX8_levelOf 11 = .ok (.aload_n 0, 1) := by decide +kernel
theorem dX8_levelOf_12 : decode cX8_levelOf 12 = .ok (.getfield 12, 3) := by decide +kernel
theorem dX8_levelOf_15 : decode cX8_levelOf 15 = .ok (.iload_n 2, 1) := by decide +kernel
theorem dX8_levelOf_16 : decode cX8_levelOf 16 = .ok (.invokevirtual 79, 3) := by decide +kernel
theorem dX8_levelOf_19 : decode cX8_levelOf 19 = .ok (.ifnonnull 6, 3) := by decide +kernel
theorem dX8_levelOf_22 : decode cX8_levelOf 22 = .ok (.ldc 63, 2) := by decide +kernel
theorem dX8_levelOf_24 : decode cX8_levelOf 24 = .ok (.ireturn, 1) := by decide +kernel
theorem dX8_levelOf_25 : decode cX8_levelOf 25 = .ok (.aload_n 0, 1) := by decide +kernel
theorem dX8_levelOf_26 : decode cX8_levelOf 26 = .ok (.getfield 28, 3) := by decide +kernel
theorem dX8_levelOf_29 : decode cX8_levelOf 29 = .ok (.iload_n 1, 1) := by decide +kernel
theorem dX8_levelOf_30 : decode cX8_levelOf 30 = .ok (.invokevirtual 132, 3) := by decide +kernel
theorem dX8_levelOf_33 : decode cX8_levelOf 33 = .ok (.iload_n 2, 1) := by decide +kernel
theorem dX8_levelOf_34 : decode cX8_levelOf 34 = .ok (.invokestatic 135, 3) := by decide +kernel
theorem dX8_levelOf_37 : decode cX8_levelOf 37 = .ok (.ireturn, 1) := by decide +kernel
set_option maxRecDepth 20000 in
theorem ggX8_size_X4_has : GoodIn wsX8_size wsX4_has := goodIn_r _ [7, 8, 83, 84, 85, 86, 87, 88, 89, 90] (by decide +kernel) (by decide +kernel)
set_option maxRecDepth 20000 in
theorem gX8_size_X4_has : GoodIn wsX8_size (wsV RX8 129 RX4 yX4_has wsX4_has) := goodIn_app (goodIn_of _ (by decide +kernel)) ggX8_size_X4_has
set_option maxRecDepth 20000 in
theorem ggX8_size_X4_sizeOf : GoodIn wsX8_size wsX4_sizeOf := goodIn_r _ [12, 13, 14, 15, 4, 5, 6, 7, 8, 16, 17, 18, 19, 20, 21, 22, 23, 24, 25, 26, 27, 28, 29, 30, 31, 32, 33, 34, 35, 36, 37, 38, 39, 40, 41, 42, 43, 44, 45, 46, 47, 48, 49, 50, 51, 52, 53, 54, 55, 56, 57, 58, 59, 60, 61, 62, 63, 64, 65, 66, 67, 68, 69, 70, 71, 72, 73, 74, 83, 84, 85, 86, 87, 88, 89, 90, 91, 92, 93, 94, 95, 96, 97, 98, 99, 100, 101, 102, 103, 104, 105] (by decide +kernel) (by decide +kernel)
set_option maxRecDepth 20000 in
theorem gX8_size_X4_sizeOf : GoodIn wsX8_size (wsV RX8 138 RX4 yX4_sizeOf wsX4_sizeOf) := goodIn_app (goodIn_of _ (by decide +kernel)) ggX8_size_X4_sizeOf
theorem dX8_size_0 : decode cX8_size 0 = .ok (.aload_n 0, 1) := by decide +kernel
theorem dX8_size_1 : decode cX8_size 1 = .ok (.getfield 28, 3) := by decide +kernel
theorem dX8_size_4 : decode cX8_size 4 = .ok (.iload_n 1, 1) := by decide +kernel
theorem dX8_size_5 : decode cX8_size 5 = .ok (.invokevirtual 129, 3) := by decide +kernel
theorem dX8_size_8 : decode cX8_size 8 = .ok (.ifCond .eq 14, 3) := by decide +kernel
theorem dX8_size_11 : decode cX8_size 11 = .ok (.aload_n 0, 1) := by decide +kernel
theorem dX8_size_12 : decode cX8_size 12 = .ok (.getfield 28, 3) := by decide +kernel
theorem dX8_size_15 : decode cX8_size 15 = .ok (.iload_n 1, 1) := by decide +kernel
theorem dX8_size_16 : decode cX8_size 16 = .ok (.invokevirtual 138, 3) := by decide +kernel
theorem dX8_size_19 : decode cX8_size 19 = .ok (.goto 5, 3) := by decide +kernel
theorem dX8_size_22 : decode cX8_size 22 = .ok (.ldc 63, 2) := by decide +kernel
theorem dX8_size_24 : decode cX8_size 24 = .ok (.ireturn, 1) := by decide +kernel
set_option maxRecDepth 20000 in
theorem ggX8_serves_X4_has : GoodIn wsX8_serves wsX4_has := goodIn_r _ [7, 8, 32, 33, 34, 35, 36, 37, 38, 39] (by decide +kernel) (by decide +kernel)
set_option maxRecDepth 20000 in
theorem gX8_serves_X4_has : GoodIn wsX8_serves (wsV RX8 129 RX4 yX4_has wsX4_has) := goodIn_app (goodIn_of _ (by decide +kernel)) ggX8_serves_X4_has
set_option maxRecDepth 20000 in
theorem ggX8_serves_X4_canServe : GoodIn wsX8_serves wsX4_canServe := goodIn_r _ [12, 13, 14, 15, 6, 16, 17, 18, 4, 5, 7, 8, 19, 20, 21, 22, 23, 32, 33, 34, 35, 36, 37, 38, 39] (by decide +kernel) (by decide +kernel)
set_option maxRecDepth 20000 in
theorem gX8_serves_X4_canServe : GoodIn wsX8_serves (wsV RX8 141 RX4 yX4_canServe wsX4_canServe) := goodIn_app (goodIn_of _ (by decide +kernel)) ggX8_serves_X4_canServe
theorem dX8_serves_0 : decode cX8_serves 0 = .ok (.aload_n 0, 1) := by decide +kernel
theorem dX8_serves_1 : decode cX8_serves 1 = .ok (.getfield 28, 3) := by decide +kernel
theorem dX8_serves_4 : decode cX8_serves 4 = .ok (.iload_n 1, 1) := by decide +kernel
theorem dX8_serves_5 : decode cX8_serves 5 = .ok (.invokevirtual 129, 3) := by decide +kernel
theorem dX8_serves_8 : decode cX8_serves 8 = .ok (.ifCond .eq 14, 3) := by decide +kernel
theorem dX8_serves_11 : decode cX8_serves 11 = .ok (.aload_n 0, 1) := by decide +kernel
theorem dX8_serves_12 : decode cX8_serves 12 = .ok (.getfield 28, 3) := by decide +kernel
theorem dX8_serves_15 : decode cX8_serves 15 = .ok (.iload_n 2, 1) := by decide +kernel
theorem dX8_serves_16 : decode cX8_serves 16 = .ok (.invokevirtual 129, 3) := by decide +kernel
theorem dX8_serves_19 : decode cX8_serves 19 = .ok (.ifCond .ne 6, 3) := by decide +kernel
theorem dX8_serves_22 : decode cX8_serves 22 = .ok (.ldc 63, 2) := by decide +kernel
theorem dX8_serves_24 : decode cX8_serves 24 = .ok (.ireturn, 1) := by decide +kernel
theorem dX8_serves_25 : decode cX8_serves 25 = .ok (.aload_n 0, 1) := by decide +kernel
theorem dX8_serves_26 : decode cX8_serves 26 = .ok (.getfield 28, 3) := by decide +kernel
theorem dX8_serves_29 : decode cX8_serves 29 = .ok (.iload_n 1, 1) := by decide +kernel
theorem dX8_serves_30 : decode cX8_serves 30 = .ok (.iload_n 2, 1) := by decide +kernel
theorem dX8_serves_31 : decode cX8_serves 31 = .ok (.invokevirtual 141, 3) := by decide +kernel
theorem dX8_serves_34 : decode cX8_serves 34 = .ok (.ifCond .eq 7, 3) := by decide +kernel
theorem dX8_serves_37 : decode cX8_serves 37 = .ok (.iconst 1, 1) := by decide +kernel
theorem dX8_serves_38 : decode cX8_serves 38 = .ok (.goto 4, 3) := by decide +kernel
theorem dX8_serves_41 : decode cX8_serves 41 = .ok (.iconst 0, 1) := by decide +kernel
theorem dX8_serves_42 : decode cX8_serves 42 = .ok (.ireturn, 1) := by decide +kernel
set_option maxRecDepth 20000 in
theorem ggX8_keep_X4_has : GoodIn wsX8_keep wsX4_has := goodIn_r _ [8, 9, 24, 25, 26, 27, 28, 29, 30, 31] (by decide +kernel) (by decide +kernel)
set_option maxRecDepth 20000 in
theorem gX8_keep_X4_has : GoodIn wsX8_keep (wsV RX8 129 RX4 yX4_has wsX4_has) := goodIn_app (goodIn_of _ (by decide +kernel)) ggX8_keep_X4_has
set_option maxRecDepth 20000 in
theorem ggX8_keep_X4_mark : GoodIn wsX8_keep wsX4_mark := goodIn_r _ [13, 14, 15, 5, 6, 7, 8, 9, 24, 25, 26, 27, 28, 29, 30, 31] (by decide +kernel) (by decide +kernel)
set_option maxRecDepth 20000 in
theorem gX8_keep_X4_mark : GoodIn wsX8_keep (wsV RX8 144 RX4 yX4_mark wsX4_mark) := goodIn_app (goodIn_of _ (by decide +kernel)) ggX8_keep_X4_mark
theorem dX8_keep_0 : decode cX8_keep 0 = .ok (.aload_n 0, 1) := by decide +kernel
theorem dX8_keep_1 : decode cX8_keep 1 = .ok (.getfield 28, 3) := by decide +kernel
theorem dX8_keep_4 : decode cX8_keep 4 = .ok (.iload_n 1, 1) := by decide +kernel
theorem dX8_keep_5 : decode cX8_keep 5 = .ok (.invokevirtual 129, 3) := by decide +kernel
theorem dX8_keep_8 : decode cX8_keep 8 = .ok (.ifCond .ne 6, 3) := by decide +kernel
theorem dX8_keep_11 : decode cX8_keep 11 = .ok (.ldc 63, 2) := by decide +kernel
theorem dX8_keep_13 : decode cX8_keep 13 = .ok (.ireturn, 1) := by decide +kernel
theorem dX8_keep_14 : decode cX8_keep 14 = .ok (.iload_n 1, 1) := by decide +kernel
theorem dX8_keep_15 : decode cX8_keep 15 = .ok (.ifCond .ne 10, 3) := by decide +kernel
theorem dX8_keep_18 : decode cX8_keep 18 = .ok (.iload_n 2, 1) := by decide +kernel
theorem dX8_keep_19 : decode cX8_keep 19 = .ok (.ifCond .ne 6, 3) := by decide +kernel
theorem dX8_keep_22 : decode cX8_keep 22 = .ok (.ldc 67, 2) := by decide +kernel
theorem dX8_keep_24 : decode cX8_keep 24 = .ok (.ireturn, 1) := by decide +kernel
theorem dX8_keep_25 : decode cX8_keep 25 = .ok (.aload_n 0, 1) := by decide +kernel
theorem dX8_keep_26 : decode cX8_keep 26 = .ok (.getfield 28, 3) := by decide +kernel
theorem dX8_keep_29 : decode cX8_keep 29 = .ok (.iload_n 1, 1) := by decide +kernel
theorem dX8_keep_30 : decode cX8_keep 30 = .ok (.iload_n 2, 1) := by decide +kernel
theorem dX8_keep_31 : decode cX8_keep 31 = .ok (.invokevirtual 144, 3) := by decide +kernel
theorem dX8_keep_34 : decode cX8_keep 34 = .ok (.ifCond .eq 7, 3) := by decide +kernel
theorem dX8_keep_37 : decode cX8_keep 37 = .ok (.iconst 1, 1) := by decide +kernel
theorem dX8_keep_38 : decode cX8_keep 38 = .ok (.goto 4, 3) := by decide +kernel
theorem dX8_keep_41 : decode cX8_keep 41 = .ok (.iconst 0, 1) := by decide +kernel
theorem dX8_keep_42 : decode cX8_keep 42 = .ok (.ireturn, 1) := by decide +kernel
set_option maxRecDepth 20000 in
theorem ggX8_kept_X4_has : GoodIn wsX8_kept wsX4_has := goodIn_r _ [7, 8, 23, 24, 25, 26, 27, 28, 29, 30] (by decide +kernel) (by decide +kernel)
set_option maxRecDepth 20000 in
theorem gX8_kept_X4_has : GoodIn wsX8_kept (wsV RX8 129 RX4 yX4_has wsX4_has) := goodIn_app (goodIn_of _ (by decide +kernel)) ggX8_kept_X4_has
set_option maxRecDepth 20000 in
theorem ggX8_kept_X4_isKept : GoodIn wsX8_kept wsX4_isKept := goodIn_r _ [12, 13, 14, 4, 5, 6, 7, 8, 23, 24, 25, 26, 27, 28, 29, 30] (by decide +kernel) (by decide +kernel)
set_option maxRecDepth 20000 in
theorem gX8_kept_X4_isKept : GoodIn wsX8_kept (wsV RX8 148 RX4 yX4_isKept wsX4_isKept) := goodIn_app (goodIn_of _ (by decide +kernel)) ggX8_kept_X4_isKept
theorem dX8_kept_0 : decode cX8_kept 0 = .ok (.aload_n 0, 1) := by decide +kernel
theorem dX8_kept_1 : decode cX8_kept 1 = .ok (.getfield 28, 3) := by decide +kernel
theorem dX8_kept_4 : decode cX8_kept 4 = .ok (.iload_n 1, 1) := by decide +kernel
theorem dX8_kept_5 : decode cX8_kept 5 = .ok (.invokevirtual 129, 3) := by decide +kernel
theorem dX8_kept_8 : decode cX8_kept 8 = .ok (.ifCond .ne 6, 3) := by decide +kernel
theorem dX8_kept_11 : decode cX8_kept 11 = .ok (.ldc 63, 2) := by decide +kernel
theorem dX8_kept_13 : decode cX8_kept 13 = .ok (.ireturn, 1) := by decide +kernel
theorem dX8_kept_14 : decode cX8_kept 14 = .ok (.aload_n 0, 1) := by decide +kernel
theorem dX8_kept_15 : decode cX8_kept 15 = .ok (.getfield 28, 3) := by decide +kernel
theorem dX8_kept_18 : decode cX8_kept 18 = .ok (.iload_n 1, 1) := by decide +kernel
theorem dX8_kept_19 : decode cX8_kept 19 = .ok (.invokevirtual 148, 3) := by decide +kernel
theorem dX8_kept_22 : decode cX8_kept 22 = .ok (.ifCond .eq 7, 3) := by decide +kernel
theorem dX8_kept_25 : decode cX8_kept 25 = .ok (.iconst 1, 1) := by decide +kernel
theorem dX8_kept_26 : decode cX8_kept 26 = .ok (.goto 4, 3) := by decide +kernel
theorem dX8_kept_29 : decode cX8_kept 29 = .ok (.iconst 0, 1) := by decide +kernel
theorem dX8_kept_30 : decode cX8_kept 30 = .ok (.ireturn, 1) := by decide +kernel
set_option maxRecDepth 20000 in
theorem ggX8_cost_X4_has : GoodIn wsX8_cost wsX4_has := goodIn_r _ [7, 8, 100, 101, 102, 103, 104, 105, 106, 107] (by decide +kernel) (by decide +kernel)
set_option maxRecDepth 20000 in
theorem gX8_cost_X4_has : GoodIn wsX8_cost (wsV RX8 129 RX4 yX4_has wsX4_has) := goodIn_app (goodIn_of _ (by decide +kernel)) ggX8_cost_X4_has
set_option maxRecDepth 20000 in
theorem ggX8_cost_X4_costOf : GoodIn wsX8_cost wsX4_costOf := goodIn_r _ [12, 13, 14, 15, 6, 16, 8, 17, 18, 19, 20, 21, 22, 23, 24, 25, 26, 27, 4, 5, 7, 28, 29, 30, 31, 32, 33, 34, 35, 36, 37, 38, 39, 40, 41, 42, 43, 44, 45, 46, 47, 48, 49, 50, 51, 52, 53, 54, 55, 56, 57, 58, 59, 60, 61, 62, 63, 64, 65, 66, 67, 68, 69, 70, 71, 72, 73, 74, 75, 76, 77, 78, 79, 80, 81, 82, 83, 84, 85, 86, 87, 88, 89, 90, 91, 100, 101, 102, 103, 104, 105, 106, 107, 108, 109, 110, 111, 112, 113, 114, 115, 116, 117, 118, 119, 120, 121, 122] (by decide +kernel) (by decide +kernel)
set_option maxRecDepth 20000 in
theorem gX8_cost_X4_costOf : GoodIn wsX8_cost (wsV RX8 151 RX4 yX4_costOf wsX4_costOf) := goodIn_app (goodIn_of _ (by decide +kernel)) ggX8_cost_X4_costOf
theorem dX8_cost_0 : decode cX8_cost 0 = .ok (.aload_n 0, 1) := by decide +kernel
theorem dX8_cost_1 : decode cX8_cost 1 = .ok (.getfield 28, 3) := by decide +kernel
theorem dX8_cost_4 : decode cX8_cost 4 = .ok (.iload_n 1, 1) := by decide +kernel
theorem dX8_cost_5 : decode cX8_cost 5 = .ok (.invokevirtual 129, 3) := by decide +kernel
theorem dX8_cost_8 : decode cX8_cost 8 = .ok (.ifCond .eq 14, 3) := by decide +kernel
theorem dX8_cost_11 : decode cX8_cost 11 = .ok (.aload_n 0, 1) := by decide +kernel
theorem dX8_cost_12 : decode cX8_cost 12 = .ok (.getfield 28, 3) := by decide +kernel
theorem dX8_cost_15 : decode cX8_cost 15 = .ok (.iload_n 1, 1) := by decide +kernel
theorem dX8_cost_16 : decode cX8_cost 16 = .ok (.invokevirtual 151, 3) := by decide +kernel
theorem dX8_cost_19 : decode cX8_cost 19 = .ok (.goto 5, 3) := by decide +kernel
theorem dX8_cost_22 : decode cX8_cost 22 = .ok (.ldc 63, 2) := by decide +kernel
theorem dX8_cost_24 : decode cX8_cost 24 = .ok (.ireturn, 1) := by decide +kernel
set_option maxRecDepth 20000 in
theorem ggX8_server_X4_has : GoodIn wsX8_server wsX4_has := goodIn_r _ [7, 8, 96, 97, 98, 99, 100, 101, 102, 103] (by decide +kernel) (by decide +kernel)
set_option maxRecDepth 20000 in
theorem gX8_server_X4_has : GoodIn wsX8_server (wsV RX8 129 RX4 yX4_has wsX4_has) := goodIn_app (goodIn_of _ (by decide +kernel)) ggX8_server_X4_has
set_option maxRecDepth 20000 in
theorem ggX8_server_X4_serverOf : GoodIn wsX8_server wsX4_serverOf := goodIn_r _ [12, 8, 13, 14, 15, 16, 6, 17, 18, 19, 20, 21, 22, 23, 4, 5, 7, 24, 25, 26, 27, 28, 29, 30, 31, 32, 33, 34, 35, 36, 37, 38, 39, 40, 41, 42, 43, 44, 45, 46, 47, 48, 49, 50, 51, 52, 53, 54, 55, 56, 57, 58, 59, 60, 61, 62, 63, 64, 65, 66, 67, 68, 69, 70, 71, 72, 73, 74, 75, 76, 77, 78, 79, 80, 81, 82, 83, 84, 85, 86, 87, 96, 97, 98, 99, 100, 101, 102, 103, 104, 105, 106, 107, 108, 109, 110, 111, 112, 113, 114, 115, 116, 117, 118] (by decide +kernel) (by decide +kernel)
set_option maxRecDepth 20000 in
theorem gX8_server_X4_serverOf : GoodIn wsX8_server (wsV RX8 154 RX4 yX4_serverOf wsX4_serverOf) := goodIn_app (goodIn_of _ (by decide +kernel)) ggX8_server_X4_serverOf
theorem dX8_server_0 : decode cX8_server 0 = .ok (.aload_n 0, 1) := by decide +kernel
theorem dX8_server_1 : decode cX8_server 1 = .ok (.getfield 28, 3) := by decide +kernel
theorem dX8_server_4 : decode cX8_server 4 = .ok (.iload_n 1, 1) := by decide +kernel
theorem dX8_server_5 : decode cX8_server 5 = .ok (.invokevirtual 129, 3) := by decide +kernel
theorem dX8_server_8 : decode cX8_server 8 = .ok (.ifCond .eq 14, 3) := by decide +kernel
theorem dX8_server_11 : decode cX8_server 11 = .ok (.aload_n 0, 1) := by decide +kernel
theorem dX8_server_12 : decode cX8_server 12 = .ok (.getfield 28, 3) := by decide +kernel
theorem dX8_server_15 : decode cX8_server 15 = .ok (.iload_n 1, 1) := by decide +kernel
theorem dX8_server_16 : decode cX8_server 16 = .ok (.invokevirtual 154, 3) := by decide +kernel
theorem dX8_server_19 : decode cX8_server 19 = .ok (.goto 5, 3) := by decide +kernel
theorem dX8_server_22 : decode cX8_server 22 = .ok (.ldc 63, 2) := by decide +kernel
theorem dX8_server_24 : decode cX8_server 24 = .ok (.ireturn, 1) := by decide +kernel
set_option maxRecDepth 20000 in
theorem ggX8_gain_X4_has : GoodIn wsX8_gain wsX4_has := goodIn_r _ [7, 8, 116, 117, 118, 119, 120, 121, 122, 123] (by decide +kernel) (by decide +kernel)
set_option maxRecDepth 20000 in
theorem gX8_gain_X4_has : GoodIn wsX8_gain (wsV RX8 129 RX4 yX4_has wsX4_has) := goodIn_app (goodIn_of _ (by decide +kernel)) ggX8_gain_X4_has
set_option maxRecDepth 20000 in
theorem ggX8_gain_X4_gainOf : GoodIn wsX8_gain wsX4_gainOf := goodIn_r _ [12, 13, 8, 14, 15, 16, 17, 6, 18, 19, 4, 5, 7, 20, 21, 22, 23, 24, 25, 26, 27, 28, 29, 30, 31, 32, 33, 34, 35, 36, 37, 38, 39, 40, 41, 42, 43, 44, 45, 46, 47, 48, 49, 50, 51, 52, 53, 54, 55, 56, 57, 58, 59, 60, 61, 62, 63, 64, 65, 66, 67, 68, 69, 70, 71, 72, 73, 74, 75, 76, 77, 78, 79, 80, 81, 82, 83, 84, 85, 86, 87, 88, 89, 90, 91, 92, 93, 94, 95, 96, 97, 98, 99, 100, 101, 102, 103, 104, 105, 106, 107, 116, 117, 118, 119, 120, 121, 122, 123, 124, 125, 126, 127, 128, 129, 130, 131, 132, 133, 134, 135, 136, 137, 138] (by decide +kernel) (by decide +kernel)
set_option maxRecDepth 20000 in
theorem gX8_gain_X4_gainOf : GoodIn wsX8_gain (wsV RX8 157 RX4 yX4_gainOf wsX4_gainOf) := goodIn_app (goodIn_of _ (by decide +kernel)) ggX8_gain_X4_gainOf
theorem dX8_gain_0 : decode cX8_gain 0 = .ok (.aload_n 0, 1) := by decide +kernel
theorem dX8_gain_1 : decode cX8_gain 1 = .ok (.getfield 28, 3) := by decide +kernel
theorem dX8_gain_4 : decode cX8_gain 4 = .ok (.iload_n 1, 1) := by decide +kernel
theorem dX8_gain_5 : decode cX8_gain 5 = .ok (.invokevirtual 129, 3) := by decide +kernel
theorem dX8_gain_8 : decode cX8_gain 8 = .ok (.ifCond .eq 14, 3) := by decide +kernel
theorem dX8_gain_11 : decode cX8_gain 11 = .ok (.aload_n 0, 1) := by decide +kernel
theorem dX8_gain_12 : decode cX8_gain 12 = .ok (.getfield 28, 3) := by decide +kernel
theorem dX8_gain_15 : decode cX8_gain 15 = .ok (.iload_n 1, 1) := by decide +kernel
theorem dX8_gain_16 : decode cX8_gain 16 = .ok (.invokevirtual 157, 3) := by decide +kernel
theorem dX8_gain_19 : decode cX8_gain 19 = .ok (.goto 5, 3) := by decide +kernel
theorem dX8_gain_22 : decode cX8_gain 22 = .ok (.ldc 63, 2) := by decide +kernel
theorem dX8_gain_24 : decode cX8_gain 24 = .ok (.ireturn, 1) := by decide +kernel
set_option maxRecDepth 20000 in
theorem ggX8_choose_X4_chooseGreedily : GoodIn wsX8_choose wsX4_chooseGreedily := goodIn_r _ [7, 8, 9, 10, 11, 6, 12, 13, 14, 15, 16, 17, 18, 19, 20, 21, 22, 23, 24, 25, 26, 27, 28, 29, 30, 31, 32, 33, 34, 35, 36, 37, 38, 39, 40, 41, 42, 43, 44, 45, 46, 47, 48, 49, 50, 51, 52, 53, 54, 55, 56, 57, 58, 59, 60, 61, 62, 63, 64, 65, 66, 67, 68, 69, 70, 71, 72, 73, 74, 75, 76, 77, 78, 79, 80, 81, 82, 83, 84, 85, 86, 87, 88, 89, 90, 91, 92, 93, 94, 95, 96, 97, 98, 99, 100, 101, 102, 103, 104, 105, 106, 107, 108, 109, 110, 111, 112, 113, 114, 123, 124, 125, 126, 127, 128, 129, 130, 131, 132, 133, 134, 135, 136, 137, 138, 139, 140, 141, 142, 143, 144, 145] (by decide +kernel) (by decide +kernel)
set_option maxRecDepth 20000 in
theorem gX8_choose_X4_chooseGreedily : GoodIn wsX8_choose (wsV RX8 160 RX4 yX4_chooseGreedily wsX4_chooseGreedily) := goodIn_app (goodIn_of _ (by decide +kernel)) ggX8_choose_X4_chooseGreedily
theorem dX8_choose_0 : decode cX8_choose 0 = .ok (.iload_n 1, 1) := by decide +kernel
theorem dX8_choose_1 : decode cX8_choose 1 = .ok (.ifCond .lt 9, 3) := by decide +kernel
theorem dX8_choose_4 : decode cX8_choose 4 = .ok (.iload_n 1, 1) := by decide +kernel
theorem dX8_choose_5 : decode cX8_choose 5 = .ok (.bipush 8, 2) := by decide +kernel
theorem dX8_choose_7 : decode cX8_choose 7 = .ok (.if_icmp .le 6, 3) := by decide +kernel
theorem dX8_choose_10 : decode cX8_choose 10 = .ok (.ldc 63, 2) := by decide +kernel
theorem dX8_choose_12 : decode cX8_choose 12 = .ok (.ireturn, 1) := by decide +kernel
theorem dX8_choose_13 : decode cX8_choose 13 = .ok (.aload_n 0, 1) := by decide +kernel
theorem dX8_choose_14 : decode cX8_choose 14 = .ok (.getfield 28, 3) := by decide +kernel
theorem dX8_choose_17 : decode cX8_choose 17 = .ok (.iload_n 1, 1) := by decide +kernel
theorem dX8_choose_18 : decode cX8_choose 18 = .ok (.invokevirtual 160, 3) := by decide +kernel
theorem dX8_choose_21 : decode cX8_choose 21 = .ok (.ireturn, 1) := by decide +kernel
set_option maxRecDepth 20000 in
theorem ggX8_best_X0_greatestGain : GoodIn wsX8_best wsX0_greatestGain := goodIn_r _ [9, 10, 11, 12, 13, 14, 15, 16, 17, 18, 19, 20, 21, 22, 23, 24, 25, 26, 27, 28, 29, 30, 31, 32, 33, 34, 35, 36, 37, 38, 39, 40, 41, 42, 43, 44, 45, 46, 47, 48, 49, 50, 51, 52, 53, 54, 55, 56, 57, 58, 59, 60, 61, 62, 63, 64, 65, 66, 67, 68, 69, 70, 71, 72, 73, 74, 75, 76, 77, 78, 79, 80, 81, 82, 83, 84, 85, 86, 87, 88, 89, 90, 91, 8, 92, 93, 94, 95, 96, 97, 98, 99, 100, 101, 102, 103, 104, 105, 106, 107, 108, 109, 110, 111, 112, 113, 130, 131, 132, 122, 123, 124, 125, 126, 127, 128, 129, 133, 134, 135, 136, 137, 138, 139, 140, 141, 142, 143, 144, 145, 146, 147] (by decide +kernel) (by decide +kernel)
set_option maxRecDepth 20000 in
theorem gX8_best_X0_greatestGain : GoodIn wsX8_best (wsV RX8 163 RX0 yX0_greatestGain wsX0_greatestGain) := goodIn_app (goodIn_of _ (by decide +kernel)) ggX8_best_X0_greatestGain
theorem dX8_best_0 : decode cX8_best 0 = .ok (.iload_n 1, 1) := by decide +kernel
theorem dX8_best_1 : decode cX8_best 1 = .ok (.ifCond .lt 8, 3) := by decide +kernel
theorem dX8_best_4 : decode cX8_best 4 = .ok (.iload_n 1, 1) := by decide +kernel
theorem dX8_best_5 : decode cX8_best 5 = .ok (.iconst 3, 1) := by decide +kernel
theorem dX8_best_6 : decode cX8_best 6 = .ok (.if_icmp .le 6, 3) := by decide +kernel
theorem dX8_best_9 : decode cX8_best 9 = .ok (.ldc 63, 2) := by decide +kernel
theorem dX8_best_11 : decode cX8_best 11 = .ok (.ireturn, 1) := by decide +kernel
theorem dX8_best_12 : decode cX8_best 12 = .ok (.aload_n 0, 1) := by decide +kernel
theorem dX8_best_13 : decode cX8_best 13 = .ok (.getfield 28, 3) := by decide +kernel
theorem dX8_best_16 : decode cX8_best 16 = .ok (.getfield 126, 3) := by decide +kernel
theorem dX8_best_19 : decode cX8_best 19 = .ok (.bipush 64, 2) := by decide +kernel
theorem dX8_best_21 : decode cX8_best 21 = .ok (.if_icmp .le 6, 3) := by decide +kernel
theorem dX8_best_24 : decode cX8_best 24 = .ok (.ldc 67, 2) := by decide +kernel
theorem dX8_best_26 : decode cX8_best 26 = .ok (.ireturn, 1) := by decide +kernel
theorem dX8_best_27 : decode cX8_best 27 = .ok (.aload_n 0, 1) := by decide +kernel
theorem dX8_best_28 : decode cX8_best 28 = .ok (.getfield 37, 3) := by decide +kernel
theorem dX8_best_31 : decode cX8_best 31 = .ok (.iload_n 1, 1) := by decide +kernel
theorem dX8_best_32 : decode cX8_best 32 = .ok (.invokevirtual 163, 3) := by decide +kernel
theorem dX8_best_35 : decode cX8_best 35 = .ok (.ireturn, 1) := by decide +kernel
set_option maxRecDepth 20000 in
theorem ggX8_ask_X4_has : GoodIn wsX8_ask wsX4_has := goodIn_r _ [12, 13, 175, 176, 177, 178, 179, 180, 181, 182] (by decide +kernel) (by decide +kernel)
set_option maxRecDepth 20000 in
theorem gX8_ask_X4_has : GoodIn wsX8_ask (wsV RX8 129 RX4 yX4_has wsX4_has) := goodIn_app (goodIn_of _ (by decide +kernel)) ggX8_ask_X4_has
set_option maxRecDepth 20000 in
theorem ggX8_ask_X8_isValue : GoodIn wsX8_ask wsX8_isValue := goodIn_r _ [17] (by decide +kernel) (by decide +kernel)
set_option maxRecDepth 20000 in
theorem gX8_ask_X8_isValue : GoodIn wsX8_ask (va_wsS RX8 166 yX8_isValue wsX8_isValue) := goodIn_app (goodIn_of _ (by decide +kernel)) ggX8_ask_X8_isValue
set_option maxRecDepth 20000 in
theorem ggX8_ask_X4_levelsOf : GoodIn wsX8_ask wsX4_levelsOf := goodIn_r _ [21, 22, 23, 9, 10, 11, 12, 13, 175, 176, 177, 178, 179, 180, 181, 182] (by decide +kernel) (by decide +kernel)
set_option maxRecDepth 20000 in
theorem gX8_ask_X4_levelsOf : GoodIn wsX8_ask (wsV RX8 132 RX4 yX4_levelsOf wsX4_levelsOf) := goodIn_app (goodIn_of _ (by decide +kernel)) ggX8_ask_X4_levelsOf
set_option maxRecDepth 20000 in
theorem ggX8_ask_X6_pack : GoodIn wsX8_ask wsX6_pack := goodIn_r _ [28, 29, 30, 31, 32, 27, 33, 34, 35, 36, 37, 38, 39, 40, 41, 42, 43, 44, 45, 46, 47, 48, 183, 184, 185, 186, 187, 188, 189, 190] (by decide +kernel) (by decide +kernel)
set_option maxRecDepth 20000 in
theorem gX8_ask_X6_pack : GoodIn wsX8_ask (wsV RX8 113 RX6 yX6_pack wsX6_pack) := goodIn_app (goodIn_of _ (by decide +kernel)) ggX8_ask_X6_pack
set_option maxRecDepth 20000 in
theorem ggX8_ask_X4_costOf : GoodIn wsX8_ask wsX4_costOf := goodIn_r _ [52, 53, 54, 55, 11, 56, 13, 57, 58, 59, 60, 61, 62, 19, 20, 21, 22, 23, 9, 10, 12, 63, 64, 27, 65, 66, 67, 68, 69, 70, 71, 72, 73, 74, 75, 76, 77, 78, 79, 80, 81, 82, 83, 84, 85, 86, 87, 88, 89, 90, 91, 92, 93, 94, 95, 96, 97, 98, 99, 100, 101, 102, 103, 104, 105, 106, 107, 108, 109, 29, 30, 31, 32, 33, 110, 111, 112, 113, 114, 37, 115, 116, 117, 118, 119, 175, 176, 177, 178, 179, 180, 181, 182, 191, 192, 193, 194, 195, 196, 197, 183, 184, 185, 186, 187, 188, 189, 190] (by decide +kernel) (by decide +kernel)
set_option maxRecDepth 20000 in
theorem gX8_ask_X4_costOf : GoodIn wsX8_ask (wsV RX8 151 RX4 yX4_costOf wsX4_costOf) := goodIn_app (goodIn_of _ (by decide +kernel)) ggX8_ask_X4_costOf
set_option maxRecDepth 20000 in
theorem ggX8_ask_X8_tallyGroup : GoodIn wsX8_ask wsX8_tallyGroup := goodIn_r _ [123, 6, 124, 3, 125, 126, 127, 128, 129, 130, 131, 132, 88, 133, 134, 91, 92, 93, 94, 95, 96, 97, 98, 99, 100, 135, 102, 103, 104, 105, 136, 107, 108, 27, 109, 29, 30, 31, 32, 33, 110, 111, 112, 113, 114, 37, 115, 137, 138, 139, 140, 141, 142, 143, 144, 145, 146, 147, 148, 149, 150, 151, 152, 153, 154, 155, 156, 157, 158, 167, 168, 169, 170, 171, 172, 173, 174, 193, 194, 195, 196, 197, 198, 199, 200, 201, 183, 184, 185, 186, 187, 188, 189, 190] (by decide +kernel) (by decide +kernel)
set_option maxRecDepth 20000 in
theorem gX8_ask_X8_tallyGroup : GoodIn wsX8_ask (wsV RX8 169 RX8 yX8_tallyGroup wsX8_tallyGroup) := goodIn_app (goodIn_of _ (by decide +kernel)) ggX8_ask_X8_tallyGroup
set_option maxRecDepth 20000 in
theorem ggX8_ask_X7_isEmpty : GoodIn wsX8_ask wsX7_isEmpty := goodIn_r _ [162, 130, 156, 157, 128, 158, 198, 199, 200, 201] (by decide +kernel) (by decide +kernel)
set_option maxRecDepth 20000 in
theorem gX8_ask_X7_isEmpty : GoodIn wsX8_ask (wsV RX8 173 RX7 yX7_isEmpty wsX7_isEmpty) := goodIn_app (goodIn_of _ (by decide +kernel)) ggX8_ask_X7_isEmpty
set_option maxRecDepth 20000 in
theorem ggX8_ask_X7_valueOf : GoodIn wsX8_ask wsX7_valueOf := goodIn_r _ [166, 130, 146, 147, 152, 156, 157, 128, 158, 198, 199, 200, 201] (by decide +kernel) (by decide +kernel)
set_option maxRecDepth 20000 in
theorem gX8_ask_X7_valueOf : GoodIn wsX8_ask (wsV RX8 177 RX7 yX7_valueOf wsX7_valueOf) := goodIn_app (goodIn_of _ (by decide +kernel)) ggX8_ask_X7_valueOf
theorem dX8_ask_0 : decode cX8_ask 0 = .ok (.aload_n 0, 1) := by decide +kernel
theorem dX8_ask_1 : decode cX8_ask 1 = .ok (.getfield 28, 3) := by decide +kernel
theorem dX8_ask_4 : decode cX8_ask 4 = .ok (.iload_n 1, 1) := by decide +kernel
theorem dX8_ask_5 : decode cX8_ask 5 = .ok (.invokevirtual 129, 3) := by decide +kernel
theorem dX8_ask_8 : decode cX8_ask 8 = .ok (.ifCond .eq 10, 3) := by decide +kernel
theorem dX8_ask_11 : decode cX8_ask 11 = .ok (.iload_n 2, 1) := by decide +kernel
theorem dX8_ask_12 : decode cX8_ask 12 = .ok (.invokestatic 166, 3) := by decide +kernel
theorem dX8_ask_15 : decode cX8_ask 15 = .ok (.ifCond .ne 6, 3) := by decide +kernel
theorem dX8_ask_18 : decode cX8_ask 18 = .ok (.ldc 63, 2) := by decide +kernel
theorem dX8_ask_20 : decode cX8_ask 20 = .ok (.ireturn, 1) := by decide +kernel
theorem dX8_ask_21 : decode cX8_ask 21 = .ok (.aload_n 0, 1) := by decide +kernel
theorem dX8_ask_22 : decode cX8_ask 22 = .ok (.getfield 28, 3) := by decide +kernel
theorem dX8_ask_25 : decode cX8_ask 25 = .ok (.iload_n 1, 1) := by decide +kernel
theorem dX8_ask_26 : decode cX8_ask 26 = .ok (.invokevirtual 132, 3) := by decide +kernel
theorem dX8_ask_29 : decode cX8_ask 29 = .ok (.istore_n 3, 1) := by decide +kernel
theorem dX8_ask_30 : decode cX8_ask 30 = .ok (.aload_n 0, 1) := by decide +kernel
theorem dX8_ask_31 : decode cX8_ask 31 = .ok (.getfield 12, 3) := by decide +kernel
theorem dX8_ask_34 : decode cX8_ask 34 = .ok (.aload_n 0, 1) := by decide +kernel
theorem dX8_ask_35 : decode cX8_ask 35 = .ok (.getfield 55, 3) := by decide +kernel
theorem dX8_ask_38 : decode cX8_ask 38 = .ok (.iload_n 3, 1) := by decide +kernel
theorem dX8_ask_39 : decode cX8_ask 39 = .ok (.invokevirtual 113, 3) := by decide +kernel
theorem dX8_ask_42 : decode cX8_ask 42 = .ok (.istore 4, 2) := by decide +kernel
theorem dX8_ask_44 : decode cX8_ask 44 = .ok (.iload 4, 2) := by decide +kernel
theorem dX8_ask_46 : decode cX8_ask 46 = .ok (.ifCond .ge 6, 3) := by decide +kernel
theorem dX8_ask_49 : decode cX8_ask 49 = .ok (.ldc 63, 2) := by decide +kernel
theorem dX8_ask_51 : decode cX8_ask 51 = .ok (.ireturn, 1) := by decide +kernel
theorem dX8_ask_52 : decode cX8_ask 52 = .ok (.aload_n 0, 1) := by decide +kernel
theorem dX8_ask_53 : decode cX8_ask 53 = .ok (.dup, 1) := by decide +kernel
theorem dX8_ask_54 : decode cX8_ask 54 = .ok (.getfield 59, 3) := by decide +kernel
theorem dX8_ask_57 : decode cX8_ask 57 = .ok (.aload_n 0, 1) := by decide +kernel
theorem dX8_ask_58 : decode cX8_ask 58 = .ok (.getfield 28, 3) := by decide +kernel
theorem dX8_ask_61 : decode cX8_ask 61 = .ok (.iload_n 1, 1) := by decide +kernel
theorem dX8_ask_62 : decode cX8_ask 62 = .ok (.invokevirtual 151, 3) := by decide +kernel
theorem dX8_ask_65 : decode cX8_ask 65 = .ok (.iadd, 1) := by decide +kernel
theorem dX8_ask_66 : decode cX8_ask 66 = .ok (.putfield 59, 3) := by decide +kernel
theorem dX8_ask_69 : decode cX8_ask 69 = .ok (.aload_n 0, 1) := by decide +kernel
theorem dX8_ask_70 : decode cX8_ask 70 = .ok (.iload_n 3, 1) := by decide +kernel
theorem dX8_ask_71 : decode cX8_ask 71 = .ok (.iload 4, 2) := by decide +kernel
theorem dX8_ask_73 : decode cX8_ask 73 = .ok (.invokevirtual 169, 3) := by decide +kernel
theorem dX8_ask_76 : decode cX8_ask 76 = .ok (.aload_n 0, 1) := by decide +kernel
theorem dX8_ask_77 : decode cX8_ask 77 = .ok (.getfield 44, 3) := by decide +kernel
theorem dX8_ask_80 : decode cX8_ask 80 = .ok (.iconst 0, 1) := by decide +kernel
theorem dX8_ask_81 : decode cX8_ask 81 = .ok (.invokevirtual 173, 3) := by decide +kernel
theorem dX8_ask_84 : decode cX8_ask 84 = .ok (.ifCond .eq 8, 3) := by decide +kernel
theorem dX8_ask_87 : decode cX8_ask 87 = .ok (.ldc 176, 2) := by decide +kernel
theorem dX8_ask_89 : decode cX8_ask 89 = .ok (.goto 12, 3) := by decide +kernel
theorem dX8_ask_92 : decode cX8_ask 92 = .ok (.aload_n 0, 1) := by decide +kernel
theorem dX8_ask_93 : decode cX8_ask 93 = .ok (.getfield 44, 3) := by decide +kernel
theorem dX8_ask_96 : decode cX8_ask 96 = .ok (.iconst 0, 1) := by decide +kernel
theorem dX8_ask_97 : decode cX8_ask 97 = .ok (.iload_n 2, 1) := by decide +kernel
theorem dX8_ask_98 : decode cX8_ask 98 = .ok (.invokevirtual 177, 3) := by decide +kernel
theorem dX8_ask_101 : decode cX8_ask 101 = .ok (.ireturn, 1) := by decide +kernel
set_option maxRecDepth 20000 in
theorem ggX8_group_X4_has : GoodIn wsX8_group wsX4_has := goodIn_r _ [9, 10, 92, 93, 94, 95, 96, 97, 98, 99] (by decide +kernel) (by decide +kernel)
set_option maxRecDepth 20000 in
theorem gX8_group_X4_has : GoodIn wsX8_group (wsV RX8 129 RX4 yX4_has wsX4_has) := goodIn_app (goodIn_of _ (by decide +kernel)) ggX8_group_X4_has
set_option maxRecDepth 20000 in
theorem ggX8_group_X4_groupAt : GoodIn wsX8_group wsX4_groupAt := goodIn_r _ [14, 15, 16, 17, 18, 8, 19, 20, 21, 22, 23, 24, 25, 26, 27, 6, 7, 9, 10, 28, 29, 30, 31, 32, 33, 34, 35, 36, 37, 38, 39, 40, 41, 42, 43, 44, 45, 46, 47, 48, 49, 50, 51, 52, 53, 54, 55, 56, 57, 58, 59, 60, 61, 62, 63, 64, 65, 66, 67, 68, 69, 70, 71, 72, 73, 74, 75, 76, 77, 78, 79, 92, 93, 94, 95, 96, 97, 98, 99, 100, 101, 102, 103, 104, 105, 106, 107, 108, 109, 110, 111, 112, 113, 114] (by decide +kernel) (by decide +kernel)
set_option maxRecDepth 20000 in
theorem gX8_group_X4_groupAt : GoodIn wsX8_group (wsV RX8 180 RX4 yX4_groupAt wsX4_groupAt) := goodIn_app (goodIn_of _ (by decide +kernel)) ggX8_group_X4_groupAt
set_option maxRecDepth 20000 in
theorem ggX8_group_X6_inDecimals : GoodIn wsX8_group wsX6_inDecimals := goodIn_r _ [83, 60, 65, 66, 67, 58, 68, 107, 108] (by decide +kernel) (by decide +kernel)
set_option maxRecDepth 20000 in
theorem gX8_group_X6_inDecimals : GoodIn wsX8_group (wsV RX8 183 RX6 yX6_inDecimals wsX6_inDecimals) := goodIn_app (goodIn_of _ (by decide +kernel)) ggX8_group_X6_inDecimals
theorem dX8_group_0 : decode cX8_group 0 = .ok (.aload_n 0, 1) := by decide +kernel
theorem dX8_group_1 : decode cX8_group 1 = .ok (.getfield 28, 3) := by decide +kernel
theorem dX8_group_4 : decode cX8_group 4 = .ok (.iload_n 1, 1) := by decide +kernel
theorem dX8_group_5 : decode cX8_group 5 = .ok (.invokevirtual 129, 3) := by decide +kernel
theorem dX8_group_8 : decode cX8_group 8 = .ok (.ifCond .eq 7, 3) := by decide +kernel
theorem dX8_group_11 : decode cX8_group 11 = .ok (.iload_n 2, 1) := by decide +kernel
theorem dX8_group_12 : decode cX8_group 12 = .ok (.ifCond .ge 6, 3) := by decide +kernel
theorem dX8_group_15 : decode cX8_group 15 = .ok (.ldc 63, 2) := by decide +kernel
theorem dX8_group_17 : decode cX8_group 17 = .ok (.ireturn, 1) := by decide +kernel
theorem dX8_group_18 : decode cX8_group 18 = .ok (.aload_n 0, 1) := by decide +kernel
theorem dX8_group_19 : decode cX8_group 19 = .ok (.getfield 28, 3) := by decide +kernel
theorem dX8_group_22 : decode cX8_group 22 = .ok (.iload_n 1, 1) := by decide +kernel
theorem dX8_group_23 : decode cX8_group 23 = .ok (.iload_n 2, 1) := by decide +kernel
theorem dX8_group_24 : decode cX8_group 24 = .ok (.invokevirtual 180, 3) := by decide +kernel
theorem dX8_group_27 : decode cX8_group 27 = .ok (.istore_n 3, 1) := by decide +kernel
theorem dX8_group_28 : decode cX8_group 28 = .ok (.iload_n 3, 1) := by decide +kernel
theorem dX8_group_29 : decode cX8_group 29 = .ok (.ifCond .ge 8, 3) := by decide +kernel
theorem dX8_group_32 : decode cX8_group 32 = .ok (.ldc 176, 2) := by decide +kernel
theorem dX8_group_34 : decode cX8_group 34 = .ok (.goto 11, 3) := by decide +kernel
theorem dX8_group_37 : decode cX8_group 37 = .ok (.aload_n 0, 1) := by decide +kernel
theorem dX8_group_38 : decode cX8_group 38 = .ok (.getfield 12, 3) := by decide +kernel
theorem dX8_group_41 : decode cX8_group 41 = .ok (.iload_n 3, 1) := by decide +kernel
theorem dX8_group_42 : decode cX8_group 42 = .ok (.invokevirtual 183, 3) := by decide +kernel
theorem dX8_group_45 : decode cX8_group 45 = .ok (.ireturn, 1) := by decide +kernel
theorem dX8_read_0 : decode cX8_read 0 = .ok (.aload_n 0, 1) := by decide +kernel
theorem dX8_read_1 : decode cX8_read 1 = .ok (.getfield 59, 3) := by decide +kernel
theorem dX8_read_4 : decode cX8_read 4 = .ok (.ireturn, 1) := by decide +kernel
set_option maxRecDepth 20000 in
theorem ggX8_filter_X6_find : GoodIn wsX8_filter wsX6_find := goodIn_r _ [7, 8, 9, 39, 40] (by decide +kernel) (by decide +kernel)
set_option maxRecDepth 20000 in
theorem gX8_filter_X6_find : GoodIn wsX8_filter (wsV RX8 79 RX6 yX6_find wsX6_find) := goodIn_app (goodIn_of _ (by decide +kernel)) ggX8_filter_X6_find
set_option maxRecDepth 20000 in
theorem ggX8_filter_X1_hasMember : GoodIn wsX8_filter wsX1_hasMember := goodIn_r _ [14, 15, 16, 17, 13, 18, 19, 20, 21, 22, 23, 24, 41, 42, 43, 44, 45, 46] (by decide +kernel) (by decide +kernel)
set_option maxRecDepth 20000 in
theorem gX8_filter_X1_hasMember : GoodIn wsX8_filter (wsV RX8 94 RX1 yX1_hasMember wsX1_hasMember) := goodIn_app (goodIn_of _ (by decide +kernel)) ggX8_filter_X1_hasMember
set_option maxRecDepth 20000 in
theorem ggX8_filter_X1_setFilter : GoodIn wsX8_filter wsX1_setFilter := goodIn_r _ [28, 29, 30, 41, 42, 43, 44, 45, 46] (by decide +kernel) (by decide +kernel)
set_option maxRecDepth 20000 in
theorem gX8_filter_X1_setFilter : GoodIn wsX8_filter (wsV RX8 186 RX1 yX1_setFilter wsX1_setFilter) := goodIn_app (goodIn_of _ (by decide +kernel)) ggX8_filter_X1_setFilter
theorem dX8_filter_0 : decode cX8_filter 0 = .ok (.aload_n 0, 1) := by decide +kernel
theorem dX8_filter_1 : decode cX8_filter 1 = .ok (.getfield 12, 3) := by decide +kernel
theorem dX8_filter_4 : decode cX8_filter 4 = .ok (.iload_n 1, 1) := by decide +kernel
theorem dX8_filter_5 : decode cX8_filter 5 = .ok (.invokevirtual 79, 3) := by decide +kernel
theorem dX8_filter_8 : decode cX8_filter 8 = .ok (.astore 4, 2) := by decide +kernel
theorem dX8_filter_10 : decode cX8_filter 10 = .ok (.aload 4, 2) := by decide +kernel
theorem dX8_filter_12 : decode cX8_filter 12 = .ok (.ifnull 13, 3) := by decide +kernel
theorem dX8_filter_15 : decode cX8_filter 15 = .ok (.aload 4, 2) := by decide +kernel
theorem dX8_filter_17 : decode cX8_filter 17 = .ok (.iload_n 2, 1) := by decide +kernel
theorem dX8_filter_18 : decode cX8_filter 18 = .ok (.iload_n 3, 1) := by decide +kernel
theorem dX8_filter_19 : decode cX8_filter 19 = .ok (.invokevirtual 94, 3) := by decide +kernel
theorem dX8_filter_22 : decode cX8_filter 22 = .ok (.ifCond .ne 6, 3) := by decide +kernel
theorem dX8_filter_25 : decode cX8_filter 25 = .ok (.ldc 63, 2) := by decide +kernel
theorem dX8_filter_27 : decode cX8_filter 27 = .ok (.ireturn, 1) := by decide +kernel
theorem dX8_filter_28 : decode cX8_filter 28 = .ok (.aload 4, 2) := by decide +kernel
theorem dX8_filter_30 : decode cX8_filter 30 = .ok (.iload_n 2, 1) := by decide +kernel
theorem dX8_filter_31 : decode cX8_filter 31 = .ok (.iload_n 3, 1) := by decide +kernel
theorem dX8_filter_32 : decode cX8_filter 32 = .ok (.invokevirtual 186, 3) := by decide +kernel
theorem dX8_filter_35 : decode cX8_filter 35 = .ok (.iconst 0, 1) := by decide +kernel
theorem dX8_filter_36 : decode cX8_filter 36 = .ok (.ireturn, 1) := by decide +kernel
set_option maxRecDepth 20000 in
theorem ggX8_total_X8_isValue : GoodIn wsX8_total wsX8_isValue := goodIn_r _ [8] (by decide +kernel) (by decide +kernel)
set_option maxRecDepth 20000 in
theorem gX8_total_X8_isValue : GoodIn wsX8_total (va_wsS RX8 166 yX8_isValue wsX8_isValue) := goodIn_app (goodIn_of _ (by decide +kernel)) ggX8_total_X8_isValue
set_option maxRecDepth 20000 in
theorem ggX8_total_X7_clear : GoodIn wsX8_total wsX7_clear := goodIn_r _ [13, 14, 15, 16, 17, 18, 109, 110, 111, 112] (by decide +kernel) (by decide +kernel)
set_option maxRecDepth 20000 in
theorem gX8_total_X7_clear : GoodIn wsX8_total (wsV RX8 189 RX7 yX7_clear wsX7_clear) := goodIn_app (goodIn_of _ (by decide +kernel)) ggX8_total_X7_clear
set_option maxRecDepth 20000 in
theorem ggX8_total_X8_isInSight : GoodIn wsX8_total wsX8_isInSight := goodIn_r _ [22, 3, 23, 24, 25, 26, 27, 28, 29, 30, 31, 32, 33, 34, 35, 36, 37, 38, 39, 40, 41, 42, 43, 44, 45, 46, 47, 48, 49, 50, 51, 52, 53, 54, 55, 56, 57, 58, 59, 60, 61, 62, 63, 64, 65, 96, 97, 98, 99, 100, 101, 102, 103, 104, 105, 106, 107, 108, 113, 114, 115, 116, 117, 118, 119, 120] (by decide +kernel) (by decide +kernel)
set_option maxRecDepth 20000 in
theorem gX8_total_X8_isInSight : GoodIn wsX8_total (wsV RX8 192 RX8 yX8_isInSight wsX8_isInSight) := goodIn_app (goodIn_of _ (by decide +kernel)) ggX8_total_X8_isInSight
set_option maxRecDepth 20000 in
theorem ggX8_total_X2_measureOf : GoodIn wsX8_total wsX2_measureOf := goodIn_r _ [69, 70, 30, 31, 32, 27, 33, 34, 104, 105, 106, 107, 108] (by decide +kernel) (by decide +kernel)
set_option maxRecDepth 20000 in
theorem gX8_total_X2_measureOf : GoodIn wsX8_total (wsV RX8 195 RX2 yX2_measureOf wsX2_measureOf) := goodIn_app (goodIn_of _ (by decide +kernel)) ggX8_total_X2_measureOf
set_option maxRecDepth 20000 in
theorem ggX8_total_X7_add : GoodIn wsX8_total wsX7_add := goodIn_r _ [74, 14, 75, 76, 77, 78, 79, 80, 81, 82, 83, 84, 85, 86, 12, 87, 109, 110, 111, 112] (by decide +kernel) (by decide +kernel)
set_option maxRecDepth 20000 in
theorem gX8_total_X7_add : GoodIn wsX8_total (wsV RX8 198 RX7 yX7_add wsX7_add) := goodIn_app (goodIn_of _ (by decide +kernel)) ggX8_total_X7_add
set_option maxRecDepth 20000 in
theorem ggX8_total_X7_isEmpty : GoodIn wsX8_total wsX7_isEmpty := goodIn_r _ [91, 14, 85, 86, 12, 87, 109, 110, 111, 112] (by decide +kernel) (by decide +kernel)
set_option maxRecDepth 20000 in
theorem gX8_total_X7_isEmpty : GoodIn wsX8_total (wsV RX8 173 RX7 yX7_isEmpty wsX7_isEmpty) := goodIn_app (goodIn_of _ (by decide +kernel)) ggX8_total_X7_isEmpty
set_option maxRecDepth 20000 in
theorem ggX8_total_X7_valueOf : GoodIn wsX8_total wsX7_valueOf := goodIn_r _ [95, 14, 75, 76, 81, 85, 86, 12, 87, 109, 110, 111, 112] (by decide +kernel) (by decide +kernel)
set_option maxRecDepth 20000 in
theorem gX8_total_X7_valueOf : GoodIn wsX8_total (wsV RX8 177 RX7 yX7_valueOf wsX7_valueOf) := goodIn_app (goodIn_of _ (by decide +kernel)) ggX8_total_X7_valueOf
theorem dX8_total_0 : decode cX8_total 0 = .ok (.iload_n 1, 1) := by decide +kernel
theorem dX8_total_1 : decode cX8_total 1 = .ok (.invokestatic 166, 3) := by decide +kernel
theorem dX8_total_4 : decode cX8_total 4 = .ok (.ifCond .ne 6, 3) := by decide +kernel
theorem dX8_total_7 : decode cX8_total 7 = .ok (.ldc 63, 2) := by decide +kernel
theorem dX8_total_9 : decode cX8_total 9 = .ok (.ireturn, 1) := by decide +kernel
theorem dX8_total_10 : decode cX8_total 10 = .ok (.aload_n 0, 1) := by decide +kernel
theorem dX8_total_11 : decode cX8_total 11 = .ok (.getfield 44, 3) := by decide +kernel
theorem dX8_total_14 : decode cX8_total 14 = .ok (.invokevirtual 189, 3) := by decide +kernel
theorem dX8_total_17 : decode cX8_total 17 = .ok (.iconst 0, 1) := by decide +kernel
theorem dX8_total_18 : decode cX8_total 18 = .ok (.istore_n 2, 1) := by decide +kernel
theorem dX8_total_19 : decode cX8_total 19 = .ok (.iload_n 2, 1) := by decide +kernel
theorem dX8_total_20 : decode cX8_total 20 = .ok (.aload_n 0, 1) := by decide +kernel
theorem dX8_total_21 : decode cX8_total 21 = .ok (.getfield 19, 3) := by decide +kernel
theorem dX8_total_24 : decode cX8_total 24 = .ok (.getfield 64, 3) := by decide +kernel
theorem dX8_total_27 : decode cX8_total 27 = .ok (.if_icmp .ge 33, 3) := by decide +kernel
theorem dX8_total_30 : decode cX8_total 30 = .ok (.aload_n 0, 1) := by decide +kernel
theorem dX8_total_31 : decode cX8_total 31 = .ok (.iload_n 2, 1) := by decide +kernel
theorem dX8_total_32 : decode cX8_total 32 = .ok (.invokevirtual 192, 3) := by decide +kernel
theorem dX8_total_35 : decode cX8_total 35 = .ok (.ifCond .eq 19, 3) := by decide +kernel
theorem dX8_total_38 : decode cX8_total 38 = .ok (.aload_n 0, 1) := by decide +kernel
theorem dX8_total_39 : decode cX8_total 39 = .ok (.getfield 44, 3) := by decide +kernel
theorem dX8_total_42 : decode cX8_total 42 = .ok (.iconst 0, 1) := by decide +kernel
theorem dX8_total_43 : decode cX8_total 43 = .ok (.aload_n 0, 1) := by decide +kernel
theorem dX8_total_44 : decode cX8_total 44 = .ok (.getfield 19, 3) := by decide +kernel
theorem dX8_total_47 : decode cX8_total 47 = .ok (.iload_n 2, 1) := by decide +kernel
theorem dX8_total_48 : decode cX8_total 48 = .ok (.invokevirtual 195, 3) := by decide +kernel
theorem dX8_total_51 : decode cX8_total 51 = .ok (.invokevirtual 198, 3) := by decide +kernel
theorem dX8_total_54 : decode cX8_total 54 = .ok (.iinc 2 1, 3) := by decide +kernel
theorem dX8_total_57 : decode cX8_total 57 = .ok (.goto (-38), 3) := by decide +kernel
theorem dX8_total_60 : decode cX8_total 60 = .ok (.aload_n 0, 1) := by decide +kernel
theorem dX8_total_61 : decode cX8_total 61 = .ok (.getfield 44, 3) := by decide +kernel
theorem dX8_total_64 : decode cX8_total 64 = .ok (.iconst 0, 1) := by decide +kernel
theorem dX8_total_65 : decode cX8_total 65 = .ok (.invokevirtual 173, 3) := by decide +kernel
theorem dX8_total_68 : decode cX8_total 68 = .ok (.ifCond .eq 15, 3) := by decide +kernel
theorem dX8_total_71 : decode cX8_total 71 = .ok (.iload_n 1, 1) := by decide +kernel
theorem dX8_total_72 : decode cX8_total 72 = .ok (.iconst 1, 1) := by decide +kernel
theorem dX8_total_73 : decode cX8_total 73 = .ok (.if_icmp .gt 7, 3) := by decide +kernel
theorem dX8_total_76 : decode cX8_total 76 = .ok (.iconst 0, 1) := by decide +kernel
theorem dX8_total_77 : decode cX8_total 77 = .ok (.goto 5, 3) := by decide +kernel
theorem dX8_total_80 : decode cX8_total 80 = .ok (.ldc 176, 2) := by decide +kernel
theorem dX8_total_82 : decode cX8_total 82 = .ok (.ireturn, 1) := by decide +kernel
theorem dX8_total_83 : decode cX8_total 83 = .ok (.aload_n 0, 1) := by decide +kernel
theorem dX8_total_84 : decode cX8_total 84 = .ok (.getfield 44, 3) := by decide +kernel
theorem dX8_total_87 : decode cX8_total 87 = .ok (.iconst 0, 1) := by decide +kernel
theorem dX8_total_88 : decode cX8_total 88 = .ok (.iload_n 1, 1) := by decide +kernel
theorem dX8_total_89 : decode cX8_total 89 = .ok (.invokevirtual 177, 3) := by decide +kernel
theorem dX8_total_92 : decode cX8_total 92 = .ok (.ireturn, 1) := by decide +kernel
set_option maxRecDepth 20000 in
theorem ggX8_table_X8_sideOf : GoodIn wsX8_table wsX8_sideOf := goodIn_r _ [7, 8, 9, 10, 11, 12, 13, 14, 15, 16, 17, 18, 19, 20, 21, 165, 166, 167, 168, 169, 170, 171, 172, 175, 176, 177, 178, 179, 180, 181, 182] (by decide +kernel) (by decide +kernel)
set_option maxRecDepth 20000 in
theorem gX8_table_X8_sideOf : GoodIn wsX8_table (wsV RX8 201 RX8 yX8_sideOf wsX8_sideOf) := goodIn_app (goodIn_of _ (by decide +kernel)) ggX8_table_X8_sideOf
set_option maxRecDepth 20000 in
theorem ggX8_table_X8_isValue : GoodIn wsX8_table wsX8_isValue := goodIn_r _ [24] (by decide +kernel) (by decide +kernel)
set_option maxRecDepth 20000 in
theorem gX8_table_X8_isValue : GoodIn wsX8_table (va_wsS RX8 166 yX8_isValue wsX8_isValue) := goodIn_app (goodIn_of _ (by decide +kernel)) ggX8_table_X8_isValue
set_option maxRecDepth 20000 in
theorem ggX8_table_X8_tallyTable : GoodIn wsX8_table wsX8_tallyTable := goodIn_r _ [28, 29, 30, 31, 32, 33, 34, 35, 36, 37, 38, 39, 40, 41, 42, 43, 6, 44, 8, 45, 46, 47, 48, 49, 50, 51, 52, 53, 54, 55, 56, 57, 58, 59, 60, 61, 62, 63, 12, 64, 14, 15, 65, 66, 67, 68, 69, 70, 71, 19, 72, 73, 74, 75, 76, 77, 78, 79, 80, 81, 82, 83, 84, 85, 86, 87, 88, 89, 90, 91, 10, 11, 13, 92, 93, 94, 95, 96, 97, 98, 99, 100, 101, 102, 103, 104, 105, 106, 107, 108, 109, 110, 111, 112, 113, 114, 115, 116, 117, 118, 119, 120, 121, 165, 166, 167, 168, 169, 170, 171, 172, 183, 184, 185, 186, 187, 188, 189, 190, 191, 175, 176, 177, 178, 179, 180, 181, 182] (by decide +kernel) (by decide +kernel)
set_option maxRecDepth 20000 in
theorem gX8_table_X8_tallyTable : GoodIn wsX8_table (wsV RX8 204 RX8 yX8_tallyTable wsX8_tallyTable) := goodIn_app (goodIn_of _ (by decide +kernel)) ggX8_table_X8_tallyTable
set_option maxRecDepth 20000 in
theorem ggX8_table_X1_widthOf : GoodIn wsX8_table wsX1_widthOf := goodIn_r _ [125, 126, 127, 17, 18, 19, 20, 21, 177, 178, 179, 180, 181, 182] (by decide +kernel) (by decide +kernel)
set_option maxRecDepth 20000 in
theorem gX8_table_X1_widthOf : GoodIn wsX8_table (wsV RX8 88 RX1 yX1_widthOf wsX1_widthOf) := goodIn_app (goodIn_of _ (by decide +kernel)) ggX8_table_X1_widthOf
set_option maxRecDepth 20000 in
theorem ggX8_table_X8_writeTable : GoodIn wsX8_table wsX8_writeTable := goodIn_r _ [131, 2, 132, 133, 134, 135, 136, 137, 138, 103, 34, 104, 139, 140, 141, 6, 142, 29, 143, 144, 145, 146, 36, 119, 120, 121, 147, 148, 149, 150, 151, 152, 153, 154, 155, 109, 110, 115, 156, 157, 158, 159, 160, 161, 113, 162, 163, 164, 165, 166, 167, 168, 169, 170, 171, 172, 173, 174, 188, 189, 190, 191] (by decide +kernel) (by decide +kernel)
set_option maxRecDepth 20000 in
theorem gX8_table_X8_writeTable : GoodIn wsX8_table (wsV RX8 207 RX8 yX8_writeTable wsX8_writeTable) := goodIn_app (goodIn_of _ (by decide +kernel)) ggX8_table_X8_writeTable
theorem dX8_table_0 : decode cX8_table 0 = .ok (.aload_n 0, 1) := by decide +kernel
theorem dX8_table_1 : decode cX8_table 1 = .ok (.iload_n 1, 1) := by decide +kernel
theorem dX8_table_2 : decode cX8_table 2 = .ok (.invokevirtual 201, 3) := by decide +kernel
theorem dX8_table_5 : decode cX8_table 5 = .ok (.astore 4, 2) := by decide +kernel
theorem dX8_table_7 : decode cX8_table 7 = .ok (.aload_n 0, 1) := by decide +kernel
theorem dX8_table_8 : decode cX8_table 8 = .ok (.iload_n 2, 1) := by decide +kernel
theorem dX8_table_9 : decode cX8_table 9 = .ok (.invokevirtual 201, 3) := by decide +kernel
theorem dX8_table_12 : decode cX8_table 12 = .ok (.astore 5, 2) := by decide +kernel
theorem dX8_table_14 : decode cX8_table 14 = .ok (.aload 4, 2) := by decide +kernel
theorem dX8_table_16 : decode cX8_table 16 = .ok (.ifnull 15, 3) := by decide +kernel
theorem dX8_table_19 : decode cX8_table 19 = .ok (.aload 5, 2) := by decide +kernel
theorem dX8_table_21 : decode cX8_table 21 = .ok (.ifnull 10, 3) := by decide +kernel
theorem dX8_table_24 : decode cX8_table 24 = .ok (.iload_n 3, 1) := by decide +kernel
theorem dX8_table_25 : decode cX8_table 25 = .ok (.invokestatic 166, 3) := by decide +kernel
theorem dX8_table_28 : decode cX8_table 28 = .ok (.ifCond .ne 6, 3) := by decide +kernel
theorem dX8_table_31 : decode cX8_table 31 = .ok (.ldc 63, 2) := by decide +kernel
theorem dX8_table_33 : decode cX8_table 33 = .ok (.ireturn, 1) := by decide +kernel
theorem dX8_table_34 : decode cX8_table 34 = .ok (.aload_n 0, 1) := by decide +kernel
theorem dX8_table_35 : decode cX8_table 35 = .ok (.iload_n 1, 1) := by decide +kernel
theorem dX8_table_36 : decode cX8_table 36 = .ok (.iload_n 2, 1) := by decide +kernel
theorem dX8_table_37 : decode cX8_table 37 = .ok (.invokevirtual 204, 3) := by decide +kernel
theorem dX8_table_40 : decode cX8_table 40 = .ok (.aload_n 0, 1) := by decide +kernel
theorem dX8_table_41 : decode cX8_table 41 = .ok (.aload 4, 2) := by decide +kernel
theorem dX8_table_43 : decode cX8_table 43 = .ok (.iload_n 1, 1) := by decide +kernel
theorem dX8_table_44 : decode cX8_table 44 = .ok (.bipush 10, 2) := by decide +kernel
theorem dX8_table_46 : decode cX8_table 46 = .ok (.irem, 1) := by decide +kernel
theorem dX8_table_47 : decode cX8_table 47 = .ok (.invokevirtual 88, 3) := by decide +kernel
theorem dX8_table_50 : decode cX8_table 50 = .ok (.aload 5, 2) := by decide +kernel
theorem dX8_table_52 : decode cX8_table 52 = .ok (.iload_n 2, 1) := by decide +kernel
theorem dX8_table_53 : decode cX8_table 53 = .ok (.bipush 10, 2) := by decide +kernel
theorem dX8_table_55 : decode cX8_table 55 = .ok (.irem, 1) := by decide +kernel
theorem dX8_table_56 : decode cX8_table 56 = .ok (.invokevirtual 88, 3) := by decide +kernel
theorem dX8_table_59 : decode cX8_table 59 = .ok (.iload_n 3, 1) := by decide +kernel
theorem dX8_table_60 : decode cX8_table 60 = .ok (.invokevirtual 207, 3) := by decide +kernel
theorem dX8_table_63 : decode cX8_table 63 = .ok (.aload_n 0, 1) := by decide +kernel
theorem dX8_table_64 : decode cX8_table 64 = .ok (.getfield 51, 3) := by decide +kernel
theorem dX8_table_67 : decode cX8_table 67 = .ok (.getfield 211, 3) := by decide +kernel
theorem dX8_table_70 : decode cX8_table 70 = .ok (.ireturn, 1) := by decide +kernel
set_option maxRecDepth 20000 in
theorem ggX8_out_X5_byteAt : GoodIn wsX8_out wsX5_byteAt := goodIn_r _ [7, 8, 9, 18, 19] (by decide +kernel) (by decide +kernel)
set_option maxRecDepth 20000 in
theorem gX8_out_X5_byteAt : GoodIn wsX8_out (wsV RX8 214 RX5 yX5_byteAt wsX5_byteAt) := goodIn_app (goodIn_of _ (by decide +kernel)) ggX8_out_X5_byteAt
theorem dX8_out_0 : decode cX8_out 0 = .ok (.iload_n 1, 1) := by decide +kernel
theorem dX8_out_1 : decode cX8_out 1 = .ok (.ifCond .lt 14, 3) := by decide +kernel
theorem dX8_out_4 : decode cX8_out 4 = .ok (.iload_n 1, 1) := by decide +kernel
theorem dX8_out_5 : decode cX8_out 5 = .ok (.aload_n 0, 1) := by decide +kernel
theorem dX8_out_6 : decode cX8_out 6 = .ok (.getfield 51, 3) := by decide +kernel
theorem dX8_out_9 : decode cX8_out 9 = .ok (.getfield 211, 3) := by decide +kernel
theorem dX8_out_12 : decode cX8_out 12 = .ok (.if_icmp .lt 8, 3) := by decide +kernel
theorem dX8_out_15 : decode cX8_out 15 = .ok (.ldc 176, 2) := by decide +kernel
theorem dX8_out_17 : decode cX8_out 17 = .ok (.goto 11, 3) := by decide +kernel
theorem dX8_out_20 : decode cX8_out 20 = .ok (.aload_n 0, 1) := by decide +kernel
theorem dX8_out_21 : decode cX8_out 21 = .ok (.getfield 51, 3) := by decide +kernel
theorem dX8_out_24 : decode cX8_out 24 = .ok (.iload_n 1, 1) := by decide +kernel
theorem dX8_out_25 : decode cX8_out 25 = .ok (.invokevirtual 214, 3) := by decide +kernel
theorem dX8_out_28 : decode cX8_out 28 = .ok (.ireturn, 1) := by decide +kernel
set_option maxRecDepth 20000 in
theorem ggX8_count_X4_keptCount : GoodIn wsX8_count wsX4_keptCount := goodIn_r _ [10, 11, 12, 103, 104, 105, 106, 107, 108, 109, 110] (by decide +kernel) (by decide +kernel)
set_option maxRecDepth 20000 in
theorem gX8_count_X4_keptCount : GoodIn wsX8_count (wsV RX8 220 RX4 yX4_keptCount wsX4_keptCount) := goodIn_app (goodIn_of _ (by decide +kernel)) ggX8_count_X4_keptCount
set_option maxRecDepth 20000 in
theorem ggX8_count_X4_keptGroups : GoodIn wsX8_count wsX4_keptGroups := goodIn_r _ [16, 11, 12, 17, 18, 19, 9, 20, 21, 22, 23, 24, 25, 26, 27, 28, 29, 30, 31, 32, 33, 34, 35, 36, 37, 38, 39, 40, 41, 42, 43, 44, 45, 46, 47, 48, 49, 50, 51, 52, 53, 54, 55, 56, 57, 58, 59, 60, 61, 62, 63, 64, 65, 66, 67, 68, 69, 70, 71, 72, 73, 74, 75, 76, 77, 78, 79, 80, 81, 82, 83, 84, 85, 103, 104, 105, 106, 107, 108, 109, 110, 111, 112, 96, 97, 98, 99, 100, 94, 95, 113, 114, 115, 116, 117, 118] (by decide +kernel) (by decide +kernel)
set_option maxRecDepth 20000 in
theorem gX8_count_X4_keptGroups : GoodIn wsX8_count (wsV RX8 224 RX4 yX4_keptGroups wsX4_keptGroups) := goodIn_app (goodIn_of _ (by decide +kernel)) ggX8_count_X4_keptGroups
theorem dX8_count_0 : decode cX8_count 0 = .ok (.iload_n 1, 1) := by decide +kernel
theorem dX8_count_1 : decode cX8_count 1 = .ok (.tableswitch 87 0 5 #[39, 47, 55, 63, 71, 79], 39) := by decide +kernel
theorem dX8_count_40 : decode cX8_count 40 = .ok (.aload_n 0, 1) := by decide +kernel
theorem dX8_count_41 : decode cX8_count 41 = .ok (.getfield 12, 3) := by decide +kernel
theorem dX8_count_44 : decode cX8_count 44 = .ok (.getfield 68, 3) := by decide +kernel
theorem dX8_count_47 : decode cX8_count 47 = .ok (.ireturn, 1) := by decide +kernel
theorem dX8_count_48 : decode cX8_count 48 = .ok (.aload_n 0, 1) := by decide +kernel
theorem dX8_count_49 : decode cX8_count 49 = .ok (.getfield 19, 3) := by decide +kernel
theorem dX8_count_52 : decode cX8_count 52 = .ok (.getfield 64, 3) := by decide +kernel
theorem dX8_count_55 : decode cX8_count 55 = .ok (.ireturn, 1) := by decide +kernel
theorem dX8_count_56 : decode cX8_count 56 = .ok (.aload_n 0, 1) := by decide +kernel
theorem dX8_count_57 : decode cX8_count 57 = .ok (.getfield 19, 3) := by decide +kernel
theorem dX8_count_60 : decode cX8_count 60 = .ok (.getfield 217, 3) := by decide +kernel
theorem dX8_count_63 : decode cX8_count 63 = .ok (.ireturn, 1) := by decide +kernel
theorem dX8_count_64 : decode cX8_count 64 = .ok (.aload_n 0, 1) := by decide +kernel
theorem dX8_count_65 : decode cX8_count 65 = .ok (.getfield 28, 3) := by decide +kernel
theorem dX8_count_68 : decode cX8_count 68 = .ok (.invokevirtual 220, 3) := by decide +kernel
theorem dX8_count_71 : decode cX8_count 71 = .ok (.ireturn, 1) := by decide +kernel
theorem dX8_count_72 : decode cX8_count 72 = .ok (.aload_n 0, 1) := by decide +kernel
theorem dX8_count_73 : decode cX8_count 73 = .ok (.getfield 51, 3) := by decide +kernel
theorem dX8_count_76 : decode cX8_count 76 = .ok (.getfield 211, 3) := by decide +kernel
theorem dX8_count_79 : decode cX8_count 79 = .ok (.ireturn, 1) := by decide +kernel
theorem dX8_count_80 : decode cX8_count 80 = .ok (.aload_n 0, 1) := by decide +kernel
theorem dX8_count_81 : decode cX8_count 81 = .ok (.getfield 28, 3) := by decide +kernel
theorem dX8_count_84 : decode cX8_count 84 = .ok (.invokevirtual 224, 3) := by decide +kernel
theorem dX8_count_87 : decode cX8_count 87 = .ok (.ireturn, 1) := by decide +kernel
theorem dX8_count_88 : decode cX8_count 88 = .ok (.ldc 63, 2) := by decide +kernel
theorem dX8_count_90 : decode cX8_count 90 = .ok (.ireturn, 1) := by decide +kernel
theorem dX8_isValue_0 : decode cX8_isValue 0 = .ok (.iload_n 0, 1) := by decide +kernel
theorem dX8_isValue_1 : decode cX8_isValue 1 = .ok (.ifCond .lt 12, 3) := by decide +kernel
theorem dX8_isValue_4 : decode cX8_isValue 4 = .ok (.iload_n 0, 1) := by decide +kernel
theorem dX8_isValue_5 : decode cX8_isValue 5 = .ok (.iconst 3, 1) := by decide +kernel
theorem dX8_isValue_6 : decode cX8_isValue 6 = .ok (.if_icmp .gt 7, 3) := by decide +kernel
theorem dX8_isValue_9 : decode cX8_isValue 9 = .ok (.iconst 1, 1) := by decide +kernel
theorem dX8_isValue_10 : decode cX8_isValue 10 = .ok (.goto 4, 3) := by decide +kernel
theorem dX8_isValue_13 : decode cX8_isValue 13 = .ok (.iconst 0, 1) := by decide +kernel
theorem dX8_isValue_14 : decode cX8_isValue 14 = .ok (.ireturn, 1) := by decide +kernel
set_option maxRecDepth 20000 in
theorem ggX8_sideOf_X6_find : GoodIn wsX8_sideOf wsX6_find := goodIn_r _ [6, 7, 8, 23, 24] (by decide +kernel) (by decide +kernel)
set_option maxRecDepth 20000 in
theorem gX8_sideOf_X6_find : GoodIn wsX8_sideOf (wsV RX8 79 RX6 yX6_find wsX6_find) := goodIn_app (goodIn_of _ (by decide +kernel)) ggX8_sideOf_X6_find
set_option maxRecDepth 20000 in
theorem ggX8_sideOf_X1_hasLevel : GoodIn wsX8_sideOf wsX1_hasLevel := goodIn_r _ [13, 14, 25, 26, 27, 28, 29, 30] (by decide +kernel) (by decide +kernel)
set_option maxRecDepth 20000 in
theorem gX8_sideOf_X1_hasLevel : GoodIn wsX8_sideOf (wsV RX8 105 RX1 yX1_hasLevel wsX1_hasLevel) := goodIn_app (goodIn_of _ (by decide +kernel)) ggX8_sideOf_X1_hasLevel
theorem dX8_sideOf_0 : decode cX8_sideOf 0 = .ok (.iload_n 1, 1) := by decide +kernel
theorem dX8_sideOf_1 : decode cX8_sideOf 1 = .ok (.ifCond .ge 5, 3) := by decide +kernel
theorem dX8_sideOf_4 : decode cX8_sideOf 4 = .ok (.aconst_null, 1) := by decide +kernel
theorem dX8_sideOf_5 : decode cX8_sideOf 5 = .ok (.areturn, 1) := by decide +kernel
theorem dX8_sideOf_6 : decode cX8_sideOf 6 = .ok (.aload_n 0, 1) := by decide +kernel
theorem dX8_sideOf_7 : decode cX8_sideOf 7 = .ok (.getfield 12, 3) := by decide +kernel
theorem dX8_sideOf_10 : decode cX8_sideOf 10 = .ok (.iload_n 1, 1) := by decide +kernel
theorem dX8_sideOf_11 : decode cX8_sideOf 11 = .ok (.bipush 10, 2) := by decide +kernel
theorem dX8_sideOf_13 : decode cX8_sideOf 13 = .ok (.idiv, 1) := by decide +kernel
theorem dX8_sideOf_14 : decode cX8_sideOf 14 = .ok (.invokevirtual 79, 3) := by decide +kernel
theorem dX8_sideOf_17 : decode cX8_sideOf 17 = .ok (.astore_n 2, 1) := by decide +kernel
theorem dX8_sideOf_18 : decode cX8_sideOf 18 = .ok (.aload_n 2, 1) := by decide +kernel
theorem dX8_sideOf_19 : decode cX8_sideOf 19 = .ok (.ifnull 18, 3) := by decide +kernel
theorem dX8_sideOf_22 : decode cX8_sideOf 22 = .ok (.aload_n 2, 1) := by decide +kernel
theorem dX8_sideOf_23 : decode cX8_sideOf 23 = .ok (.iload_n 1, 1) := by decide +kernel
theorem dX8_sideOf_24 : decode cX8_sideOf 24 = .ok (.bipush 10, 2) := by decide +kernel
theorem dX8_sideOf_26 : decode cX8_sideOf 26 = .ok (.irem, 1) := by decide +kernel
theorem dX8_sideOf_27 : decode cX8_sideOf 27 = .ok (.invokevirtual 105, 3) := by decide +kernel
theorem dX8_sideOf_30 : decode cX8_sideOf 30 = .ok (.ifCond .eq 7, 3) := by decide +kernel
theorem dX8_sideOf_33 : decode cX8_sideOf 33 = .ok (.aload_n 2, 1) := by decide +kernel
theorem dX8_sideOf_34 : decode cX8_sideOf 34 = .ok (.goto 4, 3) := by decide +kernel
theorem dX8_sideOf_37 : decode cX8_sideOf 37 = .ok (.aconst_null, 1) := by decide +kernel
theorem dX8_sideOf_38 : decode cX8_sideOf 38 = .ok (.areturn, 1) := by decide +kernel
set_option maxRecDepth 20000 in
theorem ggX8_isInSight_X2_isThere : GoodIn wsX8_isInSight wsX2_isThere := goodIn_r _ [7, 8, 9, 10, 11, 6, 12, 13, 53, 54, 55, 56, 57] (by decide +kernel) (by decide +kernel)
set_option maxRecDepth 20000 in
theorem gX8_isInSight_X2_isThere : GoodIn wsX8_isInSight (wsV RX8 120 RX2 yX2_isThere wsX2_isThere) := goodIn_app (goodIn_of _ (by decide +kernel)) ggX8_isInSight_X2_isThere
set_option maxRecDepth 20000 in
theorem ggX8_isInSight_X2_cellOf : GoodIn wsX8_isInSight wsX2_cellOf := goodIn_r _ [17, 18, 9, 10, 11, 6, 12, 13, 53, 54, 55, 56, 57] (by decide +kernel) (by decide +kernel)
set_option maxRecDepth 20000 in
theorem gX8_isInSight_X2_cellOf : GoodIn wsX8_isInSight (wsV RX8 227 RX2 yX2_cellOf wsX2_cellOf) := goodIn_app (goodIn_of _ (by decide +kernel)) ggX8_isInSight_X2_cellOf
set_option maxRecDepth 20000 in
theorem ggX8_isInSight_X6_passes : GoodIn wsX8_isInSight wsX6_passes := goodIn_r _ [23, 24, 25, 26, 27, 28, 22, 29, 30, 31, 32, 33, 34, 35, 36, 37, 38, 39, 40, 41, 42, 43, 44, 58, 59, 60, 61, 62, 63, 64, 65] (by decide +kernel) (by decide +kernel)
set_option maxRecDepth 20000 in
theorem gX8_isInSight_X6_passes : GoodIn wsX8_isInSight (wsV RX8 230 RX6 yX6_passes wsX6_passes) := goodIn_app (goodIn_of _ (by decide +kernel)) ggX8_isInSight_X6_passes
theorem dX8_isInSight_0 : decode cX8_isInSight 0 = .ok (.aload_n 0, 1) := by decide +kernel
theorem dX8_isInSight_1 : decode cX8_isInSight 1 = .ok (.getfield 19, 3) := by decide +kernel
theorem dX8_isInSight_4 : decode cX8_isInSight 4 = .ok (.iload_n 1, 1) := by decide +kernel
theorem dX8_isInSight_5 : decode cX8_isInSight 5 = .ok (.invokevirtual 120, 3) := by decide +kernel
theorem dX8_isInSight_8 : decode cX8_isInSight 8 = .ok (.ifCond .eq 25, 3) := by decide +kernel
theorem dX8_isInSight_11 : decode cX8_isInSight 11 = .ok (.aload_n 0, 1) := by decide +kernel
theorem dX8_isInSight_12 : decode cX8_isInSight 12 = .ok (.getfield 12, 3) := by decide +kernel
theorem dX8_isInSight_15 : decode cX8_isInSight 15 = .ok (.aload_n 0, 1) := by decide +kernel
theorem dX8_isInSight_16 : decode cX8_isInSight 16 = .ok (.getfield 19, 3) := by decide +kernel
theorem dX8_isInSight_19 : decode cX8_isInSight 19 = .ok (.iload_n 1, 1) := by decide +kernel
theorem dX8_isInSight_20 : decode cX8_isInSight 20 = .ok (.invokevirtual 227, 3) := by decide +kernel
theorem dX8_isInSight_23 : decode cX8_isInSight 23 = .ok (.invokevirtual 230, 3) := by decide +kernel
theorem dX8_isInSight_26 : decode cX8_isInSight 26 = .ok (.ifCond .eq 7, 3) := by decide +kernel
theorem dX8_isInSight_29 : decode cX8_isInSight 29 = .ok (.iconst 1, 1) := by decide +kernel
theorem dX8_isInSight_30 : decode cX8_isInSight 30 = .ok (.goto 4, 3) := by decide +kernel
theorem dX8_isInSight_33 : decode cX8_isInSight 33 = .ok (.iconst 0, 1) := by decide +kernel
theorem dX8_isInSight_34 : decode cX8_isInSight 34 = .ok (.ireturn, 1) := by decide +kernel
set_option maxRecDepth 20000 in
theorem ggX8_tallyGroup_X7_clear : GoodIn wsX8_tallyGroup wsX7_clear := goodIn_r _ [8, 9, 10, 11, 12, 13, 82, 83, 84, 85] (by decide +kernel) (by decide +kernel)
