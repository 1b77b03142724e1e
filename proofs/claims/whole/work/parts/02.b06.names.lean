theorem dX6_cuboidCount_29 : decode cX6_cuboidCount 29 = .ok (.goto (-25), 3) := by decide +kernel
theorem dX6_cuboidCount_32 : decode cX6_cuboidCount 32 = .ok (.iload_n 1, 1) := by decide +kernel
theorem dX6_cuboidCount_33 : decode cX6_cuboidCount 33 = .ok (.ireturn, 1) := by decide +kernel
set_option maxRecDepth 20000 in
theorem ggX6_levelsAfter_X6_levelIn : GoodIn wsX6_levelsAfter wsX6_levelIn := goodIn_r _ [6] (by decide +kernel) (by decide +kernel)
set_option maxRecDepth 20000 in
theorem gX6_levelsAfter_X6_levelIn : GoodIn wsX6_levelsAfter (va_wsS RX6 29 yX6_levelIn wsX6_levelIn) := goodIn_app (goodIn_of _ (by decide +kernel)) ggX6_levelsAfter_X6_levelIn
theorem dX6_levelsAfter_0 : decode cX6_levelsAfter 0 = .ok (.iload_n 1, 1) := by decide +kernel
theorem dX6_levelsAfter_1 : decode cX6_levelsAfter 1 = .ok (.istore_n 2, 1) := by decide +kernel
theorem dX6_levelsAfter_2 : decode cX6_levelsAfter 2 = .ok (.aload_n 0, 1) := by decide +kernel
theorem dX6_levelsAfter_3 : decode cX6_levelsAfter 3 = .ok (.getfield 18, 3) := by decide +kernel
theorem dX6_levelsAfter_6 : decode cX6_levelsAfter 6 = .ok (.iconst 1, 1) := by decide +kernel
theorem dX6_levelsAfter_7 : decode cX6_levelsAfter 7 = .ok (.isub, 1) := by decide +kernel
theorem dX6_levelsAfter_8 : decode cX6_levelsAfter 8 = .ok (.istore_n 3, 1) := by decide +kernel
theorem dX6_levelsAfter_9 : decode cX6_levelsAfter 9 = .ok (.iload_n 3, 1) := by decide +kernel
theorem dX6_levelsAfter_10 : decode cX6_levelsAfter 10 = .ok (.ifCond .lt 45, 3) := by decide +kernel
theorem dX6_levelsAfter_13 : decode cX6_levelsAfter 13 = .ok (.iload_n 1, 1) := by decide +kernel
theorem dX6_levelsAfter_14 : decode cX6_levelsAfter 14 = .ok (.iload_n 3, 1) := by decide +kernel
theorem dX6_levelsAfter_15 : decode cX6_levelsAfter 15 = .ok (.invokestatic 29, 3) := by decide +kernel
theorem dX6_levelsAfter_18 : decode cX6_levelsAfter 18 = .ok (.aload_n 0, 1) := by decide +kernel
theorem dX6_levelsAfter_19 : decode cX6_levelsAfter 19 = .ok (.getfield 11, 3) := by decide +kernel
theorem dX6_levelsAfter_22 : decode cX6_levelsAfter 22 = .ok (.iload_n 3, 1) := by decide +kernel
theorem dX6_levelsAfter_23 : decode cX6_levelsAfter 23 = .ok (.aaload, 1) := by decide +kernel
theorem dX6_levelsAfter_24 : decode cX6_levelsAfter 24 = .ok (.getfield 26, 3) := by decide +kernel
theorem dX6_levelsAfter_27 : decode cX6_levelsAfter 27 = .ok (.if_icmp .ge 11, 3) := by decide +kernel
theorem dX6_levelsAfter_30 : decode cX6_levelsAfter 30 = .ok (.iload_n 2, 1) := by decide +kernel
theorem dX6_levelsAfter_31 : decode cX6_levelsAfter 31 = .ok (.iconst 1, 1) := by decide +kernel
theorem dX6_levelsAfter_32 : decode cX6_levelsAfter 32 = .ok (.iconst 4, 1) := by decide +kernel
theorem dX6_levelsAfter_33 : decode cX6_levelsAfter 33 = .ok (.iload_n 3, 1) := by decide +kernel
theorem dX6_levelsAfter_34 : decode cX6_levelsAfter 34 = .ok (.imul, 1) := by decide +kernel
theorem dX6_levelsAfter_35 : decode cX6_levelsAfter 35 = .ok (.ishl, 1) := by decide +kernel
theorem dX6_levelsAfter_36 : decode cX6_levelsAfter 36 = .ok (.iadd, 1) := by decide +kernel
theorem dX6_levelsAfter_37 : decode cX6_levelsAfter 37 = .ok (.ireturn, 1) := by decide +kernel
theorem dX6_levelsAfter_38 : decode cX6_levelsAfter 38 = .ok (.iload_n 2, 1) := by decide +kernel
theorem dX6_levelsAfter_39 : decode cX6_levelsAfter 39 = .ok (.bipush 15, 2) := by decide +kernel
theorem dX6_levelsAfter_41 : decode cX6_levelsAfter 41 = .ok (.iconst 4, 1) := by decide +kernel
theorem dX6_levelsAfter_42 : decode cX6_levelsAfter 42 = .ok (.iload_n 3, 1) := by decide +kernel
theorem dX6_levelsAfter_43 : decode cX6_levelsAfter 43 = .ok (.imul, 1) := by decide +kernel
theorem dX6_levelsAfter_44 : decode cX6_levelsAfter 44 = .ok (.ishl, 1) := by decide +kernel
theorem dX6_levelsAfter_45 : decode cX6_levelsAfter 45 = .ok (.iconst (-1), 1) := by decide +kernel
theorem dX6_levelsAfter_46 : decode cX6_levelsAfter 46 = .ok (.ixor, 1) := by decide +kernel
theorem dX6_levelsAfter_47 : decode cX6_levelsAfter 47 = .ok (.iand, 1) := by decide +kernel
theorem dX6_levelsAfter_48 : decode cX6_levelsAfter 48 = .ok (.istore_n 2, 1) := by decide +kernel
theorem dX6_levelsAfter_49 : decode cX6_levelsAfter 49 = .ok (.iinc 3 (-1), 3) := by decide +kernel
theorem dX6_levelsAfter_52 : decode cX6_levelsAfter 52 = .ok (.goto (-43), 3) := by decide +kernel
theorem dX6_levelsAfter_55 : decode cX6_levelsAfter 55 = .ok (.iload_n 2, 1) := by decide +kernel
theorem dX6_levelsAfter_56 : decode cX6_levelsAfter 56 = .ok (.ireturn, 1) := by decide +kernel
theorem dX6_levelIn_0 : decode cX6_levelIn 0 = .ok (.iload_n 0, 1) := by decide +kernel
theorem dX6_levelIn_1 : decode cX6_levelIn 1 = .ok (.iconst 4, 1) := by decide +kernel
theorem dX6_levelIn_2 : decode cX6_levelIn 2 = .ok (.iload_n 1, 1) := by decide +kernel
theorem dX6_levelIn_3 : decode cX6_levelIn 3 = .ok (.imul, 1) := by decide +kernel
theorem dX6_levelIn_4 : decode cX6_levelIn 4 = .ok (.ishr, 1) := by decide +kernel
theorem dX6_levelIn_5 : decode cX6_levelIn 5 = .ok (.bipush 15, 2) := by decide +kernel
theorem dX6_levelIn_7 : decode cX6_levelIn 7 = .ok (.iand, 1) := by decide +kernel
theorem dX6_levelIn_8 : decode cX6_levelIn 8 = .ok (.ireturn, 1) := by decide +kernel
theorem dX6_isNowhereAbove_0 : decode cX6_isNowhereAbove 0 = .ok (.iload_n 1, 1) := by decide +kernel
theorem dX6_isNowhereAbove_1 : decode cX6_isNowhereAbove 1 = .ok (.ldc 33, 2) := by decide +kernel
theorem dX6_isNowhereAbove_3 : decode cX6_isNowhereAbove 3 = .ok (.ior, 1) := by decide +kernel
theorem dX6_isNowhereAbove_4 : decode cX6_isNowhereAbove 4 = .ok (.iload_n 0, 1) := by decide +kernel
theorem dX6_isNowhereAbove_5 : decode cX6_isNowhereAbove 5 = .ok (.isub, 1) := by decide +kernel
theorem dX6_isNowhereAbove_6 : decode cX6_isNowhereAbove 6 = .ok (.ldc 33, 2) := by decide +kernel
theorem dX6_isNowhereAbove_8 : decode cX6_isNowhereAbove 8 = .ok (.iand, 1) := by decide +kernel
theorem dX6_isNowhereAbove_9 : decode cX6_isNowhereAbove 9 = .ok (.ldc 33, 2) := by decide +kernel
theorem dX6_isNowhereAbove_11 : decode cX6_isNowhereAbove 11 = .ok (.if_icmp .ne 7, 3) := by decide +kernel
theorem dX6_isNowhereAbove_14 : decode cX6_isNowhereAbove 14 = .ok (.iconst 1, 1) := by decide +kernel
theorem dX6_isNowhereAbove_15 : decode cX6_isNowhereAbove 15 = .ok (.goto 4, 3) := by decide +kernel
theorem dX6_isNowhereAbove_18 : decode cX6_isNowhereAbove 18 = .ok (.iconst 0, 1) := by decide +kernel
theorem dX6_isNowhereAbove_19 : decode cX6_isNowhereAbove 19 = .ok (.ireturn, 1) := by decide +kernel
theorem dX6_memberIn_0 : decode cX6_memberIn 0 = .ok (.iload_n 1, 1) := by decide +kernel
theorem dX6_memberIn_1 : decode cX6_memberIn 1 = .ok (.iconst 3, 1) := by decide +kernel
theorem dX6_memberIn_2 : decode cX6_memberIn 2 = .ok (.aload_n 0, 1) := by decide +kernel
theorem dX6_memberIn_3 : decode cX6_memberIn 3 = .ok (.getfield 18, 3) := by decide +kernel
theorem dX6_memberIn_6 : decode cX6_memberIn 6 = .ok (.iconst 1, 1) := by decide +kernel
theorem dX6_memberIn_7 : decode cX6_memberIn 7 = .ok (.isub, 1) := by decide +kernel
theorem dX6_memberIn_8 : decode cX6_memberIn 8 = .ok (.iload_n 2, 1) := by decide +kernel
theorem dX6_memberIn_9 : decode cX6_memberIn 9 = .ok (.isub, 1) := by decide +kernel
theorem dX6_memberIn_10 : decode cX6_memberIn 10 = .ok (.imul, 1) := by decide +kernel
theorem dX6_memberIn_11 : decode cX6_memberIn 11 = .ok (.ishr, 1) := by decide +kernel
theorem dX6_memberIn_12 : decode cX6_memberIn 12 = .ok (.bipush 7, 2) := by decide +kernel
theorem dX6_memberIn_14 : decode cX6_memberIn 14 = .ok (.iand, 1) := by decide +kernel
theorem dX6_memberIn_15 : decode cX6_memberIn 15 = .ok (.ireturn, 1) := by decide +kernel
set_option maxRecDepth 20000 in
theorem ggX6_homeIn_X6_find : GoodIn wsX6_homeIn wsX6_find := goodIn_r _ [5, 6, 7, 21, 22] (by decide +kernel) (by decide +kernel)
set_option maxRecDepth 20000 in
theorem gX6_homeIn_X6_find : GoodIn wsX6_homeIn (wsV RX6 34 RX6 yX6_find wsX6_find) := goodIn_app (goodIn_of _ (by decide +kernel)) ggX6_homeIn_X6_find
set_option maxRecDepth 20000 in
theorem ggX6_homeIn_X6_memberIn : GoodIn wsX6_homeIn wsX6_memberIn := goodIn_r _ [11, 6, 21, 22] (by decide +kernel) (by decide +kernel)
set_option maxRecDepth 20000 in
theorem gX6_homeIn_X6_memberIn : GoodIn wsX6_homeIn (wsV RX6 38 RX6 yX6_memberIn wsX6_memberIn) := goodIn_app (goodIn_of _ (by decide +kernel)) ggX6_homeIn_X6_memberIn
set_option maxRecDepth 20000 in
theorem ggX6_homeIn_X1_homeOf : GoodIn wsX6_homeIn wsX1_homeOf := goodIn_r _ [16, 17, 18, 19, 15, 20, 23, 24, 25, 26, 27, 28] (by decide +kernel) (by decide +kernel)
set_option maxRecDepth 20000 in
theorem gX6_homeIn_X1_homeOf : GoodIn wsX6_homeIn (wsV RX6 41 RX1 yX1_homeOf wsX1_homeOf) := goodIn_app (goodIn_of _ (by decide +kernel)) ggX6_homeIn_X1_homeOf
theorem dX6_homeIn_0 : decode cX6_homeIn 0 = .ok (.aload_n 0, 1) := by decide +kernel
theorem dX6_homeIn_1 : decode cX6_homeIn 1 = .ok (.iload_n 2, 1) := by decide +kernel
theorem dX6_homeIn_2 : decode cX6_homeIn 2 = .ok (.invokevirtual 34, 3) := by decide +kernel
theorem dX6_homeIn_5 : decode cX6_homeIn 5 = .ok (.astore 4, 2) := by decide +kernel
theorem dX6_homeIn_7 : decode cX6_homeIn 7 = .ok (.aload 4, 2) := by decide +kernel
theorem dX6_homeIn_9 : decode cX6_homeIn 9 = .ok (.ifnonnull 7, 3) := by decide +kernel
theorem dX6_homeIn_12 : decode cX6_homeIn 12 = .ok (.iconst 0, 1) := by decide +kernel
theorem dX6_homeIn_13 : decode cX6_homeIn 13 = .ok (.goto 15, 3) := by decide +kernel
theorem dX6_homeIn_16 : decode cX6_homeIn 16 = .ok (.aload 4, 2) := by decide +kernel
theorem dX6_homeIn_18 : decode cX6_homeIn 18 = .ok (.aload_n 0, 1) := by decide +kernel
theorem dX6_homeIn_19 : decode cX6_homeIn 19 = .ok (.iload_n 1, 1) := by decide +kernel
theorem dX6_homeIn_20 : decode cX6_homeIn 20 = .ok (.iload_n 2, 1) := by decide +kernel
theorem dX6_homeIn_21 : decode cX6_homeIn 21 = .ok (.invokevirtual 38, 3) := by decide +kernel
theorem dX6_homeIn_24 : decode cX6_homeIn 24 = .ok (.iload_n 3, 1) := by decide +kernel
theorem dX6_homeIn_25 : decode cX6_homeIn 25 = .ok (.invokevirtual 41, 3) := by decide +kernel
theorem dX6_homeIn_28 : decode cX6_homeIn 28 = .ok (.ireturn, 1) := by decide +kernel
set_option maxRecDepth 20000 in
theorem ggX6_groupOf_X6_levelIn : GoodIn wsX6_groupOf wsX6_levelIn := goodIn_r _ [6] (by decide +kernel) (by decide +kernel)
set_option maxRecDepth 20000 in
theorem gX6_groupOf_X6_levelIn : GoodIn wsX6_groupOf (va_wsS RX6 29 yX6_levelIn wsX6_levelIn) := goodIn_app (goodIn_of _ (by decide +kernel)) ggX6_groupOf_X6_levelIn
set_option maxRecDepth 20000 in
theorem ggX6_groupOf_X6_memberIn : GoodIn wsX6_groupOf wsX6_memberIn := goodIn_r _ [10, 1, 14, 15] (by decide +kernel) (by decide +kernel)
set_option maxRecDepth 20000 in
theorem gX6_groupOf_X6_memberIn : GoodIn wsX6_groupOf (wsV RX6 38 RX6 yX6_memberIn wsX6_memberIn) := goodIn_app (goodIn_of _ (by decide +kernel)) ggX6_groupOf_X6_memberIn
set_option maxRecDepth 20000 in
theorem ggX6_groupOf_X1_placeOf : GoodIn wsX6_groupOf wsX1_placeOf := goodIn_r _ [13] (by decide +kernel) (by decide +kernel)
set_option maxRecDepth 20000 in
theorem gX6_groupOf_X1_placeOf_n44 : GoodIn wsX6_groupOf (wsX1_placeOf) := ggX6_groupOf_X1_placeOf
theorem dX6_groupOf_0 : decode cX6_groupOf 0 = .ok (.iconst 0, 1) := by decide +kernel
theorem dX6_groupOf_1 : decode cX6_groupOf 1 = .ok (.istore_n 3, 1) := by decide +kernel
theorem dX6_groupOf_2 : decode cX6_groupOf 2 = .ok (.iconst 0, 1) := by decide +kernel
theorem dX6_groupOf_3 : decode cX6_groupOf 3 = .ok (.istore 4, 2) := by decide +kernel
theorem dX6_groupOf_5 : decode cX6_groupOf 5 = .ok (.iload 4, 2) := by decide +kernel
theorem dX6_groupOf_7 : decode cX6_groupOf 7 = .ok (.aload_n 0, 1) := by decide +kernel
theorem dX6_groupOf_8 : decode cX6_groupOf 8 = .ok (.getfield 18, 3) := by decide +kernel
theorem dX6_groupOf_11 : decode cX6_groupOf 11 = .ok (.if_icmp .ge 45, 3) := by decide +kernel
theorem dX6_groupOf_14 : decode cX6_groupOf 14 = .ok (.iload_n 2, 1) := by decide +kernel
theorem dX6_groupOf_15 : decode cX6_groupOf 15 = .ok (.iload 4, 2) := by decide +kernel
theorem dX6_groupOf_17 : decode cX6_groupOf 17 = .ok (.invokestatic 29, 3) := by decide +kernel
theorem dX6_groupOf_20 : decode cX6_groupOf 20 = .ok (.aload_n 0, 1) := by decide +kernel
theorem dX6_groupOf_21 : decode cX6_groupOf 21 = .ok (.iload_n 1, 1) := by decide +kernel
theorem dX6_groupOf_22 : decode cX6_groupOf 22 = .ok (.iload 4, 2) := by decide +kernel
theorem dX6_groupOf_24 : decode cX6_groupOf 24 = .ok (.invokevirtual 38, 3) := by decide +kernel
theorem dX6_groupOf_27 : decode cX6_groupOf 27 = .ok (.invokestatic 44, 3) := by decide +kernel
theorem dX6_groupOf_30 : decode cX6_groupOf 30 = .ok (.istore 5, 2) := by decide +kernel
theorem dX6_groupOf_32 : decode cX6_groupOf 32 = .ok (.iload_n 3, 1) := by decide +kernel
theorem dX6_groupOf_33 : decode cX6_groupOf 33 = .ok (.iconst 3, 1) := by decide +kernel
theorem dX6_groupOf_34 : decode cX6_groupOf 34 = .ok (.ishl, 1) := by decide +kernel
theorem dX6_groupOf_35 : decode cX6_groupOf 35 = .ok (.aload_n 0, 1) := by decide +kernel
theorem dX6_groupOf_36 : decode cX6_groupOf 36 = .ok (.getfield 11, 3) := by decide +kernel
theorem dX6_groupOf_39 : decode cX6_groupOf 39 = .ok (.iload 4, 2) := by decide +kernel
theorem dX6_groupOf_41 : decode cX6_groupOf 41 = .ok (.aaload, 1) := by decide +kernel
theorem dX6_groupOf_42 : decode cX6_groupOf 42 = .ok (.getfield 47, 3) := by decide +kernel
theorem dX6_groupOf_45 : decode cX6_groupOf 45 = .ok (.iload 5, 2) := by decide +kernel
theorem dX6_groupOf_47 : decode cX6_groupOf 47 = .ok (.iaload, 1) := by decide +kernel
theorem dX6_groupOf_48 : decode cX6_groupOf 48 = .ok (.ior, 1) := by decide +kernel
theorem dX6_groupOf_49 : decode cX6_groupOf 49 = .ok (.istore_n 3, 1) := by decide +kernel
theorem dX6_groupOf_50 : decode cX6_groupOf 50 = .ok (.iinc 4 1, 3) := by decide +kernel
theorem dX6_groupOf_53 : decode cX6_groupOf 53 = .ok (.goto (-48), 3) := by decide +kernel
theorem dX6_groupOf_56 : decode cX6_groupOf 56 = .ok (.iload_n 3, 1) := by decide +kernel
theorem dX6_groupOf_57 : decode cX6_groupOf 57 = .ok (.ireturn, 1) := by decide +kernel
set_option maxRecDepth 20000 in
theorem ggX6_pack_X6_levelIn : GoodIn wsX6_pack wsX6_levelIn := goodIn_r _ [6] (by decide +kernel) (by decide +kernel)
set_option maxRecDepth 20000 in
theorem gX6_pack_X6_levelIn : GoodIn wsX6_pack (va_wsS RX6 29 yX6_levelIn wsX6_levelIn) := goodIn_app (goodIn_of _ (by decide +kernel)) ggX6_pack_X6_levelIn
set_option maxRecDepth 20000 in
theorem ggX6_pack_X1_hasMember : GoodIn wsX6_pack wsX1_hasMember := goodIn_r _ [11, 12, 13, 14, 10, 15, 16, 17, 18, 19, 20, 21, 24, 25, 26, 27, 28, 29] (by decide +kernel) (by decide +kernel)
set_option maxRecDepth 20000 in
theorem gX6_pack_X1_hasMember : GoodIn wsX6_pack (wsV RX6 51 RX1 yX1_hasMember wsX1_hasMember) := goodIn_app (goodIn_of _ (by decide +kernel)) ggX6_pack_X1_hasMember
theorem dX6_pack_0 : decode cX6_pack 0 = .ok (.iconst 0, 1) := by decide +kernel
theorem dX6_pack_1 : decode cX6_pack 1 = .ok (.istore_n 3, 1) := by decide +kernel
theorem dX6_pack_2 : decode cX6_pack 2 = .ok (.iconst 0, 1) := by decide +kernel
theorem dX6_pack_3 : decode cX6_pack 3 = .ok (.istore 4, 2) := by decide +kernel
theorem dX6_pack_5 : decode cX6_pack 5 = .ok (.iload 4, 2) := by decide +kernel
theorem dX6_pack_7 : decode cX6_pack 7 = .ok (.aload_n 0, 1) := by decide +kernel
theorem dX6_pack_8 : decode cX6_pack 8 = .ok (.getfield 18, 3) := by decide +kernel
theorem dX6_pack_11 : decode cX6_pack 11 = .ok (.if_icmp .ge 43, 3) := by decide +kernel
theorem dX6_pack_14 : decode cX6_pack 14 = .ok (.aload_n 0, 1) := by decide +kernel
theorem dX6_pack_15 : decode cX6_pack 15 = .ok (.getfield 11, 3) := by decide +kernel
theorem dX6_pack_18 : decode cX6_pack 18 = .ok (.iload 4, 2) := by decide +kernel
theorem dX6_pack_20 : decode cX6_pack 20 = .ok (.aaload, 1) := by decide +kernel
theorem dX6_pack_21 : decode cX6_pack 21 = .ok (.iload_n 2, 1) := by decide +kernel
theorem dX6_pack_22 : decode cX6_pack 22 = .ok (.iload 4, 2) := by decide +kernel
theorem dX6_pack_24 : decode cX6_pack 24 = .ok (.invokestatic 29, 3) := by decide +kernel
theorem dX6_pack_27 : decode cX6_pack 27 = .ok (.aload_n 1, 1) := by decide +kernel
theorem dX6_pack_28 : decode cX6_pack 28 = .ok (.iload 4, 2) := by decide +kernel
theorem dX6_pack_30 : decode cX6_pack 30 = .ok (.iaload, 1) := by decide +kernel
theorem dX6_pack_31 : decode cX6_pack 31 = .ok (.invokevirtual 51, 3) := by decide +kernel
theorem dX6_pack_34 : decode cX6_pack 34 = .ok (.ifCond .ne 5, 3) := by decide +kernel
theorem dX6_pack_37 : decode cX6_pack 37 = .ok (.iconst (-1), 1) := by decide +kernel
theorem dX6_pack_38 : decode cX6_pack 38 = .ok (.ireturn, 1) := by decide +kernel
theorem dX6_pack_39 : decode cX6_pack 39 = .ok (.iload_n 3, 1) := by decide +kernel
theorem dX6_pack_40 : decode cX6_pack 40 = .ok (.iconst 3, 1) := by decide +kernel
theorem dX6_pack_41 : decode cX6_pack 41 = .ok (.ishl, 1) := by decide +kernel
theorem dX6_pack_42 : decode cX6_pack 42 = .ok (.aload_n 1, 1) := by decide +kernel
theorem dX6_pack_43 : decode cX6_pack 43 = .ok (.iload 4, 2) := by decide +kernel
theorem dX6_pack_45 : decode cX6_pack 45 = .ok (.iaload, 1) := by decide +kernel
theorem dX6_pack_46 : decode cX6_pack 46 = .ok (.ior, 1) := by decide +kernel
theorem dX6_pack_47 : decode cX6_pack 47 = .ok (.istore_n 3, 1) := by decide +kernel
theorem dX6_pack_48 : decode cX6_pack 48 = .ok (.iinc 4 1, 3) := by decide +kernel
theorem dX6_pack_51 : decode cX6_pack 51 = .ok (.goto (-46), 3) := by decide +kernel
theorem dX6_pack_54 : decode cX6_pack 54 = .ok (.iload_n 3, 1) := by decide +kernel
theorem dX6_pack_55 : decode cX6_pack 55 = .ok (.ireturn, 1) := by decide +kernel
set_option maxRecDepth 20000 in
theorem ggX6_passes_X6_memberIn : GoodIn wsX6_passes wsX6_memberIn := goodIn_r _ [7, 1, 23, 24] (by decide +kernel) (by decide +kernel)
set_option maxRecDepth 20000 in
theorem gX6_passes_X6_memberIn : GoodIn wsX6_passes (wsV RX6 38 RX6 yX6_memberIn wsX6_memberIn) := goodIn_app (goodIn_of _ (by decide +kernel)) ggX6_passes_X6_memberIn
set_option maxRecDepth 20000 in
theorem ggX6_passes_X1_passes : GoodIn wsX6_passes wsX1_passes := goodIn_r _ [12, 13, 14, 15, 16, 17, 11, 18, 19, 20, 21, 22, 25, 26, 27, 28, 29, 30] (by decide +kernel) (by decide +kernel)
set_option maxRecDepth 20000 in
theorem gX6_passes_X1_passes : GoodIn wsX6_passes (wsV RX6 55 RX1 yX1_passes wsX1_passes) := goodIn_app (goodIn_of _ (by decide +kernel)) ggX6_passes_X1_passes
theorem dX6_passes_0 : decode cX6_passes 0 = .ok (.iconst 0, 1) := by decide +kernel
theorem dX6_passes_1 : decode cX6_passes 1 = .ok (.istore_n 2, 1) := by decide +kernel
theorem dX6_passes_2 : decode cX6_passes 2 = .ok (.iload_n 2, 1) := by decide +kernel
theorem dX6_passes_3 : decode cX6_passes 3 = .ok (.aload_n 0, 1) := by decide +kernel
theorem dX6_passes_4 : decode cX6_passes 4 = .ok (.getfield 18, 3) := by decide +kernel
theorem dX6_passes_7 : decode cX6_passes 7 = .ok (.if_icmp .ge 29, 3) := by decide +kernel
theorem dX6_passes_10 : decode cX6_passes 10 = .ok (.aload_n 0, 1) := by decide +kernel
theorem dX6_passes_11 : decode cX6_passes 11 = .ok (.getfield 11, 3) := by decide +kernel
theorem dX6_passes_14 : decode cX6_passes 14 = .ok (.iload_n 2, 1) := by decide +kernel
theorem dX6_passes_15 : decode cX6_passes 15 = .ok (.aaload, 1) := by decide +kernel
theorem dX6_passes_16 : decode cX6_passes 16 = .ok (.aload_n 0, 1) := by decide +kernel
theorem dX6_passes_17 : decode cX6_passes 17 = .ok (.iload_n 1, 1) := by decide +kernel
theorem dX6_passes_18 : decode cX6_passes 18 = .ok (.iload_n 2, 1) := by decide +kernel
theorem dX6_passes_19 : decode cX6_passes 19 = .ok (.invokevirtual 38, 3) := by decide +kernel
theorem dX6_passes_22 : decode cX6_passes 22 = .ok (.invokevirtual 55, 3) := by decide +kernel
theorem dX6_passes_25 : decode cX6_passes 25 = .ok (.ifCond .ne 5, 3) := by decide +kernel
theorem dX6_passes_28 : decode cX6_passes 28 = .ok (.iconst 0, 1) := by decide +kernel
theorem dX6_passes_29 : decode cX6_passes 29 = .ok (.ireturn, 1) := by decide +kernel
theorem dX6_passes_30 : decode cX6_passes 30 = .ok (.iinc 2 1, 3) := by decide +kernel
theorem dX6_passes_33 : decode cX6_passes 33 = .ok (.goto (-31), 3) := by decide +kernel
theorem dX6_passes_36 : decode cX6_passes 36 = .ok (.iconst 1, 1) := by decide +kernel
theorem dX6_passes_37 : decode cX6_passes 37 = .ok (.ireturn, 1) := by decide +kernel
set_option maxRecDepth 20000 in
theorem ggX6_inDecimals_X6_memberIn : GoodIn wsX6_inDecimals wsX6_memberIn := goodIn_r _ [6, 1, 7, 8] (by decide +kernel) (by decide +kernel)
set_option maxRecDepth 20000 in
theorem gX6_inDecimals_X6_memberIn : GoodIn wsX6_inDecimals (wsV RX6 38 RX6 yX6_memberIn wsX6_memberIn) := goodIn_app (goodIn_of _ (by decide +kernel)) ggX6_inDecimals_X6_memberIn
theorem dX6_inDecimals_0 : decode cX6_inDecimals 0 = .ok (.iconst 0, 1) := by decide +kernel
theorem dX6_inDecimals_1 : decode cX6_inDecimals 1 = .ok (.istore_n 2, 1) := by decide +kernel
theorem dX6_inDecimals_2 : decode cX6_inDecimals 2 = .ok (.iconst 0, 1) := by decide +kernel
theorem dX6_inDecimals_3 : decode cX6_inDecimals 3 = .ok (.istore_n 3, 1) := by decide +kernel
theorem dX6_inDecimals_4 : decode cX6_inDecimals 4 = .ok (.iload_n 3, 1) := by decide +kernel
theorem dX6_inDecimals_5 : decode cX6_inDecimals 5 = .ok (.aload_n 0, 1) := by decide +kernel
theorem dX6_inDecimals_6 : decode cX6_inDecimals 6 = .ok (.getfield 18, 3) := by decide +kernel
theorem dX6_inDecimals_9 : decode cX6_inDecimals 9 = .ok (.if_icmp .ge 21, 3) := by decide +kernel
theorem dX6_inDecimals_12 : decode cX6_inDecimals 12 = .ok (.iload_n 2, 1) := by decide +kernel
theorem dX6_inDecimals_13 : decode cX6_inDecimals 13 = .ok (.bipush 10, 2) := by decide +kernel
theorem dX6_inDecimals_15 : decode cX6_inDecimals 15 = .ok (.imul, 1) := by decide +kernel
theorem dX6_inDecimals_16 : decode cX6_inDecimals 16 = .ok (.aload_n 0, 1) := by decide +kernel
theorem dX6_inDecimals_17 : decode cX6_inDecimals 17 = .ok (.iload_n 1, 1) := by decide +kernel
theorem dX6_inDecimals_18 : decode cX6_inDecimals 18 = .ok (.iload_n 3, 1) := by decide +kernel
theorem dX6_inDecimals_19 : decode cX6_inDecimals 19 = .ok (.invokevirtual 38, 3) := by decide +kernel
theorem dX6_inDecimals_22 : decode cX6_inDecimals 22 = .ok (.iadd, 1) := by decide +kernel
theorem dX6_inDecimals_23 : decode cX6_inDecimals 23 = .ok (.istore_n 2, 1) := by decide +kernel
theorem dX6_inDecimals_24 : decode cX6_inDecimals 24 = .ok (.iinc 3 1, 3) := by decide +kernel
theorem dX6_inDecimals_27 : decode cX6_inDecimals 27 = .ok (.goto (-23), 3) := by decide +kernel
theorem dX6_inDecimals_30 : decode cX6_inDecimals 30 = .ok (.iload_n 2, 1) := by decide +kernel
theorem dX6_inDecimals_31 : decode cX6_inDecimals 31 = .ok (.ireturn, 1) := by decide +kernel
theorem dX7_init_0 : decode cX7_init 0 = .ok (.aload_n 0, 1) := by decide +kernel
theorem dX7_init_1 : decode cX7_init 1 = .ok (.invokespecial 5, 3) := by decide +kernel
theorem dX7_init_4 : decode cX7_init 4 = .ok (.aload_n 0, 1) := by decide +kernel
theorem dX7_init_5 : decode cX7_init 5 = .ok (.bipush 81, 2) := by decide +kernel
theorem dX7_init_7 : decode cX7_init 7 = .ok (.newarray .int, 2) := by decide +kernel
theorem dX7_init_9 : decode cX7_init 9 = .ok (.putfield 11, 3) := by decide +kernel
theorem dX7_init_12 : decode cX7_init 12 = .ok (.aload_n 0, 1) := by decide +kernel
theorem dX7_init_13 : decode cX7_init 13 = .ok (.bipush 81, 2) := by decide +kernel
theorem dX7_init_15 : decode cX7_init 15 = .ok (.newarray .int, 2) := by decide +kernel
theorem dX7_init_17 : decode cX7_init 17 = .ok (.putfield 15, 3) := by decide +kernel
theorem dX7_init_20 : decode cX7_init 20 = .ok (.aload_n 0, 1) := by decide +kernel
theorem dX7_init_21 : decode cX7_init 21 = .ok (.bipush 81, 2) := by decide +kernel
theorem dX7_init_23 : decode cX7_init 23 = .ok (.newarray .int, 2) := by decide +kernel
theorem dX7_init_25 : decode cX7_init 25 = .ok (.putfield 18, 3) := by decide +kernel
theorem dX7_init_28 : decode cX7_init 28 = .ok (.aload_n 0, 1) := by decide +kernel
theorem dX7_init_29 : decode cX7_init 29 = .ok (.bipush 81, 2) := by decide +kernel
theorem dX7_init_31 : decode cX7_init 31 = .ok (.newarray .int, 2) := by decide +kernel
theorem dX7_init_33 : decode cX7_init 33 = .ok (.putfield 21, 3) := by decide +kernel
theorem dX7_init_36 : decode cX7_init 36 = .ok (.return_, 1) := by decide +kernel
theorem dX7_placeOf_0 : decode cX7_placeOf 0 = .ok (.iload_n 0, 1) := by decide +kernel
theorem dX7_placeOf_1 : decode cX7_placeOf 1 = .ok (.bipush 9, 2) := by decide +kernel
theorem dX7_placeOf_3 : decode cX7_placeOf 3 = .ok (.imul, 1) := by decide +kernel
theorem dX7_placeOf_4 : decode cX7_placeOf 4 = .ok (.iload_n 1, 1) := by decide +kernel
theorem dX7_placeOf_5 : decode cX7_placeOf 5 = .ok (.iadd, 1) := by decide +kernel
theorem dX7_placeOf_6 : decode cX7_placeOf 6 = .ok (.ireturn, 1) := by decide +kernel
theorem dX7_isPlace_0 : decode cX7_isPlace 0 = .ok (.iload_n 0, 1) := by decide +kernel
theorem dX7_isPlace_1 : decode cX7_isPlace 1 = .ok (.ifCond .lt 13, 3) := by decide +kernel
theorem dX7_isPlace_4 : decode cX7_isPlace 4 = .ok (.iload_n 0, 1) := by decide +kernel
theorem dX7_isPlace_5 : decode cX7_isPlace 5 = .ok (.bipush 81, 2) := by decide +kernel
theorem dX7_isPlace_7 : decode cX7_isPlace 7 = .ok (.if_icmp .ge 7, 3) := by decide +kernel
theorem dX7_isPlace_10 : decode cX7_isPlace 10 = .ok (.iconst 1, 1) := by decide +kernel
theorem dX7_isPlace_11 : decode cX7_isPlace 11 = .ok (.goto 4, 3) := by decide +kernel
theorem dX7_isPlace_14 : decode cX7_isPlace 14 = .ok (.iconst 0, 1) := by decide +kernel
theorem dX7_isPlace_15 : decode cX7_isPlace 15 = .ok (.ireturn, 1) := by decide +kernel
set_option maxRecDepth 20000 in
theorem ggX7_clear_J7_fill_53178 : GoodIn wsX7_clear wsJ7_fill_53178 := goodIn_r _ [5] (by decide +kernel) (by decide +kernel)
set_option maxRecDepth 20000 in
theorem gX7_clear_J7_fill_53178 : GoodIn wsX7_clear (va_wsS RX7 24 yJ7_fill_53178 wsJ7_fill_53178) := goodIn_app (goodIn_of _ (by decide +kernel)) ggX7_clear_J7_fill_53178
theorem dX7_clear_0 : decode cX7_clear 0 = .ok (.aload_n 0, 1) := by decide +kernel
theorem dX7_clear_1 : decode cX7_clear 1 = .ok (.getfield 11, 3) := by decide +kernel
theorem dX7_clear_4 : decode cX7_clear 4 = .ok (.iconst 0, 1) := by decide +kernel
theorem dX7_clear_5 : decode cX7_clear 5 = .ok (.invokestatic 24, 3) := by decide +kernel
theorem dX7_clear_8 : decode cX7_clear 8 = .ok (.return_, 1) := by decide +kernel
set_option maxRecDepth 20000 in
theorem ggX7_add_X7_isPlace : GoodIn wsX7_add wsX7_isPlace := goodIn_r _ [15] (by decide +kernel) (by decide +kernel)
set_option maxRecDepth 20000 in
theorem gX7_add_X7_isPlace : GoodIn wsX7_add (va_wsS RX7 30 yX7_isPlace wsX7_isPlace) := goodIn_app (goodIn_of _ (by decide +kernel)) ggX7_add_X7_isPlace
theorem dX7_add_0 : decode cX7_add 0 = .ok (.iload_n 1, 1) := by decide +kernel
theorem dX7_add_1 : decode cX7_add 1 = .ok (.invokestatic 30, 3) := by decide +kernel
theorem dX7_add_4 : decode cX7_add 4 = .ok (.ifCond .ne 4, 3) := by decide +kernel
theorem dX7_add_7 : decode cX7_add 7 = .ok (.return_, 1) := by decide +kernel
theorem dX7_add_8 : decode cX7_add 8 = .ok (.aload_n 0, 1) := by decide +kernel
theorem dX7_add_9 : decode cX7_add 9 = .ok (.getfield 11, 3) := by decide +kernel
theorem dX7_add_12 : decode cX7_add 12 = .ok (.iload_n 1, 1) := by decide +kernel
theorem dX7_add_13 : decode cX7_add 13 = .ok (.iaload, 1) := by decide +kernel
theorem dX7_add_14 : decode cX7_add 14 = .ok (.ifCond .ne 7, 3) := by decide +kernel
theorem dX7_add_17 : decode cX7_add 17 = .ok (.iconst 1, 1) := by decide +kernel
theorem dX7_add_18 : decode cX7_add 18 = .ok (.goto 4, 3) := by decide +kernel
theorem dX7_add_21 : decode cX7_add 21 = .ok (.iconst 0, 1) := by decide +kernel
theorem dX7_add_22 : decode cX7_add 22 = .ok (.istore_n 3, 1) := by decide +kernel
theorem dX7_add_23 : decode cX7_add 23 = .ok (.aload_n 0, 1) := by decide +kernel
theorem dX7_add_24 : decode cX7_add 24 = .ok (.getfield 11, 3) := by decide +kernel
theorem dX7_add_27 : decode cX7_add 27 = .ok (.iload_n 1, 1) := by decide +kernel
theorem dX7_add_28 : decode cX7_add 28 = .ok (.dup2, 1) := by decide +kernel
theorem dX7_add_29 : decode cX7_add 29 = .ok (.iaload, 1) := by decide +kernel
theorem dX7_add_30 : decode cX7_add 30 = .ok (.iconst 1, 1) := by decide +kernel
theorem dX7_add_31 : decode cX7_add 31 = .ok (.iadd, 1) := by decide +kernel
theorem dX7_add_32 : decode cX7_add 32 = .ok (.iastore, 1) := by decide +kernel
theorem dX7_add_33 : decode cX7_add 33 = .ok (.aload_n 0, 1) := by decide +kernel
theorem dX7_add_34 : decode cX7_add 34 = .ok (.getfield 15, 3) := by decide +kernel
theorem dX7_add_37 : decode cX7_add 37 = .ok (.iload_n 1, 1) := by decide +kernel
theorem dX7_add_38 : decode cX7_add 38 = .ok (.iload_n 3, 1) := by decide +kernel
theorem dX7_add_39 : decode cX7_add 39 = .ok (.ifCond .eq 7, 3) := by decide +kernel
theorem dX7_add_42 : decode cX7_add 42 = .ok (.iload_n 2, 1) := by decide +kernel
theorem dX7_add_43 : decode cX7_add 43 = .ok (.goto 11, 3) := by decide +kernel
theorem dX7_add_46 : decode cX7_add 46 = .ok (.aload_n 0, 1) := by decide +kernel
theorem dX7_add_47 : decode cX7_add 47 = .ok (.getfield 15, 3) := by decide +kernel
theorem dX7_add_50 : decode cX7_add 50 = .ok (.iload_n 1, 1) := by decide +kernel
theorem dX7_add_51 : decode cX7_add 51 = .ok (.iaload, 1) := by decide +kernel
theorem dX7_add_52 : decode cX7_add 52 = .ok (.iload_n 2, 1) := by decide +kernel
theorem dX7_add_53 : decode cX7_add 53 = .ok (.iadd, 1) := by decide +kernel
theorem dX7_add_54 : decode cX7_add 54 = .ok (.iastore, 1) := by decide +kernel
theorem dX7_add_55 : decode cX7_add 55 = .ok (.aload_n 0, 1) := by decide +kernel
theorem dX7_add_56 : decode cX7_add 56 = .ok (.getfield 18, 3) := by decide +kernel
theorem dX7_add_59 : decode cX7_add 59 = .ok (.iload_n 1, 1) := by decide +kernel
theorem dX7_add_60 : decode cX7_add 60 = .ok (.iload_n 3, 1) := by decide +kernel
theorem dX7_add_61 : decode cX7_add 61 = .ok (.ifCond .eq 7, 3) := by decide +kernel
theorem dX7_add_64 : decode cX7_add 64 = .ok (.iload_n 2, 1) := by decide +kernel
theorem dX7_add_65 : decode cX7_add 65 = .ok (.goto 13, 3) := by decide +kernel
theorem dX7_add_68 : decode cX7_add 68 = .ok (.aload_n 0, 1) := by decide +kernel
theorem dX7_add_69 : decode cX7_add 69 = .ok (.getfield 18, 3) := by decide +kernel
theorem dX7_add_72 : decode cX7_add 72 = .ok (.iload_n 1, 1) := by decide +kernel
theorem dX7_add_73 : decode cX7_add 73 = .ok (.iaload, 1) := by decide +kernel
theorem dX7_add_74 : decode cX7_add 74 = .ok (.iload_n 2, 1) := by decide +kernel
theorem dX7_add_75 : decode cX7_add 75 = .ok (.invokestatic 34, 3) := by decide +kernel
theorem dX7_add_78 : decode cX7_add 78 = .ok (.iastore, 1) := by decide +kernel
theorem dX7_add_79 : decode cX7_add 79 = .ok (.aload_n 0, 1) := by decide +kernel
theorem dX7_add_80 : decode cX7_add 80 = .ok (.getfield 21, 3) := by decide +kernel
theorem dX7_add_83 : decode cX7_add 83 = .ok (.iload_n 1, 1) := by decide +kernel
theorem dX7_add_84 : decode cX7_add 84 = .ok (.iload_n 3, 1) := by decide +kernel
theorem dX7_add_85 : decode cX7_add 85 = .ok (.ifCond .eq 7, 3) := by decide +kernel
theorem dX7_add_88 : decode cX7_add 88 = .ok (.iload_n 2, 1) := by decide +kernel
theorem dX7_add_89 : decode cX7_add 89 = .ok (.goto 13, 3) := by decide +kernel
theorem dX7_add_92 : decode cX7_add 92 = .ok (.aload_n 0, 1) := by decide +kernel
theorem dX7_add_93 : decode cX7_add 93 = .ok (.getfield 21, 3) := by decide +kernel
theorem dX7_add_96 : decode cX7_add 96 = .ok (.iload_n 1, 1) := by decide +kernel
theorem dX7_add_97 : decode cX7_add 97 = .ok (.iaload, 1) := by decide +kernel
theorem dX7_add_98 : decode cX7_add 98 = .ok (.iload_n 2, 1) := by decide +kernel
theorem dX7_add_99 : decode cX7_add 99 = .ok (.invokestatic 40, 3) := by decide +kernel
theorem dX7_add_102 : decode cX7_add 102 = .ok (.iastore, 1) := by decide +kernel
theorem dX7_add_103 : decode cX7_add 103 = .ok (.return_, 1) := by decide +kernel
set_option maxRecDepth 20000 in
theorem ggX7_addToCross_X7_placeOf : GoodIn wsX7_addToCross wsX7_placeOf := goodIn_r _ [4] (by decide +kernel) (by decide +kernel)
set_option maxRecDepth 20000 in
theorem gX7_addToCross_X7_placeOf : GoodIn wsX7_addToCross (va_wsS RX7 43 yX7_placeOf wsX7_placeOf) := goodIn_app (goodIn_of _ (by decide +kernel)) ggX7_addToCross_X7_placeOf
set_option maxRecDepth 20000 in
theorem ggX7_addToCross_X7_add : GoodIn wsX7_addToCross wsX7_add := goodIn_r _ [8, 9, 10, 11, 12, 13, 14, 15, 16, 17, 18, 19, 20, 21, 3, 22, 23, 24, 25, 26] (by decide +kernel) (by decide +kernel)
set_option maxRecDepth 20000 in
theorem gX7_addToCross_X7_add : GoodIn wsX7_addToCross (wsV RX7 46 RX7 yX7_add wsX7_add) := goodIn_app (goodIn_of _ (by decide +kernel)) ggX7_addToCross_X7_add
theorem dX7_addToCross_0 : decode cX7_addToCross 0 = .ok (.aload_n 0, 1) := by decide +kernel
theorem dX7_addToCross_1 : decode cX7_addToCross 1 = .ok (.iload_n 1, 1) := by decide +kernel
theorem dX7_addToCross_2 : decode cX7_addToCross 2 = .ok (.iload_n 2, 1) := by decide +kernel
theorem dX7_addToCross_3 : decode cX7_addToCross 3 = .ok (.invokestatic 43, 3) := by decide +kernel
theorem dX7_addToCross_6 : decode cX7_addToCross 6 = .ok (.iload_n 3, 1) := by decide +kernel
theorem dX7_addToCross_7 : decode cX7_addToCross 7 = .ok (.invokevirtual 46, 3) := by decide +kernel
theorem dX7_addToCross_10 : decode cX7_addToCross 10 = .ok (.aload_n 0, 1) := by decide +kernel
theorem dX7_addToCross_11 : decode cX7_addToCross 11 = .ok (.iload_n 1, 1) := by decide +kernel
theorem dX7_addToCross_12 : decode cX7_addToCross 12 = .ok (.bipush 8, 2) := by decide +kernel
theorem dX7_addToCross_14 : decode cX7_addToCross 14 = .ok (.invokestatic 43, 3) := by decide +kernel
theorem dX7_addToCross_17 : decode cX7_addToCross 17 = .ok (.iload_n 3, 1) := by decide +kernel
theorem dX7_addToCross_18 : decode cX7_addToCross 18 = .ok (.invokevirtual 46, 3) := by decide +kernel
theorem dX7_addToCross_21 : decode cX7_addToCross 21 = .ok (.aload_n 0, 1) := by decide +kernel
theorem dX7_addToCross_22 : decode cX7_addToCross 22 = .ok (.bipush 8, 2) := by decide +kernel
theorem dX7_addToCross_24 : decode cX7_addToCross 24 = .ok (.iload_n 2, 1) := by decide +kernel
theorem dX7_addToCross_25 : decode cX7_addToCross 25 = .ok (.invokestatic 43, 3) := by decide +kernel
theorem dX7_addToCross_28 : decode cX7_addToCross 28 = .ok (.iload_n 3, 1) := by decide +kernel
theorem dX7_addToCross_29 : decode cX7_addToCross 29 = .ok (.invokevirtual 46, 3) := by decide +kernel
theorem dX7_addToCross_32 : decode cX7_addToCross 32 = .ok (.aload_n 0, 1) := by decide +kernel
theorem dX7_addToCross_33 : decode cX7_addToCross 33 = .ok (.bipush 8, 2) := by decide +kernel
theorem dX7_addToCross_35 : decode cX7_addToCross 35 = .ok (.bipush 8, 2) := by decide +kernel
theorem dX7_addToCross_37 : decode cX7_addToCross 37 = .ok (.invokestatic 43, 3) := by decide +kernel
theorem dX7_addToCross_40 : decode cX7_addToCross 40 = .ok (.iload_n 3, 1) := by decide +kernel
theorem dX7_addToCross_41 : decode cX7_addToCross 41 = .ok (.invokevirtual 46, 3) := by decide +kernel
theorem dX7_addToCross_44 : decode cX7_addToCross 44 = .ok (.return_, 1) := by decide +kernel
set_option maxRecDepth 20000 in
theorem ggX7_isEmpty_X7_isPlace : GoodIn wsX7_isEmpty wsX7_isPlace := goodIn_r _ [5] (by decide +kernel) (by decide +kernel)
set_option maxRecDepth 20000 in
theorem gX7_isEmpty_X7_isPlace : GoodIn wsX7_isEmpty (va_wsS RX7 30 yX7_isPlace wsX7_isPlace) := goodIn_app (goodIn_of _ (by decide +kernel)) ggX7_isEmpty_X7_isPlace
theorem dX7_isEmpty_0 : decode cX7_isEmpty 0 = .ok (.iload_n 1, 1) := by decide +kernel
theorem dX7_isEmpty_1 : decode cX7_isEmpty 1 = .ok (.invokestatic 30, 3) := by decide +kernel
theorem dX7_isEmpty_4 : decode cX7_isEmpty 4 = .ok (.ifCond .eq 12, 3) := by decide +kernel
theorem dX7_isEmpty_7 : decode cX7_isEmpty 7 = .ok (.aload_n 0, 1) := by decide +kernel
theorem dX7_isEmpty_8 : decode cX7_isEmpty 8 = .ok (.getfield 11, 3) := by decide +kernel
theorem dX7_isEmpty_11 : decode cX7_isEmpty 11 = .ok (.iload_n 1, 1) := by decide +kernel
theorem dX7_isEmpty_12 : decode cX7_isEmpty 12 = .ok (.iaload, 1) := by decide +kernel
theorem dX7_isEmpty_13 : decode cX7_isEmpty 13 = .ok (.ifCond .ne 7, 3) := by decide +kernel
theorem dX7_isEmpty_16 : decode cX7_isEmpty 16 = .ok (.iconst 1, 1) := by decide +kernel
theorem dX7_isEmpty_17 : decode cX7_isEmpty 17 = .ok (.goto 4, 3) := by decide +kernel
theorem dX7_isEmpty_20 : decode cX7_isEmpty 20 = .ok (.iconst 0, 1) := by decide +kernel
theorem dX7_isEmpty_21 : decode cX7_isEmpty 21 = .ok (.ireturn, 1) := by decide +kernel
set_option maxRecDepth 20000 in
theorem ggX7_valueOf_X7_isPlace : GoodIn wsX7_valueOf wsX7_isPlace := goodIn_r _ [8] (by decide +kernel) (by decide +kernel)
set_option maxRecDepth 20000 in
theorem gX7_valueOf_X7_isPlace : GoodIn wsX7_valueOf (va_wsS RX7 30 yX7_isPlace wsX7_isPlace) := goodIn_app (goodIn_of _ (by decide +kernel)) ggX7_valueOf_X7_isPlace
theorem dX7_valueOf_0 : decode cX7_valueOf 0 = .ok (.iload_n 1, 1) := by decide +kernel
theorem dX7_valueOf_1 : decode cX7_valueOf 1 = .ok (.invokestatic 30, 3) := by decide +kernel
theorem dX7_valueOf_4 : decode cX7_valueOf 4 = .ok (.ifCond .ne 5, 3) := by decide +kernel
theorem dX7_valueOf_7 : decode cX7_valueOf 7 = .ok (.iconst 0, 1) := by decide +kernel
theorem dX7_valueOf_8 : decode cX7_valueOf 8 = .ok (.ireturn, 1) := by decide +kernel
theorem dX7_valueOf_9 : decode cX7_valueOf 9 = .ok (.iload_n 2, 1) := by decide +kernel
theorem dX7_valueOf_10 : decode cX7_valueOf 10 = .ok (.tableswitch 47 0 2 #[26, 33, 40], 26) := by decide +kernel
theorem dX7_valueOf_36 : decode cX7_valueOf 36 = .ok (.aload_n 0, 1) := by decide +kernel
theorem dX7_valueOf_37 : decode cX7_valueOf 37 = .ok (.getfield 11, 3) := by decide +kernel
theorem dX7_valueOf_40 : decode cX7_valueOf 40 = .ok (.iload_n 1, 1) := by decide +kernel
theorem dX7_valueOf_41 : decode cX7_valueOf 41 = .ok (.iaload, 1) := by decide +kernel
theorem dX7_valueOf_42 : decode cX7_valueOf 42 = .ok (.ireturn, 1) := by decide +kernel
theorem dX7_valueOf_43 : decode cX7_valueOf 43 = .ok (.aload_n 0, 1) := by decide +kernel
theorem dX7_valueOf_44 : decode cX7_valueOf 44 = .ok (.getfield 15, 3) := by decide +kernel
theorem dX7_valueOf_47 : decode cX7_valueOf 47 = .ok (.iload_n 1, 1) := by decide +kernel
theorem dX7_valueOf_48 : decode cX7_valueOf 48 = .ok (.iaload, 1) := by decide +kernel
theorem dX7_valueOf_49 : decode cX7_valueOf 49 = .ok (.ireturn, 1) := by decide +kernel
theorem dX7_valueOf_50 : decode cX7_valueOf 50 = .ok (.aload_n 0, 1) := by decide +kernel
theorem dX7_valueOf_51 : decode cX7_valueOf 51 = .ok (.getfield 18, 3) := by decide +kernel
theorem dX7_valueOf_54 : decode cX7_valueOf 54 = .ok (.iload_n 1, 1) := by decide +kernel
theorem dX7_valueOf_55 : decode cX7_valueOf 55 = .ok (.iaload, 1) := by decide +kernel
theorem dX7_valueOf_56 : decode cX7_valueOf 56 = .ok (.ireturn, 1) := by decide +kernel
theorem dX7_valueOf_57 : decode cX7_valueOf 57 = .ok (.aload_n 0, 1) := by decide +kernel
theorem dX7_valueOf_58 : decode cX7_valueOf 58 = .ok (.getfield 21, 3) := by decide +kernel
theorem dX7_valueOf_61 : decode cX7_valueOf 61 = .ok (.iload_n 1, 1) := by decide +kernel
theorem dX7_valueOf_62 : decode cX7_valueOf 62 = .ok (.iaload, 1) := by decide +kernel
theorem dX7_valueOf_63 : decode cX7_valueOf 63 = .ok (.ireturn, 1) := by decide +kernel
set_option maxRecDepth 20000 in
theorem ggX8_init_X6_init : GoodIn wsX8_init wsX6_init := goodIn_r _ [33, 34, 2, 3, 35, 36, 37, 38, 39, 40, 41, 42, 28, 43, 44, 45, 124, 125, 156, 157, 158, 159, 160, 161] (by decide +kernel) (by decide +kernel)
set_option maxRecDepth 20000 in
theorem gX8_init_X6_init : GoodIn wsX8_init (wsX6_init) := ggX8_init_X6_init
set_option maxRecDepth 20000 in
theorem ggX8_init_X2_init : GoodIn wsX8_init wsX2_init := goodIn_r _ [47, 48, 2, 3, 28, 49, 50, 51, 52, 134, 135, 136, 137, 138] (by decide +kernel) (by decide +kernel)
set_option maxRecDepth 20000 in
theorem gX8_init_X2_init_n18 : GoodIn wsX8_init (wsX2_init) := ggX8_init_X2_init
set_option maxRecDepth 20000 in
theorem ggX8_init_X4_init : GoodIn wsX8_init wsX4_init := goodIn_r _ [55, 56, 2, 3, 28, 57, 58, 51, 59, 60, 61, 62, 63, 64, 65, 66, 67, 68, 69, 70, 71, 72, 73, 74, 14, 75, 76, 77, 78, 79, 80, 81, 82, 83, 6, 84, 39, 36, 85, 86, 87, 88, 89, 90, 91, 92, 93, 94, 95, 96, 97, 98, 99, 100, 101, 102, 103, 139, 140, 141, 142, 143, 144, 145, 146, 162, 163, 124, 125, 156, 157, 158, 159, 160, 161] (by decide +kernel) (by decide +kernel)
set_option maxRecDepth 20000 in
theorem gX8_init_X4_init : GoodIn wsX8_init (wsX4_init) := ggX8_init_X4_init
set_option maxRecDepth 20000 in
theorem ggX8_init_X0_init : GoodIn wsX8_init wsX0_init := goodIn_r _ [106, 107, 2, 3, 108, 28, 109, 110, 111, 147, 148, 149] (by decide +kernel) (by decide +kernel)
set_option maxRecDepth 20000 in
theorem gX8_init_X0_init : GoodIn wsX8_init (wsX0_init) := ggX8_init_X0_init
set_option maxRecDepth 20000 in
theorem ggX8_init_X7_init : GoodIn wsX8_init wsX7_init := goodIn_r _ [113, 114, 2, 3, 28, 115, 116, 117, 118, 150, 151, 152, 153] (by decide +kernel) (by decide +kernel)
set_option maxRecDepth 20000 in
theorem gX8_init_X7_init_n43 : GoodIn wsX8_init (wsX7_init) := ggX8_init_X7_init
set_option maxRecDepth 20000 in
theorem ggX8_init_X5_init : GoodIn wsX8_init wsX5_init := goodIn_r _ [120, 121, 2, 3, 122, 123, 154, 155] (by decide +kernel) (by decide +kernel)
set_option maxRecDepth 20000 in
theorem gX8_init_X5_init_n50 : GoodIn wsX8_init (wsX5_init) := ggX8_init_X5_init
theorem dX8_init_0 : decode cX8_init 0 = .ok (.aload_n 0, 1) := by decide +kernel
theorem dX8_init_1 : decode cX8_init 1 = .ok (.invokespecial 3, 3) := by decide +kernel
theorem dX8_init_4 : decode cX8_init 4 = .ok (.aload_n 0, 1) := by decide +kernel
theorem dX8_init_5 : decode cX8_init 5 = .ok (.new 9, 3) := by decide +kernel
theorem dX8_init_8 : decode cX8_init 8 = .ok (.dup, 1) := by decide +kernel
theorem dX8_init_9 : decode cX8_init 9 = .ok (.invokespecial 11, 3) := by decide +kernel
theorem dX8_init_12 : decode cX8_init 12 = .ok (.putfield 12, 3) := by decide +kernel
theorem dX8_init_15 : decode cX8_init 15 = .ok (.aload_n 0, 1) := by decide +kernel
theorem dX8_init_16 : decode cX8_init 16 = .ok (.new 16, 3) := by decide +kernel
theorem dX8_init_19 : decode cX8_init 19 = .ok (.dup, 1) := by decide +kernel
theorem dX8_init_20 : decode cX8_init 20 = .ok (.invokespecial 18, 3) := by decide +kernel
theorem dX8_init_23 : decode cX8_init 23 = .ok (.putfield 19, 3) := by decide +kernel
theorem dX8_init_26 : decode cX8_init 26 = .ok (.aload_n 0, 1) := by decide +kernel
theorem dX8_init_27 : decode cX8_init 27 = .ok (.new 23, 3) := by decide +kernel
theorem dX8_init_30 : decode cX8_init 30 = .ok (.dup, 1) := by decide +kernel
theorem dX8_init_31 : decode cX8_init 31 = .ok (.aload_n 0, 1) := by decide +kernel
theorem dX8_init_32 : decode cX8_init 32 = .ok (.getfield 12, 3) := by decide +kernel
theorem dX8_init_35 : decode cX8_init 35 = .ok (.aload_n 0, 1) := by decide +kernel
theorem dX8_init_36 : decode cX8_init 36 = .ok (.getfield 19, 3) := by decide +kernel
theorem dX8_init_39 : decode cX8_init 39 = .ok (.invokespecial 25, 3) := by decide +kernel
theorem dX8_init_42 : decode cX8_init 42 = .ok (.putfield 28, 3) := by decide +kernel
theorem dX8_init_45 : decode cX8_init 45 = .ok (.aload_n 0, 1) := by decide +kernel
theorem dX8_init_46 : decode cX8_init 46 = .ok (.new 32, 3) := by decide +kernel
theorem dX8_init_49 : decode cX8_init 49 = .ok (.dup, 1) := by decide +kernel
theorem dX8_init_50 : decode cX8_init 50 = .ok (.aload_n 0, 1) := by decide +kernel
theorem dX8_init_51 : decode cX8_init 51 = .ok (.getfield 28, 3) := by decide +kernel
theorem dX8_init_54 : decode cX8_init 54 = .ok (.invokespecial 34, 3) := by decide +kernel
theorem dX8_init_57 : decode cX8_init 57 = .ok (.putfield 37, 3) := by decide +kernel
theorem dX8_init_60 : decode cX8_init 60 = .ok (.aload_n 0, 1) := by decide +kernel
theorem dX8_init_61 : decode cX8_init 61 = .ok (.new 41, 3) := by decide +kernel
theorem dX8_init_64 : decode cX8_init 64 = .ok (.dup, 1) := by decide +kernel
theorem dX8_init_65 : decode cX8_init 65 = .ok (.invokespecial 43, 3) := by decide +kernel
theorem dX8_init_68 : decode cX8_init 68 = .ok (.putfield 44, 3) := by decide +kernel
theorem dX8_init_71 : decode cX8_init 71 = .ok (.aload_n 0, 1) := by decide +kernel
theorem dX8_init_72 : decode cX8_init 72 = .ok (.new 48, 3) := by decide +kernel
theorem dX8_init_75 : decode cX8_init 75 = .ok (.dup, 1) := by decide +kernel
theorem dX8_init_76 : decode cX8_init 76 = .ok (.invokespecial 50, 3) := by decide +kernel
theorem dX8_init_79 : decode cX8_init 79 = .ok (.putfield 51, 3) := by decide +kernel
theorem dX8_init_82 : decode cX8_init 82 = .ok (.aload_n 0, 1) := by decide +kernel
theorem dX8_init_83 : decode cX8_init 83 = .ok (.iconst 4, 1) := by decide +kernel
theorem dX8_init_84 : decode cX8_init 84 = .ok (.newarray .int, 2) := by decide +kernel
theorem dX8_init_86 : decode cX8_init 86 = .ok (.putfield 55, 3) := by decide +kernel
theorem dX8_init_89 : decode cX8_init 89 = .ok (.aload_n 0, 1) := by decide +kernel
theorem dX8_init_90 : decode cX8_init 90 = .ok (.iconst 0, 1) := by decide +kernel
theorem dX8_init_91 : decode cX8_init 91 = .ok (.putfield 59, 3) := by decide +kernel
theorem dX8_init_94 : decode cX8_init 94 = .ok (.return_, 1) := by decide +kernel
set_option maxRecDepth 20000 in
theorem ggX8_dimension_X6_open : GoodIn wsX8_dimension wsX6_open := goodIn_r _ [11, 12, 13, 14, 15, 16, 17, 18, 19, 20, 21, 22, 23, 24, 25, 26, 27, 28, 29, 30, 31, 32, 33, 34, 35, 36, 37, 38, 39, 90, 91, 92, 93, 94, 95, 96, 97] (by decide +kernel) (by decide +kernel)
set_option maxRecDepth 20000 in
theorem gX8_dimension_X6_open : GoodIn wsX8_dimension (wsV RX8 72 RX6 yX6_open wsX6_open) := goodIn_app (goodIn_of _ (by decide +kernel)) ggX8_dimension_X6_open
set_option maxRecDepth 20000 in
theorem ggX8_dimension_X4_rebuild : GoodIn wsX8_dimension wsX4_rebuild := goodIn_r _ [44, 45, 46, 47, 48, 49, 50, 51, 52, 53, 54, 10, 55, 12, 13, 56, 57, 58, 59, 60, 61, 62, 63, 64, 65, 43, 66, 67, 68, 69, 70, 71, 72, 73, 74, 75, 76, 98, 99, 100, 101, 102, 103, 104, 105, 90, 91, 92, 93, 94, 95, 96, 97] (by decide +kernel) (by decide +kernel)
set_option maxRecDepth 20000 in
theorem gX8_dimension_X4_rebuild : GoodIn wsX8_dimension (wsV RX8 76 RX4 yX4_rebuild wsX4_rebuild) := goodIn_app (goodIn_of _ (by decide +kernel)) ggX8_dimension_X4_rebuild
theorem dX8_dimension_0 : decode cX8_dimension 0 = .ok (.iload_n 1, 1) := by decide +kernel
theorem dX8_dimension_1 : decode cX8_dimension 1 = .ok (.iconst 1, 1) := by decide +kernel
theorem dX8_dimension_2 : decode cX8_dimension 2 = .ok (.if_icmp .lt 9, 3) := by decide +kernel
theorem dX8_dimension_5 : decode cX8_dimension 5 = .ok (.iload_n 1, 1) := by decide +kernel
theorem dX8_dimension_6 : decode cX8_dimension 6 = .ok (.bipush 8, 2) := by decide +kernel
theorem dX8_dimension_8 : decode cX8_dimension 8 = .ok (.if_icmp .le 6, 3) := by decide +kernel
theorem dX8_dimension_11 : decode cX8_dimension 11 = .ok (.ldc 63, 2) := by decide +kernel
theorem dX8_dimension_13 : decode cX8_dimension 13 = .ok (.ireturn, 1) := by decide +kernel
theorem dX8_dimension_14 : decode cX8_dimension 14 = .ok (.aload_n 0, 1) := by decide +kernel
theorem dX8_dimension_15 : decode cX8_dimension 15 = .ok (.getfield 19, 3) := by decide +kernel
theorem dX8_dimension_18 : decode cX8_dimension 18 = .ok (.getfield 64, 3) := by decide +kernel
theorem dX8_dimension_21 : decode cX8_dimension 21 = .ok (.ifCond .le 6, 3) := by decide +kernel
theorem dX8_dimension_24 : decode cX8_dimension 24 = .ok (.ldc 67, 2) := by decide +kernel
theorem dX8_dimension_26 : decode cX8_dimension 26 = .ok (.ireturn, 1) := by decide +kernel
theorem dX8_dimension_27 : decode cX8_dimension 27 = .ok (.aload_n 0, 1) := by decide +kernel
theorem dX8_dimension_28 : decode cX8_dimension 28 = .ok (.getfield 12, 3) := by decide +kernel
theorem dX8_dimension_31 : decode cX8_dimension 31 = .ok (.getfield 68, 3) := by decide +kernel
theorem dX8_dimension_34 : decode cX8_dimension 34 = .ok (.iconst 4, 1) := by decide +kernel
theorem dX8_dimension_35 : decode cX8_dimension 35 = .ok (.if_icmp .lt 6, 3) := by decide +kernel
theorem dX8_dimension_38 : decode cX8_dimension 38 = .ok (.ldc 71, 2) := by decide +kernel
theorem dX8_dimension_40 : decode cX8_dimension 40 = .ok (.ireturn, 1) := by decide +kernel
theorem dX8_dimension_41 : decode cX8_dimension 41 = .ok (.aload_n 0, 1) := by decide +kernel
theorem dX8_dimension_42 : decode cX8_dimension 42 = .ok (.getfield 12, 3) := by decide +kernel
theorem dX8_dimension_45 : decode cX8_dimension 45 = .ok (.iload_n 1, 1) := by decide +kernel
theorem dX8_dimension_46 : decode cX8_dimension 46 = .ok (.invokevirtual 72, 3) := by decide +kernel
theorem dX8_dimension_49 : decode cX8_dimension 49 = .ok (.istore_n 2, 1) := by decide +kernel
theorem dX8_dimension_50 : decode cX8_dimension 50 = .ok (.aload_n 0, 1) := by decide +kernel
theorem dX8_dimension_51 : decode cX8_dimension 51 = .ok (.getfield 28, 3) := by decide +kernel
theorem dX8_dimension_54 : decode cX8_dimension 54 = .ok (.invokevirtual 76, 3) := by decide +kernel
theorem dX8_dimension_57 : decode cX8_dimension 57 = .ok (.iload_n 2, 1) := by decide +kernel
theorem dX8_dimension_58 : decode cX8_dimension 58 = .ok (.ireturn, 1) := by decide +kernel
set_option maxRecDepth 20000 in
theorem ggX8_level_X6_find : GoodIn wsX8_level wsX6_find := goodIn_r _ [11, 12, 13, 104, 105] (by decide +kernel) (by decide +kernel)
set_option maxRecDepth 20000 in
theorem gX8_level_X6_find : GoodIn wsX8_level (wsV RX8 79 RX6 yX6_find wsX6_find) := goodIn_app (goodIn_of _ (by decide +kernel)) ggX8_level_X6_find
set_option maxRecDepth 20000 in
theorem ggX8_level_X1_widthOf : GoodIn wsX8_level wsX1_widthOf := goodIn_r _ [18, 19, 20, 21, 22, 17, 23, 24, 93, 94, 95, 96, 97, 98] (by decide +kernel) (by decide +kernel)
set_option maxRecDepth 20000 in
theorem gX8_level_X1_widthOf : GoodIn wsX8_level (wsV RX8 88 RX1 yX1_widthOf wsX1_widthOf) := goodIn_app (goodIn_of _ (by decide +kernel)) ggX8_level_X1_widthOf
set_option maxRecDepth 20000 in
theorem ggX8_level_X1_raise : GoodIn wsX8_level wsX1_raise := goodIn_r _ [28, 24, 19, 29, 30, 31, 17, 32, 33, 34, 35, 36, 37, 38, 39, 40, 41, 42, 43, 44, 45, 46, 47, 93, 94, 95, 96, 97, 98] (by decide +kernel) (by decide +kernel)
set_option maxRecDepth 20000 in
theorem gX8_level_X1_raise : GoodIn wsX8_level (wsV RX8 91 RX1 yX1_raise wsX1_raise) := goodIn_app (goodIn_of _ (by decide +kernel)) ggX8_level_X1_raise
set_option maxRecDepth 20000 in
theorem ggX8_level_X4_rebuild : GoodIn wsX8_level wsX4_rebuild := goodIn_r _ [52, 53, 54, 55, 56, 57, 58, 59, 60, 61, 62, 10, 63, 12, 13, 64, 65, 66, 67, 68, 69, 70, 71, 72, 73, 51, 74, 75, 76, 77, 78, 79, 80, 81, 82, 83, 84, 106, 107, 108, 109, 110, 111, 112, 113, 104, 105, 93, 94, 95, 96, 97, 98] (by decide +kernel) (by decide +kernel)
set_option maxRecDepth 20000 in
theorem gX8_level_X4_rebuild : GoodIn wsX8_level (wsV RX8 76 RX4 yX4_rebuild wsX4_rebuild) := goodIn_app (goodIn_of _ (by decide +kernel)) ggX8_level_X4_rebuild
theorem dX8_level_0 : decode cX8_level 0 = .ok (.aload_n 0, 1) := by decide +kernel
theorem dX8_level_1 : decode cX8_level 1 = .ok (.getfield 12, 3) := by decide +kernel
theorem dX8_level_4 : decode cX8_level 4 = .ok (.iload_n 1, 1) := by decide +kernel
theorem dX8_level_5 : decode cX8_level 5 = .ok (.invokevirtual 79, 3) := by decide +kernel
theorem dX8_level_8 : decode cX8_level 8 = .ok (.astore_n 3, 1) := by decide +kernel
theorem dX8_level_9 : decode cX8_level 9 = .ok (.aload_n 3, 1) := by decide +kernel
theorem dX8_level_10 : decode cX8_level 10 = .ok (.ifnull 22, 3) := by decide +kernel
theorem dX8_level_13 : decode cX8_level 13 = .ok (.iload_n 2, 1) := by decide +kernel
theorem dX8_level_14 : decode cX8_level 14 = .ok (.iconst 1, 1) := by decide +kernel
theorem dX8_level_15 : decode cX8_level 15 = .ok (.if_icmp .lt 17, 3) := by decide +kernel
theorem dX8_level_18 : decode cX8_level 18 = .ok (.iload_n 2, 1) := by decide +kernel
theorem dX8_level_19 : decode cX8_level 19 = .ok (.aload_n 3, 1) := by decide +kernel
theorem dX8_level_20 : decode cX8_level 20 = .ok (.aload_n 3, 1) := by decide +kernel
theorem dX8_level_21 : decode cX8_level 21 = .ok (.getfield 83, 3) := by decide +kernel
theorem dX8_level_24 : decode cX8_level 24 = .ok (.iconst 1, 1) := by decide +kernel
theorem dX8_level_25 : decode cX8_level 25 = .ok (.isub, 1) := by decide +kernel
theorem dX8_level_26 : decode cX8_level 26 = .ok (.invokevirtual 88, 3) := by decide +kernel
theorem dX8_level_29 : decode cX8_level 29 = .ok (.if_icmp .le 6, 3) := by decide +kernel
theorem dX8_level_32 : decode cX8_level 32 = .ok (.ldc 63, 2) := by decide +kernel
theorem dX8_level_34 : decode cX8_level 34 = .ok (.ireturn, 1) := by decide +kernel
theorem dX8_level_35 : decode cX8_level 35 = .ok (.aload_n 0, 1) := by decide +kernel
theorem dX8_level_36 : decode cX8_level 36 = .ok (.getfield 19, 3) := by decide +kernel
theorem dX8_level_39 : decode cX8_level 39 = .ok (.getfield 64, 3) := by decide +kernel
theorem dX8_level_42 : decode cX8_level 42 = .ok (.ifCond .le 6, 3) := by decide +kernel
theorem dX8_level_45 : decode cX8_level 45 = .ok (.ldc 67, 2) := by decide +kernel
theorem dX8_level_47 : decode cX8_level 47 = .ok (.ireturn, 1) := by decide +kernel
theorem dX8_level_48 : decode cX8_level 48 = .ok (.aload_n 3, 1) := by decide +kernel
theorem dX8_level_49 : decode cX8_level 49 = .ok (.getfield 83, 3) := by decide +kernel
theorem dX8_level_52 : decode cX8_level 52 = .ok (.iconst 3, 1) := by decide +kernel
theorem dX8_level_53 : decode cX8_level 53 = .ok (.if_icmp .lt 6, 3) := by decide +kernel
theorem dX8_level_56 : decode cX8_level 56 = .ok (.ldc 71, 2) := by decide +kernel
theorem dX8_level_58 : decode cX8_level 58 = .ok (.ireturn, 1) := by decide +kernel
theorem dX8_level_59 : decode cX8_level 59 = .ok (.aload_n 3, 1) := by decide +kernel
theorem dX8_level_60 : decode cX8_level 60 = .ok (.iload_n 2, 1) := by decide +kernel
theorem dX8_level_61 : decode cX8_level 61 = .ok (.invokevirtual 91, 3) := by decide +kernel
theorem dX8_level_64 : decode cX8_level 64 = .ok (.istore 4, 2) := by decide +kernel
theorem dX8_level_66 : decode cX8_level 66 = .ok (.aload_n 0, 1) := by decide +kernel
theorem dX8_level_67 : decode cX8_level 67 = .ok (.getfield 28, 3) := by decide +kernel
theorem dX8_level_70 : decode cX8_level 70 = .ok (.invokevirtual 76, 3) := by decide +kernel
theorem dX8_level_73 : decode cX8_level 73 = .ok (.iload 4, 2) := by decide +kernel
theorem dX8_level_75 : decode cX8_level 75 = .ok (.ireturn, 1) := by decide +kernel
set_option maxRecDepth 20000 in
theorem ggX8_parent_X6_find : GoodIn wsX8_parent wsX6_find := goodIn_r _ [8, 9, 10, 63, 64] (by decide +kernel) (by decide +kernel)
set_option maxRecDepth 20000 in
theorem gX8_parent_X6_find : GoodIn wsX8_parent (wsV RX8 79 RX6 yX6_find wsX6_find) := goodIn_app (goodIn_of _ (by decide +kernel)) ggX8_parent_X6_find
set_option maxRecDepth 20000 in
theorem ggX8_parent_X1_hasMember : GoodIn wsX8_parent wsX1_hasMember := goodIn_r _ [15, 16, 17, 18, 14, 19, 20, 21, 22, 23, 24, 25, 57, 58, 59, 60, 61, 62] (by decide +kernel) (by decide +kernel)
set_option maxRecDepth 20000 in
theorem gX8_parent_X1_hasMember : GoodIn wsX8_parent (wsV RX8 94 RX1 yX1_hasMember wsX1_hasMember) := goodIn_app (goodIn_of _ (by decide +kernel)) ggX8_parent_X1_hasMember
set_option maxRecDepth 20000 in
theorem ggX8_parent_X1_hang : GoodIn wsX8_parent wsX1_hang := goodIn_r _ [29, 30, 31, 32, 14, 33, 34, 35, 36, 37, 20, 38, 25, 57, 58, 59, 60, 61, 62] (by decide +kernel) (by decide +kernel)
set_option maxRecDepth 20000 in
theorem gX8_parent_X1_hang : GoodIn wsX8_parent (wsV RX8 98 RX1 yX1_hang wsX1_hang) := goodIn_app (goodIn_of _ (by decide +kernel)) ggX8_parent_X1_hang
set_option maxRecDepth 20000 in
theorem ggX8_parent_X4_forgetSizes : GoodIn wsX8_parent wsX4_forgetSizes := goodIn_r _ [43, 44, 45, 46, 47, 48, 65, 66, 67, 68, 69, 70, 71, 72] (by decide +kernel) (by decide +kernel)
set_option maxRecDepth 20000 in
theorem gX8_parent_X4_forgetSizes : GoodIn wsX8_parent (wsV RX8 102 RX4 yX4_forgetSizes wsX4_forgetSizes) := goodIn_app (goodIn_of _ (by decide +kernel)) ggX8_parent_X4_forgetSizes
theorem dX8_parent_0 : decode cX8_parent 0 = .ok (.aload_n 0, 1) := by decide +kernel
theorem dX8_parent_1 : decode cX8_parent 1 = .ok (.getfield 12, 3) := by decide +kernel
theorem dX8_parent_4 : decode cX8_parent 4 = .ok (.iload_n 1, 1) := by decide +kernel
theorem dX8_parent_5 : decode cX8_parent 5 = .ok (.invokevirtual 79, 3) := by decide +kernel
theorem dX8_parent_8 : decode cX8_parent 8 = .ok (.astore 5, 2) := by decide +kernel
theorem dX8_parent_10 : decode cX8_parent 10 = .ok (.aload 5, 2) := by decide +kernel
theorem dX8_parent_12 : decode cX8_parent 12 = .ok (.ifnull 18, 3) := by decide +kernel
theorem dX8_parent_15 : decode cX8_parent 15 = .ok (.iload_n 2, 1) := by decide +kernel
theorem dX8_parent_16 : decode cX8_parent 16 = .ok (.ifCond .lt 14, 3) := by decide +kernel
theorem dX8_parent_19 : decode cX8_parent 19 = .ok (.iload_n 2, 1) := by decide +kernel
theorem dX8_parent_20 : decode cX8_parent 20 = .ok (.aload 5, 2) := by decide +kernel
theorem dX8_parent_22 : decode cX8_parent 22 = .ok (.getfield 83, 3) := by decide +kernel
theorem dX8_parent_25 : decode cX8_parent 25 = .ok (.iconst 1, 1) := by decide +kernel
theorem dX8_parent_26 : decode cX8_parent 26 = .ok (.isub, 1) := by decide +kernel
theorem dX8_parent_27 : decode cX8_parent 27 = .ok (.if_icmp .lt 6, 3) := by decide +kernel
theorem dX8_parent_30 : decode cX8_parent 30 = .ok (.ldc 63, 2) := by decide +kernel
theorem dX8_parent_32 : decode cX8_parent 32 = .ok (.ireturn, 1) := by decide +kernel
theorem dX8_parent_33 : decode cX8_parent 33 = .ok (.aload 5, 2) := by decide +kernel
theorem dX8_parent_35 : decode cX8_parent 35 = .ok (.iload_n 2, 1) := by decide +kernel
theorem dX8_parent_36 : decode cX8_parent 36 = .ok (.iload_n 3, 1) := by decide +kernel
theorem dX8_parent_37 : decode cX8_parent 37 = .ok (.invokevirtual 94, 3) := by decide +kernel
theorem dX8_parent_40 : decode cX8_parent 40 = .ok (.ifCond .eq 16, 3) := by decide +kernel
theorem dX8_parent_43 : decode cX8_parent 43 = .ok (.aload 5, 2) := by decide +kernel
theorem dX8_parent_45 : decode cX8_parent 45 = .ok (.iload_n 2, 1) := by decide +kernel
theorem dX8_parent_46 : decode cX8_parent 46 = .ok (.iconst 1, 1) := by decide +kernel
theorem dX8_parent_47 : decode cX8_parent 47 = .ok (.iadd, 1) := by decide +kernel
theorem dX8_parent_48 : decode cX8_parent 48 = .ok (.iload 4, 2) := by decide +kernel
theorem dX8_parent_50 : decode cX8_parent 50 = .ok (.invokevirtual 94, 3) := by decide +kernel
theorem dX8_parent_53 : decode cX8_parent 53 = .ok (.ifCond .ne 6, 3) := by decide +kernel
theorem dX8_parent_56 : decode cX8_parent 56 = .ok (.ldc 63, 2) := by decide +kernel
theorem dX8_parent_58 : decode cX8_parent 58 = .ok (.ireturn, 1) := by decide +kernel
theorem dX8_parent_59 : decode cX8_parent 59 = .ok (.aload 5, 2) := by decide +kernel
theorem dX8_parent_61 : decode cX8_parent 61 = .ok (.iload_n 2, 1) := by decide +kernel
theorem dX8_parent_62 : decode cX8_parent 62 = .ok (.iload_n 3, 1) := by decide +kernel
theorem dX8_parent_63 : decode cX8_parent 63 = .ok (.iload 4, 2) := by decide +kernel
theorem dX8_parent_65 : decode cX8_parent 65 = .ok (.invokevirtual 98, 3) := by decide +kernel
theorem dX8_parent_68 : decode cX8_parent 68 = .ok (.istore 6, 2) := by decide +kernel
theorem dX8_parent_70 : decode cX8_parent 70 = .ok (.aload_n 0, 1) := by decide +kernel
theorem dX8_parent_71 : decode cX8_parent 71 = .ok (.getfield 28, 3) := by decide +kernel
theorem dX8_parent_74 : decode cX8_parent 74 = .ok (.invokevirtual 102, 3) := by decide +kernel
theorem dX8_parent_77 : decode cX8_parent 77 = .ok (.iload 6, 2) := by decide +kernel
theorem dX8_parent_79 : decode cX8_parent 79 = .ok (.ireturn, 1) := by decide +kernel
set_option maxRecDepth 20000 in
theorem ggX8_lies_X6_find : GoodIn wsX8_lies wsX6_find := goodIn_r _ [7, 8, 9, 42, 43] (by decide +kernel) (by decide +kernel)
set_option maxRecDepth 20000 in
theorem gX8_lies_X6_find : GoodIn wsX8_lies (wsV RX8 79 RX6 yX6_find wsX6_find) := goodIn_app (goodIn_of _ (by decide +kernel)) ggX8_lies_X6_find
set_option maxRecDepth 20000 in
theorem ggX8_lies_X1_hasMember : GoodIn wsX8_lies wsX1_hasMember := goodIn_r _ [14, 15, 16, 17, 13, 18, 19, 20, 21, 22, 23, 24, 44, 45, 46, 47, 48, 49] (by decide +kernel) (by decide +kernel)
set_option maxRecDepth 20000 in
theorem gX8_lies_X1_hasMember : GoodIn wsX8_lies (wsV RX8 94 RX1 yX1_hasMember wsX1_hasMember) := goodIn_app (goodIn_of _ (by decide +kernel)) ggX8_lies_X1_hasMember
set_option maxRecDepth 20000 in
theorem ggX8_lies_X1_hasLevel : GoodIn wsX8_lies wsX1_hasLevel := goodIn_r _ [23, 24, 44, 45, 46, 47, 48, 49] (by decide +kernel) (by decide +kernel)
set_option maxRecDepth 20000 in
theorem gX8_lies_X1_hasLevel : GoodIn wsX8_lies (wsV RX8 105 RX1 yX1_hasLevel wsX1_hasLevel) := goodIn_app (goodIn_of _ (by decide +kernel)) ggX8_lies_X1_hasLevel
set_option maxRecDepth 20000 in
theorem ggX8_lies_X1_homeOf : GoodIn wsX8_lies wsX1_homeOf := goodIn_r _ [29, 30, 31, 32, 13, 33, 44, 45, 46, 47, 48, 49] (by decide +kernel) (by decide +kernel)
set_option maxRecDepth 20000 in
theorem gX8_lies_X1_homeOf : GoodIn wsX8_lies (wsV RX8 109 RX1 yX1_homeOf wsX1_homeOf) := goodIn_app (goodIn_of _ (by decide +kernel)) ggX8_lies_X1_homeOf
theorem dX8_lies_0 : decode cX8_lies 0 = .ok (.aload_n 0, 1) := by decide +kernel
theorem dX8_lies_1 : decode cX8_lies 1 = .ok (.getfield 12, 3) := by decide +kernel
theorem dX8_lies_4 : decode cX8_lies 4 = .ok (.iload_n 1, 1) := by decide +kernel
theorem dX8_lies_5 : decode cX8_lies 5 = .ok (.invokevirtual 79, 3) := by decide +kernel
theorem dX8_lies_8 : decode cX8_lies 8 = .ok (.astore 4, 2) := by decide +kernel
theorem dX8_lies_10 : decode cX8_lies 10 = .ok (.aload 4, 2) := by decide +kernel
theorem dX8_lies_12 : decode cX8_lies 12 = .ok (.ifnull 22, 3) := by decide +kernel
theorem dX8_lies_15 : decode cX8_lies 15 = .ok (.aload 4, 2) := by decide +kernel
theorem dX8_lies_17 : decode cX8_lies 17 = .ok (.iconst 0, 1) := by decide +kernel
theorem dX8_lies_18 : decode cX8_lies 18 = .ok (.iload_n 2, 1) := by decide +kernel
theorem dX8_lies_19 : decode cX8_lies 19 = .ok (.invokevirtual 94, 3) := by decide +kernel
theorem dX8_lies_22 : decode cX8_lies 22 = .ok (.ifCond .eq 12, 3) := by decide +kernel
theorem dX8_lies_25 : decode cX8_lies 25 = .ok (.aload 4, 2) := by decide +kernel
theorem dX8_lies_27 : decode cX8_lies 27 = .ok (.iload_n 3, 1) := by decide +kernel
theorem dX8_lies_28 : decode cX8_lies 28 = .ok (.invokevirtual 105, 3) := by decide +kernel
theorem dX8_lies_31 : decode cX8_lies 31 = .ok (.ifCond .ne 6, 3) := by decide +kernel
theorem dX8_lies_34 : decode cX8_lies 34 = .ok (.ldc 63, 2) := by decide +kernel
theorem dX8_lies_36 : decode cX8_lies 36 = .ok (.ireturn, 1) := by decide +kernel
theorem dX8_lies_37 : decode cX8_lies 37 = .ok (.aload 4, 2) := by decide +kernel
theorem dX8_lies_39 : decode cX8_lies 39 = .ok (.iload_n 2, 1) := by decide +kernel
theorem dX8_lies_40 : decode cX8_lies 40 = .ok (.iload_n 3, 1) := by decide +kernel
theorem dX8_lies_41 : decode cX8_lies 41 = .ok (.invokevirtual 109, 3) := by decide +kernel
theorem dX8_lies_44 : decode cX8_lies 44 = .ok (.ireturn, 1) := by decide +kernel
set_option maxRecDepth 20000 in
theorem ggX8_members_X6_find : GoodIn wsX8_members wsX6_find := goodIn_r _ [7, 8, 9, 30, 31] (by decide +kernel) (by decide +kernel)
set_option maxRecDepth 20000 in
theorem gX8_members_X6_find : GoodIn wsX8_members (wsV RX8 79 RX6 yX6_find wsX6_find) := goodIn_app (goodIn_of _ (by decide +kernel)) ggX8_members_X6_find
set_option maxRecDepth 20000 in
theorem ggX8_members_X1_hasLevel : GoodIn wsX8_members wsX1_hasLevel := goodIn_r _ [14, 15, 32, 33, 34, 35, 36, 37] (by decide +kernel) (by decide +kernel)
set_option maxRecDepth 20000 in
theorem gX8_members_X1_hasLevel : GoodIn wsX8_members (wsV RX8 105 RX1 yX1_hasLevel wsX1_hasLevel) := goodIn_app (goodIn_of _ (by decide +kernel)) ggX8_members_X1_hasLevel
set_option maxRecDepth 20000 in
theorem ggX8_members_X1_widthOf : GoodIn wsX8_members wsX1_widthOf := goodIn_r _ [19, 20, 21, 11, 12, 13, 14, 15, 32, 33, 34, 35, 36, 37] (by decide +kernel) (by decide +kernel)
set_option maxRecDepth 20000 in
theorem gX8_members_X1_widthOf : GoodIn wsX8_members (wsV RX8 88 RX1 yX1_widthOf wsX1_widthOf) := goodIn_app (goodIn_of _ (by decide +kernel)) ggX8_members_X1_widthOf
theorem dX8_members_0 : decode cX8_members 0 = .ok (.aload_n 0, 1) := by decide +kernel
theorem dX8_members_1 : decode cX8_members 1 = .ok (.getfield 12, 3) := by decide +kernel
theorem dX8_members_4 : decode cX8_members 4 = .ok (.iload_n 1, 1) := by decide +kernel
theorem dX8_members_5 : decode cX8_members 5 = .ok (.invokevirtual 79, 3) := by decide +kernel
theorem dX8_members_8 : decode cX8_members 8 = .ok (.astore_n 3, 1) := by decide +kernel
theorem dX8_members_9 : decode cX8_members 9 = .ok (.aload_n 3, 1) := by decide +kernel
theorem dX8_members_10 : decode cX8_members 10 = .ok (.ifnull 11, 3) := by decide +kernel
theorem dX8_members_13 : decode cX8_members 13 = .ok (.aload_n 3, 1) := by decide +kernel
theorem dX8_members_14 : decode cX8_members 14 = .ok (.iload_n 2, 1) := by decide +kernel
theorem dX8_members_15 : decode cX8_members 15 = .ok (.invokevirtual 105, 3) := by decide +kernel
theorem dX8_members_18 : decode cX8_members 18 = .ok (.ifCond .ne 6, 3) := by decide +kernel
theorem dX8_members_21 : decode cX8_members 21 = .ok (.ldc 63, 2) := by decide +kernel
theorem dX8_members_23 : decode cX8_members 23 = .ok (.ireturn, 1) := by decide +kernel
theorem dX8_members_24 : decode cX8_members 24 = .ok (.aload_n 3, 1) := by decide +kernel
theorem dX8_members_25 : decode cX8_members 25 = .ok (.iload_n 2, 1) := by decide +kernel
theorem dX8_members_26 : decode cX8_members 26 = .ok (.invokevirtual 88, 3) := by decide +kernel
theorem dX8_members_29 : decode cX8_members 29 = .ok (.ireturn, 1) := by decide +kernel
set_option maxRecDepth 20000 in
theorem ggX8_fact_X6_pack : GoodIn wsX8_fact wsX6_pack := goodIn_r _ [11, 12, 13, 14, 15, 10, 16, 17, 18, 19, 20, 21, 22, 23, 24, 25, 26, 27, 28, 29, 30, 31, 64, 65, 66, 67, 68, 69, 70, 71] (by decide +kernel) (by decide +kernel)
set_option maxRecDepth 20000 in
theorem gX8_fact_X6_pack : GoodIn wsX8_fact (wsV RX8 113 RX6 yX6_pack wsX6_pack) := goodIn_app (goodIn_of _ (by decide +kernel)) ggX8_fact_X6_pack
set_option maxRecDepth 20000 in
theorem ggX8_fact_X4_forgetSizes : GoodIn wsX8_fact wsX4_forgetSizes := goodIn_r _ [36, 37, 38, 39, 40, 41, 72, 73, 74, 75, 76, 77, 78, 79] (by decide +kernel) (by decide +kernel)
set_option maxRecDepth 20000 in
theorem gX8_fact_X4_forgetSizes : GoodIn wsX8_fact (wsV RX8 102 RX4 yX4_forgetSizes wsX4_forgetSizes) := goodIn_app (goodIn_of _ (by decide +kernel)) ggX8_fact_X4_forgetSizes
set_option maxRecDepth 20000 in
theorem ggX8_fact_X2_enter : GoodIn wsX8_fact wsX2_enter := goodIn_r _ [46, 47, 48, 49, 50, 59, 60, 61, 62, 63] (by decide +kernel) (by decide +kernel)
set_option maxRecDepth 20000 in
theorem gX8_fact_X2_enter : GoodIn wsX8_fact (wsV RX8 117 RX2 yX2_enter wsX2_enter) := goodIn_app (goodIn_of _ (by decide +kernel)) ggX8_fact_X2_enter
theorem dX8_fact_0 : decode cX8_fact 0 = .ok (.aload_n 0, 1) := by decide +kernel
theorem dX8_fact_1 : decode cX8_fact 1 = .ok (.getfield 12, 3) := by decide +kernel
theorem dX8_fact_4 : decode cX8_fact 4 = .ok (.aload_n 0, 1) := by decide +kernel
theorem dX8_fact_5 : decode cX8_fact 5 = .ok (.getfield 55, 3) := by decide +kernel
theorem dX8_fact_8 : decode cX8_fact 8 = .ok (.iconst 0, 1) := by decide +kernel
theorem dX8_fact_9 : decode cX8_fact 9 = .ok (.invokevirtual 113, 3) := by decide +kernel
theorem dX8_fact_12 : decode cX8_fact 12 = .ok (.istore_n 2, 1) := by decide +kernel
theorem dX8_fact_13 : decode cX8_fact 13 = .ok (.iload_n 2, 1) := by decide +kernel
theorem dX8_fact_14 : decode cX8_fact 14 = .ok (.ifCond .lt 17, 3) := by decide +kernel
theorem dX8_fact_17 : decode cX8_fact 17 = .ok (.iload_n 1, 1) := by decide +kernel
theorem dX8_fact_18 : decode cX8_fact 18 = .ok (.sipush (-1000), 3) := by decide +kernel
theorem dX8_fact_21 : decode cX8_fact 21 = .ok (.if_icmp .lt 10, 3) := by decide +kernel
theorem dX8_fact_24 : decode cX8_fact 24 = .ok (.iload_n 1, 1) := by decide +kernel
theorem dX8_fact_25 : decode cX8_fact 25 = .ok (.sipush 1000, 3) := by decide +kernel
theorem dX8_fact_28 : decode cX8_fact 28 = .ok (.if_icmp .le 6, 3) := by decide +kernel
theorem dX8_fact_31 : decode cX8_fact 31 = .ok (.ldc 63, 2) := by decide +kernel
theorem dX8_fact_33 : decode cX8_fact 33 = .ok (.ireturn, 1) := by decide +kernel
theorem dX8_fact_34 : decode cX8_fact 34 = .ok (.aload_n 0, 1) := by decide +kernel
theorem dX8_fact_35 : decode cX8_fact 35 = .ok (.getfield 19, 3) := by decide +kernel
theorem dX8_fact_38 : decode cX8_fact 38 = .ok (.getfield 64, 3) := by decide +kernel
theorem dX8_fact_41 : decode cX8_fact 41 = .ok (.sipush 300, 3) := by decide +kernel
theorem dX8_fact_44 : decode cX8_fact 44 = .ok (.if_icmp .lt 6, 3) := by decide +kernel
theorem dX8_fact_47 : decode cX8_fact 47 = .ok (.ldc 71, 2) := by decide +kernel
theorem dX8_fact_49 : decode cX8_fact 49 = .ok (.ireturn, 1) := by decide +kernel
theorem dX8_fact_50 : decode cX8_fact 50 = .ok (.aload_n 0, 1) := by decide +kernel
theorem dX8_fact_51 : decode cX8_fact 51 = .ok (.getfield 28, 3) := by decide +kernel
theorem dX8_fact_54 : decode cX8_fact 54 = .ok (.invokevirtual 102, 3) := by decide +kernel
theorem dX8_fact_57 : decode cX8_fact 57 = .ok (.aload_n 0, 1) := by decide +kernel
