theorem dX9_fact_8 : decode cX9_fact 8 = .ok (.aload_n 0, 1) := by decide +kernel
theorem dX9_fact_9 : decode cX9_fact 9 = .ok (.getfield 64, 3) := by decide +kernel
theorem dX9_fact_12 : decode cX9_fact 12 = .ok (.if_icmp .ge 27, 3) := by decide +kernel
theorem dX9_fact_15 : decode cX9_fact 15 = .ok (.aload_n 0, 1) := by decide +kernel
theorem dX9_fact_16 : decode cX9_fact 16 = .ok (.getfield 29, 3) := by decide +kernel
theorem dX9_fact_19 : decode cX9_fact 19 = .ok (.iload_n 2, 1) := by decide +kernel
theorem dX9_fact_20 : decode cX9_fact 20 = .ok (.iaload, 1) := by decide +kernel
theorem dX9_fact_21 : decode cX9_fact 21 = .ok (.aload_n 0, 1) := by decide +kernel
theorem dX9_fact_22 : decode cX9_fact 22 = .ok (.iload_n 2, 1) := by decide +kernel
theorem dX9_fact_23 : decode cX9_fact 23 = .ok (.iconst 0, 1) := by decide +kernel
theorem dX9_fact_24 : decode cX9_fact 24 = .ok (.invokevirtual 84, 3) := by decide +kernel
theorem dX9_fact_27 : decode cX9_fact 27 = .ok (.if_icmp .lt 6, 3) := by decide +kernel
theorem dX9_fact_30 : decode cX9_fact 30 = .ok (.ldc 74, 2) := by decide +kernel
theorem dX9_fact_32 : decode cX9_fact 32 = .ok (.ireturn, 1) := by decide +kernel
theorem dX9_fact_33 : decode cX9_fact 33 = .ok (.iinc 2 1, 3) := by decide +kernel
theorem dX9_fact_36 : decode cX9_fact 36 = .ok (.goto (-29), 3) := by decide +kernel
theorem dX9_fact_39 : decode cX9_fact 39 = .ok (.iload_n 1, 1) := by decide +kernel
theorem dX9_fact_40 : decode cX9_fact 40 = .ok (.sipush (-1000), 3) := by decide +kernel
theorem dX9_fact_43 : decode cX9_fact 43 = .ok (.sipush 1000, 3) := by decide +kernel
theorem dX9_fact_46 : decode cX9_fact 46 = .ok (.invokestatic 67, 3) := by decide +kernel
theorem dX9_fact_49 : decode cX9_fact 49 = .ok (.ifCond .ne 6, 3) := by decide +kernel
theorem dX9_fact_52 : decode cX9_fact 52 = .ok (.ldc 74, 2) := by decide +kernel
theorem dX9_fact_54 : decode cX9_fact 54 = .ok (.ireturn, 1) := by decide +kernel
theorem dX9_fact_55 : decode cX9_fact 55 = .ok (.aload_n 0, 1) := by decide +kernel
theorem dX9_fact_56 : decode cX9_fact 56 = .ok (.getfield 71, 3) := by decide +kernel
theorem dX9_fact_59 : decode cX9_fact 59 = .ok (.sipush 300, 3) := by decide +kernel
theorem dX9_fact_62 : decode cX9_fact 62 = .ok (.if_icmp .ne 6, 3) := by decide +kernel
theorem dX9_fact_65 : decode cX9_fact 65 = .ok (.ldc 76, 2) := by decide +kernel
theorem dX9_fact_67 : decode cX9_fact 67 = .ok (.ireturn, 1) := by decide +kernel
theorem dX9_fact_68 : decode cX9_fact 68 = .ok (.iconst 0, 1) := by decide +kernel
theorem dX9_fact_69 : decode cX9_fact 69 = .ok (.istore_n 2, 1) := by decide +kernel
theorem dX9_fact_70 : decode cX9_fact 70 = .ok (.iload_n 2, 1) := by decide +kernel
theorem dX9_fact_71 : decode cX9_fact 71 = .ok (.aload_n 0, 1) := by decide +kernel
theorem dX9_fact_72 : decode cX9_fact 72 = .ok (.getfield 64, 3) := by decide +kernel
theorem dX9_fact_75 : decode cX9_fact 75 = .ok (.if_icmp .ge 28, 3) := by decide +kernel
theorem dX9_fact_78 : decode cX9_fact 78 = .ok (.aload_n 0, 1) := by decide +kernel
theorem dX9_fact_79 : decode cX9_fact 79 = .ok (.getfield 19, 3) := by decide +kernel
theorem dX9_fact_82 : decode cX9_fact 82 = .ok (.iconst 4, 1) := by decide +kernel
theorem dX9_fact_83 : decode cX9_fact 83 = .ok (.aload_n 0, 1) := by decide +kernel
theorem dX9_fact_84 : decode cX9_fact 84 = .ok (.getfield 71, 3) := by decide +kernel
theorem dX9_fact_87 : decode cX9_fact 87 = .ok (.imul, 1) := by decide +kernel
theorem dX9_fact_88 : decode cX9_fact 88 = .ok (.iload_n 2, 1) := by decide +kernel
theorem dX9_fact_89 : decode cX9_fact 89 = .ok (.iadd, 1) := by decide +kernel
theorem dX9_fact_90 : decode cX9_fact 90 = .ok (.aload_n 0, 1) := by decide +kernel
theorem dX9_fact_91 : decode cX9_fact 91 = .ok (.getfield 29, 3) := by decide +kernel
theorem dX9_fact_94 : decode cX9_fact 94 = .ok (.iload_n 2, 1) := by decide +kernel
theorem dX9_fact_95 : decode cX9_fact 95 = .ok (.iaload, 1) := by decide +kernel
theorem dX9_fact_96 : decode cX9_fact 96 = .ok (.iastore, 1) := by decide +kernel
theorem dX9_fact_97 : decode cX9_fact 97 = .ok (.iinc 2 1, 3) := by decide +kernel
theorem dX9_fact_100 : decode cX9_fact 100 = .ok (.goto (-30), 3) := by decide +kernel
theorem dX9_fact_103 : decode cX9_fact 103 = .ok (.aload_n 0, 1) := by decide +kernel
theorem dX9_fact_104 : decode cX9_fact 104 = .ok (.getfield 22, 3) := by decide +kernel
theorem dX9_fact_107 : decode cX9_fact 107 = .ok (.aload_n 0, 1) := by decide +kernel
theorem dX9_fact_108 : decode cX9_fact 108 = .ok (.getfield 71, 3) := by decide +kernel
theorem dX9_fact_111 : decode cX9_fact 111 = .ok (.iload_n 1, 1) := by decide +kernel
theorem dX9_fact_112 : decode cX9_fact 112 = .ok (.iastore, 1) := by decide +kernel
theorem dX9_fact_113 : decode cX9_fact 113 = .ok (.aload_n 0, 1) := by decide +kernel
theorem dX9_fact_114 : decode cX9_fact 114 = .ok (.getfield 25, 3) := by decide +kernel
theorem dX9_fact_117 : decode cX9_fact 117 = .ok (.aload_n 0, 1) := by decide +kernel
theorem dX9_fact_118 : decode cX9_fact 118 = .ok (.getfield 71, 3) := by decide +kernel
theorem dX9_fact_121 : decode cX9_fact 121 = .ok (.iconst 1, 1) := by decide +kernel
theorem dX9_fact_122 : decode cX9_fact 122 = .ok (.bastore, 1) := by decide +kernel
theorem dX9_fact_123 : decode cX9_fact 123 = .ok (.aload_n 0, 1) := by decide +kernel
theorem dX9_fact_124 : decode cX9_fact 124 = .ok (.dup, 1) := by decide +kernel
theorem dX9_fact_125 : decode cX9_fact 125 = .ok (.getfield 71, 3) := by decide +kernel
theorem dX9_fact_128 : decode cX9_fact 128 = .ok (.iconst 1, 1) := by decide +kernel
theorem dX9_fact_129 : decode cX9_fact 129 = .ok (.iadd, 1) := by decide +kernel
theorem dX9_fact_130 : decode cX9_fact 130 = .ok (.putfield 71, 3) := by decide +kernel
theorem dX9_fact_133 : decode cX9_fact 133 = .ok (.aload_n 0, 1) := by decide +kernel
theorem dX9_fact_134 : decode cX9_fact 134 = .ok (.getfield 71, 3) := by decide +kernel
theorem dX9_fact_137 : decode cX9_fact 137 = .ok (.iconst 1, 1) := by decide +kernel
theorem dX9_fact_138 : decode cX9_fact 138 = .ok (.isub, 1) := by decide +kernel
theorem dX9_fact_139 : decode cX9_fact 139 = .ok (.ireturn, 1) := by decide +kernel
set_option maxRecDepth 20000 in
theorem ggX9_drop_X9_in : GoodIn wsX9_drop wsX9_in := goodIn_r _ [10] (by decide +kernel) (by decide +kernel)
set_option maxRecDepth 20000 in
theorem gX9_drop_X9_in : GoodIn wsX9_drop (va_wsS RX9 67 yX9_in wsX9_in) := goodIn_app (goodIn_of _ (by decide +kernel)) ggX9_drop_X9_in
theorem dX9_drop_0 : decode cX9_drop 0 = .ok (.aload_n 0, 1) := by decide +kernel
theorem dX9_drop_1 : decode cX9_drop 1 = .ok (.iconst 0, 1) := by decide +kernel
theorem dX9_drop_2 : decode cX9_drop 2 = .ok (.putfield 60, 3) := by decide +kernel
theorem dX9_drop_5 : decode cX9_drop 5 = .ok (.iload_n 1, 1) := by decide +kernel
theorem dX9_drop_6 : decode cX9_drop 6 = .ok (.iconst 0, 1) := by decide +kernel
theorem dX9_drop_7 : decode cX9_drop 7 = .ok (.aload_n 0, 1) := by decide +kernel
theorem dX9_drop_8 : decode cX9_drop 8 = .ok (.getfield 71, 3) := by decide +kernel
theorem dX9_drop_11 : decode cX9_drop 11 = .ok (.iconst 1, 1) := by decide +kernel
theorem dX9_drop_12 : decode cX9_drop 12 = .ok (.isub, 1) := by decide +kernel
theorem dX9_drop_13 : decode cX9_drop 13 = .ok (.invokestatic 67, 3) := by decide +kernel
theorem dX9_drop_16 : decode cX9_drop 16 = .ok (.ifCond .ne 6, 3) := by decide +kernel
theorem dX9_drop_19 : decode cX9_drop 19 = .ok (.ldc 74, 2) := by decide +kernel
theorem dX9_drop_21 : decode cX9_drop 21 = .ok (.ireturn, 1) := by decide +kernel
theorem dX9_drop_22 : decode cX9_drop 22 = .ok (.aload_n 0, 1) := by decide +kernel
theorem dX9_drop_23 : decode cX9_drop 23 = .ok (.getfield 25, 3) := by decide +kernel
theorem dX9_drop_26 : decode cX9_drop 26 = .ok (.iload_n 1, 1) := by decide +kernel
theorem dX9_drop_27 : decode cX9_drop 27 = .ok (.baload, 1) := by decide +kernel
theorem dX9_drop_28 : decode cX9_drop 28 = .ok (.ifCond .ne 6, 3) := by decide +kernel
theorem dX9_drop_31 : decode cX9_drop 31 = .ok (.ldc 75, 2) := by decide +kernel
theorem dX9_drop_33 : decode cX9_drop 33 = .ok (.ireturn, 1) := by decide +kernel
theorem dX9_drop_34 : decode cX9_drop 34 = .ok (.aload_n 0, 1) := by decide +kernel
theorem dX9_drop_35 : decode cX9_drop 35 = .ok (.getfield 25, 3) := by decide +kernel
theorem dX9_drop_38 : decode cX9_drop 38 = .ok (.iload_n 1, 1) := by decide +kernel
theorem dX9_drop_39 : decode cX9_drop 39 = .ok (.iconst 0, 1) := by decide +kernel
theorem dX9_drop_40 : decode cX9_drop 40 = .ok (.bastore, 1) := by decide +kernel
theorem dX9_drop_41 : decode cX9_drop 41 = .ok (.aload_n 0, 1) := by decide +kernel
theorem dX9_drop_42 : decode cX9_drop 42 = .ok (.getfield 22, 3) := by decide +kernel
theorem dX9_drop_45 : decode cX9_drop 45 = .ok (.iload_n 1, 1) := by decide +kernel
theorem dX9_drop_46 : decode cX9_drop 46 = .ok (.iaload, 1) := by decide +kernel
theorem dX9_drop_47 : decode cX9_drop 47 = .ok (.ireturn, 1) := by decide +kernel
set_option maxRecDepth 20000 in
theorem ggX9_pick_X9_in : GoodIn wsX9_pick wsX9_in := goodIn_r _ [7] (by decide +kernel) (by decide +kernel)
set_option maxRecDepth 20000 in
theorem gX9_pick_X9_in : GoodIn wsX9_pick (va_wsS RX9 67 yX9_in wsX9_in) := goodIn_app (goodIn_of _ (by decide +kernel)) ggX9_pick_X9_in
theorem dX9_pick_0 : decode cX9_pick 0 = .ok (.aload_n 0, 1) := by decide +kernel
theorem dX9_pick_1 : decode cX9_pick 1 = .ok (.iconst 0, 1) := by decide +kernel
theorem dX9_pick_2 : decode cX9_pick 2 = .ok (.putfield 60, 3) := by decide +kernel
theorem dX9_pick_5 : decode cX9_pick 5 = .ok (.iload_n 1, 1) := by decide +kernel
theorem dX9_pick_6 : decode cX9_pick 6 = .ok (.iconst 0, 1) := by decide +kernel
theorem dX9_pick_7 : decode cX9_pick 7 = .ok (.iconst 3, 1) := by decide +kernel
theorem dX9_pick_8 : decode cX9_pick 8 = .ok (.invokestatic 67, 3) := by decide +kernel
theorem dX9_pick_11 : decode cX9_pick 11 = .ok (.ifCond .eq 13, 3) := by decide +kernel
theorem dX9_pick_14 : decode cX9_pick 14 = .ok (.iload_n 2, 1) := by decide +kernel
theorem dX9_pick_15 : decode cX9_pick 15 = .ok (.iconst 0, 1) := by decide +kernel
theorem dX9_pick_16 : decode cX9_pick 16 = .ok (.bipush 7, 2) := by decide +kernel
theorem dX9_pick_18 : decode cX9_pick 18 = .ok (.invokestatic 67, 3) := by decide +kernel
theorem dX9_pick_21 : decode cX9_pick 21 = .ok (.ifCond .ne 6, 3) := by decide +kernel
theorem dX9_pick_24 : decode cX9_pick 24 = .ok (.ldc 74, 2) := by decide +kernel
theorem dX9_pick_26 : decode cX9_pick 26 = .ok (.ireturn, 1) := by decide +kernel
theorem dX9_pick_27 : decode cX9_pick 27 = .ok (.aload_n 0, 1) := by decide +kernel
theorem dX9_pick_28 : decode cX9_pick 28 = .ok (.getfield 29, 3) := by decide +kernel
theorem dX9_pick_31 : decode cX9_pick 31 = .ok (.iload_n 1, 1) := by decide +kernel
theorem dX9_pick_32 : decode cX9_pick 32 = .ok (.iaload, 1) := by decide +kernel
theorem dX9_pick_33 : decode cX9_pick 33 = .ok (.istore_n 3, 1) := by decide +kernel
theorem dX9_pick_34 : decode cX9_pick 34 = .ok (.aload_n 0, 1) := by decide +kernel
theorem dX9_pick_35 : decode cX9_pick 35 = .ok (.getfield 29, 3) := by decide +kernel
theorem dX9_pick_38 : decode cX9_pick 38 = .ok (.iload_n 1, 1) := by decide +kernel
theorem dX9_pick_39 : decode cX9_pick 39 = .ok (.iload_n 2, 1) := by decide +kernel
theorem dX9_pick_40 : decode cX9_pick 40 = .ok (.iastore, 1) := by decide +kernel
theorem dX9_pick_41 : decode cX9_pick 41 = .ok (.iload_n 3, 1) := by decide +kernel
theorem dX9_pick_42 : decode cX9_pick 42 = .ok (.ireturn, 1) := by decide +kernel
theorem dX9_all_0 : decode cX9_all 0 = .ok (.iconst 1, 1) := by decide +kernel
theorem dX9_all_1 : decode cX9_all 1 = .ok (.istore_n 1, 1) := by decide +kernel
theorem dX9_all_2 : decode cX9_all 2 = .ok (.iconst 0, 1) := by decide +kernel
theorem dX9_all_3 : decode cX9_all 3 = .ok (.istore_n 2, 1) := by decide +kernel
theorem dX9_all_4 : decode cX9_all 4 = .ok (.iload_n 2, 1) := by decide +kernel
theorem dX9_all_5 : decode cX9_all 5 = .ok (.aload_n 0, 1) := by decide +kernel
theorem dX9_all_6 : decode cX9_all 6 = .ok (.getfield 64, 3) := by decide +kernel
theorem dX9_all_9 : decode cX9_all 9 = .ok (.if_icmp .ge 20, 3) := by decide +kernel
theorem dX9_all_12 : decode cX9_all 12 = .ok (.iload_n 1, 1) := by decide +kernel
theorem dX9_all_13 : decode cX9_all 13 = .ok (.aload_n 0, 1) := by decide +kernel
theorem dX9_all_14 : decode cX9_all 14 = .ok (.getfield 7, 3) := by decide +kernel
theorem dX9_all_17 : decode cX9_all 17 = .ok (.iload_n 2, 1) := by decide +kernel
theorem dX9_all_18 : decode cX9_all 18 = .ok (.iaload, 1) := by decide +kernel
theorem dX9_all_19 : decode cX9_all 19 = .ok (.iconst 1, 1) := by decide +kernel
theorem dX9_all_20 : decode cX9_all 20 = .ok (.iadd, 1) := by decide +kernel
theorem dX9_all_21 : decode cX9_all 21 = .ok (.imul, 1) := by decide +kernel
theorem dX9_all_22 : decode cX9_all 22 = .ok (.istore_n 1, 1) := by decide +kernel
theorem dX9_all_23 : decode cX9_all 23 = .ok (.iinc 2 1, 3) := by decide +kernel
theorem dX9_all_26 : decode cX9_all 26 = .ok (.goto (-22), 3) := by decide +kernel
theorem dX9_all_29 : decode cX9_all 29 = .ok (.iload_n 1, 1) := by decide +kernel
theorem dX9_all_30 : decode cX9_all 30 = .ok (.ireturn, 1) := by decide +kernel
set_option maxRecDepth 20000 in
theorem ggX9_isCuboid_X9_all : GoodIn wsX9_isCuboid wsX9_all := goodIn_r _ [5, 6, 7, 11, 12, 13, 14, 15, 16, 17, 18, 19, 20, 21, 22, 23, 24, 25, 26, 27, 28, 29, 30, 31, 32, 33, 34, 35] (by decide +kernel) (by decide +kernel)
set_option maxRecDepth 20000 in
theorem gX9_isCuboid_X9_all : GoodIn wsX9_isCuboid (wsV RX9 92 RX9 yX9_all wsX9_all) := goodIn_app (goodIn_of _ (by decide +kernel)) ggX9_isCuboid_X9_all
set_option maxRecDepth 20000 in
theorem ggX9_isCuboid_X9_in : GoodIn wsX9_isCuboid wsX9_in := goodIn_r _ [10] (by decide +kernel) (by decide +kernel)
set_option maxRecDepth 20000 in
theorem gX9_isCuboid_X9_in : GoodIn wsX9_isCuboid (va_wsS RX9 67 yX9_in wsX9_in) := goodIn_app (goodIn_of _ (by decide +kernel)) ggX9_isCuboid_X9_in
theorem dX9_isCuboid_0 : decode cX9_isCuboid 0 = .ok (.iload_n 1, 1) := by decide +kernel
theorem dX9_isCuboid_1 : decode cX9_isCuboid 1 = .ok (.iconst 0, 1) := by decide +kernel
theorem dX9_isCuboid_2 : decode cX9_isCuboid 2 = .ok (.aload_n 0, 1) := by decide +kernel
theorem dX9_isCuboid_3 : decode cX9_isCuboid 3 = .ok (.invokevirtual 92, 3) := by decide +kernel
theorem dX9_isCuboid_6 : decode cX9_isCuboid 6 = .ok (.iconst 1, 1) := by decide +kernel
theorem dX9_isCuboid_7 : decode cX9_isCuboid 7 = .ok (.isub, 1) := by decide +kernel
theorem dX9_isCuboid_8 : decode cX9_isCuboid 8 = .ok (.invokestatic 67, 3) := by decide +kernel
theorem dX9_isCuboid_11 : decode cX9_isCuboid 11 = .ok (.ireturn, 1) := by decide +kernel
theorem dX9_levelIn_0 : decode cX9_levelIn 0 = .ok (.iload_n 1, 1) := by decide +kernel
theorem dX9_levelIn_1 : decode cX9_levelIn 1 = .ok (.istore_n 3, 1) := by decide +kernel
theorem dX9_levelIn_2 : decode cX9_levelIn 2 = .ok (.aload_n 0, 1) := by decide +kernel
theorem dX9_levelIn_3 : decode cX9_levelIn 3 = .ok (.getfield 64, 3) := by decide +kernel
theorem dX9_levelIn_6 : decode cX9_levelIn 6 = .ok (.iconst 1, 1) := by decide +kernel
theorem dX9_levelIn_7 : decode cX9_levelIn 7 = .ok (.isub, 1) := by decide +kernel
theorem dX9_levelIn_8 : decode cX9_levelIn 8 = .ok (.istore 4, 2) := by decide +kernel
theorem dX9_levelIn_10 : decode cX9_levelIn 10 = .ok (.iload 4, 2) := by decide +kernel
theorem dX9_levelIn_12 : decode cX9_levelIn 12 = .ok (.iload_n 2, 1) := by decide +kernel
theorem dX9_levelIn_13 : decode cX9_levelIn 13 = .ok (.if_icmp .le 21, 3) := by decide +kernel
theorem dX9_levelIn_16 : decode cX9_levelIn 16 = .ok (.iload_n 3, 1) := by decide +kernel
theorem dX9_levelIn_17 : decode cX9_levelIn 17 = .ok (.aload_n 0, 1) := by decide +kernel
theorem dX9_levelIn_18 : decode cX9_levelIn 18 = .ok (.getfield 7, 3) := by decide +kernel
theorem dX9_levelIn_21 : decode cX9_levelIn 21 = .ok (.iload 4, 2) := by decide +kernel
theorem dX9_levelIn_23 : decode cX9_levelIn 23 = .ok (.iaload, 1) := by decide +kernel
theorem dX9_levelIn_24 : decode cX9_levelIn 24 = .ok (.iconst 1, 1) := by decide +kernel
theorem dX9_levelIn_25 : decode cX9_levelIn 25 = .ok (.iadd, 1) := by decide +kernel
theorem dX9_levelIn_26 : decode cX9_levelIn 26 = .ok (.idiv, 1) := by decide +kernel
theorem dX9_levelIn_27 : decode cX9_levelIn 27 = .ok (.istore_n 3, 1) := by decide +kernel
theorem dX9_levelIn_28 : decode cX9_levelIn 28 = .ok (.iinc 4 (-1), 3) := by decide +kernel
theorem dX9_levelIn_31 : decode cX9_levelIn 31 = .ok (.goto (-21), 3) := by decide +kernel
theorem dX9_levelIn_34 : decode cX9_levelIn 34 = .ok (.iload_n 3, 1) := by decide +kernel
theorem dX9_levelIn_35 : decode cX9_levelIn 35 = .ok (.aload_n 0, 1) := by decide +kernel
theorem dX9_levelIn_36 : decode cX9_levelIn 36 = .ok (.getfield 7, 3) := by decide +kernel
theorem dX9_levelIn_39 : decode cX9_levelIn 39 = .ok (.iload_n 2, 1) := by decide +kernel
theorem dX9_levelIn_40 : decode cX9_levelIn 40 = .ok (.iaload, 1) := by decide +kernel
theorem dX9_levelIn_41 : decode cX9_levelIn 41 = .ok (.iconst 1, 1) := by decide +kernel
theorem dX9_levelIn_42 : decode cX9_levelIn 42 = .ok (.iadd, 1) := by decide +kernel
theorem dX9_levelIn_43 : decode cX9_levelIn 43 = .ok (.irem, 1) := by decide +kernel
theorem dX9_levelIn_44 : decode cX9_levelIn 44 = .ok (.ireturn, 1) := by decide +kernel
set_option maxRecDepth 20000 in
theorem ggX9_cuboids_X9_all : GoodIn wsX9_cuboids wsX9_all := goodIn_r _ [6, 7, 8, 9, 10, 11, 12, 13, 14, 15, 16, 17, 18, 19, 20, 21, 22, 23, 24, 25, 26, 27, 28, 29, 30, 31, 32, 33] (by decide +kernel) (by decide +kernel)
set_option maxRecDepth 20000 in
theorem gX9_cuboids_X9_all : GoodIn wsX9_cuboids (wsV RX9 92 RX9 yX9_all wsX9_all) := goodIn_app (goodIn_of _ (by decide +kernel)) ggX9_cuboids_X9_all
theorem dX9_cuboids_0 : decode cX9_cuboids 0 = .ok (.aload_n 0, 1) := by decide +kernel
theorem dX9_cuboids_1 : decode cX9_cuboids 1 = .ok (.iconst 0, 1) := by decide +kernel
theorem dX9_cuboids_2 : decode cX9_cuboids 2 = .ok (.putfield 60, 3) := by decide +kernel
theorem dX9_cuboids_5 : decode cX9_cuboids 5 = .ok (.aload_n 0, 1) := by decide +kernel
theorem dX9_cuboids_6 : decode cX9_cuboids 6 = .ok (.invokevirtual 92, 3) := by decide +kernel
theorem dX9_cuboids_9 : decode cX9_cuboids 9 = .ok (.ireturn, 1) := by decide +kernel
set_option maxRecDepth 20000 in
theorem ggX9_levelOf_X9_isCuboid : GoodIn wsX9_levelOf wsX9_isCuboid := goodIn_r _ [7, 8, 9, 10, 6, 11, 12, 13, 14, 15, 16, 25, 26, 27, 28, 29, 30, 31, 32, 33, 34, 35, 36, 37, 38, 39, 40, 41, 42, 43, 44, 45, 46, 47, 48, 49] (by decide +kernel) (by decide +kernel)
set_option maxRecDepth 20000 in
theorem gX9_levelOf_X9_isCuboid : GoodIn wsX9_levelOf (wsV RX9 96 RX9 yX9_isCuboid wsX9_isCuboid) := goodIn_app (goodIn_of _ (by decide +kernel)) ggX9_levelOf_X9_isCuboid
set_option maxRecDepth 20000 in
theorem ggX9_levelOf_X9_isDimension : GoodIn wsX9_levelOf wsX9_isDimension := goodIn_r _ [20, 12, 14, 15, 6, 16, 25, 26, 27, 28, 29, 30, 31, 32, 33, 34, 35, 36, 37, 38, 39, 40, 41, 42, 43, 44, 45, 46, 47, 48, 49] (by decide +kernel) (by decide +kernel)
set_option maxRecDepth 20000 in
theorem gX9_levelOf_X9_isDimension : GoodIn wsX9_levelOf (wsV RX9 80 RX9 yX9_isDimension wsX9_isDimension) := goodIn_app (goodIn_of _ (by decide +kernel)) ggX9_levelOf_X9_isDimension
set_option maxRecDepth 20000 in
theorem ggX9_levelOf_X9_levelIn : GoodIn wsX9_levelOf wsX9_levelIn := goodIn_r _ [24, 12, 13, 25, 26, 27, 28, 29, 30, 31, 32, 33, 34, 35, 36, 37, 38, 39, 40, 41, 42, 43, 44, 45, 46, 47, 48, 49] (by decide +kernel) (by decide +kernel)
set_option maxRecDepth 20000 in
theorem gX9_levelOf_X9_levelIn : GoodIn wsX9_levelOf (wsV RX9 99 RX9 yX9_levelIn wsX9_levelIn) := goodIn_app (goodIn_of _ (by decide +kernel)) ggX9_levelOf_X9_levelIn
theorem dX9_levelOf_0 : decode cX9_levelOf 0 = .ok (.aload_n 0, 1) := by decide +kernel
theorem dX9_levelOf_1 : decode cX9_levelOf 1 = .ok (.iconst 0, 1) := by decide +kernel
theorem dX9_levelOf_2 : decode cX9_levelOf 2 = .ok (.putfield 60, 3) := by decide +kernel
theorem dX9_levelOf_5 : decode cX9_levelOf 5 = .ok (.aload_n 0, 1) := by decide +kernel
theorem dX9_levelOf_6 : decode cX9_levelOf 6 = .ok (.iload_n 1, 1) := by decide +kernel
theorem dX9_levelOf_7 : decode cX9_levelOf 7 = .ok (.invokevirtual 96, 3) := by decide +kernel
theorem dX9_levelOf_10 : decode cX9_levelOf 10 = .ok (.ifCond .eq 20, 3) := by decide +kernel
theorem dX9_levelOf_13 : decode cX9_levelOf 13 = .ok (.aload_n 0, 1) := by decide +kernel
theorem dX9_levelOf_14 : decode cX9_levelOf 14 = .ok (.iload_n 2, 1) := by decide +kernel
theorem dX9_levelOf_15 : decode cX9_levelOf 15 = .ok (.invokevirtual 80, 3) := by decide +kernel
theorem dX9_levelOf_18 : decode cX9_levelOf 18 = .ok (.ifCond .eq 12, 3) := by decide +kernel
theorem dX9_levelOf_21 : decode cX9_levelOf 21 = .ok (.aload_n 0, 1) := by decide +kernel
theorem dX9_levelOf_22 : decode cX9_levelOf 22 = .ok (.iload_n 1, 1) := by decide +kernel
theorem dX9_levelOf_23 : decode cX9_levelOf 23 = .ok (.iload_n 2, 1) := by decide +kernel
theorem dX9_levelOf_24 : decode cX9_levelOf 24 = .ok (.invokevirtual 99, 3) := by decide +kernel
theorem dX9_levelOf_27 : decode cX9_levelOf 27 = .ok (.goto 5, 3) := by decide +kernel
theorem dX9_levelOf_30 : decode cX9_levelOf 30 = .ok (.ldc 74, 2) := by decide +kernel
theorem dX9_levelOf_32 : decode cX9_levelOf 32 = .ok (.ireturn, 1) := by decide +kernel
set_option maxRecDepth 20000 in
theorem ggX9_findGroups_X9_levelIn : GoodIn wsX9_findGroups wsX9_levelIn := goodIn_r _ [11, 2, 12, 18, 19, 20, 21, 22, 23, 24, 25, 26, 27, 28, 29, 30, 31, 32, 33, 34, 35, 36, 37, 38, 39, 40, 41, 42] (by decide +kernel) (by decide +kernel)
set_option maxRecDepth 20000 in
theorem gX9_findGroups_X9_levelIn : GoodIn wsX9_findGroups (wsV RX9 99 RX9 yX9_levelIn wsX9_levelIn) := goodIn_app (goodIn_of _ (by decide +kernel)) ggX9_findGroups_X9_levelIn
set_option maxRecDepth 20000 in
theorem ggX9_findGroups_X9_liesIn : GoodIn wsX9_findGroups wsX9_liesIn := goodIn_r _ [16, 12, 17, 18, 19, 20, 21, 22, 23, 24, 25, 26, 27, 28, 29, 30, 31, 32, 33, 34, 35, 36, 37, 38, 39, 40, 41, 42] (by decide +kernel) (by decide +kernel)
set_option maxRecDepth 20000 in
theorem gX9_findGroups_X9_liesIn : GoodIn wsX9_findGroups (wsV RX9 88 RX9 yX9_liesIn wsX9_liesIn) := goodIn_app (goodIn_of _ (by decide +kernel)) ggX9_findGroups_X9_liesIn
theorem dX9_findGroups_0 : decode cX9_findGroups 0 = .ok (.iconst 0, 1) := by decide +kernel
theorem dX9_findGroups_1 : decode cX9_findGroups 1 = .ok (.istore_n 2, 1) := by decide +kernel
theorem dX9_findGroups_2 : decode cX9_findGroups 2 = .ok (.iload_n 2, 1) := by decide +kernel
theorem dX9_findGroups_3 : decode cX9_findGroups 3 = .ok (.sipush 10000, 3) := by decide +kernel
theorem dX9_findGroups_6 : decode cX9_findGroups 6 = .ok (.if_icmp .ge 16, 3) := by decide +kernel
theorem dX9_findGroups_9 : decode cX9_findGroups 9 = .ok (.aload_n 0, 1) := by decide +kernel
theorem dX9_findGroups_10 : decode cX9_findGroups 10 = .ok (.getfield 44, 3) := by decide +kernel
theorem dX9_findGroups_13 : decode cX9_findGroups 13 = .ok (.iload_n 2, 1) := by decide +kernel
theorem dX9_findGroups_14 : decode cX9_findGroups 14 = .ok (.iconst 0, 1) := by decide +kernel
theorem dX9_findGroups_15 : decode cX9_findGroups 15 = .ok (.bastore, 1) := by decide +kernel
theorem dX9_findGroups_16 : decode cX9_findGroups 16 = .ok (.iinc 2 1, 3) := by decide +kernel
theorem dX9_findGroups_19 : decode cX9_findGroups 19 = .ok (.goto (-17), 3) := by decide +kernel
theorem dX9_findGroups_22 : decode cX9_findGroups 22 = .ok (.iconst 0, 1) := by decide +kernel
theorem dX9_findGroups_23 : decode cX9_findGroups 23 = .ok (.istore_n 2, 1) := by decide +kernel
theorem dX9_findGroups_24 : decode cX9_findGroups 24 = .ok (.iload_n 2, 1) := by decide +kernel
theorem dX9_findGroups_25 : decode cX9_findGroups 25 = .ok (.aload_n 0, 1) := by decide +kernel
theorem dX9_findGroups_26 : decode cX9_findGroups 26 = .ok (.getfield 64, 3) := by decide +kernel
theorem dX9_findGroups_29 : decode cX9_findGroups 29 = .ok (.if_icmp .ge 21, 3) := by decide +kernel
theorem dX9_findGroups_32 : decode cX9_findGroups 32 = .ok (.aload_n 0, 1) := by decide +kernel
theorem dX9_findGroups_33 : decode cX9_findGroups 33 = .ok (.getfield 47, 3) := by decide +kernel
theorem dX9_findGroups_36 : decode cX9_findGroups 36 = .ok (.iload_n 2, 1) := by decide +kernel
theorem dX9_findGroups_37 : decode cX9_findGroups 37 = .ok (.aload_n 0, 1) := by decide +kernel
theorem dX9_findGroups_38 : decode cX9_findGroups 38 = .ok (.iload_n 1, 1) := by decide +kernel
theorem dX9_findGroups_39 : decode cX9_findGroups 39 = .ok (.iload_n 2, 1) := by decide +kernel
theorem dX9_findGroups_40 : decode cX9_findGroups 40 = .ok (.invokevirtual 99, 3) := by decide +kernel
theorem dX9_findGroups_43 : decode cX9_findGroups 43 = .ok (.iastore, 1) := by decide +kernel
theorem dX9_findGroups_44 : decode cX9_findGroups 44 = .ok (.iinc 2 1, 3) := by decide +kernel
theorem dX9_findGroups_47 : decode cX9_findGroups 47 = .ok (.goto (-23), 3) := by decide +kernel
theorem dX9_findGroups_50 : decode cX9_findGroups 50 = .ok (.iconst 0, 1) := by decide +kernel
theorem dX9_findGroups_51 : decode cX9_findGroups 51 = .ok (.istore_n 2, 1) := by decide +kernel
theorem dX9_findGroups_52 : decode cX9_findGroups 52 = .ok (.iload_n 2, 1) := by decide +kernel
theorem dX9_findGroups_53 : decode cX9_findGroups 53 = .ok (.aload_n 0, 1) := by decide +kernel
theorem dX9_findGroups_54 : decode cX9_findGroups 54 = .ok (.getfield 71, 3) := by decide +kernel
theorem dX9_findGroups_57 : decode cX9_findGroups 57 = .ok (.if_icmp .ge 88, 3) := by decide +kernel
theorem dX9_findGroups_60 : decode cX9_findGroups 60 = .ok (.iconst 0, 1) := by decide +kernel
theorem dX9_findGroups_61 : decode cX9_findGroups 61 = .ok (.istore_n 3, 1) := by decide +kernel
theorem dX9_findGroups_62 : decode cX9_findGroups 62 = .ok (.iconst 0, 1) := by decide +kernel
theorem dX9_findGroups_63 : decode cX9_findGroups 63 = .ok (.istore 4, 2) := by decide +kernel
theorem dX9_findGroups_65 : decode cX9_findGroups 65 = .ok (.iload 4, 2) := by decide +kernel
theorem dX9_findGroups_67 : decode cX9_findGroups 67 = .ok (.aload_n 0, 1) := by decide +kernel
theorem dX9_findGroups_68 : decode cX9_findGroups 68 = .ok (.getfield 64, 3) := by decide +kernel
theorem dX9_findGroups_71 : decode cX9_findGroups 71 = .ok (.if_icmp .ge 39, 3) := by decide +kernel
theorem dX9_findGroups_74 : decode cX9_findGroups 74 = .ok (.bipush 10, 2) := by decide +kernel
theorem dX9_findGroups_76 : decode cX9_findGroups 76 = .ok (.iload_n 3, 1) := by decide +kernel
theorem dX9_findGroups_77 : decode cX9_findGroups 77 = .ok (.imul, 1) := by decide +kernel
theorem dX9_findGroups_78 : decode cX9_findGroups 78 = .ok (.aload_n 0, 1) := by decide +kernel
theorem dX9_findGroups_79 : decode cX9_findGroups 79 = .ok (.iload 4, 2) := by decide +kernel
theorem dX9_findGroups_81 : decode cX9_findGroups 81 = .ok (.aload_n 0, 1) := by decide +kernel
theorem dX9_findGroups_82 : decode cX9_findGroups 82 = .ok (.getfield 19, 3) := by decide +kernel
theorem dX9_findGroups_85 : decode cX9_findGroups 85 = .ok (.iconst 4, 1) := by decide +kernel
theorem dX9_findGroups_86 : decode cX9_findGroups 86 = .ok (.iload_n 2, 1) := by decide +kernel
theorem dX9_findGroups_87 : decode cX9_findGroups 87 = .ok (.imul, 1) := by decide +kernel
theorem dX9_findGroups_88 : decode cX9_findGroups 88 = .ok (.iload 4, 2) := by decide +kernel
theorem dX9_findGroups_90 : decode cX9_findGroups 90 = .ok (.iadd, 1) := by decide +kernel
theorem dX9_findGroups_91 : decode cX9_findGroups 91 = .ok (.iaload, 1) := by decide +kernel
theorem dX9_findGroups_92 : decode cX9_findGroups 92 = .ok (.aload_n 0, 1) := by decide +kernel
theorem dX9_findGroups_93 : decode cX9_findGroups 93 = .ok (.getfield 47, 3) := by decide +kernel
theorem dX9_findGroups_96 : decode cX9_findGroups 96 = .ok (.iload 4, 2) := by decide +kernel
theorem dX9_findGroups_98 : decode cX9_findGroups 98 = .ok (.iaload, 1) := by decide +kernel
theorem dX9_findGroups_99 : decode cX9_findGroups 99 = .ok (.invokevirtual 88, 3) := by decide +kernel
theorem dX9_findGroups_102 : decode cX9_findGroups 102 = .ok (.iadd, 1) := by decide +kernel
theorem dX9_findGroups_103 : decode cX9_findGroups 103 = .ok (.istore_n 3, 1) := by decide +kernel
theorem dX9_findGroups_104 : decode cX9_findGroups 104 = .ok (.iinc 4 1, 3) := by decide +kernel
theorem dX9_findGroups_107 : decode cX9_findGroups 107 = .ok (.goto (-42), 3) := by decide +kernel
theorem dX9_findGroups_110 : decode cX9_findGroups 110 = .ok (.aload_n 0, 1) := by decide +kernel
theorem dX9_findGroups_111 : decode cX9_findGroups 111 = .ok (.getfield 44, 3) := by decide +kernel
theorem dX9_findGroups_114 : decode cX9_findGroups 114 = .ok (.iload_n 3, 1) := by decide +kernel
theorem dX9_findGroups_115 : decode cX9_findGroups 115 = .ok (.aload_n 0, 1) := by decide +kernel
theorem dX9_findGroups_116 : decode cX9_findGroups 116 = .ok (.getfield 44, 3) := by decide +kernel
theorem dX9_findGroups_119 : decode cX9_findGroups 119 = .ok (.iload_n 3, 1) := by decide +kernel
theorem dX9_findGroups_120 : decode cX9_findGroups 120 = .ok (.baload, 1) := by decide +kernel
theorem dX9_findGroups_121 : decode cX9_findGroups 121 = .ok (.ifCond .ne 12, 3) := by decide +kernel
theorem dX9_findGroups_124 : decode cX9_findGroups 124 = .ok (.aload_n 0, 1) := by decide +kernel
theorem dX9_findGroups_125 : decode cX9_findGroups 125 = .ok (.getfield 25, 3) := by decide +kernel
theorem dX9_findGroups_128 : decode cX9_findGroups 128 = .ok (.iload_n 2, 1) := by decide +kernel
theorem dX9_findGroups_129 : decode cX9_findGroups 129 = .ok (.baload, 1) := by decide +kernel
theorem dX9_findGroups_130 : decode cX9_findGroups 130 = .ok (.ifCond .eq 7, 3) := by decide +kernel
theorem dX9_findGroups_133 : decode cX9_findGroups 133 = .ok (.iconst 1, 1) := by decide +kernel
theorem dX9_findGroups_134 : decode cX9_findGroups 134 = .ok (.goto 4, 3) := by decide +kernel
theorem dX9_findGroups_137 : decode cX9_findGroups 137 = .ok (.iconst 0, 1) := by decide +kernel
theorem dX9_findGroups_138 : decode cX9_findGroups 138 = .ok (.bastore, 1) := by decide +kernel
theorem dX9_findGroups_139 : decode cX9_findGroups 139 = .ok (.iinc 2 1, 3) := by decide +kernel
theorem dX9_findGroups_142 : decode cX9_findGroups 142 = .ok (.goto (-90), 3) := by decide +kernel
theorem dX9_findGroups_145 : decode cX9_findGroups 145 = .ok (.return_, 1) := by decide +kernel
set_option maxRecDepth 20000 in
theorem ggX9_sizeOf_X9_findGroups : GoodIn wsX9_sizeOf wsX9_findGroups := goodIn_r _ [6, 1, 7, 8, 9, 10, 11, 12, 13, 14, 5, 15, 16, 17, 18, 19, 20, 21, 22, 23, 24, 25, 26, 27, 28, 29, 30, 31, 32, 33, 34, 35, 36, 37, 38, 39, 40, 41, 42, 43, 44, 45, 46] (by decide +kernel) (by decide +kernel)
set_option maxRecDepth 20000 in
theorem gX9_sizeOf_X9_findGroups : GoodIn wsX9_sizeOf (wsV RX9 102 RX9 yX9_findGroups wsX9_findGroups) := goodIn_app (goodIn_of _ (by decide +kernel)) ggX9_sizeOf_X9_findGroups
theorem dX9_sizeOf_0 : decode cX9_sizeOf 0 = .ok (.aload_n 0, 1) := by decide +kernel
theorem dX9_sizeOf_1 : decode cX9_sizeOf 1 = .ok (.iload_n 1, 1) := by decide +kernel
theorem dX9_sizeOf_2 : decode cX9_sizeOf 2 = .ok (.invokevirtual 102, 3) := by decide +kernel
theorem dX9_sizeOf_5 : decode cX9_sizeOf 5 = .ok (.iconst 0, 1) := by decide +kernel
theorem dX9_sizeOf_6 : decode cX9_sizeOf 6 = .ok (.istore_n 2, 1) := by decide +kernel
theorem dX9_sizeOf_7 : decode cX9_sizeOf 7 = .ok (.iconst 0, 1) := by decide +kernel
theorem dX9_sizeOf_8 : decode cX9_sizeOf 8 = .ok (.istore_n 3, 1) := by decide +kernel
theorem dX9_sizeOf_9 : decode cX9_sizeOf 9 = .ok (.iload_n 3, 1) := by decide +kernel
theorem dX9_sizeOf_10 : decode cX9_sizeOf 10 = .ok (.sipush 10000, 3) := by decide +kernel
theorem dX9_sizeOf_13 : decode cX9_sizeOf 13 = .ok (.if_icmp .ge 26, 3) := by decide +kernel
theorem dX9_sizeOf_16 : decode cX9_sizeOf 16 = .ok (.iload_n 2, 1) := by decide +kernel
theorem dX9_sizeOf_17 : decode cX9_sizeOf 17 = .ok (.aload_n 0, 1) := by decide +kernel
theorem dX9_sizeOf_18 : decode cX9_sizeOf 18 = .ok (.getfield 44, 3) := by decide +kernel
theorem dX9_sizeOf_21 : decode cX9_sizeOf 21 = .ok (.iload_n 3, 1) := by decide +kernel
theorem dX9_sizeOf_22 : decode cX9_sizeOf 22 = .ok (.baload, 1) := by decide +kernel
theorem dX9_sizeOf_23 : decode cX9_sizeOf 23 = .ok (.ifCond .eq 7, 3) := by decide +kernel
theorem dX9_sizeOf_26 : decode cX9_sizeOf 26 = .ok (.iconst 1, 1) := by decide +kernel
theorem dX9_sizeOf_27 : decode cX9_sizeOf 27 = .ok (.goto 4, 3) := by decide +kernel
theorem dX9_sizeOf_30 : decode cX9_sizeOf 30 = .ok (.iconst 0, 1) := by decide +kernel
theorem dX9_sizeOf_31 : decode cX9_sizeOf 31 = .ok (.iadd, 1) := by decide +kernel
theorem dX9_sizeOf_32 : decode cX9_sizeOf 32 = .ok (.istore_n 2, 1) := by decide +kernel
theorem dX9_sizeOf_33 : decode cX9_sizeOf 33 = .ok (.iinc 3 1, 3) := by decide +kernel
theorem dX9_sizeOf_36 : decode cX9_sizeOf 36 = .ok (.goto (-27), 3) := by decide +kernel
theorem dX9_sizeOf_39 : decode cX9_sizeOf 39 = .ok (.iload_n 2, 1) := by decide +kernel
theorem dX9_sizeOf_40 : decode cX9_sizeOf 40 = .ok (.ireturn, 1) := by decide +kernel
set_option maxRecDepth 20000 in
theorem ggX9_size_X9_isCuboid : GoodIn wsX9_size wsX9_isCuboid := goodIn_r _ [7, 8, 9, 10, 6, 11, 12, 13, 14, 15, 16, 39, 40, 41, 42, 43, 44, 45, 46, 47, 48, 49, 50, 51, 52, 53, 54, 55, 56, 57, 58, 59, 60, 61, 62, 63] (by decide +kernel) (by decide +kernel)
set_option maxRecDepth 20000 in
theorem gX9_size_X9_isCuboid : GoodIn wsX9_size (wsV RX9 96 RX9 yX9_isCuboid wsX9_isCuboid) := goodIn_app (goodIn_of _ (by decide +kernel)) ggX9_size_X9_isCuboid
set_option maxRecDepth 20000 in
theorem ggX9_size_X9_sizeOf : GoodIn wsX9_size wsX9_sizeOf := goodIn_r _ [20, 21, 22, 23, 24, 6, 25, 12, 26, 27, 28, 29, 30, 31, 32, 33, 13, 34, 35, 36, 37, 38, 39, 40, 41, 42, 43, 44, 45, 46, 47, 48, 49, 50, 51, 52, 53, 54, 55, 56, 57, 58, 59, 60, 61, 62, 63] (by decide +kernel) (by decide +kernel)
set_option maxRecDepth 20000 in
theorem gX9_size_X9_sizeOf : GoodIn wsX9_size (wsV RX9 106 RX9 yX9_sizeOf wsX9_sizeOf) := goodIn_app (goodIn_of _ (by decide +kernel)) ggX9_size_X9_sizeOf
theorem dX9_size_0 : decode cX9_size 0 = .ok (.aload_n 0, 1) := by decide +kernel
theorem dX9_size_1 : decode cX9_size 1 = .ok (.iconst 0, 1) := by decide +kernel
theorem dX9_size_2 : decode cX9_size 2 = .ok (.putfield 60, 3) := by decide +kernel
theorem dX9_size_5 : decode cX9_size 5 = .ok (.aload_n 0, 1) := by decide +kernel
theorem dX9_size_6 : decode cX9_size 6 = .ok (.iload_n 1, 1) := by decide +kernel
theorem dX9_size_7 : decode cX9_size 7 = .ok (.invokevirtual 96, 3) := by decide +kernel
theorem dX9_size_10 : decode cX9_size 10 = .ok (.ifCond .eq 11, 3) := by decide +kernel
theorem dX9_size_13 : decode cX9_size 13 = .ok (.aload_n 0, 1) := by decide +kernel
theorem dX9_size_14 : decode cX9_size 14 = .ok (.iload_n 1, 1) := by decide +kernel
theorem dX9_size_15 : decode cX9_size 15 = .ok (.invokevirtual 106, 3) := by decide +kernel
theorem dX9_size_18 : decode cX9_size 18 = .ok (.goto 5, 3) := by decide +kernel
theorem dX9_size_21 : decode cX9_size 21 = .ok (.ldc 74, 2) := by decide +kernel
theorem dX9_size_23 : decode cX9_size 23 = .ok (.ireturn, 1) := by decide +kernel
set_option maxRecDepth 20000 in
theorem ggX9_servesIt_X9_levelIn : GoodIn wsX9_servesIt wsX9_levelIn := goodIn_r _ [6, 1, 7, 8, 9, 10, 11, 12, 13, 14, 15, 16, 17, 18, 19, 20, 21, 22, 23, 24, 25, 26, 27, 28, 29, 30, 31, 32] (by decide +kernel) (by decide +kernel)
set_option maxRecDepth 20000 in
theorem gX9_servesIt_X9_levelIn : GoodIn wsX9_servesIt (wsV RX9 99 RX9 yX9_levelIn wsX9_levelIn) := goodIn_app (goodIn_of _ (by decide +kernel)) ggX9_servesIt_X9_levelIn
theorem dX9_servesIt_0 : decode cX9_servesIt 0 = .ok (.iconst 1, 1) := by decide +kernel
theorem dX9_servesIt_1 : decode cX9_servesIt 1 = .ok (.istore_n 3, 1) := by decide +kernel
theorem dX9_servesIt_2 : decode cX9_servesIt 2 = .ok (.iconst 0, 1) := by decide +kernel
theorem dX9_servesIt_3 : decode cX9_servesIt 3 = .ok (.istore 4, 2) := by decide +kernel
theorem dX9_servesIt_5 : decode cX9_servesIt 5 = .ok (.iload 4, 2) := by decide +kernel
theorem dX9_servesIt_7 : decode cX9_servesIt 7 = .ok (.aload_n 0, 1) := by decide +kernel
theorem dX9_servesIt_8 : decode cX9_servesIt 8 = .ok (.getfield 64, 3) := by decide +kernel
theorem dX9_servesIt_11 : decode cX9_servesIt 11 = .ok (.if_icmp .ge 36, 3) := by decide +kernel
theorem dX9_servesIt_14 : decode cX9_servesIt 14 = .ok (.iload_n 3, 1) := by decide +kernel
theorem dX9_servesIt_15 : decode cX9_servesIt 15 = .ok (.ifCond .eq 24, 3) := by decide +kernel
theorem dX9_servesIt_18 : decode cX9_servesIt 18 = .ok (.aload_n 0, 1) := by decide +kernel
theorem dX9_servesIt_19 : decode cX9_servesIt 19 = .ok (.iload_n 1, 1) := by decide +kernel
theorem dX9_servesIt_20 : decode cX9_servesIt 20 = .ok (.iload 4, 2) := by decide +kernel
theorem dX9_servesIt_22 : decode cX9_servesIt 22 = .ok (.invokevirtual 99, 3) := by decide +kernel
theorem dX9_servesIt_25 : decode cX9_servesIt 25 = .ok (.aload_n 0, 1) := by decide +kernel
theorem dX9_servesIt_26 : decode cX9_servesIt 26 = .ok (.iload_n 2, 1) := by decide +kernel
theorem dX9_servesIt_27 : decode cX9_servesIt 27 = .ok (.iload 4, 2) := by decide +kernel
theorem dX9_servesIt_29 : decode cX9_servesIt 29 = .ok (.invokevirtual 99, 3) := by decide +kernel
theorem dX9_servesIt_32 : decode cX9_servesIt 32 = .ok (.if_icmp .gt 7, 3) := by decide +kernel
theorem dX9_servesIt_35 : decode cX9_servesIt 35 = .ok (.iconst 1, 1) := by decide +kernel
theorem dX9_servesIt_36 : decode cX9_servesIt 36 = .ok (.goto 4, 3) := by decide +kernel
theorem dX9_servesIt_39 : decode cX9_servesIt 39 = .ok (.iconst 0, 1) := by decide +kernel
theorem dX9_servesIt_40 : decode cX9_servesIt 40 = .ok (.istore_n 3, 1) := by decide +kernel
theorem dX9_servesIt_41 : decode cX9_servesIt 41 = .ok (.iinc 4 1, 3) := by decide +kernel
theorem dX9_servesIt_44 : decode cX9_servesIt 44 = .ok (.goto (-39), 3) := by decide +kernel
theorem dX9_servesIt_47 : decode cX9_servesIt 47 = .ok (.iload_n 3, 1) := by decide +kernel
theorem dX9_servesIt_48 : decode cX9_servesIt 48 = .ok (.ireturn, 1) := by decide +kernel
set_option maxRecDepth 20000 in
theorem ggX9_serves_X9_isCuboid : GoodIn wsX9_serves wsX9_isCuboid := goodIn_r _ [7, 8, 9, 10, 6, 11, 12, 13, 14, 15, 16, 25, 26, 27, 28, 29, 30, 31, 32, 33, 34, 35, 36, 37, 38, 39, 40, 41, 42, 43, 44, 45, 46, 47, 48, 49] (by decide +kernel) (by decide +kernel)
set_option maxRecDepth 20000 in
theorem gX9_serves_X9_isCuboid : GoodIn wsX9_serves (wsV RX9 96 RX9 yX9_isCuboid wsX9_isCuboid) := goodIn_app (goodIn_of _ (by decide +kernel)) ggX9_serves_X9_isCuboid
set_option maxRecDepth 20000 in
theorem ggX9_serves_X9_servesIt : GoodIn wsX9_serves wsX9_servesIt := goodIn_r _ [20, 12, 21, 22, 23, 6, 24, 13, 25, 26, 27, 28, 29, 30, 31, 32, 33, 34, 35, 36, 37, 38, 39, 40, 41, 42, 43, 44, 45, 46, 47, 48, 49] (by decide +kernel) (by decide +kernel)
set_option maxRecDepth 20000 in
theorem gX9_serves_X9_servesIt : GoodIn wsX9_serves (wsV RX9 110 RX9 yX9_servesIt wsX9_servesIt) := goodIn_app (goodIn_of _ (by decide +kernel)) ggX9_serves_X9_servesIt
theorem dX9_serves_0 : decode cX9_serves 0 = .ok (.aload_n 0, 1) := by decide +kernel
theorem dX9_serves_1 : decode cX9_serves 1 = .ok (.iconst 0, 1) := by decide +kernel
theorem dX9_serves_2 : decode cX9_serves 2 = .ok (.putfield 60, 3) := by decide +kernel
theorem dX9_serves_5 : decode cX9_serves 5 = .ok (.aload_n 0, 1) := by decide +kernel
theorem dX9_serves_6 : decode cX9_serves 6 = .ok (.iload_n 1, 1) := by decide +kernel
theorem dX9_serves_7 : decode cX9_serves 7 = .ok (.invokevirtual 96, 3) := by decide +kernel
theorem dX9_serves_10 : decode cX9_serves 10 = .ok (.ifCond .eq 11, 3) := by decide +kernel
theorem dX9_serves_13 : decode cX9_serves 13 = .ok (.aload_n 0, 1) := by decide +kernel
theorem dX9_serves_14 : decode cX9_serves 14 = .ok (.iload_n 2, 1) := by decide +kernel
theorem dX9_serves_15 : decode cX9_serves 15 = .ok (.invokevirtual 96, 3) := by decide +kernel
theorem dX9_serves_18 : decode cX9_serves 18 = .ok (.ifCond .ne 8, 3) := by decide +kernel
theorem dX9_serves_21 : decode cX9_serves 21 = .ok (.ldc 74, 2) := by decide +kernel
theorem dX9_serves_23 : decode cX9_serves 23 = .ok (.goto 17, 3) := by decide +kernel
theorem dX9_serves_26 : decode cX9_serves 26 = .ok (.aload_n 0, 1) := by decide +kernel
theorem dX9_serves_27 : decode cX9_serves 27 = .ok (.iload_n 1, 1) := by decide +kernel
theorem dX9_serves_28 : decode cX9_serves 28 = .ok (.iload_n 2, 1) := by decide +kernel
theorem dX9_serves_29 : decode cX9_serves 29 = .ok (.invokevirtual 110, 3) := by decide +kernel
theorem dX9_serves_32 : decode cX9_serves 32 = .ok (.ifCond .eq 7, 3) := by decide +kernel
theorem dX9_serves_35 : decode cX9_serves 35 = .ok (.iconst 1, 1) := by decide +kernel
theorem dX9_serves_36 : decode cX9_serves 36 = .ok (.goto 4, 3) := by decide +kernel
theorem dX9_serves_39 : decode cX9_serves 39 = .ok (.iconst 0, 1) := by decide +kernel
theorem dX9_serves_40 : decode cX9_serves 40 = .ok (.ireturn, 1) := by decide +kernel
set_option maxRecDepth 20000 in
theorem ggX9_keep_X9_isCuboid : GoodIn wsX9_keep wsX9_isCuboid := goodIn_r _ [9, 10, 11, 12, 8, 13, 14, 15, 16, 17, 18, 19, 20, 21, 22, 23, 24, 25, 26, 27, 28, 29, 30, 31, 32, 33, 34, 35, 36, 37, 38, 39, 40, 41, 42, 43] (by decide +kernel) (by decide +kernel)
set_option maxRecDepth 20000 in
theorem gX9_keep_X9_isCuboid : GoodIn wsX9_keep (wsV RX9 96 RX9 yX9_isCuboid wsX9_isCuboid) := goodIn_app (goodIn_of _ (by decide +kernel)) ggX9_keep_X9_isCuboid
theorem dX9_keep_0 : decode cX9_keep 0 = .ok (.aload_n 0, 1) := by decide +kernel
theorem dX9_keep_1 : decode cX9_keep 1 = .ok (.iconst 0, 1) := by decide +kernel
theorem dX9_keep_2 : decode cX9_keep 2 = .ok (.putfield 60, 3) := by decide +kernel
theorem dX9_keep_5 : decode cX9_keep 5 = .ok (.aload_n 0, 1) := by decide +kernel
theorem dX9_keep_6 : decode cX9_keep 6 = .ok (.iload_n 1, 1) := by decide +kernel
theorem dX9_keep_7 : decode cX9_keep 7 = .ok (.invokevirtual 96, 3) := by decide +kernel
theorem dX9_keep_10 : decode cX9_keep 10 = .ok (.ifCond .ne 6, 3) := by decide +kernel
theorem dX9_keep_13 : decode cX9_keep 13 = .ok (.ldc 74, 2) := by decide +kernel
theorem dX9_keep_15 : decode cX9_keep 15 = .ok (.ireturn, 1) := by decide +kernel
theorem dX9_keep_16 : decode cX9_keep 16 = .ok (.iload_n 1, 1) := by decide +kernel
theorem dX9_keep_17 : decode cX9_keep 17 = .ok (.ifCond .ne 10, 3) := by decide +kernel
theorem dX9_keep_20 : decode cX9_keep 20 = .ok (.iload_n 2, 1) := by decide +kernel
theorem dX9_keep_21 : decode cX9_keep 21 = .ok (.ifCond .ne 6, 3) := by decide +kernel
theorem dX9_keep_24 : decode cX9_keep 24 = .ok (.ldc 75, 2) := by decide +kernel
theorem dX9_keep_26 : decode cX9_keep 26 = .ok (.ireturn, 1) := by decide +kernel
theorem dX9_keep_27 : decode cX9_keep 27 = .ok (.aload_n 0, 1) := by decide +kernel
theorem dX9_keep_28 : decode cX9_keep 28 = .ok (.getfield 38, 3) := by decide +kernel
theorem dX9_keep_31 : decode cX9_keep 31 = .ok (.iload_n 1, 1) := by decide +kernel
theorem dX9_keep_32 : decode cX9_keep 32 = .ok (.baload, 1) := by decide +kernel
theorem dX9_keep_33 : decode cX9_keep 33 = .ok (.istore_n 3, 1) := by decide +kernel
theorem dX9_keep_34 : decode cX9_keep 34 = .ok (.aload_n 0, 1) := by decide +kernel
theorem dX9_keep_35 : decode cX9_keep 35 = .ok (.getfield 38, 3) := by decide +kernel
theorem dX9_keep_38 : decode cX9_keep 38 = .ok (.iload_n 1, 1) := by decide +kernel
theorem dX9_keep_39 : decode cX9_keep 39 = .ok (.iload_n 2, 1) := by decide +kernel
theorem dX9_keep_40 : decode cX9_keep 40 = .ok (.bastore, 1) := by decide +kernel
theorem dX9_keep_41 : decode cX9_keep 41 = .ok (.iload_n 3, 1) := by decide +kernel
theorem dX9_keep_42 : decode cX9_keep 42 = .ok (.iload_n 2, 1) := by decide +kernel
theorem dX9_keep_43 : decode cX9_keep 43 = .ok (.if_icmp .eq 7, 3) := by decide +kernel
theorem dX9_keep_46 : decode cX9_keep 46 = .ok (.iconst 1, 1) := by decide +kernel
theorem dX9_keep_47 : decode cX9_keep 47 = .ok (.goto 4, 3) := by decide +kernel
theorem dX9_keep_50 : decode cX9_keep 50 = .ok (.iconst 0, 1) := by decide +kernel
theorem dX9_keep_51 : decode cX9_keep 51 = .ok (.ireturn, 1) := by decide +kernel
set_option maxRecDepth 20000 in
theorem ggX9_kept_X9_isCuboid : GoodIn wsX9_kept wsX9_isCuboid := goodIn_r _ [8, 9, 10, 11, 7, 12, 13, 14, 15, 16, 17, 18, 19, 20, 21, 22, 23, 24, 25, 26, 27, 28, 29, 30, 31, 32, 33, 34, 35, 36, 37, 38, 39, 40, 41, 42] (by decide +kernel) (by decide +kernel)
set_option maxRecDepth 20000 in
theorem gX9_kept_X9_isCuboid : GoodIn wsX9_kept (wsV RX9 96 RX9 yX9_isCuboid wsX9_isCuboid) := goodIn_app (goodIn_of _ (by decide +kernel)) ggX9_kept_X9_isCuboid
theorem dX9_kept_0 : decode cX9_kept 0 = .ok (.aload_n 0, 1) := by decide +kernel
theorem dX9_kept_1 : decode cX9_kept 1 = .ok (.iconst 0, 1) := by decide +kernel
theorem dX9_kept_2 : decode cX9_kept 2 = .ok (.putfield 60, 3) := by decide +kernel
theorem dX9_kept_5 : decode cX9_kept 5 = .ok (.aload_n 0, 1) := by decide +kernel
theorem dX9_kept_6 : decode cX9_kept 6 = .ok (.iload_n 1, 1) := by decide +kernel
theorem dX9_kept_7 : decode cX9_kept 7 = .ok (.invokevirtual 96, 3) := by decide +kernel
theorem dX9_kept_10 : decode cX9_kept 10 = .ok (.ifCond .ne 8, 3) := by decide +kernel
theorem dX9_kept_13 : decode cX9_kept 13 = .ok (.ldc 74, 2) := by decide +kernel
theorem dX9_kept_15 : decode cX9_kept 15 = .ok (.goto 17, 3) := by decide +kernel
theorem dX9_kept_18 : decode cX9_kept 18 = .ok (.aload_n 0, 1) := by decide +kernel
theorem dX9_kept_19 : decode cX9_kept 19 = .ok (.getfield 38, 3) := by decide +kernel
theorem dX9_kept_22 : decode cX9_kept 22 = .ok (.iload_n 1, 1) := by decide +kernel
theorem dX9_kept_23 : decode cX9_kept 23 = .ok (.baload, 1) := by decide +kernel
theorem dX9_kept_24 : decode cX9_kept 24 = .ok (.ifCond .eq 7, 3) := by decide +kernel
theorem dX9_kept_27 : decode cX9_kept 27 = .ok (.iconst 1, 1) := by decide +kernel
theorem dX9_kept_28 : decode cX9_kept 28 = .ok (.goto 4, 3) := by decide +kernel
theorem dX9_kept_31 : decode cX9_kept 31 = .ok (.iconst 0, 1) := by decide +kernel
theorem dX9_kept_32 : decode cX9_kept 32 = .ok (.ireturn, 1) := by decide +kernel
set_option maxRecDepth 20000 in
theorem ggX9_measure_X9_all : GoodIn wsX9_measure wsX9_all := goodIn_r _ [7, 8, 9, 36, 37, 38, 39, 40, 41, 42, 43, 44, 45, 46, 47, 48, 49, 50, 51, 52, 53, 54, 55, 56, 57, 58, 59, 60] (by decide +kernel) (by decide +kernel)
set_option maxRecDepth 20000 in
theorem gX9_measure_X9_all : GoodIn wsX9_measure (wsV RX9 92 RX9 yX9_all wsX9_all) := goodIn_app (goodIn_of _ (by decide +kernel)) ggX9_measure_X9_all
set_option maxRecDepth 20000 in
theorem ggX9_measure_X9_sizeOf : GoodIn wsX9_measure wsX9_sizeOf := goodIn_r _ [13, 14, 15, 16, 17, 6, 18, 8, 19, 20, 21, 22, 23, 24, 25, 26, 9, 27, 28, 29, 30, 31, 36, 37, 38, 39, 40, 41, 42, 43, 44, 45, 46, 47, 48, 49, 50, 51, 52, 53, 54, 55, 56, 57, 58, 59, 60] (by decide +kernel) (by decide +kernel)
set_option maxRecDepth 20000 in
theorem gX9_measure_X9_sizeOf : GoodIn wsX9_measure (wsV RX9 106 RX9 yX9_sizeOf wsX9_sizeOf) := goodIn_app (goodIn_of _ (by decide +kernel)) ggX9_measure_X9_sizeOf
set_option maxRecDepth 20000 in
theorem ggX9_measure_X9_servesIt : GoodIn wsX9_measure wsX9_servesIt := goodIn_r _ [35, 8, 23, 24, 25, 6, 26, 9, 36, 37, 38, 39, 40, 41, 42, 43, 44, 45, 46, 47, 48, 49, 50, 51, 52, 53, 54, 55, 56, 57, 58, 59, 60] (by decide +kernel) (by decide +kernel)
set_option maxRecDepth 20000 in
theorem gX9_measure_X9_servesIt : GoodIn wsX9_measure (wsV RX9 110 RX9 yX9_servesIt wsX9_servesIt) := goodIn_app (goodIn_of _ (by decide +kernel)) ggX9_measure_X9_servesIt
theorem dX9_measure_0 : decode cX9_measure 0 = .ok (.aload_n 0, 1) := by decide +kernel
theorem dX9_measure_1 : decode cX9_measure 1 = .ok (.invokevirtual 92, 3) := by decide +kernel
theorem dX9_measure_4 : decode cX9_measure 4 = .ok (.istore_n 1, 1) := by decide +kernel
theorem dX9_measure_5 : decode cX9_measure 5 = .ok (.iconst 0, 1) := by decide +kernel
theorem dX9_measure_6 : decode cX9_measure 6 = .ok (.istore_n 2, 1) := by decide +kernel
theorem dX9_measure_7 : decode cX9_measure 7 = .ok (.iload_n 2, 1) := by decide +kernel
theorem dX9_measure_8 : decode cX9_measure 8 = .ok (.iload_n 1, 1) := by decide +kernel
theorem dX9_measure_9 : decode cX9_measure 9 = .ok (.if_icmp .ge 51, 3) := by decide +kernel
theorem dX9_measure_12 : decode cX9_measure 12 = .ok (.aload_n 0, 1) := by decide +kernel
theorem dX9_measure_13 : decode cX9_measure 13 = .ok (.getfield 50, 3) := by decide +kernel
theorem dX9_measure_16 : decode cX9_measure 16 = .ok (.iload_n 2, 1) := by decide +kernel
theorem dX9_measure_17 : decode cX9_measure 17 = .ok (.aload_n 0, 1) := by decide +kernel
theorem dX9_measure_18 : decode cX9_measure 18 = .ok (.iload_n 2, 1) := by decide +kernel
theorem dX9_measure_19 : decode cX9_measure 19 = .ok (.invokevirtual 106, 3) := by decide +kernel
theorem dX9_measure_22 : decode cX9_measure 22 = .ok (.iastore, 1) := by decide +kernel
theorem dX9_measure_23 : decode cX9_measure 23 = .ok (.iconst 0, 1) := by decide +kernel
theorem dX9_measure_24 : decode cX9_measure 24 = .ok (.istore_n 3, 1) := by decide +kernel
theorem dX9_measure_25 : decode cX9_measure 25 = .ok (.iload_n 3, 1) := by decide +kernel
theorem dX9_measure_26 : decode cX9_measure 26 = .ok (.iload_n 1, 1) := by decide +kernel
theorem dX9_measure_27 : decode cX9_measure 27 = .ok (.if_icmp .ge 27, 3) := by decide +kernel
theorem dX9_measure_30 : decode cX9_measure 30 = .ok (.aload_n 0, 1) := by decide +kernel
theorem dX9_measure_31 : decode cX9_measure 31 = .ok (.getfield 54, 3) := by decide +kernel
theorem dX9_measure_34 : decode cX9_measure 34 = .ok (.sipush 256, 3) := by decide +kernel
theorem dX9_measure_37 : decode cX9_measure 37 = .ok (.iload_n 2, 1) := by decide +kernel
theorem dX9_measure_38 : decode cX9_measure 38 = .ok (.imul, 1) := by decide +kernel
theorem dX9_measure_39 : decode cX9_measure 39 = .ok (.iload_n 3, 1) := by decide +kernel
theorem dX9_measure_40 : decode cX9_measure 40 = .ok (.iadd, 1) := by decide +kernel
theorem dX9_measure_41 : decode cX9_measure 41 = .ok (.aload_n 0, 1) := by decide +kernel
theorem dX9_measure_42 : decode cX9_measure 42 = .ok (.iload_n 2, 1) := by decide +kernel
theorem dX9_measure_43 : decode cX9_measure 43 = .ok (.iload_n 3, 1) := by decide +kernel
theorem dX9_measure_44 : decode cX9_measure 44 = .ok (.invokevirtual 110, 3) := by decide +kernel
theorem dX9_measure_47 : decode cX9_measure 47 = .ok (.bastore, 1) := by decide +kernel
theorem dX9_measure_48 : decode cX9_measure 48 = .ok (.iinc 3 1, 3) := by decide +kernel
theorem dX9_measure_51 : decode cX9_measure 51 = .ok (.goto (-26), 3) := by decide +kernel
theorem dX9_measure_54 : decode cX9_measure 54 = .ok (.iinc 2 1, 3) := by decide +kernel
theorem dX9_measure_57 : decode cX9_measure 57 = .ok (.goto (-50), 3) := by decide +kernel
theorem dX9_measure_60 : decode cX9_measure 60 = .ok (.return_, 1) := by decide +kernel
set_option maxRecDepth 20000 in
theorem ggX9_serverOf_X9_all : GoodIn wsX9_serverOf wsX9_all := goodIn_r _ [8, 9, 10, 11, 12, 13, 14, 15, 16, 17, 18, 19, 20, 21, 22, 23, 24, 25, 26, 27, 28, 29, 30, 31, 32, 33, 34, 35] (by decide +kernel) (by decide +kernel)
set_option maxRecDepth 20000 in
theorem gX9_serverOf_X9_all : GoodIn wsX9_serverOf (wsV RX9 92 RX9 yX9_all wsX9_all) := goodIn_app (goodIn_of _ (by decide +kernel)) ggX9_serverOf_X9_all
theorem dX9_serverOf_0 : decode cX9_serverOf 0 = .ok (.iconst 0, 1) := by decide +kernel
theorem dX9_serverOf_1 : decode cX9_serverOf 1 = .ok (.istore_n 2, 1) := by decide +kernel
theorem dX9_serverOf_2 : decode cX9_serverOf 2 = .ok (.iconst 1, 1) := by decide +kernel
theorem dX9_serverOf_3 : decode cX9_serverOf 3 = .ok (.istore_n 3, 1) := by decide +kernel
theorem dX9_serverOf_4 : decode cX9_serverOf 4 = .ok (.iload_n 3, 1) := by decide +kernel
theorem dX9_serverOf_5 : decode cX9_serverOf 5 = .ok (.aload_n 0, 1) := by decide +kernel
theorem dX9_serverOf_6 : decode cX9_serverOf 6 = .ok (.invokevirtual 92, 3) := by decide +kernel
theorem dX9_serverOf_9 : decode cX9_serverOf 9 = .ok (.if_icmp .ge 54, 3) := by decide +kernel
theorem dX9_serverOf_12 : decode cX9_serverOf 12 = .ok (.aload_n 0, 1) := by decide +kernel
theorem dX9_serverOf_13 : decode cX9_serverOf 13 = .ok (.getfield 38, 3) := by decide +kernel
theorem dX9_serverOf_16 : decode cX9_serverOf 16 = .ok (.iload_n 3, 1) := by decide +kernel
theorem dX9_serverOf_17 : decode cX9_serverOf 17 = .ok (.baload, 1) := by decide +kernel
theorem dX9_serverOf_18 : decode cX9_serverOf 18 = .ok (.ifCond .eq 37, 3) := by decide +kernel
theorem dX9_serverOf_21 : decode cX9_serverOf 21 = .ok (.aload_n 0, 1) := by decide +kernel
theorem dX9_serverOf_22 : decode cX9_serverOf 22 = .ok (.getfield 54, 3) := by decide +kernel
theorem dX9_serverOf_25 : decode cX9_serverOf 25 = .ok (.sipush 256, 3) := by decide +kernel
theorem dX9_serverOf_28 : decode cX9_serverOf 28 = .ok (.iload_n 3, 1) := by decide +kernel
theorem dX9_serverOf_29 : decode cX9_serverOf 29 = .ok (.imul, 1) := by decide +kernel
theorem dX9_serverOf_30 : decode cX9_serverOf 30 = .ok (.iload_n 1, 1) := by decide +kernel
theorem dX9_serverOf_31 : decode cX9_serverOf 31 = .ok (.iadd, 1) := by decide +kernel
theorem dX9_serverOf_32 : decode cX9_serverOf 32 = .ok (.baload, 1) := by decide +kernel
theorem dX9_serverOf_33 : decode cX9_serverOf 33 = .ok (.ifCond .eq 22, 3) := by decide +kernel
theorem dX9_serverOf_36 : decode cX9_serverOf 36 = .ok (.aload_n 0, 1) := by decide +kernel
theorem dX9_serverOf_37 : decode cX9_serverOf 37 = .ok (.getfield 50, 3) := by decide +kernel
theorem dX9_serverOf_40 : decode cX9_serverOf 40 = .ok (.iload_n 3, 1) := by decide +kernel
theorem dX9_serverOf_41 : decode cX9_serverOf 41 = .ok (.iaload, 1) := by decide +kernel
theorem dX9_serverOf_42 : decode cX9_serverOf 42 = .ok (.aload_n 0, 1) := by decide +kernel
theorem dX9_serverOf_43 : decode cX9_serverOf 43 = .ok (.getfield 50, 3) := by decide +kernel
theorem dX9_serverOf_46 : decode cX9_serverOf 46 = .ok (.iload_n 2, 1) := by decide +kernel
theorem dX9_serverOf_47 : decode cX9_serverOf 47 = .ok (.iaload, 1) := by decide +kernel
theorem dX9_serverOf_48 : decode cX9_serverOf 48 = .ok (.if_icmp .ge 7, 3) := by decide +kernel
theorem dX9_serverOf_51 : decode cX9_serverOf 51 = .ok (.iload_n 3, 1) := by decide +kernel
theorem dX9_serverOf_52 : decode cX9_serverOf 52 = .ok (.goto 4, 3) := by decide +kernel
theorem dX9_serverOf_55 : decode cX9_serverOf 55 = .ok (.iload_n 2, 1) := by decide +kernel
theorem dX9_serverOf_56 : decode cX9_serverOf 56 = .ok (.istore_n 2, 1) := by decide +kernel
theorem dX9_serverOf_57 : decode cX9_serverOf 57 = .ok (.iinc 3 1, 3) := by decide +kernel
theorem dX9_serverOf_60 : decode cX9_serverOf 60 = .ok (.goto (-56), 3) := by decide +kernel
theorem dX9_serverOf_63 : decode cX9_serverOf 63 = .ok (.iload_n 2, 1) := by decide +kernel
theorem dX9_serverOf_64 : decode cX9_serverOf 64 = .ok (.ireturn, 1) := by decide +kernel
set_option maxRecDepth 20000 in
theorem ggX9_cost_X9_isCuboid : GoodIn wsX9_cost wsX9_isCuboid := goodIn_r _ [8, 9, 10, 11, 7, 12, 13, 14, 15, 16, 17, 54, 55, 56, 57, 58, 59, 60, 61, 62, 63, 64, 65, 66, 67, 68, 69, 70, 71, 72, 73, 74, 75, 76, 77, 78] (by decide +kernel) (by decide +kernel)
set_option maxRecDepth 20000 in
theorem gX9_cost_X9_isCuboid : GoodIn wsX9_cost (wsV RX9 96 RX9 yX9_isCuboid wsX9_isCuboid) := goodIn_app (goodIn_of _ (by decide +kernel)) ggX9_cost_X9_isCuboid
set_option maxRecDepth 20000 in
theorem ggX9_cost_X9_measure : GoodIn wsX9_cost wsX9_measure := goodIn_r _ [21, 3, 22, 9, 10, 11, 7, 12, 13, 14, 23, 24, 25, 26, 27, 28, 29, 30, 31, 32, 33, 34, 35, 36, 37, 38, 39, 40, 41, 42, 43, 44, 45, 46, 47, 48, 54, 55, 56, 57, 58, 59, 60, 61, 62, 63, 64, 65, 66, 67, 68, 69, 70, 71, 72, 73, 74, 75, 76, 77, 78] (by decide +kernel) (by decide +kernel)
set_option maxRecDepth 20000 in
theorem gX9_cost_X9_measure : GoodIn wsX9_cost (wsV RX9 114 RX9 yX9_measure wsX9_measure) := goodIn_app (goodIn_of _ (by decide +kernel)) ggX9_cost_X9_measure
set_option maxRecDepth 20000 in
theorem ggX9_cost_X9_serverOf : GoodIn wsX9_cost wsX9_serverOf := goodIn_r _ [52, 53, 22, 3, 9, 10, 11, 7, 12, 13, 14, 54, 55, 56, 57, 58, 59, 60, 61, 62, 63, 64, 65, 66, 67, 68, 69, 70, 71, 72, 73, 74, 75, 76, 77, 78] (by decide +kernel) (by decide +kernel)
set_option maxRecDepth 20000 in
theorem gX9_cost_X9_serverOf : GoodIn wsX9_cost (wsV RX9 117 RX9 yX9_serverOf wsX9_serverOf) := goodIn_app (goodIn_of _ (by decide +kernel)) ggX9_cost_X9_serverOf
theorem dX9_cost_0 : decode cX9_cost 0 = .ok (.aload_n 0, 1) := by decide +kernel
theorem dX9_cost_1 : decode cX9_cost 1 = .ok (.iconst 0, 1) := by decide +kernel
theorem dX9_cost_2 : decode cX9_cost 2 = .ok (.putfield 60, 3) := by decide +kernel
theorem dX9_cost_5 : decode cX9_cost 5 = .ok (.aload_n 0, 1) := by decide +kernel
theorem dX9_cost_6 : decode cX9_cost 6 = .ok (.iload_n 1, 1) := by decide +kernel
theorem dX9_cost_7 : decode cX9_cost 7 = .ok (.invokevirtual 96, 3) := by decide +kernel
theorem dX9_cost_10 : decode cX9_cost 10 = .ok (.ifCond .ne 6, 3) := by decide +kernel
theorem dX9_cost_13 : decode cX9_cost 13 = .ok (.ldc 74, 2) := by decide +kernel
theorem dX9_cost_15 : decode cX9_cost 15 = .ok (.ireturn, 1) := by decide +kernel
theorem dX9_cost_16 : decode cX9_cost 16 = .ok (.aload_n 0, 1) := by decide +kernel
theorem dX9_cost_17 : decode cX9_cost 17 = .ok (.invokevirtual 114, 3) := by decide +kernel
theorem dX9_cost_20 : decode cX9_cost 20 = .ok (.aload_n 0, 1) := by decide +kernel
theorem dX9_cost_21 : decode cX9_cost 21 = .ok (.getfield 50, 3) := by decide +kernel
theorem dX9_cost_24 : decode cX9_cost 24 = .ok (.aload_n 0, 1) := by decide +kernel
theorem dX9_cost_25 : decode cX9_cost 25 = .ok (.iload_n 1, 1) := by decide +kernel
theorem dX9_cost_26 : decode cX9_cost 26 = .ok (.invokevirtual 117, 3) := by decide +kernel
theorem dX9_cost_29 : decode cX9_cost 29 = .ok (.iaload, 1) := by decide +kernel
theorem dX9_cost_30 : decode cX9_cost 30 = .ok (.ireturn, 1) := by decide +kernel
set_option maxRecDepth 20000 in
theorem ggX9_server_X9_isCuboid : GoodIn wsX9_server wsX9_isCuboid := goodIn_r _ [7, 8, 9, 10, 6, 11, 12, 13, 14, 15, 16, 54, 55, 56, 57, 58, 59, 60, 61, 62, 63, 64, 65, 66, 67, 68, 69, 70, 71, 72, 73, 74, 75, 76, 77, 78] (by decide +kernel) (by decide +kernel)
set_option maxRecDepth 20000 in
theorem gX9_server_X9_isCuboid : GoodIn wsX9_server (wsV RX9 96 RX9 yX9_isCuboid wsX9_isCuboid) := goodIn_app (goodIn_of _ (by decide +kernel)) ggX9_server_X9_isCuboid
set_option maxRecDepth 20000 in
theorem ggX9_server_X9_measure : GoodIn wsX9_server wsX9_measure := goodIn_r _ [20, 21, 22, 8, 9, 10, 6, 11, 12, 13, 23, 24, 25, 26, 27, 28, 29, 30, 31, 32, 33, 34, 35, 36, 37, 38, 39, 40, 41, 42, 43, 44, 45, 46, 47, 48, 54, 55, 56, 57, 58, 59, 60, 61, 62, 63, 64, 65, 66, 67, 68, 69, 70, 71, 72, 73, 74, 75, 76, 77, 78] (by decide +kernel) (by decide +kernel)
set_option maxRecDepth 20000 in
theorem gX9_server_X9_measure : GoodIn wsX9_server (wsV RX9 114 RX9 yX9_measure wsX9_measure) := goodIn_app (goodIn_of _ (by decide +kernel)) ggX9_server_X9_measure
set_option maxRecDepth 20000 in
theorem ggX9_server_X9_serverOf : GoodIn wsX9_server wsX9_serverOf := goodIn_r _ [52, 53, 22, 21, 8, 9, 10, 6, 11, 12, 13, 54, 55, 56, 57, 58, 59, 60, 61, 62, 63, 64, 65, 66, 67, 68, 69, 70, 71, 72, 73, 74, 75, 76, 77, 78] (by decide +kernel) (by decide +kernel)
set_option maxRecDepth 20000 in
theorem gX9_server_X9_serverOf : GoodIn wsX9_server (wsV RX9 117 RX9 yX9_serverOf wsX9_serverOf) := goodIn_app (goodIn_of _ (by decide +kernel)) ggX9_server_X9_serverOf
theorem dX9_server_0 : decode cX9_server 0 = .ok (.aload_n 0, 1) := by decide +kernel
theorem dX9_server_1 : decode cX9_server 1 = .ok (.iconst 0, 1) := by decide +kernel
theorem dX9_server_2 : decode cX9_server 2 = .ok (.putfield 60, 3) := by decide +kernel
theorem dX9_server_5 : decode cX9_server 5 = .ok (.aload_n 0, 1) := by decide +kernel
theorem dX9_server_6 : decode cX9_server 6 = .ok (.iload_n 1, 1) := by decide +kernel
theorem dX9_server_7 : decode cX9_server 7 = .ok (.invokevirtual 96, 3) := by decide +kernel
theorem dX9_server_10 : decode cX9_server 10 = .ok (.ifCond .ne 6, 3) := by decide +kernel
theorem dX9_server_13 : decode cX9_server 13 = .ok (.ldc 74, 2) := by decide +kernel
theorem dX9_server_15 : decode cX9_server 15 = .ok (.ireturn, 1) := by decide +kernel
theorem dX9_server_16 : decode cX9_server 16 = .ok (.aload_n 0, 1) := by decide +kernel
theorem dX9_server_17 : decode cX9_server 17 = .ok (.invokevirtual 114, 3) := by decide +kernel
theorem dX9_server_20 : decode cX9_server 20 = .ok (.aload_n 0, 1) := by decide +kernel
theorem dX9_server_21 : decode cX9_server 21 = .ok (.iload_n 1, 1) := by decide +kernel
theorem dX9_server_22 : decode cX9_server 22 = .ok (.invokevirtual 117, 3) := by decide +kernel
theorem dX9_server_25 : decode cX9_server 25 = .ok (.ireturn, 1) := by decide +kernel
set_option maxRecDepth 20000 in
theorem ggX9_findCosts_X9_all : GoodIn wsX9_findCosts wsX9_all := goodIn_r _ [7, 8, 9, 16, 17, 18, 19, 20, 21, 22, 23, 24, 25, 26, 27, 28, 29, 30, 31, 32, 33, 34, 35, 36, 37, 38, 39, 40] (by decide +kernel) (by decide +kernel)
set_option maxRecDepth 20000 in
theorem gX9_findCosts_X9_all : GoodIn wsX9_findCosts (wsV RX9 92 RX9 yX9_all wsX9_all) := goodIn_app (goodIn_of _ (by decide +kernel)) ggX9_findCosts_X9_all
set_option maxRecDepth 20000 in
theorem ggX9_findCosts_X9_serverOf : GoodIn wsX9_findCosts wsX9_serverOf := goodIn_r _ [13, 14, 15, 2, 3, 4, 5, 6, 7, 8, 9, 16, 17, 18, 19, 20, 21, 22, 23, 24, 25, 26, 27, 28, 29, 30, 31, 32, 33, 34, 35, 36, 37, 38, 39, 40] (by decide +kernel) (by decide +kernel)
set_option maxRecDepth 20000 in
theorem gX9_findCosts_X9_serverOf : GoodIn wsX9_findCosts (wsV RX9 117 RX9 yX9_serverOf wsX9_serverOf) := goodIn_app (goodIn_of _ (by decide +kernel)) ggX9_findCosts_X9_serverOf
theorem dX9_findCosts_0 : decode cX9_findCosts 0 = .ok (.iconst 0, 1) := by decide +kernel
theorem dX9_findCosts_1 : decode cX9_findCosts 1 = .ok (.istore_n 1, 1) := by decide +kernel
theorem dX9_findCosts_2 : decode cX9_findCosts 2 = .ok (.iload_n 1, 1) := by decide +kernel
theorem dX9_findCosts_3 : decode cX9_findCosts 3 = .ok (.aload_n 0, 1) := by decide +kernel
theorem dX9_findCosts_4 : decode cX9_findCosts 4 = .ok (.invokevirtual 92, 3) := by decide +kernel
theorem dX9_findCosts_7 : decode cX9_findCosts 7 = .ok (.if_icmp .ge 25, 3) := by decide +kernel
theorem dX9_findCosts_10 : decode cX9_findCosts 10 = .ok (.aload_n 0, 1) := by decide +kernel
theorem dX9_findCosts_11 : decode cX9_findCosts 11 = .ok (.getfield 57, 3) := by decide +kernel
theorem dX9_findCosts_14 : decode cX9_findCosts 14 = .ok (.iload_n 1, 1) := by decide +kernel
theorem dX9_findCosts_15 : decode cX9_findCosts 15 = .ok (.aload_n 0, 1) := by decide +kernel
theorem dX9_findCosts_16 : decode cX9_findCosts 16 = .ok (.getfield 50, 3) := by decide +kernel
theorem dX9_findCosts_19 : decode cX9_findCosts 19 = .ok (.aload_n 0, 1) := by decide +kernel
theorem dX9_findCosts_20 : decode cX9_findCosts 20 = .ok (.iload_n 1, 1) := by decide +kernel
theorem dX9_findCosts_21 : decode cX9_findCosts 21 = .ok (.invokevirtual 117, 3) := by decide +kernel
theorem dX9_findCosts_24 : decode cX9_findCosts 24 = .ok (.iaload, 1) := by decide +kernel
theorem dX9_findCosts_25 : decode cX9_findCosts 25 = .ok (.iastore, 1) := by decide +kernel
theorem dX9_findCosts_26 : decode cX9_findCosts 26 = .ok (.iinc 1 1, 3) := by decide +kernel
theorem dX9_findCosts_29 : decode cX9_findCosts 29 = .ok (.goto (-27), 3) := by decide +kernel
theorem dX9_findCosts_32 : decode cX9_findCosts 32 = .ok (.return_, 1) := by decide +kernel
set_option maxRecDepth 20000 in
theorem ggX9_gainOf_X9_all : GoodIn wsX9_gainOf wsX9_all := goodIn_r _ [9, 10, 11, 12, 13, 14, 15, 16, 17, 18, 19, 20, 21, 22, 23, 24, 25, 26, 27, 28, 29, 30, 31, 32, 33, 34, 35, 36] (by decide +kernel) (by decide +kernel)
set_option maxRecDepth 20000 in
theorem gX9_gainOf_X9_all : GoodIn wsX9_gainOf (wsV RX9 92 RX9 yX9_all wsX9_all) := goodIn_app (goodIn_of _ (by decide +kernel)) ggX9_gainOf_X9_all
theorem dX9_gainOf_0 : decode cX9_gainOf 0 = .ok (.iconst 0, 1) := by decide +kernel
theorem dX9_gainOf_1 : decode cX9_gainOf 1 = .ok (.istore_n 2, 1) := by decide +kernel
theorem dX9_gainOf_2 : decode cX9_gainOf 2 = .ok (.iconst 0, 1) := by decide +kernel
theorem dX9_gainOf_3 : decode cX9_gainOf 3 = .ok (.istore_n 3, 1) := by decide +kernel
theorem dX9_gainOf_4 : decode cX9_gainOf 4 = .ok (.iload_n 3, 1) := by decide +kernel
theorem dX9_gainOf_5 : decode cX9_gainOf 5 = .ok (.aload_n 0, 1) := by decide +kernel
theorem dX9_gainOf_6 : decode cX9_gainOf 6 = .ok (.invokevirtual 92, 3) := by decide +kernel
theorem dX9_gainOf_9 : decode cX9_gainOf 9 = .ok (.if_icmp .ge 57, 3) := by decide +kernel
theorem dX9_gainOf_12 : decode cX9_gainOf 12 = .ok (.aload_n 0, 1) := by decide +kernel
theorem dX9_gainOf_13 : decode cX9_gainOf 13 = .ok (.getfield 54, 3) := by decide +kernel
theorem dX9_gainOf_16 : decode cX9_gainOf 16 = .ok (.sipush 256, 3) := by decide +kernel
theorem dX9_gainOf_19 : decode cX9_gainOf 19 = .ok (.iload_n 1, 1) := by decide +kernel
theorem dX9_gainOf_20 : decode cX9_gainOf 20 = .ok (.imul, 1) := by decide +kernel
theorem dX9_gainOf_21 : decode cX9_gainOf 21 = .ok (.iload_n 3, 1) := by decide +kernel
theorem dX9_gainOf_22 : decode cX9_gainOf 22 = .ok (.iadd, 1) := by decide +kernel
theorem dX9_gainOf_23 : decode cX9_gainOf 23 = .ok (.baload, 1) := by decide +kernel
theorem dX9_gainOf_24 : decode cX9_gainOf 24 = .ok (.ifCond .eq 19, 3) := by decide +kernel
theorem dX9_gainOf_27 : decode cX9_gainOf 27 = .ok (.aload_n 0, 1) := by decide +kernel
theorem dX9_gainOf_28 : decode cX9_gainOf 28 = .ok (.getfield 57, 3) := by decide +kernel
theorem dX9_gainOf_31 : decode cX9_gainOf 31 = .ok (.iload_n 3, 1) := by decide +kernel
theorem dX9_gainOf_32 : decode cX9_gainOf 32 = .ok (.iaload, 1) := by decide +kernel
theorem dX9_gainOf_33 : decode cX9_gainOf 33 = .ok (.aload_n 0, 1) := by decide +kernel
theorem dX9_gainOf_34 : decode cX9_gainOf 34 = .ok (.getfield 50, 3) := by decide +kernel
theorem dX9_gainOf_37 : decode cX9_gainOf 37 = .ok (.iload_n 1, 1) := by decide +kernel
theorem dX9_gainOf_38 : decode cX9_gainOf 38 = .ok (.iaload, 1) := by decide +kernel
theorem dX9_gainOf_39 : decode cX9_gainOf 39 = .ok (.isub, 1) := by decide +kernel
theorem dX9_gainOf_40 : decode cX9_gainOf 40 = .ok (.goto 4, 3) := by decide +kernel
theorem dX9_gainOf_43 : decode cX9_gainOf 43 = .ok (.iconst 0, 1) := by decide +kernel
theorem dX9_gainOf_44 : decode cX9_gainOf 44 = .ok (.istore 4, 2) := by decide +kernel
theorem dX9_gainOf_46 : decode cX9_gainOf 46 = .ok (.iload_n 2, 1) := by decide +kernel
theorem dX9_gainOf_47 : decode cX9_gainOf 47 = .ok (.iload 4, 2) := by decide +kernel
theorem dX9_gainOf_49 : decode cX9_gainOf 49 = .ok (.ifCond .le 8, 3) := by decide +kernel
theorem dX9_gainOf_52 : decode cX9_gainOf 52 = .ok (.iload 4, 2) := by decide +kernel
theorem dX9_gainOf_54 : decode cX9_gainOf 54 = .ok (.goto 4, 3) := by decide +kernel
theorem dX9_gainOf_57 : decode cX9_gainOf 57 = .ok (.iconst 0, 1) := by decide +kernel
theorem dX9_gainOf_58 : decode cX9_gainOf 58 = .ok (.iadd, 1) := by decide +kernel
theorem dX9_gainOf_59 : decode cX9_gainOf 59 = .ok (.istore_n 2, 1) := by decide +kernel
theorem dX9_gainOf_60 : decode cX9_gainOf 60 = .ok (.iinc 3 1, 3) := by decide +kernel
theorem dX9_gainOf_63 : decode cX9_gainOf 63 = .ok (.goto (-59), 3) := by decide +kernel
theorem dX9_gainOf_66 : decode cX9_gainOf 66 = .ok (.aload_n 0, 1) := by decide +kernel
theorem dX9_gainOf_67 : decode cX9_gainOf 67 = .ok (.getfield 38, 3) := by decide +kernel
theorem dX9_gainOf_70 : decode cX9_gainOf 70 = .ok (.iload_n 1, 1) := by decide +kernel
theorem dX9_gainOf_71 : decode cX9_gainOf 71 = .ok (.baload, 1) := by decide +kernel
theorem dX9_gainOf_72 : decode cX9_gainOf 72 = .ok (.ifCond .eq 7, 3) := by decide +kernel
theorem dX9_gainOf_75 : decode cX9_gainOf 75 = .ok (.iconst 0, 1) := by decide +kernel
theorem dX9_gainOf_76 : decode cX9_gainOf 76 = .ok (.goto 4, 3) := by decide +kernel
theorem dX9_gainOf_79 : decode cX9_gainOf 79 = .ok (.iload_n 2, 1) := by decide +kernel
theorem dX9_gainOf_80 : decode cX9_gainOf 80 = .ok (.ireturn, 1) := by decide +kernel
set_option maxRecDepth 20000 in
theorem ggX9_gain_X9_isCuboid : GoodIn wsX9_gain wsX9_isCuboid := goodIn_r _ [7, 8, 9, 10, 6, 11, 12, 13, 14, 15, 16, 63, 64, 65, 66, 67, 68, 69, 70, 71, 72, 73, 74, 75, 76, 77, 78, 79, 80, 81, 82, 83, 84, 85, 86, 87] (by decide +kernel) (by decide +kernel)
set_option maxRecDepth 20000 in
theorem gX9_gain_X9_isCuboid : GoodIn wsX9_gain (wsV RX9 96 RX9 yX9_isCuboid wsX9_isCuboid) := goodIn_app (goodIn_of _ (by decide +kernel)) ggX9_gain_X9_isCuboid
set_option maxRecDepth 20000 in
theorem ggX9_gain_X9_measure : GoodIn wsX9_gain wsX9_measure := goodIn_r _ [20, 21, 22, 8, 9, 10, 6, 11, 12, 13, 23, 24, 25, 26, 27, 28, 29, 30, 31, 32, 33, 34, 35, 36, 37, 38, 39, 40, 41, 42, 43, 44, 45, 46, 47, 48, 63, 64, 65, 66, 67, 68, 69, 70, 71, 72, 73, 74, 75, 76, 77, 78, 79, 80, 81, 82, 83, 84, 85, 86, 87] (by decide +kernel) (by decide +kernel)
set_option maxRecDepth 20000 in
theorem gX9_gain_X9_measure : GoodIn wsX9_gain (wsV RX9 114 RX9 yX9_measure wsX9_measure) := goodIn_app (goodIn_of _ (by decide +kernel)) ggX9_gain_X9_measure
set_option maxRecDepth 20000 in
theorem ggX9_gain_X9_findCosts : GoodIn wsX9_gain wsX9_findCosts := goodIn_r _ [52, 53, 21, 8, 9, 10, 6, 11, 12, 13, 54, 55, 56, 57, 58, 22, 63, 64, 65, 66, 67, 68, 69, 70, 71, 72, 73, 74, 75, 76, 77, 78, 79, 80, 81, 82, 83, 84, 85, 86, 87] (by decide +kernel) (by decide +kernel)
set_option maxRecDepth 20000 in
theorem gX9_gain_X9_findCosts : GoodIn wsX9_gain (wsV RX9 120 RX9 yX9_findCosts wsX9_findCosts) := goodIn_app (goodIn_of _ (by decide +kernel)) ggX9_gain_X9_findCosts
