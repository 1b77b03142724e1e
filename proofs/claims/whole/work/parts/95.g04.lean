set_option maxRecDepth 20000 in
theorem ggL_law_X8_pick : GoodIn wsL_law wsX8_pick := goodIn_r _ [326, 157, 37, 805, 806, 807, 808, 809, 810, 811, 812] (by decide +kernel) (by decide +kernel)
set_option maxRecDepth 20000 in
theorem gL_law_X8_pick : GoodIn wsL_law (wsV RL 45 RX8 yX8_pick wsX8_pick) := goodIn_app (goodIn_of _ (by decide +kernel)) ggL_law_X8_pick
set_option maxRecDepth 20000 in
theorem ggL_law_X9_pick : GoodIn wsL_law wsX9_pick := goodIn_r _ [330, 191, 192, 142, 197, 198, 5, 199, 813, 814, 815, 816, 817, 818, 819, 820, 821, 822, 823, 824, 825, 826, 827, 828, 829, 830, 831, 832, 833, 834, 835, 836, 837] (by decide +kernel) (by decide +kernel)
set_option maxRecDepth 20000 in
theorem gL_law_X9_pick : GoodIn wsL_law (wsV RL 48 RX9 yX9_pick wsX9_pick) := goodIn_app (goodIn_of _ (by decide +kernel)) ggL_law_X9_pick
set_option maxRecDepth 20000 in
theorem ggL_law_X8_cuboids : GoodIn wsL_law wsX8_cuboids := goodIn_r _ [334, 23, 805, 806, 807, 808, 809, 810, 811, 812, 845, 846, 847, 848, 849, 850, 851, 852] (by decide +kernel) (by decide +kernel)
set_option maxRecDepth 20000 in
theorem gL_law_X8_cuboids : GoodIn wsL_law (wsV RL 49 RX8 yX8_cuboids wsX8_cuboids) := goodIn_app (goodIn_of _ (by decide +kernel)) ggL_law_X8_cuboids
set_option maxRecDepth 20000 in
theorem ggL_law_X9_cuboids : GoodIn wsL_law wsX9_cuboids := goodIn_r _ [338, 191, 339, 340, 341, 5, 342, 195, 136, 813, 814, 815, 816, 817, 818, 819, 820, 821, 822, 823, 824, 825, 826, 827, 828, 829, 830, 831, 832, 833, 834, 835, 836, 837] (by decide +kernel) (by decide +kernel)
set_option maxRecDepth 20000 in
theorem gL_law_X9_cuboids : GoodIn wsL_law (wsV RL 53 RX9 yX9_cuboids wsX9_cuboids) := goodIn_app (goodIn_of _ (by decide +kernel)) ggL_law_X9_cuboids
