set_option maxRecDepth 20000 in
theorem ggL_law_X8_serves : GoodIn wsL_law wsX8_serves := goodIn_r _ [422, 23, 157, 347, 348, 349, 22, 350, 88, 423, 424, 425, 426, 381, 352, 353, 354, 65, 355, 427, 428, 14, 429, 430, 805, 806, 807, 808, 809, 810, 811, 812, 845, 846, 847, 848, 849, 850, 851, 852] (by decide +kernel) (by decide +kernel)
set_option maxRecDepth 20000 in
theorem gL_law_X8_serves : GoodIn wsL_law (wsV RL 62 RX8 yX8_serves wsX8_serves) := goodIn_app (goodIn_of _ (by decide +kernel)) ggL_law_X8_serves
set_option maxRecDepth 20000 in
theorem ggL_law_X9_serves : GoodIn wsL_law wsX9_serves := goodIn_r _ [434, 191, 192, 361, 362, 363, 5, 364, 339, 340, 341, 342, 195, 136, 197, 198, 199, 435, 436, 437, 438, 365, 366, 367, 368, 813, 814, 815, 816, 817, 818, 819, 820, 821, 822, 823, 824, 825, 826, 827, 828, 829, 830, 831, 832, 833, 834, 835, 836, 837] (by decide +kernel) (by decide +kernel)
set_option maxRecDepth 20000 in
theorem gL_law_X9_serves : GoodIn wsL_law (wsV RL 65 RX9 yX9_serves wsX9_serves) := goodIn_app (goodIn_of _ (by decide +kernel)) ggL_law_X9_serves
set_option maxRecDepth 20000 in
theorem ggL_law_X8_keep : GoodIn wsL_law wsX8_keep := goodIn_r _ [442, 23, 157, 158, 347, 348, 349, 22, 350, 88, 443, 444, 445, 446, 67, 355, 805, 806, 807, 808, 809, 810, 811, 812, 845, 846, 847, 848, 849, 850, 851, 852] (by decide +kernel) (by decide +kernel)
set_option maxRecDepth 20000 in
theorem gL_law_X8_keep : GoodIn wsL_law (wsV RL 66 RX8 yX8_keep wsX8_keep) := goodIn_app (goodIn_of _ (by decide +kernel)) ggL_law_X8_keep
set_option maxRecDepth 20000 in
theorem ggL_law_X9_keep : GoodIn wsL_law wsX9_keep := goodIn_r _ [450, 191, 192, 194, 145, 361, 362, 363, 5, 364, 339, 340, 341, 342, 195, 136, 197, 198, 199, 813, 814, 815, 816, 817, 818, 819, 820, 821, 822, 823, 824, 825, 826, 827, 828, 829, 830, 831, 832, 833, 834, 835, 836, 837] (by decide +kernel) (by decide +kernel)
set_option maxRecDepth 20000 in
theorem gL_law_X9_keep : GoodIn wsL_law (wsV RL 70 RX9 yX9_keep wsX9_keep) := goodIn_app (goodIn_of _ (by decide +kernel)) ggL_law_X9_keep
