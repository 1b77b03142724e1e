set_option maxRecDepth 20000 in
theorem ggL_law_X8_read : GoodIn wsL_law wsX8_read := goodIn_r _ [656, 38, 805, 806, 807, 808, 809, 810, 811, 812] (by decide +kernel) (by decide +kernel)
set_option maxRecDepth 20000 in
theorem gL_law_X8_read : GoodIn wsL_law (wsV RL 103 RX8 yX8_read wsX8_read) := goodIn_app (goodIn_of _ (by decide +kernel)) ggL_law_X8_read
set_option maxRecDepth 20000 in
theorem ggL_law_X9_read : GoodIn wsL_law wsX9_read := goodIn_r _ [660, 191, 615, 813, 814, 815, 816, 817, 818, 819, 820, 821, 822, 823, 824, 825, 826, 827, 828, 829, 830, 831, 832, 833, 834, 835, 836, 837] (by decide +kernel) (by decide +kernel)
set_option maxRecDepth 20000 in
theorem gL_law_X9_read : GoodIn wsL_law (wsV RL 106 RX9 yX9_read wsX9_read) := goodIn_app (goodIn_of _ (by decide +kernel)) ggL_law_X9_read
set_option maxRecDepth 20000 in
theorem ggL_law_X8_filter : GoodIn wsL_law wsX8_filter := goodIn_r _ [664, 15, 157, 208, 209, 210, 14, 211, 47, 44, 236, 237, 238, 46, 239, 240, 213, 214, 215, 51, 216, 217, 218, 219, 172, 665, 174, 175, 176, 177, 178, 805, 806, 807, 808, 809, 810, 811, 812, 838, 839, 862, 863, 864, 865, 866, 867] (by decide +kernel) (by decide +kernel)
set_option maxRecDepth 20000 in
theorem gL_law_X8_filter : GoodIn wsL_law (wsV RL 107 RX8 yX8_filter wsX8_filter) := goodIn_app (goodIn_of _ (by decide +kernel)) ggL_law_X8_filter
set_option maxRecDepth 20000 in
theorem ggL_law_X9_filter : GoodIn wsL_law wsX9_filter := goodIn_r _ [669, 191, 192, 143, 144, 228, 229, 230, 5, 231, 195, 197, 198, 199, 250, 251, 252, 253, 136, 137, 813, 814, 815, 816, 817, 818, 819, 820, 821, 822, 823, 824, 825, 826, 827, 828, 829, 830, 831, 832, 833, 834, 835, 836, 837] (by decide +kernel) (by decide +kernel)
set_option maxRecDepth 20000 in
theorem gL_law_X9_filter : GoodIn wsL_law (wsV RL 110 RX9 yX9_filter wsX9_filter) := goodIn_app (goodIn_of _ (by decide +kernel)) ggL_law_X9_filter
