set_option maxRecDepth 20000 in
theorem ggL_law_X8_lies : GoodIn wsL_law wsX8_lies := goodIn_r _ [257, 15, 157, 208, 209, 210, 14, 211, 47, 44, 236, 237, 238, 46, 239, 240, 213, 214, 215, 51, 216, 217, 218, 219, 172, 258, 259, 260, 261, 262, 53, 183, 184, 185, 805, 806, 807, 808, 809, 810, 811, 812, 838, 839, 862, 863, 864, 865, 866, 867] (by decide +kernel) (by decide +kernel)
set_option maxRecDepth 20000 in
theorem gL_law_X8_lies : GoodIn wsL_law (wsV RL 28 RX8 yX8_lies wsX8_lies) := goodIn_app (goodIn_of _ (by decide +kernel)) ggL_law_X8_lies
set_option maxRecDepth 20000 in
theorem ggL_law_X9_lies : GoodIn wsL_law wsX9_lies := goodIn_r _ [266, 191, 192, 228, 229, 230, 5, 231, 195, 197, 198, 199, 250, 251, 252, 253, 136, 137, 267, 268, 269, 270, 138, 813, 814, 815, 816, 817, 818, 819, 820, 821, 822, 823, 824, 825, 826, 827, 828, 829, 830, 831, 832, 833, 834, 835, 836, 837] (by decide +kernel) (by decide +kernel)
set_option maxRecDepth 20000 in
theorem gL_law_X9_lies : GoodIn wsL_law (wsV RL 32 RX9 yX9_lies wsX9_lies) := goodIn_app (goodIn_of _ (by decide +kernel)) ggL_law_X9_lies
set_option maxRecDepth 20000 in
theorem ggL_law_X8_members : GoodIn wsL_law wsX8_members := goodIn_r _ [274, 15, 157, 208, 209, 210, 14, 211, 47, 44, 258, 217, 218, 46, 219, 172, 212, 213, 214, 215, 51, 216, 805, 806, 807, 808, 809, 810, 811, 812, 838, 839, 862, 863, 864, 865, 866, 867] (by decide +kernel) (by decide +kernel)
set_option maxRecDepth 20000 in
theorem gL_law_X8_members : GoodIn wsL_law (wsV RL 33 RX8 yX8_members wsX8_members) := goodIn_app (goodIn_of _ (by decide +kernel)) ggL_law_X8_members
set_option maxRecDepth 20000 in
theorem ggL_law_X9_members : GoodIn wsL_law wsX9_members := goodIn_r _ [278, 191, 192, 228, 229, 230, 5, 231, 195, 197, 198, 199, 250, 251, 252, 253, 136, 137, 813, 814, 815, 816, 817, 818, 819, 820, 821, 822, 823, 824, 825, 826, 827, 828, 829, 830, 831, 832, 833, 834, 835, 836, 837] (by decide +kernel) (by decide +kernel)
set_option maxRecDepth 20000 in
theorem gL_law_X9_members : GoodIn wsL_law (wsV RL 36 RX9 yX9_members wsX9_members) := goodIn_app (goodIn_of _ (by decide +kernel)) ggL_law_X9_members
