set_option maxRecDepth 20000 in
theorem ggL_law_X8_out : GoodIn wsL_law wsX8_out := goodIn_r _ [776, 35, 578, 777, 778, 779, 34, 780, 733, 131, 805, 806, 807, 808, 809, 810, 811, 812, 860, 861] (by decide +kernel) (by decide +kernel)
set_option maxRecDepth 20000 in
theorem gL_law_X8_out : GoodIn wsL_law (wsV RL 119 RX8 yX8_out wsX8_out) := goodIn_app (goodIn_of _ (by decide +kernel)) ggL_law_X8_out
set_option maxRecDepth 20000 in
theorem ggL_law_X9_out : GoodIn wsL_law wsX9_out := goodIn_r _ [784, 191, 756, 146, 617, 197, 198, 5, 199, 813, 814, 815, 816, 817, 818, 819, 820, 821, 822, 823, 824, 825, 826, 827, 828, 829, 830, 831, 832, 833, 834, 835, 836, 837] (by decide +kernel) (by decide +kernel)
set_option maxRecDepth 20000 in
theorem gL_law_X9_out : GoodIn wsL_law (wsV RL 122 RX9 yX9_out wsX9_out) := goodIn_app (goodIn_of _ (by decide +kernel)) ggL_law_X9_out
set_option maxRecDepth 20000 in
theorem ggL_law_X8_count : GoodIn wsL_law wsX8_count := goodIn_r _ [788, 15, 19, 23, 35, 157, 789, 790, 791, 22, 792, 88, 67, 793, 794, 795, 796, 476, 374, 375, 376, 66, 72, 355, 348, 349, 350, 377, 378, 379, 380, 74, 73, 381, 352, 353, 354, 65, 382, 383, 384, 71, 385, 79, 386, 387, 388, 110, 389, 390, 303, 304, 18, 305, 60, 306, 307, 308, 309, 292, 391, 392, 393, 394, 57, 395, 396, 397, 14, 398, 47, 44, 97, 98, 99, 399, 400, 401, 402, 184, 46, 185, 403, 404, 405, 406, 805, 806, 807, 808, 809, 810, 811, 812, 838, 839, 840, 841, 842, 843, 844, 860, 861, 845, 846, 847, 848, 849, 850, 851, 852, 868, 869, 862, 863, 864, 865, 866, 867] (by decide +kernel) (by decide +kernel)
set_option maxRecDepth 20000 in
theorem gL_law_X8_count : GoodIn wsL_law (wsV RL 123 RX8 yX8_count wsX8_count) := goodIn_app (goodIn_of _ (by decide +kernel)) ggL_law_X8_count
set_option maxRecDepth 20000 in
theorem ggL_law_X9_count : GoodIn wsL_law wsX9_count := goodIn_r _ [800, 191, 195, 193, 145, 756, 192, 801, 802, 803, 5, 804, 141, 339, 340, 341, 342, 136, 411, 412, 413, 414, 147, 415, 416, 417, 418, 148, 139, 365, 366, 367, 368, 267, 268, 269, 270, 138, 813, 814, 815, 816, 817, 818, 819, 820, 821, 822, 823, 824, 825, 826, 827, 828, 829, 830, 831, 832, 833, 834, 835, 836, 837] (by decide +kernel) (by decide +kernel)
set_option maxRecDepth 20000 in
theorem gL_law_X9_count : GoodIn wsL_law (wsV RL 126 RX9 yX9_count wsX9_count) := goodIn_app (goodIn_of _ (by decide +kernel)) ggL_law_X9_count
