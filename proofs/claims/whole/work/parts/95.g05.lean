set_option maxRecDepth 20000 in
theorem ggL_law_X8_levelOf : GoodIn wsL_law wsX8_levelOf := goodIn_r _ [346, 23, 15, 157, 347, 348, 349, 22, 350, 88, 208, 209, 210, 14, 211, 47, 44, 351, 352, 353, 354, 65, 355, 356, 98, 99, 805, 806, 807, 808, 809, 810, 811, 812, 845, 846, 847, 848, 849, 850, 851, 852, 838, 839] (by decide +kernel) (by decide +kernel)
set_option maxRecDepth 20000 in
theorem gL_law_X8_levelOf : GoodIn wsL_law (wsV RL 54 RX8 yX8_levelOf wsX8_levelOf) := goodIn_app (goodIn_of _ (by decide +kernel)) ggL_law_X8_levelOf
set_option maxRecDepth 20000 in
theorem ggL_law_X9_levelOf : GoodIn wsL_law wsX9_levelOf := goodIn_r _ [360, 191, 192, 361, 362, 363, 5, 364, 339, 340, 341, 342, 195, 136, 197, 198, 199, 228, 229, 230, 231, 365, 366, 367, 368, 813, 814, 815, 816, 817, 818, 819, 820, 821, 822, 823, 824, 825, 826, 827, 828, 829, 830, 831, 832, 833, 834, 835, 836, 837] (by decide +kernel) (by decide +kernel)
set_option maxRecDepth 20000 in
theorem gL_law_X9_levelOf : GoodIn wsL_law (wsV RL 57 RX9 yX9_levelOf wsX9_levelOf) := goodIn_app (goodIn_of _ (by decide +kernel)) ggL_law_X9_levelOf
set_option maxRecDepth 20000 in
theorem ggL_law_X8_size : GoodIn wsL_law wsX8_size := goodIn_r _ [372, 23, 157, 347, 348, 349, 22, 350, 88, 373, 374, 375, 376, 66, 72, 355, 377, 378, 379, 380, 74, 73, 381, 352, 353, 354, 65, 382, 383, 384, 71, 385, 79, 386, 387, 388, 110, 389, 390, 303, 304, 18, 305, 60, 306, 307, 308, 309, 292, 391, 392, 393, 394, 57, 395, 396, 397, 14, 398, 47, 44, 97, 98, 99, 399, 400, 401, 402, 184, 46, 185, 403, 404, 405, 406, 805, 806, 807, 808, 809, 810, 811, 812, 845, 846, 847, 848, 849, 850, 851, 852, 868, 869, 840, 841, 842, 843, 844, 838, 839, 862, 863, 864, 865, 866, 867] (by decide +kernel) (by decide +kernel)
set_option maxRecDepth 20000 in
theorem gL_law_X8_size : GoodIn wsL_law (wsV RL 58 RX8 yX8_size wsX8_size) := goodIn_app (goodIn_of _ (by decide +kernel)) ggL_law_X8_size
set_option maxRecDepth 20000 in
theorem ggL_law_X9_size : GoodIn wsL_law wsX9_size := goodIn_r _ [410, 191, 192, 361, 362, 363, 5, 364, 339, 340, 341, 342, 195, 136, 197, 198, 199, 411, 412, 413, 414, 147, 415, 416, 417, 418, 148, 193, 139, 141, 365, 366, 367, 368, 267, 268, 269, 270, 138, 813, 814, 815, 816, 817, 818, 819, 820, 821, 822, 823, 824, 825, 826, 827, 828, 829, 830, 831, 832, 833, 834, 835, 836, 837] (by decide +kernel) (by decide +kernel)
set_option maxRecDepth 20000 in
theorem gL_law_X9_size : GoodIn wsL_law (wsV RL 61 RX9 yX9_size wsX9_size) := goodIn_app (goodIn_of _ (by decide +kernel)) ggL_law_X9_size
