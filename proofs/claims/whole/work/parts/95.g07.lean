set_option maxRecDepth 20000 in
theorem ggL_law_X8_kept : GoodIn wsL_law wsX8_kept := goodIn_r _ [454, 23, 157, 347, 348, 349, 22, 350, 88, 455, 456, 457, 458, 67, 355, 805, 806, 807, 808, 809, 810, 811, 812, 845, 846, 847, 848, 849, 850, 851, 852] (by decide +kernel) (by decide +kernel)
set_option maxRecDepth 20000 in
theorem gL_law_X8_kept : GoodIn wsL_law (wsV RL 71 RX8 yX8_kept wsX8_kept) := goodIn_app (goodIn_of _ (by decide +kernel)) ggL_law_X8_kept
set_option maxRecDepth 20000 in
theorem ggL_law_X9_kept : GoodIn wsL_law wsX9_kept := goodIn_r _ [462, 191, 192, 145, 361, 362, 363, 5, 364, 339, 340, 341, 342, 195, 136, 197, 198, 199, 813, 814, 815, 816, 817, 818, 819, 820, 821, 822, 823, 824, 825, 826, 827, 828, 829, 830, 831, 832, 833, 834, 835, 836, 837] (by decide +kernel) (by decide +kernel)
set_option maxRecDepth 20000 in
theorem gL_law_X9_kept : GoodIn wsL_law (wsV RL 74 RX9 yX9_kept wsX9_kept) := goodIn_app (goodIn_of _ (by decide +kernel)) ggL_law_X9_kept
set_option maxRecDepth 20000 in
theorem ggL_law_X8_cost : GoodIn wsL_law wsX8_cost := goodIn_r _ [466, 23, 157, 347, 348, 349, 22, 350, 88, 467, 468, 469, 470, 471, 472, 473, 474, 67, 475, 424, 425, 426, 381, 352, 353, 354, 65, 355, 427, 428, 14, 429, 430, 476, 374, 375, 376, 66, 72, 377, 378, 379, 380, 74, 73, 382, 383, 384, 71, 385, 79, 386, 387, 388, 110, 389, 390, 303, 304, 18, 305, 60, 306, 307, 308, 309, 292, 391, 392, 393, 394, 57, 395, 396, 397, 398, 47, 44, 97, 98, 99, 399, 400, 401, 402, 184, 46, 185, 403, 404, 405, 406, 805, 806, 807, 808, 809, 810, 811, 812, 845, 846, 847, 848, 849, 850, 851, 852, 868, 869, 840, 841, 842, 843, 844, 838, 839, 862, 863, 864, 865, 866, 867] (by decide +kernel) (by decide +kernel)
set_option maxRecDepth 20000 in
theorem gL_law_X8_cost : GoodIn wsL_law (wsV RL 75 RX8 yX8_cost wsX8_cost) := goodIn_app (goodIn_of _ (by decide +kernel)) ggL_law_X8_cost
set_option maxRecDepth 20000 in
theorem ggL_law_X9_cost : GoodIn wsL_law wsX9_cost := goodIn_r _ [480, 191, 192, 149, 361, 362, 363, 5, 364, 339, 340, 341, 342, 195, 136, 197, 198, 199, 481, 482, 483, 484, 151, 411, 412, 413, 414, 147, 415, 416, 417, 418, 148, 193, 139, 141, 365, 366, 367, 368, 267, 268, 269, 270, 138, 435, 436, 437, 438, 485, 486, 487, 488, 145, 813, 814, 815, 816, 817, 818, 819, 820, 821, 822, 823, 824, 825, 826, 827, 828, 829, 830, 831, 832, 833, 834, 835, 836, 837] (by decide +kernel) (by decide +kernel)
set_option maxRecDepth 20000 in
theorem gL_law_X9_cost : GoodIn wsL_law (wsV RL 78 RX9 yX9_cost wsX9_cost) := goodIn_app (goodIn_of _ (by decide +kernel)) ggL_law_X9_cost
