set_option maxRecDepth 20000 in
theorem ggL_law_X8_init : GoodIn wsL_law wsX8_init := goodIn_r _ [8, 9, 10, 11, 12, 13, 14, 15, 16, 17, 18, 19, 20, 21, 22, 23, 24, 25, 26, 27, 28, 29, 30, 31, 32, 33, 34, 35, 36, 37, 38, 39, 40, 41, 42, 43, 44, 45, 46, 47, 48, 49, 50, 51, 52, 53, 54, 55, 56, 57, 58, 59, 60, 61, 62, 63, 64, 65, 66, 67, 68, 69, 70, 71, 72, 73, 74, 75, 76, 77, 78, 79, 80, 81, 82, 83, 84, 85, 86, 87, 88, 89, 90, 91, 92, 93, 94, 95, 96, 97, 98, 99, 100, 101, 102, 103, 104, 105, 106, 107, 108, 109, 110, 111, 112, 113, 114, 115, 116, 117, 118, 119, 120, 121, 122, 123, 124, 125, 126, 127, 128, 129, 130, 131, 838, 839, 805, 806, 807, 808, 809, 810, 811, 812, 840, 841, 842, 843, 844, 845, 846, 847, 848, 849, 850, 851, 852, 853, 854, 855, 856, 857, 858, 859, 860, 861, 862, 863, 864, 865, 866, 867, 868, 869] (by decide +kernel) (by decide +kernel)
set_option maxRecDepth 20000 in
theorem gL_law_X8_init : GoodIn wsL_law (wsX8_init) := ggL_law_X8_init
set_option maxRecDepth 20000 in
theorem ggL_law_X9_init : GoodIn wsL_law wsX9_init := goodIn_r _ [134, 135, 10, 11, 36, 136, 137, 138, 139, 140, 59, 141, 142, 143, 144, 145, 146, 147, 148, 149, 150, 151, 152, 813, 814, 815, 816, 817, 818, 819, 820, 821, 822, 823, 824, 825, 826, 827, 828, 829, 830, 831, 832, 833, 834, 835, 836, 837] (by decide +kernel) (by decide +kernel)
set_option maxRecDepth 20000 in
theorem gL_law_X9_init : GoodIn wsL_law (wsX9_init) := ggL_law_X9_init
set_option maxRecDepth 20000 in
theorem ggL_law_X8_dimension : GoodIn wsL_law wsX8_dimension := goodIn_r _ [156, 157, 19, 158, 15, 159, 23, 160, 161, 162, 14, 163, 47, 44, 164, 165, 166, 46, 167, 51, 168, 169, 170, 171, 172, 173, 174, 175, 176, 177, 178, 179, 180, 181, 182, 53, 52, 183, 184, 185, 186, 81, 82, 22, 83, 73, 84, 85, 86, 87, 88, 65, 89, 90, 91, 92, 93, 94, 95, 96, 97, 98, 99, 100, 101, 102, 103, 67, 104, 105, 106, 107, 66, 108, 109, 110, 111, 805, 806, 807, 808, 809, 810, 811, 812, 840, 841, 842, 843, 844, 838, 839, 862, 863, 864, 865, 866, 867, 845, 846, 847, 848, 849, 850, 851, 852] (by decide +kernel) (by decide +kernel)
set_option maxRecDepth 20000 in
theorem gL_law_X8_dimension : GoodIn wsL_law (wsV RL 13 RX8 yX8_dimension wsX8_dimension) := goodIn_app (goodIn_of _ (by decide +kernel)) ggL_law_X8_dimension
set_option maxRecDepth 20000 in
theorem ggL_law_X9_dimension : GoodIn wsL_law wsX9_dimension := goodIn_r _ [190, 191, 192, 193, 194, 195, 196, 136, 137, 143, 144, 197, 198, 5, 199, 200, 201, 202, 203, 145, 813, 814, 815, 816, 817, 818, 819, 820, 821, 822, 823, 824, 825, 826, 827, 828, 829, 830, 831, 832, 833, 834, 835, 836, 837] (by decide +kernel) (by decide +kernel)
set_option maxRecDepth 20000 in
theorem gL_law_X9_dimension : GoodIn wsL_law (wsV RL 17 RX9 yX9_dimension wsX9_dimension) := goodIn_app (goodIn_of _ (by decide +kernel)) ggL_law_X9_dimension
