set_option maxRecDepth 20000 in
theorem ggL_law_X8_level : GoodIn wsL_law wsX8_level := goodIn_r _ [207, 15, 157, 19, 158, 159, 23, 208, 209, 210, 14, 211, 47, 44, 212, 213, 214, 46, 215, 51, 216, 217, 218, 219, 172, 220, 221, 222, 223, 168, 169, 170, 171, 173, 174, 175, 176, 177, 178, 179, 180, 181, 182, 53, 52, 183, 184, 185, 186, 81, 82, 22, 83, 73, 84, 85, 86, 87, 88, 65, 89, 90, 91, 92, 93, 94, 95, 96, 97, 98, 99, 100, 101, 102, 103, 67, 104, 105, 106, 107, 66, 108, 109, 110, 111, 805, 806, 807, 808, 809, 810, 811, 812, 862, 863, 864, 865, 866, 867, 840, 841, 842, 843, 844, 838, 839, 845, 846, 847, 848, 849, 850, 851, 852] (by decide +kernel) (by decide +kernel)
set_option maxRecDepth 20000 in
theorem gL_law_X8_level : GoodIn wsL_law (wsV RL 18 RX8 yX8_level wsX8_level) := goodIn_app (goodIn_of _ (by decide +kernel)) ggL_law_X8_level
set_option maxRecDepth 20000 in
theorem ggL_law_X9_level : GoodIn wsL_law wsX9_level := goodIn_r _ [227, 191, 137, 136, 192, 193, 194, 196, 143, 144, 228, 229, 230, 5, 231, 195, 197, 198, 199, 200, 201, 202, 203, 145, 813, 814, 815, 816, 817, 818, 819, 820, 821, 822, 823, 824, 825, 826, 827, 828, 829, 830, 831, 832, 833, 834, 835, 836, 837] (by decide +kernel) (by decide +kernel)
set_option maxRecDepth 20000 in
theorem gL_law_X9_level : GoodIn wsL_law (wsV RL 22 RX9 yX9_level wsX9_level) := goodIn_app (goodIn_of _ (by decide +kernel)) ggL_law_X9_level
set_option maxRecDepth 20000 in
theorem ggL_law_X8_parent : GoodIn wsL_law wsX8_parent := goodIn_r _ [235, 15, 157, 23, 208, 209, 210, 14, 211, 47, 44, 236, 237, 238, 46, 239, 240, 213, 214, 215, 51, 216, 217, 218, 219, 172, 241, 242, 243, 244, 52, 183, 184, 185, 179, 180, 181, 182, 53, 245, 105, 106, 22, 107, 66, 108, 109, 110, 111, 805, 806, 807, 808, 809, 810, 811, 812, 862, 863, 864, 865, 866, 867, 838, 839, 845, 846, 847, 848, 849, 850, 851, 852] (by decide +kernel) (by decide +kernel)
set_option maxRecDepth 20000 in
theorem gL_law_X8_parent : GoodIn wsL_law (wsV RL 23 RX8 yX8_parent wsX8_parent) := goodIn_app (goodIn_of _ (by decide +kernel)) ggL_law_X8_parent
set_option maxRecDepth 20000 in
theorem ggL_law_X9_parent : GoodIn wsL_law wsX9_parent := goodIn_r _ [249, 191, 136, 192, 138, 228, 229, 230, 5, 231, 195, 197, 198, 199, 250, 251, 252, 253, 137, 813, 814, 815, 816, 817, 818, 819, 820, 821, 822, 823, 824, 825, 826, 827, 828, 829, 830, 831, 832, 833, 834, 835, 836, 837] (by decide +kernel) (by decide +kernel)
set_option maxRecDepth 20000 in
theorem gL_law_X9_parent : GoodIn wsL_law (wsV RL 27 RX9 yX9_parent wsX9_parent) := goodIn_app (goodIn_of _ (by decide +kernel)) ggL_law_X9_parent
