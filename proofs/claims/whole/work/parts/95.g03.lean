set_option maxRecDepth 20000 in
theorem ggL_law_X8_fact : GoodIn wsL_law wsX8_fact := goodIn_r _ [282, 15, 37, 157, 19, 159, 23, 283, 284, 285, 14, 286, 47, 44, 97, 98, 99, 287, 237, 238, 46, 239, 240, 213, 214, 215, 51, 216, 217, 218, 219, 172, 245, 105, 106, 22, 107, 66, 108, 109, 110, 111, 288, 289, 290, 18, 291, 292, 57, 58, 293, 805, 806, 807, 808, 809, 810, 811, 812, 840, 841, 842, 843, 844, 838, 839, 862, 863, 864, 865, 866, 867, 845, 846, 847, 848, 849, 850, 851, 852] (by decide +kernel) (by decide +kernel)
set_option maxRecDepth 20000 in
theorem gL_law_X8_fact : GoodIn wsL_law (wsV RL 37 RX8 yX8_fact wsX8_fact) := goodIn_app (goodIn_of _ (by decide +kernel)) ggL_law_X8_fact
set_option maxRecDepth 20000 in
theorem ggL_law_X9_fact : GoodIn wsL_law wsX9_fact := goodIn_r _ [297, 191, 195, 142, 192, 193, 196, 139, 140, 141, 250, 251, 252, 5, 253, 136, 137, 197, 198, 199, 813, 814, 815, 816, 817, 818, 819, 820, 821, 822, 823, 824, 825, 826, 827, 828, 829, 830, 831, 832, 833, 834, 835, 836, 837] (by decide +kernel) (by decide +kernel)
set_option maxRecDepth 20000 in
theorem gL_law_X9_fact : GoodIn wsL_law (wsV RL 40 RX9 yX9_fact wsX9_fact) := goodIn_app (goodIn_of _ (by decide +kernel)) ggL_law_X9_fact
set_option maxRecDepth 20000 in
theorem ggL_law_X8_drop : GoodIn wsL_law wsX8_drop := goodIn_r _ [301, 19, 157, 158, 23, 302, 303, 304, 18, 305, 60, 306, 307, 308, 309, 292, 245, 105, 106, 22, 107, 66, 108, 109, 110, 111, 310, 311, 312, 313, 293, 314, 315, 316, 317, 318, 58, 805, 806, 807, 808, 809, 810, 811, 812, 840, 841, 842, 843, 844, 845, 846, 847, 848, 849, 850, 851, 852] (by decide +kernel) (by decide +kernel)
set_option maxRecDepth 20000 in
theorem gL_law_X8_drop : GoodIn wsL_law (wsV RL 41 RX8 yX8_drop wsX8_drop) := goodIn_app (goodIn_of _ (by decide +kernel)) ggL_law_X8_drop
set_option maxRecDepth 20000 in
theorem ggL_law_X9_drop : GoodIn wsL_law wsX9_drop := goodIn_r _ [322, 191, 193, 192, 141, 194, 140, 197, 198, 5, 199, 813, 814, 815, 816, 817, 818, 819, 820, 821, 822, 823, 824, 825, 826, 827, 828, 829, 830, 831, 832, 833, 834, 835, 836, 837] (by decide +kernel) (by decide +kernel)
set_option maxRecDepth 20000 in
theorem gL_law_X9_drop : GoodIn wsL_law (wsV RL 44 RX9 yX9_drop wsX9_drop) := goodIn_app (goodIn_of _ (by decide +kernel)) ggL_law_X9_drop
