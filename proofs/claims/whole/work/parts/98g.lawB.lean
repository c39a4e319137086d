set_option maxRecDepth 20000 in
theorem ggL_law_X5_lays : GoodIn wsL_law wsX5_lays := goodIn_r _ [865, 24, 16, 866, 812, 813, 2, 814, 101, 102, 103, 104, 26, 105, 132, 15, 133, 134, 109, 867, 868, 869, 139, 140, 141, 142, 42, 110, 111, 112, 113, 956, 957, 958, 959, 960, 961, 962, 963, 964, 965, 966, 1039, 1040, 1041, 1000, 1001, 1002, 1003, 1004, 1005] (by decide +kernel) (by decide +kernel)
set_option maxRecDepth 20000 in
theorem gL_law_X5_lays : GoodIn wsL_law (wsV RL 139 RX5 yX5_lays wsX5_lays) := goodIn_app (goodIn_of _ (by decide +kernel)) ggL_law_X5_lays
set_option maxRecDepth 20000 in
theorem ggL_law_X6_lays : GoodIn wsL_law wsX6_lays := goodIn_r _ [873, 123, 94, 95, 257, 78, 842, 843, 844, 5, 845, 93, 846, 828, 829, 830, 319, 164, 165, 166, 119, 120, 121, 122, 81, 160, 161, 162, 163, 967, 968, 969, 970, 971, 972, 973, 974, 975, 976, 977, 978, 979, 980, 981, 982, 983, 984, 985, 986, 987, 988, 989, 990, 991, 992, 993, 994, 995, 996, 997, 998, 999] (by decide +kernel) (by decide +kernel)
set_option maxRecDepth 20000 in
theorem gL_law_X6_lays : GoodIn wsL_law (wsV RL 142 RX6 yX6_lays wsX6_lays) := goodIn_app (goodIn_of _ (by decide +kernel)) ggL_law_X6_lays
set_option maxRecDepth 20000 in
theorem ggL_law_X5_draw : GoodIn wsL_law wsX5_draw := goodIn_r _ [877, 24, 878, 466, 467, 468, 879, 880, 881, 2, 882, 16, 812, 813, 814, 250, 15, 251, 252, 235, 132, 133, 134, 109, 101, 102, 103, 104, 26, 105, 335, 336, 337, 338, 28, 135, 136, 137, 138, 139, 140, 141, 142, 42, 339, 30, 340, 341, 342, 343, 344, 345, 53, 346, 347, 287, 288, 289, 303, 304, 305, 306, 348, 149, 150, 151, 152, 153, 154, 349, 350, 351, 352, 353, 354, 55, 56, 57, 355, 356, 357, 358, 359, 360, 361, 362, 208, 209, 363, 364, 143, 144, 145, 146, 147, 148, 365, 366, 367, 207, 368, 369, 370, 371, 372, 373, 374, 375, 376, 54, 377, 378, 379, 380, 381, 382, 383, 384, 385, 386, 387, 388, 389, 390, 308, 309, 310, 311, 312, 286, 835, 38, 836, 837, 818, 73, 1012, 1013, 1014, 1015, 1016, 1017, 1018, 1019, 1020, 1021, 1022, 1023, 1024, 1025, 956, 957, 958, 959, 960, 961, 962, 963, 964, 965, 966, 1039, 1040, 1041, 1000, 1001, 1002, 1003, 1004, 1005] (by decide +kernel) (by decide +kernel)
set_option maxRecDepth 20000 in
theorem gL_law_X5_draw : GoodIn wsL_law (wsV RL 143 RX5 yX5_draw wsX5_draw) := goodIn_app (goodIn_of _ (by decide +kernel)) ggL_law_X5_draw
set_option maxRecDepth 20000 in
theorem ggL_law_X6_draw : GoodIn wsL_law wsX6_draw := goodIn_r _ [886, 123, 402, 401, 94, 95, 86, 842, 843, 844, 5, 845, 93, 846, 828, 829, 830, 319, 164, 165, 166, 119, 120, 121, 122, 81, 258, 259, 260, 261, 78, 160, 161, 162, 163, 404, 405, 406, 407, 403, 408, 409, 410, 411, 412, 413, 414, 415, 416, 417, 167, 168, 169, 170, 171, 172, 173, 174, 175, 180, 181, 182, 418, 419, 420, 421, 82, 83, 84, 85, 422, 423, 424, 425, 426, 427, 428, 429, 430, 431, 328, 329, 330, 320, 321, 322, 323, 262, 263, 264, 265, 324, 325, 326, 327, 266, 267, 268, 269, 270, 271, 272, 273, 967, 968, 969, 970, 971, 972, 973, 974, 975, 976, 977, 978, 979, 980, 981, 982, 983, 984, 985, 986, 987, 988, 989, 990, 991, 992, 993, 994, 995, 996, 997, 998, 999] (by decide +kernel) (by decide +kernel)
set_option maxRecDepth 20000 in
theorem gL_law_X6_draw : GoodIn wsL_law (wsV RL 146 RX6 yX6_draw wsX6_draw) := goodIn_app (goodIn_of _ (by decide +kernel)) ggL_law_X6_draw
set_option maxRecDepth 20000 in
theorem ggL_law_X5_read : GoodIn wsL_law wsX5_read := goodIn_r _ [890, 24, 16, 879, 880, 881, 2, 882, 812, 813, 814, 250, 15, 251, 252, 235, 132, 133, 134, 109, 101, 102, 103, 104, 26, 105, 135, 136, 137, 138, 139, 140, 141, 142, 42, 302, 303, 304, 305, 306, 891, 892, 893, 894, 207, 208, 209, 895, 896, 897, 898, 389, 390, 307, 308, 309, 310, 311, 312, 286, 287, 288, 289, 956, 957, 958, 959, 960, 961, 962, 963, 964, 965, 966, 1039, 1040, 1041, 1000, 1001, 1002, 1003, 1004, 1005] (by decide +kernel) (by decide +kernel)
set_option maxRecDepth 20000 in
theorem gL_law_X5_read : GoodIn wsL_law (wsV RL 147 RX5 yX5_read wsX5_read) := goodIn_app (goodIn_of _ (by decide +kernel)) ggL_law_X5_read
set_option maxRecDepth 20000 in
theorem ggL_law_X6_read : GoodIn wsL_law wsX6_read := goodIn_r _ [902, 123, 94, 95, 317, 842, 843, 844, 5, 845, 93, 846, 828, 829, 830, 319, 164, 165, 166, 119, 120, 121, 122, 81, 258, 259, 260, 261, 78, 160, 161, 162, 163, 171, 172, 173, 174, 175, 167, 168, 169, 170, 180, 181, 182, 903, 904, 905, 328, 329, 330, 320, 321, 322, 323, 262, 263, 264, 265, 324, 325, 326, 327, 967, 968, 969, 970, 971, 972, 973, 974, 975, 976, 977, 978, 979, 980, 981, 982, 983, 984, 985, 986, 987, 988, 989, 990, 991, 992, 993, 994, 995, 996, 997, 998, 999] (by decide +kernel) (by decide +kernel)
set_option maxRecDepth 20000 in
theorem gL_law_X6_read : GoodIn wsL_law (wsV RL 150 RX6 yX6_read wsX6_read) := goodIn_app (goodIn_of _ (by decide +kernel)) ggL_law_X6_read
set_option maxRecDepth 20000 in
theorem ggL_law_X5_image : GoodIn wsL_law wsX5_image := goodIn_r _ [909, 17, 16, 910, 631, 15, 632, 633, 109, 235, 42, 634, 378, 379, 380, 43, 44, 45, 956, 957, 958, 959, 960, 961, 962, 963, 964, 965, 966, 1000, 1001, 1002, 1003, 1004, 1005] (by decide +kernel) (by decide +kernel)
set_option maxRecDepth 20000 in
theorem gL_law_X5_image : GoodIn wsL_law (wsV RL 151 RX5 yX5_image wsX5_image) := goodIn_app (goodIn_of _ (by decide +kernel)) ggL_law_X5_image
set_option maxRecDepth 20000 in
theorem ggL_law_X6_image : GoodIn wsL_law wsX6_image := goodIn_r _ [914, 79, 78, 915, 967, 968, 969, 970, 971, 972, 973, 974, 975, 976, 977, 978, 979, 980, 981, 982, 983, 984, 985, 986, 987, 988, 989, 990, 991, 992, 993, 994, 995, 996, 997, 998, 999] (by decide +kernel) (by decide +kernel)
set_option maxRecDepth 20000 in
theorem gL_law_X6_image : GoodIn wsL_law (wsV RL 154 RX6 yX6_image wsX6_image) := goodIn_app (goodIn_of _ (by decide +kernel)) ggL_law_X6_image
set_option maxRecDepth 20000 in
theorem ggL_law_X5_undo : GoodIn wsL_law wsX5_undo := goodIn_r _ [919, 910, 16, 17, 101, 102, 103, 2, 104, 26, 105, 631, 15, 632, 633, 109, 235, 42, 634, 378, 379, 380, 43, 44, 45, 956, 957, 958, 959, 960, 961, 962, 963, 964, 965, 966, 1000, 1001, 1002, 1003, 1004, 1005] (by decide +kernel) (by decide +kernel)
set_option maxRecDepth 20000 in
theorem gL_law_X5_undo : GoodIn wsL_law (wsV RL 155 RX5 yX5_undo wsX5_undo) := goodIn_app (goodIn_of _ (by decide +kernel)) ggL_law_X5_undo
set_option maxRecDepth 20000 in
theorem ggL_law_X6_undo : GoodIn wsL_law wsX6_undo := goodIn_r _ [923, 915, 402, 78, 79, 119, 120, 121, 5, 122, 81, 123, 967, 968, 969, 970, 971, 972, 973, 974, 975, 976, 977, 978, 979, 980, 981, 982, 983, 984, 985, 986, 987, 988, 989, 990, 991, 992, 993, 994, 995, 996, 997, 998, 999] (by decide +kernel) (by decide +kernel)
set_option maxRecDepth 20000 in
theorem gL_law_X6_undo : GoodIn wsL_law (wsV RL 158 RX6 yX6_undo wsX6_undo) := goodIn_app (goodIn_of _ (by decide +kernel)) ggL_law_X6_undo
