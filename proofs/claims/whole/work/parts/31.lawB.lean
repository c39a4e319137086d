set_option maxRecDepth 20000 in
theorem ggL_law_X5_init : GoodIn wsL_law wsX5_init := goodIn_r _ [9, 10, 11, 12, 13, 14, 15, 16, 17, 18, 19, 20, 21, 22, 23, 24, 25, 26, 27, 28, 29, 30, 31, 32, 33, 34, 35, 36, 37, 38, 39, 40, 41, 42, 43, 44, 45, 46, 47, 48, 49, 50, 51, 52, 53, 54, 55, 56, 57, 58, 59, 60, 61, 62, 63, 64, 65, 66, 67, 68, 69, 70, 71, 72, 73, 1000, 1001, 1002, 1003, 1004, 1005, 956, 957, 958, 959, 960, 961, 962, 963, 964, 965, 966, 1006, 1007, 1008, 1009, 1010, 1011, 1012, 1013, 1014, 1015, 1016, 1017, 1018, 1019, 1020, 1021, 1022, 1023, 1024, 1025, 1026, 1027, 1028, 1029, 1030, 1031, 1032, 1033, 1034, 1035, 1036, 1037, 1038, 1039, 1040, 1041] (by decide +kernel) (by decide +kernel)
set_option maxRecDepth 20000 in
theorem gL_law_X5_init : GoodIn wsL_law (wsX5_init) := ggL_law_X5_init
set_option maxRecDepth 20000 in
theorem ggL_law_X6_init : GoodIn wsL_law wsX6_init := goodIn_r _ [76, 77, 11, 12, 25, 78, 79, 80, 81, 82, 83, 84, 85, 86, 87, 88, 89, 90, 91, 92, 93, 94, 72, 95, 96, 967, 968, 969, 970, 971, 972, 973, 974, 975, 976, 977, 978, 979, 980, 981, 982, 983, 984, 985, 986, 987, 988, 989, 990, 991, 992, 993, 994, 995, 996, 997, 998, 999] (by decide +kernel) (by decide +kernel)
set_option maxRecDepth 20000 in
theorem gL_law_X6_init : GoodIn wsL_law (wsX6_init) := ggL_law_X6_init
set_option maxRecDepth 20000 in
theorem ggL_law_X5_field : GoodIn wsL_law wsX5_field := goodIn_r _ [100, 16, 101, 102, 103, 2, 104, 26, 105, 106, 15, 107, 108, 109, 43, 110, 111, 112, 113, 42, 956, 957, 958, 959, 960, 961, 962, 963, 964, 965, 966, 1000, 1001, 1002, 1003, 1004, 1005] (by decide +kernel) (by decide +kernel)
set_option maxRecDepth 20000 in
theorem gL_law_X5_field : GoodIn wsL_law (wsV RL 13 RX5 yX5_field wsX5_field) := goodIn_app (goodIn_of _ (by decide +kernel)) ggL_law_X5_field
set_option maxRecDepth 20000 in
theorem ggL_law_X6_field : GoodIn wsL_law wsX6_field := goodIn_r _ [117, 78, 118, 119, 120, 121, 5, 122, 81, 123, 124, 125, 126, 127, 967, 968, 969, 970, 971, 972, 973, 974, 975, 976, 977, 978, 979, 980, 981, 982, 983, 984, 985, 986, 987, 988, 989, 990, 991, 992, 993, 994, 995, 996, 997, 998, 999] (by decide +kernel) (by decide +kernel)
set_option maxRecDepth 20000 in
theorem gL_law_X6_field : GoodIn wsL_law (wsV RL 17 RX6 yX6_field wsX6_field) := goodIn_app (goodIn_of _ (by decide +kernel)) ggL_law_X6_field
set_option maxRecDepth 20000 in
theorem ggL_law_X5_of : GoodIn wsL_law wsX5_of := goodIn_r _ [131, 16, 132, 15, 133, 134, 109, 101, 102, 103, 2, 104, 26, 105, 135, 136, 137, 138, 139, 140, 141, 142, 42, 143, 144, 145, 146, 147, 148, 149, 150, 151, 152, 153, 154, 956, 957, 958, 959, 960, 961, 962, 963, 964, 965, 966, 1000, 1001, 1002, 1003, 1004, 1005] (by decide +kernel) (by decide +kernel)
set_option maxRecDepth 20000 in
theorem gL_law_X5_of : GoodIn wsL_law (wsV RL 18 RX5 yX5_of wsX5_of) := goodIn_app (goodIn_of _ (by decide +kernel)) ggL_law_X5_of
set_option maxRecDepth 20000 in
theorem ggL_law_X6_of : GoodIn wsL_law wsX6_of := goodIn_r _ [158, 159, 123, 160, 161, 162, 5, 163, 78, 164, 165, 166, 119, 120, 121, 122, 81, 167, 168, 169, 170, 171, 172, 173, 174, 175, 176, 177, 178, 179, 180, 181, 182, 183, 184, 185, 967, 968, 969, 970, 971, 972, 973, 974, 975, 976, 977, 978, 979, 980, 981, 982, 983, 984, 985, 986, 987, 988, 989, 990, 991, 992, 993, 994, 995, 996, 997, 998, 999] (by decide +kernel) (by decide +kernel)
set_option maxRecDepth 20000 in
theorem gL_law_X6_of : GoodIn wsL_law (wsV RL 22 RX6 yX6_of wsX6_of) := goodIn_app (goodIn_of _ (by decide +kernel)) ggL_law_X6_of
set_option maxRecDepth 20000 in
theorem ggL_law_X5_set : GoodIn wsL_law wsX5_set := goodIn_r _ [189, 16, 190, 191, 132, 15, 133, 134, 109, 101, 102, 103, 2, 104, 26, 105, 140, 141, 142, 42, 111, 112, 113, 956, 957, 958, 959, 960, 961, 962, 963, 964, 965, 966, 1000, 1001, 1002, 1003, 1004, 1005] (by decide +kernel) (by decide +kernel)
set_option maxRecDepth 20000 in
theorem gL_law_X5_set : GoodIn wsL_law (wsV RL 23 RX5 yX5_set wsX5_set) := goodIn_app (goodIn_of _ (by decide +kernel)) ggL_law_X5_set
set_option maxRecDepth 20000 in
theorem ggL_law_X6_set : GoodIn wsL_law wsX6_set := goodIn_r _ [195, 196, 123, 78, 160, 161, 162, 5, 163, 164, 165, 166, 197, 198, 199, 200, 201, 202, 175, 119, 120, 121, 122, 81, 167, 168, 169, 170, 967, 968, 969, 970, 971, 972, 973, 974, 975, 976, 977, 978, 979, 980, 981, 982, 983, 984, 985, 986, 987, 988, 989, 990, 991, 992, 993, 994, 995, 996, 997, 998, 999] (by decide +kernel) (by decide +kernel)
set_option maxRecDepth 20000 in
theorem gL_law_X6_set : GoodIn wsL_law (wsV RL 27 RX6 yX6_set wsX6_set) := goodIn_app (goodIn_of _ (by decide +kernel)) ggL_law_X6_set
set_option maxRecDepth 20000 in
theorem ggL_law_X5_join : GoodIn wsL_law wsX5_join := goodIn_r _ [206, 16, 132, 15, 133, 134, 109, 101, 102, 103, 2, 104, 26, 105, 207, 208, 209, 956, 957, 958, 959, 960, 961, 962, 963, 964, 965, 966, 1000, 1001, 1002, 1003, 1004, 1005] (by decide +kernel) (by decide +kernel)
set_option maxRecDepth 20000 in
theorem gL_law_X5_join : GoodIn wsL_law (wsV RL 28 RX5 yX5_join wsX5_join) := goodIn_app (goodIn_of _ (by decide +kernel)) ggL_law_X5_join
set_option maxRecDepth 20000 in
theorem ggL_law_X6_join : GoodIn wsL_law wsX6_join := goodIn_r _ [213, 123, 78, 160, 161, 162, 5, 163, 164, 165, 166, 119, 120, 121, 122, 81, 180, 181, 182, 967, 968, 969, 970, 971, 972, 973, 974, 975, 976, 977, 978, 979, 980, 981, 982, 983, 984, 985, 986, 987, 988, 989, 990, 991, 992, 993, 994, 995, 996, 997, 998, 999] (by decide +kernel) (by decide +kernel)
set_option maxRecDepth 20000 in
theorem gL_law_X6_join : GoodIn wsL_law (wsV RL 32 RX6 yX6_join wsX6_join) := goodIn_app (goodIn_of _ (by decide +kernel)) ggL_law_X6_join
set_option maxRecDepth 20000 in
theorem ggL_law_X5_joined : GoodIn wsL_law wsX5_joined := goodIn_r _ [217, 16, 132, 15, 133, 134, 109, 101, 102, 103, 2, 104, 26, 105, 956, 957, 958, 959, 960, 961, 962, 963, 964, 965, 966, 1000, 1001, 1002, 1003, 1004, 1005] (by decide +kernel) (by decide +kernel)
set_option maxRecDepth 20000 in
theorem gL_law_X5_joined : GoodIn wsL_law (wsV RL 33 RX5 yX5_joined wsX5_joined) := goodIn_app (goodIn_of _ (by decide +kernel)) ggL_law_X5_joined
set_option maxRecDepth 20000 in
theorem ggL_law_X6_joined : GoodIn wsL_law wsX6_joined := goodIn_r _ [221, 78, 123, 160, 161, 162, 5, 163, 164, 165, 166, 119, 120, 121, 122, 81, 967, 968, 969, 970, 971, 972, 973, 974, 975, 976, 977, 978, 979, 980, 981, 982, 983, 984, 985, 986, 987, 988, 989, 990, 991, 992, 993, 994, 995, 996, 997, 998, 999] (by decide +kernel) (by decide +kernel)
set_option maxRecDepth 20000 in
theorem gL_law_X6_joined : GoodIn wsL_law (wsV RL 37 RX6 yX6_joined wsX6_joined) := goodIn_app (goodIn_of _ (by decide +kernel)) ggL_law_X6_joined
set_option maxRecDepth 20000 in
theorem ggL_law_X5_team : GoodIn wsL_law wsX5_team := goodIn_r _ [225, 16, 226, 227, 2, 228, 229, 230, 231, 101, 102, 103, 104, 26, 105, 232, 15, 233, 234, 235, 44, 45, 956, 957, 958, 959, 960, 961, 962, 963, 964, 965, 966, 1000, 1001, 1002, 1003, 1004, 1005] (by decide +kernel) (by decide +kernel)
set_option maxRecDepth 20000 in
theorem gL_law_X5_team : GoodIn wsL_law (wsV RL 38 RX5 yX5_team wsX5_team) := goodIn_app (goodIn_of _ (by decide +kernel)) ggL_law_X5_team
set_option maxRecDepth 20000 in
theorem ggL_law_X6_team : GoodIn wsL_law wsX6_team := goodIn_r _ [239, 196, 240, 123, 78, 118, 164, 165, 5, 166, 119, 120, 121, 122, 81, 241, 242, 243, 244, 967, 968, 969, 970, 971, 972, 973, 974, 975, 976, 977, 978, 979, 980, 981, 982, 983, 984, 985, 986, 987, 988, 989, 990, 991, 992, 993, 994, 995, 996, 997, 998, 999] (by decide +kernel) (by decide +kernel)
set_option maxRecDepth 20000 in
theorem gL_law_X6_team : GoodIn wsL_law (wsV RL 41 RX6 yX6_team wsX6_team) := goodIn_app (goodIn_of _ (by decide +kernel)) ggL_law_X6_team
set_option maxRecDepth 20000 in
theorem ggL_law_X5_teamOf : GoodIn wsL_law wsX5_teamOf := goodIn_r _ [248, 16, 249, 250, 15, 251, 252, 235, 101, 102, 103, 2, 104, 26, 105, 956, 957, 958, 959, 960, 961, 962, 963, 964, 965, 966, 1000, 1001, 1002, 1003, 1004, 1005] (by decide +kernel) (by decide +kernel)
set_option maxRecDepth 20000 in
theorem gL_law_X5_teamOf : GoodIn wsL_law (wsV RL 42 RX5 yX5_teamOf wsX5_teamOf) := goodIn_app (goodIn_of _ (by decide +kernel)) ggL_law_X5_teamOf
set_option maxRecDepth 20000 in
theorem ggL_law_X6_teamOf : GoodIn wsL_law wsX6_teamOf := goodIn_r _ [256, 257, 123, 258, 259, 260, 5, 261, 78, 164, 165, 166, 119, 120, 121, 122, 81, 262, 263, 264, 265, 266, 267, 268, 269, 270, 271, 272, 273, 967, 968, 969, 970, 971, 972, 973, 974, 975, 976, 977, 978, 979, 980, 981, 982, 983, 984, 985, 986, 987, 988, 989, 990, 991, 992, 993, 994, 995, 996, 997, 998, 999] (by decide +kernel) (by decide +kernel)
set_option maxRecDepth 20000 in
theorem gL_law_X6_teamOf : GoodIn wsL_law (wsV RL 45 RX6 yX6_teamOf wsX6_teamOf) := goodIn_app (goodIn_of _ (by decide +kernel)) ggL_law_X6_teamOf
set_option maxRecDepth 20000 in
theorem ggL_law_X5_pace : GoodIn wsL_law wsX5_pace := goodIn_r _ [277, 16, 250, 15, 251, 252, 235, 229, 230, 2, 231, 101, 102, 103, 104, 26, 105, 956, 957, 958, 959, 960, 961, 962, 963, 964, 965, 966, 1000, 1001, 1002, 1003, 1004, 1005] (by decide +kernel) (by decide +kernel)
set_option maxRecDepth 20000 in
theorem gL_law_X5_pace : GoodIn wsL_law (wsV RL 46 RX5 yX5_pace wsX5_pace) := goodIn_app (goodIn_of _ (by decide +kernel)) ggL_law_X5_pace
set_option maxRecDepth 20000 in
theorem ggL_law_X6_pace : GoodIn wsL_law wsX6_pace := goodIn_r _ [281, 240, 123, 78, 258, 259, 260, 5, 261, 164, 165, 166, 119, 120, 121, 122, 81, 266, 267, 268, 269, 967, 968, 969, 970, 971, 972, 973, 974, 975, 976, 977, 978, 979, 980, 981, 982, 983, 984, 985, 986, 987, 988, 989, 990, 991, 992, 993, 994, 995, 996, 997, 998, 999] (by decide +kernel) (by decide +kernel)
set_option maxRecDepth 20000 in
theorem gL_law_X6_pace : GoodIn wsL_law (wsV RL 49 RX6 yX6_pace wsX6_pace) := goodIn_app (goodIn_of _ (by decide +kernel)) ggL_law_X6_pace
set_option maxRecDepth 20000 in
theorem ggL_law_X5_as : GoodIn wsL_law wsX5_as := goodIn_r _ [285, 16, 249, 250, 15, 251, 252, 235, 226, 227, 2, 228, 101, 102, 103, 104, 26, 105, 286, 287, 288, 289, 956, 957, 958, 959, 960, 961, 962, 963, 964, 965, 966, 1000, 1001, 1002, 1003, 1004, 1005] (by decide +kernel) (by decide +kernel)
set_option maxRecDepth 20000 in
theorem gL_law_X5_as : GoodIn wsL_law (wsV RL 50 RX5 yX5_as wsX5_as) := goodIn_app (goodIn_of _ (by decide +kernel)) ggL_law_X5_as
set_option maxRecDepth 20000 in
theorem ggL_law_X6_as : GoodIn wsL_law wsX6_as := goodIn_r _ [293, 196, 123, 294, 258, 259, 260, 5, 261, 78, 164, 165, 166, 119, 120, 121, 122, 81, 262, 263, 264, 265, 270, 271, 272, 273, 967, 968, 969, 970, 971, 972, 973, 974, 975, 976, 977, 978, 979, 980, 981, 982, 983, 984, 985, 986, 987, 988, 989, 990, 991, 992, 993, 994, 995, 996, 997, 998, 999] (by decide +kernel) (by decide +kernel)
set_option maxRecDepth 20000 in
theorem gL_law_X6_as : GoodIn wsL_law (wsV RL 53 RX6 yX6_as wsX6_as) := goodIn_app (goodIn_of _ (by decide +kernel)) ggL_law_X6_as
set_option maxRecDepth 20000 in
theorem ggL_law_X5_may : GoodIn wsL_law wsX5_may := goodIn_r _ [298, 16, 250, 15, 251, 252, 235, 132, 133, 134, 109, 299, 300, 2, 301, 101, 102, 103, 104, 26, 105, 140, 141, 142, 42, 302, 303, 304, 305, 306, 307, 308, 309, 310, 311, 312, 286, 287, 288, 289, 207, 208, 209, 956, 957, 958, 959, 960, 961, 962, 963, 964, 965, 966, 1000, 1001, 1002, 1003, 1004, 1005] (by decide +kernel) (by decide +kernel)
set_option maxRecDepth 20000 in
theorem gL_law_X5_may : GoodIn wsL_law (wsV RL 54 RX5 yX5_may wsX5_may) := goodIn_app (goodIn_of _ (by decide +kernel)) ggL_law_X5_may
set_option maxRecDepth 20000 in
theorem ggL_law_X6_may : GoodIn wsL_law wsX6_may := goodIn_r _ [316, 317, 318, 319, 123, 258, 259, 260, 5, 261, 78, 164, 165, 166, 160, 161, 162, 163, 119, 120, 121, 122, 81, 320, 321, 322, 323, 262, 263, 264, 265, 324, 325, 326, 327, 328, 329, 330, 167, 168, 169, 170, 180, 181, 182, 967, 968, 969, 970, 971, 972, 973, 974, 975, 976, 977, 978, 979, 980, 981, 982, 983, 984, 985, 986, 987, 988, 989, 990, 991, 992, 993, 994, 995, 996, 997, 998, 999] (by decide +kernel) (by decide +kernel)
set_option maxRecDepth 20000 in
theorem gL_law_X6_may : GoodIn wsL_law (wsV RL 58 RX6 yX6_may wsX6_may) := goodIn_app (goodIn_of _ (by decide +kernel)) ggL_law_X6_may
set_option maxRecDepth 20000 in
theorem ggL_law_X5_best : GoodIn wsL_law wsX5_best := goodIn_r _ [334, 16, 250, 15, 251, 252, 235, 132, 133, 134, 109, 101, 102, 103, 2, 104, 26, 105, 335, 336, 337, 338, 28, 135, 136, 137, 138, 139, 140, 141, 142, 42, 339, 30, 340, 341, 342, 343, 344, 345, 53, 346, 347, 287, 288, 289, 303, 304, 305, 306, 348, 149, 150, 151, 152, 153, 154, 349, 350, 351, 352, 353, 354, 55, 56, 57, 355, 356, 357, 358, 359, 360, 361, 362, 208, 209, 363, 364, 143, 144, 145, 146, 147, 148, 365, 366, 367, 207, 368, 369, 370, 371, 372, 373, 374, 375, 376, 54, 377, 378, 379, 380, 381, 382, 383, 384, 385, 386, 387, 388, 389, 390, 308, 309, 310, 311, 312, 286, 391, 392, 393, 394, 395, 249, 956, 957, 958, 959, 960, 961, 962, 963, 964, 965, 966, 1012, 1013, 1014, 1015, 1016, 1017, 1018, 1019, 1020, 1021, 1022, 1023, 1024, 1025, 1000, 1001, 1002, 1003, 1004, 1005] (by decide +kernel) (by decide +kernel)
set_option maxRecDepth 20000 in
theorem gL_law_X5_best : GoodIn wsL_law (wsV RL 59 RX5 yX5_best wsX5_best) := goodIn_app (goodIn_of _ (by decide +kernel)) ggL_law_X5_best
set_option maxRecDepth 20000 in
theorem ggL_law_X6_best : GoodIn wsL_law wsX6_best := goodIn_r _ [399, 400, 317, 123, 401, 402, 403, 86, 258, 259, 260, 5, 261, 78, 164, 165, 166, 160, 161, 162, 163, 119, 120, 121, 122, 81, 404, 405, 406, 407, 408, 409, 410, 411, 412, 413, 414, 415, 416, 417, 167, 168, 169, 170, 171, 172, 173, 174, 175, 180, 181, 182, 418, 419, 420, 421, 82, 83, 84, 85, 422, 423, 424, 425, 426, 427, 428, 429, 430, 431, 328, 329, 330, 320, 321, 322, 323, 262, 263, 264, 265, 324, 325, 326, 327, 266, 267, 268, 269, 270, 271, 272, 273, 967, 968, 969, 970, 971, 972, 973, 974, 975, 976, 977, 978, 979, 980, 981, 982, 983, 984, 985, 986, 987, 988, 989, 990, 991, 992, 993, 994, 995, 996, 997, 998, 999] (by decide +kernel) (by decide +kernel)
set_option maxRecDepth 20000 in
theorem gL_law_X6_best : GoodIn wsL_law (wsV RL 62 RX6 yX6_best wsX6_best) := goodIn_app (goodIn_of _ (by decide +kernel)) ggL_law_X6_best
set_option maxRecDepth 20000 in
theorem ggL_law_X5_many : GoodIn wsL_law wsX5_many := goodIn_r _ [435, 16, 250, 15, 251, 252, 235, 132, 133, 134, 109, 101, 102, 103, 2, 104, 26, 105, 335, 336, 337, 338, 28, 135, 136, 137, 138, 139, 140, 141, 142, 42, 339, 30, 340, 341, 342, 343, 344, 345, 53, 346, 347, 287, 288, 289, 303, 304, 305, 306, 348, 149, 150, 151, 152, 153, 154, 349, 350, 351, 352, 353, 354, 55, 56, 57, 355, 356, 357, 358, 359, 360, 361, 362, 208, 209, 363, 364, 143, 144, 145, 146, 147, 148, 365, 366, 367, 207, 368, 369, 370, 371, 372, 373, 374, 375, 376, 54, 377, 378, 379, 380, 381, 382, 383, 384, 385, 386, 387, 388, 389, 390, 308, 309, 310, 311, 312, 286, 956, 957, 958, 959, 960, 961, 962, 963, 964, 965, 966, 1012, 1013, 1014, 1015, 1016, 1017, 1018, 1019, 1020, 1021, 1022, 1023, 1024, 1025, 1000, 1001, 1002, 1003, 1004, 1005] (by decide +kernel) (by decide +kernel)
set_option maxRecDepth 20000 in
theorem gL_law_X5_many : GoodIn wsL_law (wsV RL 63 RX5 yX5_many wsX5_many) := goodIn_app (goodIn_of _ (by decide +kernel)) ggL_law_X5_many
set_option maxRecDepth 20000 in
theorem ggL_law_X6_many : GoodIn wsL_law wsX6_many := goodIn_r _ [439, 123, 412, 258, 259, 260, 5, 261, 78, 164, 165, 166, 160, 161, 162, 163, 119, 120, 121, 122, 81, 408, 409, 410, 411, 403, 401, 413, 414, 415, 416, 417, 167, 168, 169, 170, 171, 172, 173, 174, 175, 180, 181, 182, 418, 419, 420, 421, 82, 83, 84, 85, 422, 423, 424, 425, 86, 426, 427, 428, 429, 430, 431, 328, 329, 330, 320, 321, 322, 323, 262, 263, 264, 265, 324, 325, 326, 327, 967, 968, 969, 970, 971, 972, 973, 974, 975, 976, 977, 978, 979, 980, 981, 982, 983, 984, 985, 986, 987, 988, 989, 990, 991, 992, 993, 994, 995, 996, 997, 998, 999] (by decide +kernel) (by decide +kernel)
set_option maxRecDepth 20000 in
theorem gL_law_X6_many : GoodIn wsL_law (wsV RL 66 RX6 yX6_many wsX6_many) := goodIn_app (goodIn_of _ (by decide +kernel)) ggL_law_X6_many
set_option maxRecDepth 20000 in
theorem ggL_law_X5_barred : GoodIn wsL_law wsX5_barred := goodIn_r _ [443, 16, 132, 15, 133, 134, 109, 101, 102, 103, 2, 104, 26, 105, 135, 136, 137, 138, 139, 140, 141, 142, 42, 444, 363, 364, 143, 144, 145, 146, 147, 148, 149, 150, 151, 152, 153, 154, 365, 366, 367, 207, 208, 209, 956, 957, 958, 959, 960, 961, 962, 963, 964, 965, 966, 1000, 1001, 1002, 1003, 1004, 1005] (by decide +kernel) (by decide +kernel)
set_option maxRecDepth 20000 in
theorem gL_law_X5_barred : GoodIn wsL_law (wsV RL 67 RX5 yX5_barred wsX5_barred) := goodIn_app (goodIn_of _ (by decide +kernel)) ggL_law_X5_barred
set_option maxRecDepth 20000 in
theorem ggL_law_X6_barred : GoodIn wsL_law wsX6_barred := goodIn_r _ [448, 123, 160, 161, 162, 5, 163, 78, 164, 165, 166, 119, 120, 121, 122, 81, 176, 177, 178, 179, 171, 172, 173, 174, 175, 167, 168, 169, 170, 180, 181, 182, 183, 184, 185, 449, 450, 451, 452, 967, 968, 969, 970, 971, 972, 973, 974, 975, 976, 977, 978, 979, 980, 981, 982, 983, 984, 985, 986, 987, 988, 989, 990, 991, 992, 993, 994, 995, 996, 997, 998, 999] (by decide +kernel) (by decide +kernel)
set_option maxRecDepth 20000 in
theorem gL_law_X6_barred : GoodIn wsL_law (wsV RL 70 RX6 yX6_barred wsX6_barred) := goodIn_app (goodIn_of _ (by decide +kernel)) ggL_law_X6_barred
set_option maxRecDepth 20000 in
theorem ggL_law_X5_missed : GoodIn wsL_law wsX5_missed := goodIn_r _ [456, 16, 250, 15, 251, 252, 235, 132, 133, 134, 109, 101, 102, 103, 2, 104, 26, 105, 335, 336, 337, 338, 28, 135, 136, 137, 138, 139, 140, 141, 142, 42, 339, 30, 340, 341, 342, 343, 344, 345, 53, 346, 347, 287, 288, 289, 303, 304, 305, 306, 348, 149, 150, 151, 152, 153, 154, 349, 350, 351, 352, 353, 354, 55, 56, 57, 355, 356, 357, 358, 359, 360, 361, 362, 208, 209, 363, 364, 143, 144, 145, 146, 147, 148, 365, 366, 367, 207, 368, 369, 370, 371, 372, 373, 374, 375, 376, 54, 377, 378, 379, 380, 381, 382, 383, 384, 385, 386, 387, 388, 389, 390, 308, 309, 310, 311, 312, 286, 457, 458, 459, 460, 461, 462, 463, 464, 465, 466, 467, 468, 469, 470, 471, 472, 473, 474, 475, 476, 956, 957, 958, 959, 960, 961, 962, 963, 964, 965, 966, 1012, 1013, 1014, 1015, 1016, 1017, 1018, 1019, 1020, 1021, 1022, 1023, 1024, 1025, 1000, 1001, 1002, 1003, 1004, 1005] (by decide +kernel) (by decide +kernel)
set_option maxRecDepth 20000 in
theorem gL_law_X5_missed : GoodIn wsL_law (wsV RL 71 RX5 yX5_missed wsX5_missed) := goodIn_app (goodIn_of _ (by decide +kernel)) ggL_law_X5_missed
set_option maxRecDepth 20000 in
theorem ggL_law_X6_missed : GoodIn wsL_law wsX6_missed := goodIn_r _ [480, 123, 413, 402, 258, 259, 260, 5, 261, 78, 164, 165, 166, 160, 161, 162, 163, 119, 120, 121, 122, 81, 408, 409, 410, 411, 412, 403, 401, 414, 415, 416, 417, 167, 168, 169, 170, 171, 172, 173, 174, 175, 180, 181, 182, 418, 419, 420, 421, 82, 83, 84, 85, 422, 423, 424, 425, 86, 426, 427, 428, 429, 430, 431, 328, 329, 330, 320, 321, 322, 323, 262, 263, 264, 265, 324, 325, 326, 327, 967, 968, 969, 970, 971, 972, 973, 974, 975, 976, 977, 978, 979, 980, 981, 982, 983, 984, 985, 986, 987, 988, 989, 990, 991, 992, 993, 994, 995, 996, 997, 998, 999] (by decide +kernel) (by decide +kernel)
set_option maxRecDepth 20000 in
theorem gL_law_X6_missed : GoodIn wsL_law (wsV RL 74 RX6 yX6_missed wsX6_missed) := goodIn_app (goodIn_of _ (by decide +kernel)) ggL_law_X6_missed
set_option maxRecDepth 20000 in
theorem ggL_law_X5_stone : GoodIn wsL_law wsX5_stone := goodIn_r _ [484, 16, 395, 250, 15, 251, 252, 235, 132, 133, 134, 109, 101, 102, 103, 2, 104, 26, 105, 140, 141, 142, 42, 207, 208, 209, 485, 486, 487, 488, 306, 31, 339, 30, 340, 341, 342, 343, 344, 345, 53, 346, 347, 287, 288, 289, 303, 304, 305, 348, 149, 150, 151, 152, 153, 154, 349, 350, 351, 352, 353, 354, 55, 56, 57, 355, 356, 357, 358, 359, 360, 361, 362, 363, 364, 143, 144, 145, 146, 147, 148, 365, 366, 367, 368, 369, 370, 371, 372, 373, 374, 375, 376, 54, 377, 378, 379, 380, 381, 382, 383, 384, 385, 386, 387, 388, 389, 390, 308, 309, 310, 311, 312, 286, 391, 392, 393, 394, 249, 956, 957, 958, 959, 960, 961, 962, 963, 964, 965, 966, 1000, 1001, 1002, 1003, 1004, 1005, 1012, 1013, 1014, 1015, 1016, 1017, 1018, 1019, 1020, 1021, 1022, 1023, 1024, 1025] (by decide +kernel) (by decide +kernel)
set_option maxRecDepth 20000 in
theorem gL_law_X5_stone : GoodIn wsL_law (wsV RL 75 RX5 yX5_stone wsX5_stone) := goodIn_app (goodIn_of _ (by decide +kernel)) ggL_law_X5_stone
set_option maxRecDepth 20000 in
theorem ggL_law_X6_stone : GoodIn wsL_law wsX6_stone := goodIn_r _ [492, 123, 78, 402, 258, 259, 260, 5, 261, 164, 165, 166, 160, 161, 162, 163, 119, 120, 121, 122, 81, 167, 168, 169, 170, 180, 181, 182, 404, 405, 406, 407, 403, 401, 408, 409, 410, 411, 412, 413, 414, 415, 416, 417, 171, 172, 173, 174, 175, 418, 419, 420, 421, 82, 83, 84, 85, 422, 423, 424, 425, 86, 426, 427, 428, 429, 430, 431, 328, 329, 330, 320, 321, 322, 323, 262, 263, 264, 265, 324, 325, 326, 327, 266, 267, 268, 269, 270, 271, 272, 273, 967, 968, 969, 970, 971, 972, 973, 974, 975, 976, 977, 978, 979, 980, 981, 982, 983, 984, 985, 986, 987, 988, 989, 990, 991, 992, 993, 994, 995, 996, 997, 998, 999] (by decide +kernel) (by decide +kernel)
set_option maxRecDepth 20000 in
theorem gL_law_X6_stone : GoodIn wsL_law (wsV RL 78 RX6 yX6_stone wsX6_stone) := goodIn_app (goodIn_of _ (by decide +kernel)) ggL_law_X6_stone
set_option maxRecDepth 20000 in
theorem ggL_law_X5_gate : GoodIn wsL_law wsX5_gate := goodIn_r _ [496, 16, 31, 250, 15, 251, 252, 235, 132, 133, 134, 109, 101, 102, 103, 2, 104, 26, 105, 140, 141, 142, 42, 135, 136, 137, 138, 139, 339, 30, 340, 341, 342, 343, 344, 345, 53, 346, 347, 287, 288, 289, 303, 304, 305, 306, 348, 149, 150, 151, 152, 153, 154, 349, 350, 351, 352, 353, 354, 55, 56, 57, 355, 356, 357, 358, 359, 360, 361, 362, 208, 209, 363, 364, 143, 144, 145, 146, 147, 148, 365, 366, 367, 207, 368, 369, 370, 371, 372, 373, 374, 375, 376, 54, 377, 378, 379, 380, 381, 382, 383, 384, 385, 386, 387, 388, 389, 390, 308, 309, 310, 311, 312, 286, 956, 957, 958, 959, 960, 961, 962, 963, 964, 965, 966, 1000, 1001, 1002, 1003, 1004, 1005, 1012, 1013, 1014, 1015, 1016, 1017, 1018, 1019, 1020, 1021, 1022, 1023, 1024, 1025] (by decide +kernel) (by decide +kernel)
set_option maxRecDepth 20000 in
theorem gL_law_X5_gate : GoodIn wsL_law (wsV RL 79 RX5 yX5_gate wsX5_gate) := goodIn_app (goodIn_of _ (by decide +kernel)) ggL_law_X5_gate
set_option maxRecDepth 20000 in
theorem ggL_law_X6_gate : GoodIn wsL_law wsX6_gate := goodIn_r _ [500, 257, 319, 123, 78, 402, 258, 259, 260, 5, 261, 164, 165, 166, 160, 161, 162, 163, 119, 120, 121, 122, 81, 167, 168, 169, 170, 404, 405, 406, 407, 403, 401, 408, 409, 410, 411, 412, 413, 414, 415, 416, 417, 171, 172, 173, 174, 175, 180, 181, 182, 418, 419, 420, 421, 82, 83, 84, 85, 422, 423, 424, 425, 86, 426, 427, 428, 429, 430, 431, 328, 329, 330, 320, 321, 322, 323, 262, 263, 264, 265, 324, 325, 326, 327, 266, 267, 268, 269, 270, 271, 272, 273, 967, 968, 969, 970, 971, 972, 973, 974, 975, 976, 977, 978, 979, 980, 981, 982, 983, 984, 985, 986, 987, 988, 989, 990, 991, 992, 993, 994, 995, 996, 997, 998, 999] (by decide +kernel) (by decide +kernel)
set_option maxRecDepth 20000 in
theorem gL_law_X6_gate : GoodIn wsL_law (wsV RL 82 RX6 yX6_gate wsX6_gate) := goodIn_app (goodIn_of _ (by decide +kernel)) ggL_law_X6_gate
set_option maxRecDepth 20000 in
theorem ggL_law_X5_whose : GoodIn wsL_law wsX5_whose := goodIn_r _ [504, 16, 395, 132, 15, 133, 134, 109, 101, 102, 103, 2, 104, 26, 105, 335, 336, 337, 338, 28, 135, 136, 137, 138, 139, 140, 141, 142, 42, 339, 30, 340, 341, 342, 343, 344, 345, 53, 346, 347, 287, 288, 289, 303, 304, 305, 306, 348, 149, 150, 151, 152, 153, 154, 349, 350, 351, 352, 353, 354, 55, 56, 57, 355, 356, 357, 358, 359, 360, 361, 362, 208, 209, 363, 364, 143, 144, 145, 146, 147, 148, 365, 366, 367, 207, 368, 369, 370, 371, 372, 373, 374, 375, 376, 54, 377, 378, 379, 380, 381, 382, 383, 384, 385, 386, 387, 388, 389, 390, 308, 309, 310, 311, 312, 286, 391, 392, 393, 394, 249, 956, 957, 958, 959, 960, 961, 962, 963, 964, 965, 966, 1000, 1001, 1002, 1003, 1004, 1005, 1012, 1013, 1014, 1015, 1016, 1017, 1018, 1019, 1020, 1021, 1022, 1023, 1024, 1025] (by decide +kernel) (by decide +kernel)
set_option maxRecDepth 20000 in
theorem gL_law_X5_whose : GoodIn wsL_law (wsV RL 83 RX5 yX5_whose wsX5_whose) := goodIn_app (goodIn_of _ (by decide +kernel)) ggL_law_X5_whose
set_option maxRecDepth 20000 in
theorem ggL_law_X6_whose : GoodIn wsL_law wsX6_whose := goodIn_r _ [508, 123, 78, 402, 160, 161, 162, 5, 163, 164, 165, 166, 119, 120, 121, 122, 81, 404, 405, 406, 407, 403, 401, 408, 409, 410, 411, 412, 413, 414, 415, 416, 417, 167, 168, 169, 170, 171, 172, 173, 174, 175, 180, 181, 182, 418, 419, 420, 421, 82, 83, 84, 85, 422, 423, 424, 425, 86, 426, 427, 428, 429, 430, 431, 328, 329, 330, 320, 321, 322, 323, 262, 263, 264, 265, 324, 325, 326, 327, 266, 267, 268, 269, 270, 271, 272, 273, 967, 968, 969, 970, 971, 972, 973, 974, 975, 976, 977, 978, 979, 980, 981, 982, 983, 984, 985, 986, 987, 988, 989, 990, 991, 992, 993, 994, 995, 996, 997, 998, 999] (by decide +kernel) (by decide +kernel)
set_option maxRecDepth 20000 in
theorem gL_law_X6_whose : GoodIn wsL_law (wsV RL 86 RX6 yX6_whose wsX6_whose) := goodIn_app (goodIn_of _ (by decide +kernel)) ggL_law_X6_whose
set_option maxRecDepth 20000 in
theorem ggL_law_X5_lines : GoodIn wsL_law wsX5_lines := goodIn_r _ [512, 16, 35, 250, 15, 251, 252, 235, 101, 102, 103, 2, 104, 26, 105, 513, 514, 515, 516, 335, 336, 337, 338, 28, 135, 136, 137, 138, 139, 140, 141, 142, 42, 339, 30, 340, 341, 342, 343, 344, 345, 53, 346, 347, 287, 288, 289, 303, 304, 305, 306, 348, 149, 150, 151, 152, 153, 154, 349, 350, 351, 352, 353, 354, 55, 56, 57, 355, 356, 357, 358, 359, 360, 361, 362, 208, 209, 363, 364, 143, 144, 145, 146, 147, 148, 365, 366, 367, 207, 368, 369, 370, 371, 372, 373, 374, 375, 376, 54, 377, 378, 379, 380, 381, 382, 383, 384, 385, 386, 387, 388, 389, 390, 308, 309, 310, 311, 312, 286, 391, 392, 393, 394, 395, 249, 517, 34, 518, 519, 520, 521, 61, 522, 523, 524, 525, 526, 62, 527, 475, 467, 476, 67, 68, 63, 64, 528, 529, 530, 531, 532, 533, 65, 534, 66, 535, 956, 957, 958, 959, 960, 961, 962, 963, 964, 965, 966, 1026, 1027, 1028, 1029, 1030, 1031, 1032, 1033, 1034, 1035, 1036, 1037, 1038, 1000, 1001, 1002, 1003, 1004, 1005, 1012, 1013, 1014, 1015, 1016, 1017, 1018, 1019, 1020, 1021, 1022, 1023, 1024, 1025] (by decide +kernel) (by decide +kernel)
set_option maxRecDepth 20000 in
theorem gL_law_X5_lines : GoodIn wsL_law (wsV RL 87 RX5 yX5_lines wsX5_lines) := goodIn_app (goodIn_of _ (by decide +kernel)) ggL_law_X5_lines
set_option maxRecDepth 20000 in
theorem ggL_law_X6_lines : GoodIn wsL_law wsX6_lines := goodIn_r _ [539, 123, 540, 258, 259, 260, 5, 261, 78, 164, 165, 166, 119, 120, 121, 122, 81, 541, 542, 543, 544, 87, 404, 405, 406, 407, 403, 401, 408, 409, 410, 411, 412, 413, 414, 415, 416, 417, 167, 168, 169, 170, 171, 172, 173, 174, 175, 180, 181, 182, 418, 419, 420, 421, 82, 83, 84, 85, 422, 423, 424, 425, 86, 426, 427, 428, 429, 430, 431, 328, 329, 330, 320, 321, 322, 323, 262, 263, 264, 265, 324, 325, 326, 327, 266, 267, 268, 269, 270, 271, 272, 273, 545, 546, 547, 548, 549, 550, 551, 88, 552, 553, 554, 555, 556, 557, 558, 559, 89, 90, 91, 967, 968, 969, 970, 971, 972, 973, 974, 975, 976, 977, 978, 979, 980, 981, 982, 983, 984, 985, 986, 987, 988, 989, 990, 991, 992, 993, 994, 995, 996, 997, 998, 999] (by decide +kernel) (by decide +kernel)
set_option maxRecDepth 20000 in
theorem gL_law_X6_lines : GoodIn wsL_law (wsV RL 90 RX6 yX6_lines wsX6_lines) := goodIn_app (goodIn_of _ (by decide +kernel)) ggL_law_X6_lines
set_option maxRecDepth 20000 in
theorem ggL_law_X5_late : GoodIn wsL_law wsX5_late := goodIn_r _ [563, 16, 35, 250, 15, 251, 252, 235, 101, 102, 103, 2, 104, 26, 105, 513, 514, 515, 516, 335, 336, 337, 338, 28, 135, 136, 137, 138, 139, 140, 141, 142, 42, 339, 30, 340, 341, 342, 343, 344, 345, 53, 346, 347, 287, 288, 289, 303, 304, 305, 306, 348, 149, 150, 151, 152, 153, 154, 349, 350, 351, 352, 353, 354, 55, 56, 57, 355, 356, 357, 358, 359, 360, 361, 362, 208, 209, 363, 364, 143, 144, 145, 146, 147, 148, 365, 366, 367, 207, 368, 369, 370, 371, 372, 373, 374, 375, 376, 54, 377, 378, 379, 380, 381, 382, 383, 384, 385, 386, 387, 388, 389, 390, 308, 309, 310, 311, 312, 286, 391, 392, 393, 394, 395, 249, 517, 34, 518, 519, 520, 521, 61, 522, 523, 524, 525, 526, 62, 527, 475, 467, 476, 67, 68, 63, 64, 528, 529, 530, 531, 532, 533, 65, 534, 66, 535, 956, 957, 958, 959, 960, 961, 962, 963, 964, 965, 966, 1026, 1027, 1028, 1029, 1030, 1031, 1032, 1033, 1034, 1035, 1036, 1037, 1038, 1000, 1001, 1002, 1003, 1004, 1005, 1012, 1013, 1014, 1015, 1016, 1017, 1018, 1019, 1020, 1021, 1022, 1023, 1024, 1025] (by decide +kernel) (by decide +kernel)
set_option maxRecDepth 20000 in
theorem gL_law_X5_late : GoodIn wsL_law (wsV RL 91 RX5 yX5_late wsX5_late) := goodIn_app (goodIn_of _ (by decide +kernel)) ggL_law_X5_late
set_option maxRecDepth 20000 in
theorem ggL_law_X6_late : GoodIn wsL_law wsX6_late := goodIn_r _ [567, 400, 196, 123, 549, 78, 402, 550, 90, 258, 259, 260, 5, 261, 164, 165, 166, 119, 120, 121, 122, 81, 541, 542, 543, 544, 87, 404, 405, 406, 407, 403, 401, 408, 409, 410, 411, 412, 413, 414, 415, 416, 417, 167, 168, 169, 170, 171, 172, 173, 174, 175, 180, 181, 182, 418, 419, 420, 421, 82, 83, 84, 85, 422, 423, 424, 425, 86, 426, 427, 428, 429, 430, 431, 328, 329, 330, 320, 321, 322, 323, 262, 263, 264, 265, 324, 325, 326, 327, 266, 267, 268, 269, 270, 271, 272, 273, 545, 546, 547, 548, 540, 551, 88, 552, 553, 554, 555, 556, 557, 558, 559, 89, 91, 967, 968, 969, 970, 971, 972, 973, 974, 975, 976, 977, 978, 979, 980, 981, 982, 983, 984, 985, 986, 987, 988, 989, 990, 991, 992, 993, 994, 995, 996, 997, 998, 999] (by decide +kernel) (by decide +kernel)
set_option maxRecDepth 20000 in
theorem gL_law_X6_late : GoodIn wsL_law (wsV RL 94 RX6 yX6_late wsX6_late) := goodIn_app (goodIn_of _ (by decide +kernel)) ggL_law_X6_late
set_option maxRecDepth 20000 in
theorem ggL_law_X5_done : GoodIn wsL_law wsX5_done := goodIn_r _ [571, 16, 35, 250, 15, 251, 252, 235, 132, 133, 134, 109, 101, 102, 103, 2, 104, 26, 105, 513, 514, 515, 516, 335, 336, 337, 338, 28, 135, 136, 137, 138, 139, 140, 141, 142, 42, 339, 30, 340, 341, 342, 343, 344, 345, 53, 346, 347, 287, 288, 289, 303, 304, 305, 306, 348, 149, 150, 151, 152, 153, 154, 349, 350, 351, 352, 353, 354, 55, 56, 57, 355, 356, 357, 358, 359, 360, 361, 362, 208, 209, 363, 364, 143, 144, 145, 146, 147, 148, 365, 366, 367, 207, 368, 369, 370, 371, 372, 373, 374, 375, 376, 54, 377, 378, 379, 380, 381, 382, 383, 384, 385, 386, 387, 388, 389, 390, 308, 309, 310, 311, 312, 286, 391, 392, 393, 394, 395, 249, 517, 34, 518, 519, 520, 521, 61, 522, 523, 524, 525, 526, 62, 527, 475, 467, 476, 67, 68, 63, 64, 528, 529, 530, 531, 532, 533, 65, 534, 66, 535, 956, 957, 958, 959, 960, 961, 962, 963, 964, 965, 966, 1026, 1027, 1028, 1029, 1030, 1031, 1032, 1033, 1034, 1035, 1036, 1037, 1038, 1000, 1001, 1002, 1003, 1004, 1005, 1012, 1013, 1014, 1015, 1016, 1017, 1018, 1019, 1020, 1021, 1022, 1023, 1024, 1025] (by decide +kernel) (by decide +kernel)
set_option maxRecDepth 20000 in
theorem gL_law_X5_done : GoodIn wsL_law (wsV RL 95 RX5 yX5_done wsX5_done) := goodIn_app (goodIn_of _ (by decide +kernel)) ggL_law_X5_done
set_option maxRecDepth 20000 in
theorem ggL_law_X6_done : GoodIn wsL_law wsX6_done := goodIn_r _ [575, 123, 549, 402, 91, 258, 259, 260, 5, 261, 78, 164, 165, 166, 160, 161, 162, 163, 119, 120, 121, 122, 81, 541, 542, 543, 544, 87, 404, 405, 406, 407, 403, 401, 408, 409, 410, 411, 412, 413, 414, 415, 416, 417, 167, 168, 169, 170, 171, 172, 173, 174, 175, 180, 181, 182, 418, 419, 420, 421, 82, 83, 84, 85, 422, 423, 424, 425, 86, 426, 427, 428, 429, 430, 431, 328, 329, 330, 320, 321, 322, 323, 262, 263, 264, 265, 324, 325, 326, 327, 266, 267, 268, 269, 270, 271, 272, 273, 545, 546, 547, 548, 540, 550, 551, 88, 552, 553, 554, 555, 556, 557, 558, 559, 89, 90, 967, 968, 969, 970, 971, 972, 973, 974, 975, 976, 977, 978, 979, 980, 981, 982, 983, 984, 985, 986, 987, 988, 989, 990, 991, 992, 993, 994, 995, 996, 997, 998, 999] (by decide +kernel) (by decide +kernel)
set_option maxRecDepth 20000 in
theorem gL_law_X6_done : GoodIn wsL_law (wsV RL 98 RX6 yX6_done wsX6_done) := goodIn_app (goodIn_of _ (by decide +kernel)) ggL_law_X6_done
set_option maxRecDepth 20000 in
theorem ggL_law_X5_yields : GoodIn wsL_law wsX5_yields := goodIn_r _ [579, 16, 35, 250, 15, 251, 252, 235, 101, 102, 103, 2, 104, 26, 105, 513, 514, 515, 516, 335, 336, 337, 338, 28, 135, 136, 137, 138, 139, 140, 141, 142, 42, 339, 30, 340, 341, 342, 343, 344, 345, 53, 346, 347, 287, 288, 289, 303, 304, 305, 306, 348, 149, 150, 151, 152, 153, 154, 349, 350, 351, 352, 353, 354, 55, 56, 57, 355, 356, 357, 358, 359, 360, 361, 362, 208, 209, 363, 364, 143, 144, 145, 146, 147, 148, 365, 366, 367, 207, 368, 369, 370, 371, 372, 373, 374, 375, 376, 54, 377, 378, 379, 380, 381, 382, 383, 384, 385, 386, 387, 388, 389, 390, 308, 309, 310, 311, 312, 286, 391, 392, 393, 394, 395, 249, 517, 34, 518, 519, 520, 521, 61, 522, 523, 524, 525, 526, 62, 527, 475, 467, 476, 67, 68, 63, 64, 528, 529, 530, 531, 532, 533, 65, 534, 66, 535, 956, 957, 958, 959, 960, 961, 962, 963, 964, 965, 966, 1026, 1027, 1028, 1029, 1030, 1031, 1032, 1033, 1034, 1035, 1036, 1037, 1038, 1000, 1001, 1002, 1003, 1004, 1005, 1012, 1013, 1014, 1015, 1016, 1017, 1018, 1019, 1020, 1021, 1022, 1023, 1024, 1025] (by decide +kernel) (by decide +kernel)
set_option maxRecDepth 20000 in
theorem gL_law_X5_yields : GoodIn wsL_law (wsV RL 99 RX5 yX5_yields wsX5_yields) := goodIn_app (goodIn_of _ (by decide +kernel)) ggL_law_X5_yields
set_option maxRecDepth 20000 in
theorem ggL_law_X6_yields : GoodIn wsL_law wsX6_yields := goodIn_r _ [583, 123, 540, 402, 551, 258, 259, 260, 5, 261, 78, 164, 165, 166, 119, 120, 121, 122, 81, 541, 542, 543, 544, 87, 404, 405, 406, 407, 403, 401, 408, 409, 410, 411, 412, 413, 414, 415, 416, 417, 167, 168, 169, 170, 171, 172, 173, 174, 175, 180, 181, 182, 418, 419, 420, 421, 82, 83, 84, 85, 422, 423, 424, 425, 86, 426, 427, 428, 429, 430, 431, 328, 329, 330, 320, 321, 322, 323, 262, 263, 264, 265, 324, 325, 326, 327, 266, 267, 268, 269, 270, 271, 272, 273, 545, 546, 547, 548, 549, 550, 88, 552, 553, 554, 555, 556, 557, 558, 559, 89, 90, 91, 967, 968, 969, 970, 971, 972, 973, 974, 975, 976, 977, 978, 979, 980, 981, 982, 983, 984, 985, 986, 987, 988, 989, 990, 991, 992, 993, 994, 995, 996, 997, 998, 999] (by decide +kernel) (by decide +kernel)
set_option maxRecDepth 20000 in
theorem gL_law_X6_yields : GoodIn wsL_law (wsV RL 102 RX6 yX6_yields wsX6_yields) := goodIn_app (goodIn_of _ (by decide +kernel)) ggL_law_X6_yields
set_option maxRecDepth 20000 in
theorem ggL_law_X5_row : GoodIn wsL_law wsX5_row := goodIn_r _ [587, 16, 36, 250, 15, 251, 252, 235, 588, 589, 590, 2, 591, 132, 133, 134, 109, 101, 102, 103, 104, 26, 105, 207, 208, 209, 335, 336, 337, 338, 28, 135, 136, 137, 138, 139, 140, 141, 142, 42, 339, 30, 340, 341, 342, 343, 344, 345, 53, 346, 347, 287, 288, 289, 303, 304, 305, 306, 348, 149, 150, 151, 152, 153, 154, 349, 350, 351, 352, 353, 354, 55, 56, 57, 355, 356, 357, 358, 359, 360, 361, 362, 363, 364, 143, 144, 145, 146, 147, 148, 365, 366, 367, 368, 369, 370, 371, 372, 373, 374, 375, 376, 54, 377, 378, 379, 380, 381, 382, 383, 384, 385, 386, 387, 388, 389, 390, 308, 309, 310, 311, 312, 286, 956, 957, 958, 959, 960, 961, 962, 963, 964, 965, 966, 1000, 1001, 1002, 1003, 1004, 1005, 1012, 1013, 1014, 1015, 1016, 1017, 1018, 1019, 1020, 1021, 1022, 1023, 1024, 1025] (by decide +kernel) (by decide +kernel)
set_option maxRecDepth 20000 in
theorem gL_law_X5_row : GoodIn wsL_law (wsV RL 103 RX5 yX5_row wsX5_row) := goodIn_app (goodIn_of _ (by decide +kernel)) ggL_law_X5_row
set_option maxRecDepth 20000 in
theorem ggL_law_X6_row : GoodIn wsL_law wsX6_row := goodIn_r _ [595, 596, 123, 88, 78, 87, 258, 259, 260, 5, 261, 164, 165, 166, 119, 120, 121, 122, 81, 541, 542, 543, 544, 404, 405, 406, 407, 403, 401, 408, 409, 410, 411, 412, 413, 414, 415, 416, 417, 167, 168, 169, 170, 171, 172, 173, 174, 175, 180, 181, 182, 418, 419, 420, 421, 82, 83, 84, 85, 422, 423, 424, 425, 86, 426, 427, 428, 429, 430, 431, 328, 329, 330, 320, 321, 322, 323, 262, 263, 264, 265, 324, 325, 326, 327, 266, 267, 268, 269, 270, 271, 272, 273, 552, 553, 554, 555, 967, 968, 969, 970, 971, 972, 973, 974, 975, 976, 977, 978, 979, 980, 981, 982, 983, 984, 985, 986, 987, 988, 989, 990, 991, 992, 993, 994, 995, 996, 997, 998, 999] (by decide +kernel) (by decide +kernel)
set_option maxRecDepth 20000 in
theorem gL_law_X6_row : GoodIn wsL_law (wsV RL 106 RX6 yX6_row wsX6_row) := goodIn_app (goodIn_of _ (by decide +kernel)) ggL_law_X6_row
set_option maxRecDepth 20000 in
theorem ggL_law_X5_lacks : GoodIn wsL_law wsX5_lacks := goodIn_r _ [600, 16, 35, 250, 15, 251, 252, 235, 101, 102, 103, 2, 104, 26, 105, 513, 514, 515, 516, 335, 336, 337, 338, 28, 135, 136, 137, 138, 139, 140, 141, 142, 42, 339, 30, 340, 341, 342, 343, 344, 345, 53, 346, 347, 287, 288, 289, 303, 304, 305, 306, 348, 149, 150, 151, 152, 153, 154, 349, 350, 351, 352, 353, 354, 55, 56, 57, 355, 356, 357, 358, 359, 360, 361, 362, 208, 209, 363, 364, 143, 144, 145, 146, 147, 148, 365, 366, 367, 207, 368, 369, 370, 371, 372, 373, 374, 375, 376, 54, 377, 378, 379, 380, 381, 382, 383, 384, 385, 386, 387, 388, 389, 390, 308, 309, 310, 311, 312, 286, 391, 392, 393, 394, 395, 249, 517, 34, 518, 519, 520, 521, 61, 522, 523, 524, 525, 526, 62, 527, 475, 467, 476, 67, 68, 63, 64, 528, 529, 530, 531, 532, 533, 65, 534, 66, 535, 956, 957, 958, 959, 960, 961, 962, 963, 964, 965, 966, 1000, 1001, 1002, 1003, 1004, 1005, 1026, 1027, 1028, 1029, 1030, 1031, 1032, 1033, 1034, 1035, 1036, 1037, 1038, 1012, 1013, 1014, 1015, 1016, 1017, 1018, 1019, 1020, 1021, 1022, 1023, 1024, 1025] (by decide +kernel) (by decide +kernel)
set_option maxRecDepth 20000 in
theorem gL_law_X5_lacks : GoodIn wsL_law (wsV RL 107 RX5 yX5_lacks wsX5_lacks) := goodIn_app (goodIn_of _ (by decide +kernel)) ggL_law_X5_lacks
set_option maxRecDepth 20000 in
theorem ggL_law_X6_lacks : GoodIn wsL_law wsX6_lacks := goodIn_r _ [604, 123, 78, 549, 402, 258, 259, 260, 5, 261, 164, 165, 166, 119, 120, 121, 122, 81, 541, 542, 543, 544, 87, 404, 405, 406, 407, 403, 401, 408, 409, 410, 411, 412, 413, 414, 415, 416, 417, 167, 168, 169, 170, 171, 172, 173, 174, 175, 180, 181, 182, 418, 419, 420, 421, 82, 83, 84, 85, 422, 423, 424, 425, 86, 426, 427, 428, 429, 430, 431, 328, 329, 330, 320, 321, 322, 323, 262, 263, 264, 265, 324, 325, 326, 327, 266, 267, 268, 269, 270, 271, 272, 273, 545, 546, 547, 548, 540, 550, 551, 88, 552, 553, 554, 555, 556, 557, 558, 559, 89, 90, 91, 967, 968, 969, 970, 971, 972, 973, 974, 975, 976, 977, 978, 979, 980, 981, 982, 983, 984, 985, 986, 987, 988, 989, 990, 991, 992, 993, 994, 995, 996, 997, 998, 999] (by decide +kernel) (by decide +kernel)
set_option maxRecDepth 20000 in
theorem gL_law_X6_lacks : GoodIn wsL_law (wsV RL 110 RX6 yX6_lacks wsX6_lacks) := goodIn_app (goodIn_of _ (by decide +kernel)) ggL_law_X6_lacks
set_option maxRecDepth 20000 in
theorem ggL_law_X5_feed : GoodIn wsL_law wsX5_feed := goodIn_r _ [608, 22, 101, 102, 103, 2, 104, 26, 105, 609, 21, 610, 611, 612, 49, 956, 957, 958, 959, 960, 961, 962, 963, 964, 965, 966, 1006, 1007, 1008, 1009, 1010, 1011] (by decide +kernel) (by decide +kernel)
set_option maxRecDepth 20000 in
theorem gL_law_X5_feed : GoodIn wsL_law (wsV RL 111 RX5 yX5_feed wsX5_feed) := goodIn_app (goodIn_of _ (by decide +kernel)) ggL_law_X5_feed
set_option maxRecDepth 20000 in
theorem ggL_law_X6_feed : GoodIn wsL_law wsX6_feed := goodIn_r _ [616, 617, 123, 618, 118, 92, 164, 165, 5, 166, 119, 120, 121, 122, 81, 967, 968, 969, 970, 971, 972, 973, 974, 975, 976, 977, 978, 979, 980, 981, 982, 983, 984, 985, 986, 987, 988, 989, 990, 991, 992, 993, 994, 995, 996, 997, 998, 999] (by decide +kernel) (by decide +kernel)
set_option maxRecDepth 20000 in
theorem gL_law_X6_feed : GoodIn wsL_law (wsV RL 114 RX6 yX6_feed wsX6_feed) := goodIn_app (goodIn_of _ (by decide +kernel)) ggL_law_X6_feed
set_option maxRecDepth 20000 in
theorem ggL_law_X5_wipe : GoodIn wsL_law wsX5_wipe := goodIn_r _ [622, 22, 956, 957, 958, 959, 960, 961, 962, 963, 964, 965, 966, 1006, 1007, 1008, 1009, 1010, 1011] (by decide +kernel) (by decide +kernel)
set_option maxRecDepth 20000 in
theorem gL_law_X5_wipe : GoodIn wsL_law (wsV RL 115 RX5 yX5_wipe wsX5_wipe) := goodIn_app (goodIn_of _ (by decide +kernel)) ggL_law_X5_wipe
set_option maxRecDepth 20000 in
theorem ggL_law_X6_wipe : GoodIn wsL_law wsX6_wipe := goodIn_r _ [626, 618, 967, 968, 969, 970, 971, 972, 973, 974, 975, 976, 977, 978, 979, 980, 981, 982, 983, 984, 985, 986, 987, 988, 989, 990, 991, 992, 993, 994, 995, 996, 997, 998, 999] (by decide +kernel) (by decide +kernel)
set_option maxRecDepth 20000 in
theorem gL_law_X6_wipe : GoodIn wsL_law (wsV RL 118 RX6 yX6_wipe wsX6_wipe) := goodIn_app (goodIn_of _ (by decide +kernel)) ggL_law_X6_wipe
set_option maxRecDepth 20000 in
theorem ggL_law_X5_parish : GoodIn wsL_law wsX5_parish := goodIn_r _ [630, 18, 16, 22, 631, 15, 632, 633, 109, 235, 42, 634, 378, 379, 380, 43, 44, 45, 635, 21, 636, 637, 638, 639, 640, 641, 642, 643, 644, 612, 49, 645, 646, 647, 648, 649, 650, 651, 652, 653, 654, 655, 656, 466, 467, 468, 657, 658, 659, 660, 661, 662, 663, 664, 665, 666, 667, 668, 669, 670, 671, 672, 673, 674, 675, 676, 677, 678, 679, 680, 681, 682, 683, 684, 685, 686, 687, 688, 689, 690, 691, 692, 693, 694, 695, 696, 697, 698, 699, 700, 701, 702, 703, 704, 705, 706, 707, 708, 709, 710, 711, 712, 713, 714, 715, 716, 717, 106, 107, 108, 110, 111, 112, 113, 718, 719, 720, 721, 722, 723, 724, 725, 726, 727, 728, 729, 730, 731, 732, 733, 734, 735, 736, 737, 738, 739, 740, 741, 232, 233, 234, 956, 957, 958, 959, 960, 961, 962, 963, 964, 965, 966, 1006, 1007, 1008, 1009, 1010, 1011, 1000, 1001, 1002, 1003, 1004, 1005] (by decide +kernel) (by decide +kernel)
set_option maxRecDepth 20000 in
theorem gL_law_X5_parish : GoodIn wsL_law (wsV RL 119 RX5 yX5_parish wsX5_parish) := goodIn_app (goodIn_of _ (by decide +kernel)) ggL_law_X5_parish
set_option maxRecDepth 20000 in
theorem ggL_law_X6_parish : GoodIn wsL_law wsX6_parish := goodIn_r _ [745, 80, 78, 746, 747, 748, 618, 749, 750, 751, 5, 752, 753, 754, 755, 756, 92, 757, 758, 759, 760, 761, 164, 165, 166, 762, 763, 764, 765, 766, 767, 768, 769, 770, 771, 772, 773, 774, 775, 776, 777, 778, 779, 780, 781, 782, 783, 784, 785, 786, 787, 788, 789, 790, 791, 241, 242, 243, 244, 792, 793, 794, 795, 796, 797, 798, 799, 800, 801, 802, 803, 124, 125, 126, 127, 804, 805, 806, 807, 160, 161, 162, 163, 967, 968, 969, 970, 971, 972, 973, 974, 975, 976, 977, 978, 979, 980, 981, 982, 983, 984, 985, 986, 987, 988, 989, 990, 991, 992, 993, 994, 995, 996, 997, 998, 999] (by decide +kernel) (by decide +kernel)
set_option maxRecDepth 20000 in
theorem gL_law_X6_parish : GoodIn wsL_law (wsV RL 122 RX6 yX6_parish wsX6_parish) := goodIn_app (goodIn_of _ (by decide +kernel)) ggL_law_X6_parish
set_option maxRecDepth 20000 in
theorem ggL_law_X5_sheet : GoodIn wsL_law wsX5_sheet := goodIn_r _ [811, 24, 812, 813, 2, 814, 101, 102, 103, 104, 26, 105, 815, 38, 816, 817, 818, 819, 73, 820, 821, 357, 822, 956, 957, 958, 959, 960, 961, 962, 963, 964, 965, 966, 1039, 1040, 1041] (by decide +kernel) (by decide +kernel)
set_option maxRecDepth 20000 in
theorem gL_law_X5_sheet : GoodIn wsL_law (wsV RL 123 RX5 yX5_sheet wsX5_sheet) := goodIn_app (goodIn_of _ (by decide +kernel)) ggL_law_X5_sheet
set_option maxRecDepth 20000 in
theorem ggL_law_X6_sheet : GoodIn wsL_law wsX6_sheet := goodIn_r _ [826, 123, 827, 93, 94, 95, 828, 829, 5, 830, 319, 164, 165, 166, 119, 120, 121, 122, 81, 967, 968, 969, 970, 971, 972, 973, 974, 975, 976, 977, 978, 979, 980, 981, 982, 983, 984, 985, 986, 987, 988, 989, 990, 991, 992, 993, 994, 995, 996, 997, 998, 999] (by decide +kernel) (by decide +kernel)
set_option maxRecDepth 20000 in
theorem gL_law_X6_sheet : GoodIn wsL_law (wsV RL 126 RX6 yX6_sheet wsX6_sheet) := goodIn_app (goodIn_of _ (by decide +kernel)) ggL_law_X6_sheet
set_option maxRecDepth 20000 in
theorem ggL_law_X5_write : GoodIn wsL_law wsX5_write := goodIn_r _ [834, 24, 812, 813, 2, 814, 101, 102, 103, 104, 26, 105, 835, 38, 836, 837, 818, 73, 956, 957, 958, 959, 960, 961, 962, 963, 964, 965, 966, 1039, 1040, 1041] (by decide +kernel) (by decide +kernel)
set_option maxRecDepth 20000 in
theorem gL_law_X5_write : GoodIn wsL_law (wsV RL 129 RX5 yX5_write wsX5_write) := goodIn_app (goodIn_of _ (by decide +kernel)) ggL_law_X5_write
set_option maxRecDepth 20000 in
theorem ggL_law_X6_write : GoodIn wsL_law wsX6_write := goodIn_r _ [841, 94, 123, 95, 93, 842, 843, 844, 5, 845, 846, 828, 829, 830, 319, 164, 165, 166, 119, 120, 121, 122, 81, 847, 848, 849, 967, 968, 969, 970, 971, 972, 973, 974, 975, 976, 977, 978, 979, 980, 981, 982, 983, 984, 985, 986, 987, 988, 989, 990, 991, 992, 993, 994, 995, 996, 997, 998, 999] (by decide +kernel) (by decide +kernel)
set_option maxRecDepth 20000 in
theorem gL_law_X6_write : GoodIn wsL_law (wsV RL 133 RX6 yX6_write wsX6_write) := goodIn_app (goodIn_of _ (by decide +kernel)) ggL_law_X6_write
set_option maxRecDepth 20000 in
theorem ggL_law_X5_copy : GoodIn wsL_law wsX5_copy := goodIn_r _ [853, 24, 854, 378, 379, 380, 812, 813, 2, 814, 101, 102, 103, 104, 26, 105, 855, 38, 856, 857, 819, 956, 957, 958, 959, 960, 961, 962, 963, 964, 965, 966, 1039, 1040, 1041] (by decide +kernel) (by decide +kernel)
set_option maxRecDepth 20000 in
theorem gL_law_X5_copy : GoodIn wsL_law (wsV RL 134 RX5 yX5_copy wsX5_copy) := goodIn_app (goodIn_of _ (by decide +kernel)) ggL_law_X5_copy
set_option maxRecDepth 20000 in
theorem ggL_law_X6_copy : GoodIn wsL_law wsX6_copy := goodIn_r _ [861, 123, 93, 846, 294, 94, 96, 95, 828, 829, 5, 830, 319, 164, 165, 166, 119, 120, 121, 122, 81, 967, 968, 969, 970, 971, 972, 973, 974, 975, 976, 977, 978, 979, 980, 981, 982, 983, 984, 985, 986, 987, 988, 989, 990, 991, 992, 993, 994, 995, 996, 997, 998, 999] (by decide +kernel) (by decide +kernel)
set_option maxRecDepth 20000 in
theorem gL_law_X6_copy : GoodIn wsL_law (wsV RL 138 RX6 yX6_copy wsX6_copy) := goodIn_app (goodIn_of _ (by decide +kernel)) ggL_law_X6_copy
set_option maxRecDepth 20000 in
theorem ggL_law_X5_lays : GoodIn wsL_law wsX5_lays := goodIn_r _ [865, 24, 16, 866, 812, 813, 2, 814, 101, 102, 103, 104, 26, 105, 132, 15, 133, 134, 109, 867, 868, 869, 139, 140, 141, 142, 42, 110, 111, 112, 113, 956, 957, 958, 959, 960, 961, 962, 963, 964, 965, 966, 1039, 1040, 1041, 1000, 1001, 1002, 1003, 1004, 1005] (by decide +kernel) (by decide +kernel)
set_option maxRecDepth 20000 in
theorem gL_law_X5_lays : GoodIn wsL_law (wsV RL 139 RX5 yX5_lays wsX5_lays) := goodIn_app (goodIn_of _ (by decide +kernel)) ggL_law_X5_lays
set_option maxRecDepth 20000 in
theorem ggL_law_X6_lays : GoodIn wsL_law wsX6_lays := goodIn_r _ [873, 123, 94, 95, 257, 78, 842, 843, 844, 5, 845, 93, 846, 828, 829, 830, 319, 164, 165, 166, 119, 120, 121, 122, 81, 160, 161, 162, 163, 967, 968, 969, 970, 971, 972, 973, 974, 975, 976, 977, 978, 979, 980, 981, 982, 983, 984, 985, 986, 987, 988, 989, 990, 991, 992, 993, 994, 995, 996, 997, 998, 999] (by decide +kernel) (by decide +kernel)
set_option maxRecDepth 20000 in
theorem gL_law_X6_lays : GoodIn wsL_law (wsV RL 142 RX6 yX6_lays wsX6_lays) := goodIn_app (goodIn_of _ (by decide +kernel)) ggL_law_X6_lays
set_option maxRecDepth 20000 in
theorem ggL_law_X5_draw : GoodIn wsL_law wsX5_draw := goodIn_r _ [877, 24, 878, 466, 467, 468, 879, 880, 881, 2, 882, 16, 812, 813, 814, 250, 15, 251, 252, 235, 132, 133, 134, 109, 101, 102, 103, 104, 26, 105, 335, 336, 337, 338, 28, 135, 136, 137, 138, 139, 140, 141, 142, 42, 339, 30, 340, 341, 342, 343, 344, 345, 53, 346, 347, 287, 288, 289, 303, 304, 305, 306, 348, 149, 150, 151, 152, 153, 154, 349, 350, 351, 352, 353, 354, 55, 56, 57, 355, 356, 357, 358, 359, 360, 361, 362, 208, 209, 363, 364, 143, 144, 145, 146, 147, 148, 365, 366, 367, 207, 368, 369, 370, 371, 372, 373, 374, 375, 376, 54, 377, 378, 379, 380, 381, 382, 383, 384, 385, 386, 387, 388, 389, 390, 308, 309, 310, 311, 312, 286, 835, 38, 836, 837, 818, 73, 1012, 1013, 1014, 1015, 1016, 1017, 1018, 1019, 1020, 1021, 1022, 1023, 1024, 1025, 956, 957, 958, 959, 960, 961, 962, 963, 964, 965, 966, 1039, 1040, 1041, 1000, 1001, 1002, 1003, 1004, 1005] (by decide +kernel) (by decide +kernel)
set_option maxRecDepth 20000 in
theorem gL_law_X5_draw : GoodIn wsL_law (wsV RL 143 RX5 yX5_draw wsX5_draw) := goodIn_app (goodIn_of _ (by decide +kernel)) ggL_law_X5_draw
set_option maxRecDepth 20000 in
theorem ggL_law_X6_draw : GoodIn wsL_law wsX6_draw := goodIn_r _ [886, 123, 402, 401, 94, 95, 86, 842, 843, 844, 5, 845, 93, 846, 828, 829, 830, 319, 164, 165, 166, 119, 120, 121, 122, 81, 258, 259, 260, 261, 78, 160, 161, 162, 163, 404, 405, 406, 407, 403, 408, 409, 410, 411, 412, 413, 414, 415, 416, 417, 167, 168, 169, 170, 171, 172, 173, 174, 175, 180, 181, 182, 418, 419, 420, 421, 82, 83, 84, 85, 422, 423, 424, 425, 426, 427, 428, 429, 430, 431, 328, 329, 330, 320, 321, 322, 323, 262, 263, 264, 265, 324, 325, 326, 327, 266, 267, 268, 269, 270, 271, 272, 273, 967, 968, 969, 970, 971, 972, 973, 974, 975, 976, 977, 978, 979, 980, 981, 982, 983, 984, 985, 986, 987, 988, 989, 990, 991, 992, 993, 994, 995, 996, 997, 998, 999] (by decide +kernel) (by decide +kernel)
set_option maxRecDepth 20000 in
theorem gL_law_X6_draw : GoodIn wsL_law (wsV RL 146 RX6 yX6_draw wsX6_draw) := goodIn_app (goodIn_of _ (by decide +kernel)) ggL_law_X6_draw
set_option maxRecDepth 20000 in
theorem ggL_law_X5_read : GoodIn wsL_law wsX5_read := goodIn_r _ [890, 24, 16, 879, 880, 881, 2, 882, 812, 813, 814, 250, 15, 251, 252, 235, 132, 133, 134, 109, 101, 102, 103, 104, 26, 105, 135, 136, 137, 138, 139, 140, 141, 142, 42, 302, 303, 304, 305, 306, 891, 892, 893, 894, 207, 208, 209, 895, 896, 897, 898, 389, 390, 307, 308, 309, 310, 311, 312, 286, 287, 288, 289, 956, 957, 958, 959, 960, 961, 962, 963, 964, 965, 966, 1039, 1040, 1041, 1000, 1001, 1002, 1003, 1004, 1005] (by decide +kernel) (by decide +kernel)
set_option maxRecDepth 20000 in
theorem gL_law_X5_read : GoodIn wsL_law (wsV RL 147 RX5 yX5_read wsX5_read) := goodIn_app (goodIn_of _ (by decide +kernel)) ggL_law_X5_read
set_option maxRecDepth 20000 in
theorem ggL_law_X6_read : GoodIn wsL_law wsX6_read := goodIn_r _ [902, 123, 94, 95, 317, 842, 843, 844, 5, 845, 93, 846, 828, 829, 830, 319, 164, 165, 166, 119, 120, 121, 122, 81, 258, 259, 260, 261, 78, 160, 161, 162, 163, 171, 172, 173, 174, 175, 167, 168, 169, 170, 180, 181, 182, 903, 904, 905, 328, 329, 330, 320, 321, 322, 323, 262, 263, 264, 265, 324, 325, 326, 327, 967, 968, 969, 970, 971, 972, 973, 974, 975, 976, 977, 978, 979, 980, 981, 982, 983, 984, 985, 986, 987, 988, 989, 990, 991, 992, 993, 994, 995, 996, 997, 998, 999] (by decide +kernel) (by decide +kernel)
set_option maxRecDepth 20000 in
theorem gL_law_X6_read : GoodIn wsL_law (wsV RL 150 RX6 yX6_read wsX6_read) := goodIn_app (goodIn_of _ (by decide +kernel)) ggL_law_X6_read
set_option maxRecDepth 20000 in
theorem ggL_law_X5_image : GoodIn wsL_law wsX5_image := goodIn_r _ [909, 17, 16, 910, 631, 15, 632, 633, 109, 235, 42, 634, 378, 379, 380, 43, 44, 45, 956, 957, 958, 959, 960, 961, 962, 963, 964, 965, 966, 1000, 1001, 1002, 1003, 1004, 1005] (by decide +kernel) (by decide +kernel)
set_option maxRecDepth 20000 in
theorem gL_law_X5_image : GoodIn wsL_law (wsV RL 151 RX5 yX5_image wsX5_image) := goodIn_app (goodIn_of _ (by decide +kernel)) ggL_law_X5_image
set_option maxRecDepth 20000 in
theorem ggL_law_X6_image : GoodIn wsL_law wsX6_image := goodIn_r _ [914, 79, 78, 915, 967, 968, 969, 970, 971, 972, 973, 974, 975, 976, 977, 978, 979, 980, 981, 982, 983, 984, 985, 986, 987, 988, 989, 990, 991, 992, 993, 994, 995, 996, 997, 998, 999] (by decide +kernel) (by decide +kernel)
set_option maxRecDepth 20000 in
theorem gL_law_X6_image : GoodIn wsL_law (wsV RL 154 RX6 yX6_image wsX6_image) := goodIn_app (goodIn_of _ (by decide +kernel)) ggL_law_X6_image
set_option maxRecDepth 20000 in
theorem ggL_law_X5_undo : GoodIn wsL_law wsX5_undo := goodIn_r _ [919, 910, 16, 17, 101, 102, 103, 2, 104, 26, 105, 631, 15, 632, 633, 109, 235, 42, 634, 378, 379, 380, 43, 44, 45, 956, 957, 958, 959, 960, 961, 962, 963, 964, 965, 966, 1000, 1001, 1002, 1003, 1004, 1005] (by decide +kernel) (by decide +kernel)
set_option maxRecDepth 20000 in
theorem gL_law_X5_undo : GoodIn wsL_law (wsV RL 155 RX5 yX5_undo wsX5_undo) := goodIn_app (goodIn_of _ (by decide +kernel)) ggL_law_X5_undo
set_option maxRecDepth 20000 in
theorem ggL_law_X6_undo : GoodIn wsL_law wsX6_undo := goodIn_r _ [923, 915, 402, 78, 79, 119, 120, 121, 5, 122, 81, 123, 967, 968, 969, 970, 971, 972, 973, 974, 975, 976, 977, 978, 979, 980, 981, 982, 983, 984, 985, 986, 987, 988, 989, 990, 991, 992, 993, 994, 995, 996, 997, 998, 999] (by decide +kernel) (by decide +kernel)
set_option maxRecDepth 20000 in
theorem gL_law_X6_undo : GoodIn wsL_law (wsV RL 158 RX6 yX6_undo wsX6_undo) := goodIn_app (goodIn_of _ (by decide +kernel)) ggL_law_X6_undo
set_option maxRecDepth 20000 in
theorem ggL_law_X5_tear : GoodIn wsL_law wsX5_tear := goodIn_r _ [927, 910, 956, 957, 958, 959, 960, 961, 962, 963, 964, 965, 966] (by decide +kernel) (by decide +kernel)
set_option maxRecDepth 20000 in
theorem gL_law_X5_tear : GoodIn wsL_law (wsV RL 159 RX5 yX5_tear wsX5_tear) := goodIn_app (goodIn_of _ (by decide +kernel)) ggL_law_X5_tear
set_option maxRecDepth 20000 in
theorem ggL_law_X6_tear : GoodIn wsL_law wsX6_tear := goodIn_r _ [931, 915, 967, 968, 969, 970, 971, 972, 973, 974, 975, 976, 977, 978, 979, 980, 981, 982, 983, 984, 985, 986, 987, 988, 989, 990, 991, 992, 993, 994, 995, 996, 997, 998, 999] (by decide +kernel) (by decide +kernel)
set_option maxRecDepth 20000 in
theorem gL_law_X6_tear : GoodIn wsL_law (wsV RL 162 RX6 yX6_tear wsX6_tear) := goodIn_app (goodIn_of _ (by decide +kernel)) ggL_law_X6_tear
set_option maxRecDepth 20000 in
theorem ggL_law_X5_count : GoodIn wsL_law wsX5_count := goodIn_r _ [935, 16, 22, 936, 15, 937, 938, 109, 939, 135, 136, 137, 138, 139, 140, 141, 142, 42, 940, 149, 150, 151, 152, 153, 154, 941, 942, 943, 43, 101, 102, 103, 2, 104, 26, 105, 956, 957, 958, 959, 960, 961, 962, 963, 964, 965, 966, 1000, 1001, 1002, 1003, 1004, 1005, 1006, 1007, 1008, 1009, 1010, 1011] (by decide +kernel) (by decide +kernel)
set_option maxRecDepth 20000 in
theorem gL_law_X5_count : GoodIn wsL_law (wsV RL 163 RX5 yX5_count wsX5_count) := goodIn_app (goodIn_of _ (by decide +kernel)) ggL_law_X5_count
set_option maxRecDepth 20000 in
theorem ggL_law_X6_count : GoodIn wsL_law wsX6_count := goodIn_r _ [947, 78, 618, 123, 171, 172, 173, 5, 174, 175, 167, 168, 169, 170, 426, 427, 428, 119, 120, 121, 122, 81, 967, 968, 969, 970, 971, 972, 973, 974, 975, 976, 977, 978, 979, 980, 981, 982, 983, 984, 985, 986, 987, 988, 989, 990, 991, 992, 993, 994, 995, 996, 997, 998, 999] (by decide +kernel) (by decide +kernel)
set_option maxRecDepth 20000 in
theorem gL_law_X6_count : GoodIn wsL_law (wsV RL 166 RX6 yX6_count wsX6_count) := goodIn_app (goodIn_of _ (by decide +kernel)) ggL_law_X6_count
set_option maxRecDepth 20000 in
theorem ggL_law_X5_status : GoodIn wsL_law wsX5_status := goodIn_r _ [951, 26, 101, 102, 103, 2, 104, 105, 956, 957, 958, 959, 960, 961, 962, 963, 964, 965, 966] (by decide +kernel) (by decide +kernel)
set_option maxRecDepth 20000 in
theorem gL_law_X5_status : GoodIn wsL_law (wsV RL 167 RX5 yX5_status wsX5_status) := goodIn_app (goodIn_of _ (by decide +kernel)) ggL_law_X5_status
set_option maxRecDepth 20000 in
theorem ggL_law_X6_status : GoodIn wsL_law wsX6_status := goodIn_r _ [955, 318, 596, 123, 81, 164, 165, 5, 166, 119, 120, 121, 122, 967, 968, 969, 970, 971, 972, 973, 974, 975, 976, 977, 978, 979, 980, 981, 982, 983, 984, 985, 986, 987, 988, 989, 990, 991, 992, 993, 994, 995, 996, 997, 998, 999] (by decide +kernel) (by decide +kernel)
set_option maxRecDepth 20000 in
theorem gL_law_X6_status : GoodIn wsL_law (wsV RL 170 RX6 yX6_status wsX6_status) := goodIn_app (goodIn_of _ (by decide +kernel)) ggL_law_X6_status
