set_option maxRecDepth 20000 in
theorem ggL_law_X5_joined : GoodIn wsL_law wsX5_joined := goodIn_r _ [217, 16, 132, 15, 133, 134, 109, 101, 102, 103, 2, 104, 26, 105, 956, 957, 958, 959, 960, 961, 962, 963, 964, 965, 966, 1000, 1001, 1002, 1003, 1004, 1005] (by decide +kernel) (by decide +kernel)
set_option maxRecDepth 20000 in
theorem gL_law_X5_joined : GoodIn wsL_law (wsV RL 33 RX5 yX5_joined wsX5_joined) := goodIn_app (goodIn_of _ (by decide +kernel)) ggL_law_X5_joined
set_option maxRecDepth 20000 in
theorem ggL_law_X6_joined : GoodIn wsL_law wsX6_joined := goodIn_r _ [221, 78, 123, 160, 161, 162, 5, 163, 164, 165, 166, 119, 120, 121, 122, 81, 967, 968, 969, 970, 971, 972, 973, 974, 975, 976, 977, 978, 979, 980, 981, 982, 983, 984, 985, 986, 987, 988, 989, 990, 991, 992, 993, 994, 995, 996, 997, 998, 999] (by decide +kernel) (by decide +kernel)
set_option maxRecDepth 20000 in
theorem gL_law_X6_joined : GoodIn wsL_law (wsV RL 37 RX6 yX6_joined wsX6_joined) := goodIn_app (goodIn_of _ (by decide +kernel)) ggL_law_X6_joined
set_option maxRecDepth 20000 in
theorem ggL_law_X5_team : GoodIn wsL_law wsX5_team := goodIn_r _ [225, 16, 226, 227, 2, 228, 229, 230, 231, 101, 102, 103, 104, 26, 105, 232, 15, 233, 234, 235, 44, 45, 956, 957, 958, 959, 960, 961, 962, 963, 964, 965, 966, 1000, 1001, 1002, 1003, 1004, 1005] (by decide +kernel) (by decide +kernel)
set_option maxRecDepth 20000 in
theorem gL_law_X5_team : GoodIn wsL_law (wsV RL 38 RX5 yX5_team wsX5_team) := goodIn_app (goodIn_of _ (by decide +kernel)) ggL_law_X5_team
set_option maxRecDepth 20000 in
theorem ggL_law_X6_team : GoodIn wsL_law wsX6_team := goodIn_r _ [239, 196, 240, 123, 78, 118, 164, 165, 5, 166, 119, 120, 121, 122, 81, 241, 242, 243, 244, 967, 968, 969, 970, 971, 972, 973, 974, 975, 976, 977, 978, 979, 980, 981, 982, 983, 984, 985, 986, 987, 988, 989, 990, 991, 992, 993, 994, 995, 996, 997, 998, 999] (by decide +kernel) (by decide +kernel)
set_option maxRecDepth 20000 in
theorem gL_law_X6_team : GoodIn wsL_law (wsV RL 41 RX6 yX6_team wsX6_team) := goodIn_app (goodIn_of _ (by decide +kernel)) ggL_law_X6_team
set_option maxRecDepth 20000 in
theorem ggL_law_X5_teamOf : GoodIn wsL_law wsX5_teamOf := goodIn_r _ [248, 16, 249, 250, 15, 251, 252, 235, 101, 102, 103, 2, 104, 26, 105, 956, 957, 958, 959, 960, 961, 962, 963, 964, 965, 966, 1000, 1001, 1002, 1003, 1004, 1005] (by decide +kernel) (by decide +kernel)
set_option maxRecDepth 20000 in
theorem gL_law_X5_teamOf : GoodIn wsL_law (wsV RL 42 RX5 yX5_teamOf wsX5_teamOf) := goodIn_app (goodIn_of _ (by decide +kernel)) ggL_law_X5_teamOf
set_option maxRecDepth 20000 in
theorem ggL_law_X6_teamOf : GoodIn wsL_law wsX6_teamOf := goodIn_r _ [256, 257, 123, 258, 259, 260, 5, 261, 78, 164, 165, 166, 119, 120, 121, 122, 81, 262, 263, 264, 265, 266, 267, 268, 269, 270, 271, 272, 273, 967, 968, 969, 970, 971, 972, 973, 974, 975, 976, 977, 978, 979, 980, 981, 982, 983, 984, 985, 986, 987, 988, 989, 990, 991, 992, 993, 994, 995, 996, 997, 998, 999] (by decide +kernel) (by decide +kernel)
set_option maxRecDepth 20000 in
theorem gL_law_X6_teamOf : GoodIn wsL_law (wsV RL 45 RX6 yX6_teamOf wsX6_teamOf) := goodIn_app (goodIn_of _ (by decide +kernel)) ggL_law_X6_teamOf
set_option maxRecDepth 20000 in
theorem ggL_law_X5_pace : GoodIn wsL_law wsX5_pace := goodIn_r _ [277, 16, 250, 15, 251, 252, 235, 229, 230, 2, 231, 101, 102, 103, 104, 26, 105, 956, 957, 958, 959, 960, 961, 962, 963, 964, 965, 966, 1000, 1001, 1002, 1003, 1004, 1005] (by decide +kernel) (by decide +kernel)
set_option maxRecDepth 20000 in
theorem gL_law_X5_pace : GoodIn wsL_law (wsV RL 46 RX5 yX5_pace wsX5_pace) := goodIn_app (goodIn_of _ (by decide +kernel)) ggL_law_X5_pace
set_option maxRecDepth 20000 in
theorem ggL_law_X6_pace : GoodIn wsL_law wsX6_pace := goodIn_r _ [281, 240, 123, 78, 258, 259, 260, 5, 261, 164, 165, 166, 119, 120, 121, 122, 81, 266, 267, 268, 269, 967, 968, 969, 970, 971, 972, 973, 974, 975, 976, 977, 978, 979, 980, 981, 982, 983, 984, 985, 986, 987, 988, 989, 990, 991, 992, 993, 994, 995, 996, 997, 998, 999] (by decide +kernel) (by decide +kernel)
set_option maxRecDepth 20000 in
theorem gL_law_X6_pace : GoodIn wsL_law (wsV RL 49 RX6 yX6_pace wsX6_pace) := goodIn_app (goodIn_of _ (by decide +kernel)) ggL_law_X6_pace
set_option maxRecDepth 20000 in
theorem ggL_law_X5_as : GoodIn wsL_law wsX5_as := goodIn_r _ [285, 16, 249, 250, 15, 251, 252, 235, 226, 227, 2, 228, 101, 102, 103, 104, 26, 105, 286, 287, 288, 289, 956, 957, 958, 959, 960, 961, 962, 963, 964, 965, 966, 1000, 1001, 1002, 1003, 1004, 1005] (by decide +kernel) (by decide +kernel)
set_option maxRecDepth 20000 in
theorem gL_law_X5_as : GoodIn wsL_law (wsV RL 50 RX5 yX5_as wsX5_as) := goodIn_app (goodIn_of _ (by decide +kernel)) ggL_law_X5_as
set_option maxRecDepth 20000 in
theorem ggL_law_X6_as : GoodIn wsL_law wsX6_as := goodIn_r _ [293, 196, 123, 294, 258, 259, 260, 5, 261, 78, 164, 165, 166, 119, 120, 121, 122, 81, 262, 263, 264, 265, 270, 271, 272, 273, 967, 968, 969, 970, 971, 972, 973, 974, 975, 976, 977, 978, 979, 980, 981, 982, 983, 984, 985, 986, 987, 988, 989, 990, 991, 992, 993, 994, 995, 996, 997, 998, 999] (by decide +kernel) (by decide +kernel)
set_option maxRecDepth 20000 in
theorem gL_law_X6_as : GoodIn wsL_law (wsV RL 53 RX6 yX6_as wsX6_as) := goodIn_app (goodIn_of _ (by decide +kernel)) ggL_law_X6_as
