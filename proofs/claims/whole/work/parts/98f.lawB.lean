set_option maxRecDepth 20000 in
theorem ggL_law_X5_wipe : GoodIn wsL_law wsX5_wipe := goodIn_r _ [622, 22, 956, 957, 958, 959, 960, 961, 962, 963, 964, 965, 966, 1006, 1007, 1008, 1009, 1010, 1011] (by decide +kernel) (by decide +kernel)
set_option maxRecDepth 20000 in
theorem gL_law_X5_wipe : GoodIn wsL_law (wsV RL 115 RX5 yX5_wipe wsX5_wipe) := goodIn_app (goodIn_of _ (by decide +kernel)) ggL_law_X5_wipe
set_option maxRecDepth 20000 in
theorem ggL_law_X6_wipe : GoodIn wsL_law wsX6_wipe := goodIn_r _ [626, 618, 967, 968, 969, 970, 971, 972, 973, 974, 975, 976, 977, 978, 979, 980, 981, 982, 983, 984, 985, 986, 987, 988, 989, 990, 991, 992, 993, 994, 995, 996, 997, 998, 999] (by decide +kernel) (by decide +kernel)
set_option maxRecDepth 20000 in
theorem gL_law_X6_wipe : GoodIn wsL_law (wsV RL 118 RX6 yX6_wipe wsX6_wipe) := goodIn_app (goodIn_of _ (by decide +kernel)) ggL_law_X6_wipe
set_option maxRecDepth 20000 in
theorem ggL_law_X5_parish : GoodIn wsL_law wsX5_parish := goodIn_r _ [630, 18, 16, 22, 631, 15, 632, 633, 109, 235, 42, 634, 378, 379, 380, 43, 44, 45, 635, 21, 636, 637, 638, 639, 640, 641, 642, 643, 644, 612, 49, 645, 646, 647, 648, 649, 650, 651, 652, 653, 654, 655, 656, 466, 467, 468, 657, 658, 659, 660, 661, 662, 663, 664, 665, 666, 667, 668, 669, 670, 671, 672, 673, 674, 675, 676, 677, 678, 679, 680, 681, 682, 683, 684, 685, 686, 687, 688, 689, 690, 691, 692, 693, 694, 695, 696, 697, 698, 699, 700, 701, 702, 703, 704, 705, 706, 707, 708, 709, 710, 711, 712, 713, 714, 715, 716, 717, 106, 107, 108, 110, 111, 112, 113, 718, 719, 720, 721, 722, 723, 724, 725, 726, 727, 728, 729, 730, 731, 732, 733, 734, 735, 736, 737, 738, 739, 740, 741, 232, 233, 234, 956, 957, 958, 959, 960, 961, 962, 963, 964, 965, 966, 1006, 1007, 1008, 1009, 1010, 1011, 1000, 1001, 1002, 1003, 1004, 1005] (by decide +kernel) (by decide +kernel)
set_option maxRecDepth 20000 in
theorem gL_law_X5_parish : GoodIn wsL_law (wsV RL 119 RX5 yX5_parish wsX5_parish) := goodIn_app (goodIn_of _ (by decide +kernel)) ggL_law_X5_parish
set_option maxRecDepth 20000 in
theorem ggL_law_X6_parish : GoodIn wsL_law wsX6_parish := goodIn_r _ [745, 80, 78, 746, 747, 748, 618, 749, 750, 751, 5, 752, 753, 754, 755, 756, 92, 757, 758, 759, 760, 761, 164, 165, 166, 762, 763, 764, 765, 766, 767, 768, 769, 770, 771, 772, 773, 774, 775, 776, 777, 778, 779, 780, 781, 782, 783, 784, 785, 786, 787, 788, 789, 790, 791, 241, 242, 243, 244, 792, 793, 794, 795, 796, 797, 798, 799, 800, 801, 802, 803, 124, 125, 126, 127, 804, 805, 806, 807, 160, 161, 162, 163, 967, 968, 969, 970, 971, 972, 973, 974, 975, 976, 977, 978, 979, 980, 981, 982, 983, 984, 985, 986, 987, 988, 989, 990, 991, 992, 993, 994, 995, 996, 997, 998, 999] (by decide +kernel) (by decide +kernel)
set_option maxRecDepth 20000 in
theorem gL_law_X6_parish : GoodIn wsL_law (wsV RL 122 RX6 yX6_parish wsX6_parish) := goodIn_app (goodIn_of _ (by decide +kernel)) ggL_law_X6_parish
set_option maxRecDepth 20000 in
theorem ggL_law_X5_sheet : GoodIn wsL_law wsX5_sheet := goodIn_r _ [811, 24, 812, 813, 2, 814, 101, 102, 103, 104, 26, 105, 815, 38, 816, 817, 818, 819, 73, 820, 821, 357, 822, 956, 957, 958, 959, 960, 961, 962, 963, 964, 965, 966, 1039, 1040, 1041] (by decide +kernel) (by decide +kernel)
set_option maxRecDepth 20000 in
theorem gL_law_X5_sheet : GoodIn wsL_law (wsV RL 123 RX5 yX5_sheet wsX5_sheet) := goodIn_app (goodIn_of _ (by decide +kernel)) ggL_law_X5_sheet
set_option maxRecDepth 20000 in
theorem ggL_law_X6_sheet : GoodIn wsL_law wsX6_sheet := goodIn_r _ [826, 123, 827, 93, 94, 95, 828, 829, 5, 830, 319, 164, 165, 166, 119, 120, 121, 122, 81, 967, 968, 969, 970, 971, 972, 973, 974, 975, 976, 977, 978, 979, 980, 981, 982, 983, 984, 985, 986, 987, 988, 989, 990, 991, 992, 993, 994, 995, 996, 997, 998, 999] (by decide +kernel) (by decide +kernel)
set_option maxRecDepth 20000 in
theorem gL_law_X6_sheet : GoodIn wsL_law (wsV RL 126 RX6 yX6_sheet wsX6_sheet) := goodIn_app (goodIn_of _ (by decide +kernel)) ggL_law_X6_sheet
set_option maxRecDepth 20000 in
theorem ggL_law_X5_write : GoodIn wsL_law wsX5_write := goodIn_r _ [834, 24, 812, 813, 2, 814, 101, 102, 103, 104, 26, 105, 835, 38, 836, 837, 818, 73, 956, 957, 958, 959, 960, 961, 962, 963, 964, 965, 966, 1039, 1040, 1041] (by decide +kernel) (by decide +kernel)
set_option maxRecDepth 20000 in
theorem gL_law_X5_write : GoodIn wsL_law (wsV RL 129 RX5 yX5_write wsX5_write) := goodIn_app (goodIn_of _ (by decide +kernel)) ggL_law_X5_write
set_option maxRecDepth 20000 in
theorem ggL_law_X6_write : GoodIn wsL_law wsX6_write := goodIn_r _ [841, 94, 123, 95, 93, 842, 843, 844, 5, 845, 846, 828, 829, 830, 319, 164, 165, 166, 119, 120, 121, 122, 81, 847, 848, 849, 967, 968, 969, 970, 971, 972, 973, 974, 975, 976, 977, 978, 979, 980, 981, 982, 983, 984, 985, 986, 987, 988, 989, 990, 991, 992, 993, 994, 995, 996, 997, 998, 999] (by decide +kernel) (by decide +kernel)
set_option maxRecDepth 20000 in
theorem gL_law_X6_write : GoodIn wsL_law (wsV RL 133 RX6 yX6_write wsX6_write) := goodIn_app (goodIn_of _ (by decide +kernel)) ggL_law_X6_write
set_option maxRecDepth 20000 in
theorem ggL_law_X5_copy : GoodIn wsL_law wsX5_copy := goodIn_r _ [853, 24, 854, 378, 379, 380, 812, 813, 2, 814, 101, 102, 103, 104, 26, 105, 855, 38, 856, 857, 819, 956, 957, 958, 959, 960, 961, 962, 963, 964, 965, 966, 1039, 1040, 1041] (by decide +kernel) (by decide +kernel)
set_option maxRecDepth 20000 in
theorem gL_law_X5_copy : GoodIn wsL_law (wsV RL 134 RX5 yX5_copy wsX5_copy) := goodIn_app (goodIn_of _ (by decide +kernel)) ggL_law_X5_copy
set_option maxRecDepth 20000 in
theorem ggL_law_X6_copy : GoodIn wsL_law wsX6_copy := goodIn_r _ [861, 123, 93, 846, 294, 94, 96, 95, 828, 829, 5, 830, 319, 164, 165, 166, 119, 120, 121, 122, 81, 967, 968, 969, 970, 971, 972, 973, 974, 975, 976, 977, 978, 979, 980, 981, 982, 983, 984, 985, 986, 987, 988, 989, 990, 991, 992, 993, 994, 995, 996, 997, 998, 999] (by decide +kernel) (by decide +kernel)
set_option maxRecDepth 20000 in
theorem gL_law_X6_copy : GoodIn wsL_law (wsV RL 138 RX6 yX6_copy wsX6_copy) := goodIn_app (goodIn_of _ (by decide +kernel)) ggL_law_X6_copy
