theorem dX6_init_0 : decode cX6_init 0 = .ok (.aload_n 0, 1) := by decide +kernel
theorem dX6_init_1 : decode cX6_init 1 = .ok (.invokespecial 1, 3) := by decide +kernel
theorem dX6_init_4 : decode cX6_init 4 = .ok (.aload_n 0, 1) := by decide +kernel
theorem dX6_init_5 : decode cX6_init 5 = .ok (.bipush 56, 2) := by decide +kernel
theorem dX6_init_7 : decode cX6_init 7 = .ok (.newarray .int, 2) := by decide +kernel
theorem dX6_init_9 : decode cX6_init 9 = .ok (.putfield 7, 3) := by decide +kernel
theorem dX6_init_12 : decode cX6_init 12 = .ok (.aload_n 0, 1) := by decide +kernel
theorem dX6_init_13 : decode cX6_init 13 = .ok (.bipush 56, 2) := by decide +kernel
theorem dX6_init_15 : decode cX6_init 15 = .ok (.newarray .int, 2) := by decide +kernel
theorem dX6_init_17 : decode cX6_init 17 = .ok (.putfield 13, 3) := by decide +kernel
theorem dX6_init_20 : decode cX6_init 20 = .ok (.aload_n 0, 1) := by decide +kernel
theorem dX6_init_21 : decode cX6_init 21 = .ok (.bipush 56, 2) := by decide +kernel
theorem dX6_init_23 : decode cX6_init 23 = .ok (.newarray .int, 2) := by decide +kernel
theorem dX6_init_25 : decode cX6_init 25 = .ok (.putfield 16, 3) := by decide +kernel
theorem dX6_init_28 : decode cX6_init 28 = .ok (.aload_n 0, 1) := by decide +kernel
theorem dX6_init_29 : decode cX6_init 29 = .ok (.bipush 7, 2) := by decide +kernel
theorem dX6_init_31 : decode cX6_init 31 = .ok (.newarray .int, 2) := by decide +kernel
theorem dX6_init_33 : decode cX6_init 33 = .ok (.putfield 19, 3) := by decide +kernel
theorem dX6_init_36 : decode cX6_init 36 = .ok (.aload_n 0, 1) := by decide +kernel
theorem dX6_init_37 : decode cX6_init 37 = .ok (.bipush 16, 2) := by decide +kernel
theorem dX6_init_39 : decode cX6_init 39 = .ok (.newarray .int, 2) := by decide +kernel
theorem dX6_init_41 : decode cX6_init 41 = .ok (.putfield 22, 3) := by decide +kernel
theorem dX6_init_44 : decode cX6_init 44 = .ok (.aload_n 0, 1) := by decide +kernel
theorem dX6_init_45 : decode cX6_init 45 = .ok (.bipush 16, 2) := by decide +kernel
theorem dX6_init_47 : decode cX6_init 47 = .ok (.newarray .int, 2) := by decide +kernel
theorem dX6_init_49 : decode cX6_init 49 = .ok (.putfield 25, 3) := by decide +kernel
theorem dX6_init_52 : decode cX6_init 52 = .ok (.aload_n 0, 1) := by decide +kernel
theorem dX6_init_53 : decode cX6_init 53 = .ok (.bipush 16, 2) := by decide +kernel
theorem dX6_init_55 : decode cX6_init 55 = .ok (.newarray .int, 2) := by decide +kernel
theorem dX6_init_57 : decode cX6_init 57 = .ok (.putfield 28, 3) := by decide +kernel
theorem dX6_init_60 : decode cX6_init 60 = .ok (.aload_n 0, 1) := by decide +kernel
theorem dX6_init_61 : decode cX6_init 61 = .ok (.bipush 16, 2) := by decide +kernel
theorem dX6_init_63 : decode cX6_init 63 = .ok (.newarray .int, 2) := by decide +kernel
theorem dX6_init_65 : decode cX6_init 65 = .ok (.putfield 31, 3) := by decide +kernel
theorem dX6_init_68 : decode cX6_init 68 = .ok (.aload_n 0, 1) := by decide +kernel
theorem dX6_init_69 : decode cX6_init 69 = .ok (.bipush 16, 2) := by decide +kernel
theorem dX6_init_71 : decode cX6_init 71 = .ok (.newarray .int, 2) := by decide +kernel
theorem dX6_init_73 : decode cX6_init 73 = .ok (.putfield 34, 3) := by decide +kernel
theorem dX6_init_76 : decode cX6_init 76 = .ok (.aload_n 0, 1) := by decide +kernel
theorem dX6_init_77 : decode cX6_init 77 = .ok (.bipush 6, 2) := by decide +kernel
theorem dX6_init_79 : decode cX6_init 79 = .ok (.newarray .int, 2) := by decide +kernel
theorem dX6_init_81 : decode cX6_init 81 = .ok (.putfield 37, 3) := by decide +kernel
theorem dX6_init_84 : decode cX6_init 84 = .ok (.aload_n 0, 1) := by decide +kernel
theorem dX6_init_85 : decode cX6_init 85 = .ok (.bipush 6, 2) := by decide +kernel
theorem dX6_init_87 : decode cX6_init 87 = .ok (.newarray .int, 2) := by decide +kernel
theorem dX6_init_89 : decode cX6_init 89 = .ok (.putfield 40, 3) := by decide +kernel
theorem dX6_init_92 : decode cX6_init 92 = .ok (.aload_n 0, 1) := by decide +kernel
theorem dX6_init_93 : decode cX6_init 93 = .ok (.bipush 6, 2) := by decide +kernel
theorem dX6_init_95 : decode cX6_init 95 = .ok (.newarray .int, 2) := by decide +kernel
theorem dX6_init_97 : decode cX6_init 97 = .ok (.putfield 43, 3) := by decide +kernel
theorem dX6_init_100 : decode cX6_init 100 = .ok (.aload_n 0, 1) := by decide +kernel
theorem dX6_init_101 : decode cX6_init 101 = .ok (.bipush 6, 2) := by decide +kernel
theorem dX6_init_103 : decode cX6_init 103 = .ok (.newarray .int, 2) := by decide +kernel
theorem dX6_init_105 : decode cX6_init 105 = .ok (.putfield 46, 3) := by decide +kernel
theorem dX6_init_108 : decode cX6_init 108 = .ok (.aload_n 0, 1) := by decide +kernel
theorem dX6_init_109 : decode cX6_init 109 = .ok (.bipush 6, 2) := by decide +kernel
theorem dX6_init_111 : decode cX6_init 111 = .ok (.newarray .int, 2) := by decide +kernel
theorem dX6_init_113 : decode cX6_init 113 = .ok (.putfield 49, 3) := by decide +kernel
theorem dX6_init_116 : decode cX6_init 116 = .ok (.aload_n 0, 1) := by decide +kernel
theorem dX6_init_117 : decode cX6_init 117 = .ok (.bipush 120, 2) := by decide +kernel
theorem dX6_init_119 : decode cX6_init 119 = .ok (.newarray .int, 2) := by decide +kernel
theorem dX6_init_121 : decode cX6_init 121 = .ok (.putfield 52, 3) := by decide +kernel
theorem dX6_init_124 : decode cX6_init 124 = .ok (.aload_n 0, 1) := by decide +kernel
theorem dX6_init_125 : decode cX6_init 125 = .ok (.iconst 4, 1) := by decide +kernel
theorem dX6_init_126 : decode cX6_init 126 = .ok (.newarray .int, 2) := by decide +kernel
theorem dX6_init_128 : decode cX6_init 128 = .ok (.putfield 55, 3) := by decide +kernel
theorem dX6_init_131 : decode cX6_init 131 = .ok (.aload_n 0, 1) := by decide +kernel
theorem dX6_init_132 : decode cX6_init 132 = .ok (.iconst 4, 1) := by decide +kernel
theorem dX6_init_133 : decode cX6_init 133 = .ok (.newarray .int, 2) := by decide +kernel
theorem dX6_init_135 : decode cX6_init 135 = .ok (.putfield 58, 3) := by decide +kernel
theorem dX6_init_138 : decode cX6_init 138 = .ok (.aload_n 0, 1) := by decide +kernel
theorem dX6_init_139 : decode cX6_init 139 = .ok (.sipush 160, 3) := by decide +kernel
theorem dX6_init_142 : decode cX6_init 142 = .ok (.newarray .long, 2) := by decide +kernel
theorem dX6_init_144 : decode cX6_init 144 = .ok (.putfield 61, 3) := by decide +kernel
theorem dX6_init_147 : decode cX6_init 147 = .ok (.aload_n 0, 1) := by decide +kernel
theorem dX6_init_148 : decode cX6_init 148 = .ok (.bipush 40, 2) := by decide +kernel
theorem dX6_init_150 : decode cX6_init 150 = .ok (.newarray .long, 2) := by decide +kernel
theorem dX6_init_152 : decode cX6_init 152 = .ok (.putfield 65, 3) := by decide +kernel
theorem dX6_init_155 : decode cX6_init 155 = .ok (.return_, 1) := by decide +kernel
theorem dX6_in_0 : decode cX6_in 0 = .ok (.lload_n 0, 1) := by decide +kernel
theorem dX6_in_1 : decode cX6_in 1 = .ok (.lload_n 2, 1) := by decide +kernel
theorem dX6_in_2 : decode cX6_in 2 = .ok (.lcmp, 1) := by decide +kernel
theorem dX6_in_3 : decode cX6_in 3 = .ok (.ifCond .lt 14, 3) := by decide +kernel
theorem dX6_in_6 : decode cX6_in 6 = .ok (.lload_n 0, 1) := by decide +kernel
theorem dX6_in_7 : decode cX6_in 7 = .ok (.lload 4, 2) := by decide +kernel
theorem dX6_in_9 : decode cX6_in 9 = .ok (.lcmp, 1) := by decide +kernel
theorem dX6_in_10 : decode cX6_in 10 = .ok (.ifCond .gt 7, 3) := by decide +kernel
theorem dX6_in_13 : decode cX6_in 13 = .ok (.iconst 1, 1) := by decide +kernel
theorem dX6_in_14 : decode cX6_in 14 = .ok (.goto 4, 3) := by decide +kernel
theorem dX6_in_17 : decode cX6_in 17 = .ok (.iconst 0, 1) := by decide +kernel
theorem dX6_in_18 : decode cX6_in 18 = .ok (.ireturn, 1) := by decide +kernel
theorem dX6_finds_0 : decode cX6_finds 0 = .ok (.aload_n 0, 1) := by decide +kernel
theorem dX6_finds_1 : decode cX6_finds 1 = .ok (.getfield 19, 3) := by decide +kernel
theorem dX6_finds_4 : decode cX6_finds 4 = .ok (.ldc 68, 2) := by decide +kernel
theorem dX6_finds_6 : decode cX6_finds 6 = .ok (.iload_n 1, 1) := by decide +kernel
theorem dX6_finds_7 : decode cX6_finds 7 = .ok (.isub, 1) := by decide +kernel
theorem dX6_finds_8 : decode cX6_finds 8 = .ok (.dup2, 1) := by decide +kernel
theorem dX6_finds_9 : decode cX6_finds 9 = .ok (.iaload, 1) := by decide +kernel
theorem dX6_finds_10 : decode cX6_finds 10 = .ok (.iconst 1, 1) := by decide +kernel
theorem dX6_finds_11 : decode cX6_finds 11 = .ok (.iadd, 1) := by decide +kernel
theorem dX6_finds_12 : decode cX6_finds 12 = .ok (.iastore, 1) := by decide +kernel
theorem dX6_finds_13 : decode cX6_finds 13 = .ok (.iload_n 1, 1) := by decide +kernel
theorem dX6_finds_14 : decode cX6_finds 14 = .ok (.ireturn, 1) := by decide +kernel
set_option maxRecDepth 20000 in
theorem ggX6_isField_X6_in : GoodIn wsX6_isField wsX6_in := goodIn_r _ [5] (by decide +kernel) (by decide +kernel)
set_option maxRecDepth 20000 in
theorem gX6_isField_X6_in : GoodIn wsX6_isField (va_wsS RX6 69 yX6_in wsX6_in) := goodIn_app (goodIn_of _ (by decide +kernel)) ggX6_isField_X6_in
theorem dX6_isField_0 : decode cX6_isField 0 = .ok (.iload_n 1, 1) := by decide +kernel
theorem dX6_isField_1 : decode cX6_isField 1 = .ok (.i2l, 1) := by decide +kernel
theorem dX6_isField_2 : decode cX6_isField 2 = .ok (.lconst 0, 1) := by decide +kernel
theorem dX6_isField_3 : decode cX6_isField 3 = .ok (.aload_n 0, 1) := by decide +kernel
theorem dX6_isField_4 : decode cX6_isField 4 = .ok (.getfield 7, 3) := by decide +kernel
theorem dX6_isField_7 : decode cX6_isField 7 = .ok (.iconst 0, 1) := by decide +kernel
theorem dX6_isField_8 : decode cX6_isField 8 = .ok (.iaload, 1) := by decide +kernel
theorem dX6_isField_9 : decode cX6_isField 9 = .ok (.iconst 1, 1) := by decide +kernel
theorem dX6_isField_10 : decode cX6_isField 10 = .ok (.isub, 1) := by decide +kernel
theorem dX6_isField_11 : decode cX6_isField 11 = .ok (.i2l, 1) := by decide +kernel
theorem dX6_isField_12 : decode cX6_isField 12 = .ok (.invokestatic 69, 3) := by decide +kernel
theorem dX6_isField_15 : decode cX6_isField 15 = .ok (.ireturn, 1) := by decide +kernel
set_option maxRecDepth 20000 in
theorem ggX6_isTeam_X6_in : GoodIn wsX6_isTeam wsX6_in := goodIn_r _ [5] (by decide +kernel) (by decide +kernel)
set_option maxRecDepth 20000 in
theorem gX6_isTeam_X6_in : GoodIn wsX6_isTeam (va_wsS RX6 69 yX6_in wsX6_in) := goodIn_app (goodIn_of _ (by decide +kernel)) ggX6_isTeam_X6_in
theorem dX6_isTeam_0 : decode cX6_isTeam 0 = .ok (.iload_n 1, 1) := by decide +kernel
theorem dX6_isTeam_1 : decode cX6_isTeam 1 = .ok (.i2l, 1) := by decide +kernel
theorem dX6_isTeam_2 : decode cX6_isTeam 2 = .ok (.lconst 0, 1) := by decide +kernel
theorem dX6_isTeam_3 : decode cX6_isTeam 3 = .ok (.aload_n 0, 1) := by decide +kernel
theorem dX6_isTeam_4 : decode cX6_isTeam 4 = .ok (.getfield 7, 3) := by decide +kernel
theorem dX6_isTeam_7 : decode cX6_isTeam 7 = .ok (.iconst 1, 1) := by decide +kernel
theorem dX6_isTeam_8 : decode cX6_isTeam 8 = .ok (.iaload, 1) := by decide +kernel
theorem dX6_isTeam_9 : decode cX6_isTeam 9 = .ok (.iconst 1, 1) := by decide +kernel
theorem dX6_isTeam_10 : decode cX6_isTeam 10 = .ok (.isub, 1) := by decide +kernel
theorem dX6_isTeam_11 : decode cX6_isTeam 11 = .ok (.i2l, 1) := by decide +kernel
theorem dX6_isTeam_12 : decode cX6_isTeam 12 = .ok (.invokestatic 69, 3) := by decide +kernel
theorem dX6_isTeam_15 : decode cX6_isTeam 15 = .ok (.ireturn, 1) := by decide +kernel
theorem dX6_has_0 : decode cX6_has 0 = .ok (.iload_n 0, 1) := by decide +kernel
theorem dX6_has_1 : decode cX6_has 1 = .ok (.iload_n 1, 1) := by decide +kernel
theorem dX6_has_2 : decode cX6_has 2 = .ok (.ishr, 1) := by decide +kernel
theorem dX6_has_3 : decode cX6_has 3 = .ok (.iconst 1, 1) := by decide +kernel
theorem dX6_has_4 : decode cX6_has 4 = .ok (.iand, 1) := by decide +kernel
theorem dX6_has_5 : decode cX6_has 5 = .ok (.iconst 1, 1) := by decide +kernel
theorem dX6_has_6 : decode cX6_has 6 = .ok (.if_icmp .ne 7, 3) := by decide +kernel
theorem dX6_has_9 : decode cX6_has 9 = .ok (.iconst 1, 1) := by decide +kernel
theorem dX6_has_10 : decode cX6_has 10 = .ok (.goto 4, 3) := by decide +kernel
theorem dX6_has_13 : decode cX6_has 13 = .ok (.iconst 0, 1) := by decide +kernel
theorem dX6_has_14 : decode cX6_has 14 = .ok (.ireturn, 1) := by decide +kernel
theorem dX6_ones_0 : decode cX6_ones 0 = .ok (.iconst 0, 1) := by decide +kernel
theorem dX6_ones_1 : decode cX6_ones 1 = .ok (.istore_n 1, 1) := by decide +kernel
theorem dX6_ones_2 : decode cX6_ones 2 = .ok (.iload_n 0, 1) := by decide +kernel
theorem dX6_ones_3 : decode cX6_ones 3 = .ok (.istore_n 2, 1) := by decide +kernel
theorem dX6_ones_4 : decode cX6_ones 4 = .ok (.iload_n 2, 1) := by decide +kernel
theorem dX6_ones_5 : decode cX6_ones 5 = .ok (.ifCond .eq 15, 3) := by decide +kernel
theorem dX6_ones_8 : decode cX6_ones 8 = .ok (.iinc 1 1, 3) := by decide +kernel
theorem dX6_ones_11 : decode cX6_ones 11 = .ok (.iload_n 2, 1) := by decide +kernel
theorem dX6_ones_12 : decode cX6_ones 12 = .ok (.iload_n 2, 1) := by decide +kernel
theorem dX6_ones_13 : decode cX6_ones 13 = .ok (.iconst 1, 1) := by decide +kernel
theorem dX6_ones_14 : decode cX6_ones 14 = .ok (.isub, 1) := by decide +kernel
theorem dX6_ones_15 : decode cX6_ones 15 = .ok (.iand, 1) := by decide +kernel
theorem dX6_ones_16 : decode cX6_ones 16 = .ok (.istore_n 2, 1) := by decide +kernel
theorem dX6_ones_17 : decode cX6_ones 17 = .ok (.goto (-13), 3) := by decide +kernel
theorem dX6_ones_20 : decode cX6_ones 20 = .ok (.iload_n 1, 1) := by decide +kernel
theorem dX6_ones_21 : decode cX6_ones 21 = .ok (.ireturn, 1) := by decide +kernel
theorem dX6_its_0 : decode cX6_its 0 = .ok (.aload_n 0, 1) := by decide +kernel
theorem dX6_its_1 : decode cX6_its 1 = .ok (.getfield 7, 3) := by decide +kernel
theorem dX6_its_4 : decode cX6_its 4 = .ok (.iconst 2, 1) := by decide +kernel
theorem dX6_its_5 : decode cX6_its 5 = .ok (.bipush 6, 2) := by decide +kernel
theorem dX6_its_7 : decode cX6_its 7 = .ok (.iload_n 1, 1) := by decide +kernel
theorem dX6_its_8 : decode cX6_its 8 = .ok (.imul, 1) := by decide +kernel
theorem dX6_its_9 : decode cX6_its 9 = .ok (.iadd, 1) := by decide +kernel
theorem dX6_its_10 : decode cX6_its 10 = .ok (.iload_n 2, 1) := by decide +kernel
theorem dX6_its_11 : decode cX6_its 11 = .ok (.iadd, 1) := by decide +kernel
theorem dX6_its_12 : decode cX6_its 12 = .ok (.iaload, 1) := by decide +kernel
theorem dX6_its_13 : decode cX6_its 13 = .ok (.ireturn, 1) := by decide +kernel
set_option maxRecDepth 20000 in
theorem ggX6_earth_X6_its : GoodIn wsX6_earth wsX6_its := goodIn_r _ [6, 7, 8, 9, 10, 11, 12, 13, 14, 15, 16, 17, 18, 19, 20, 21, 22, 23, 24, 25, 26, 27, 28, 29, 30, 31, 32, 33, 34, 35, 36, 37, 38, 39, 40] (by decide +kernel) (by decide +kernel)
set_option maxRecDepth 20000 in
theorem gX6_earth_X6_its : GoodIn wsX6_earth (wsV RX6 74 RX6 yX6_its wsX6_its) := goodIn_app (goodIn_of _ (by decide +kernel)) ggX6_earth_X6_its
theorem dX6_earth_0 : decode cX6_earth 0 = .ok (.ldc 73, 2) := by decide +kernel
theorem dX6_earth_2 : decode cX6_earth 2 = .ok (.aload_n 0, 1) := by decide +kernel
theorem dX6_earth_3 : decode cX6_earth 3 = .ok (.iload_n 1, 1) := by decide +kernel
theorem dX6_earth_4 : decode cX6_earth 4 = .ok (.iconst 0, 1) := by decide +kernel
theorem dX6_earth_5 : decode cX6_earth 5 = .ok (.invokevirtual 74, 3) := by decide +kernel
theorem dX6_earth_8 : decode cX6_earth 8 = .ok (.aload_n 0, 1) := by decide +kernel
theorem dX6_earth_9 : decode cX6_earth 9 = .ok (.iload_n 1, 1) := by decide +kernel
theorem dX6_earth_10 : decode cX6_earth 10 = .ok (.iconst 1, 1) := by decide +kernel
theorem dX6_earth_11 : decode cX6_earth 11 = .ok (.invokevirtual 74, 3) := by decide +kernel
theorem dX6_earth_14 : decode cX6_earth 14 = .ok (.ior, 1) := by decide +kernel
theorem dX6_earth_15 : decode cX6_earth 15 = .ok (.iconst (-1), 1) := by decide +kernel
theorem dX6_earth_16 : decode cX6_earth 16 = .ok (.ixor, 1) := by decide +kernel
theorem dX6_earth_17 : decode cX6_earth 17 = .ok (.iand, 1) := by decide +kernel
theorem dX6_earth_18 : decode cX6_earth 18 = .ok (.ireturn, 1) := by decide +kernel
theorem dX6_newField_0 : decode cX6_newField 0 = .ok (.iconst 2, 1) := by decide +kernel
theorem dX6_newField_1 : decode cX6_newField 1 = .ok (.bipush 6, 2) := by decide +kernel
theorem dX6_newField_3 : decode cX6_newField 3 = .ok (.aload_n 0, 1) := by decide +kernel
theorem dX6_newField_4 : decode cX6_newField 4 = .ok (.getfield 7, 3) := by decide +kernel
theorem dX6_newField_7 : decode cX6_newField 7 = .ok (.iconst 0, 1) := by decide +kernel
theorem dX6_newField_8 : decode cX6_newField 8 = .ok (.iaload, 1) := by decide +kernel
theorem dX6_newField_9 : decode cX6_newField 9 = .ok (.imul, 1) := by decide +kernel
theorem dX6_newField_10 : decode cX6_newField 10 = .ok (.iadd, 1) := by decide +kernel
theorem dX6_newField_11 : decode cX6_newField 11 = .ok (.istore_n 1, 1) := by decide +kernel
theorem dX6_newField_12 : decode cX6_newField 12 = .ok (.aload_n 0, 1) := by decide +kernel
theorem dX6_newField_13 : decode cX6_newField 13 = .ok (.getfield 7, 3) := by decide +kernel
theorem dX6_newField_16 : decode cX6_newField 16 = .ok (.iload_n 1, 1) := by decide +kernel
theorem dX6_newField_17 : decode cX6_newField 17 = .ok (.iconst 0, 1) := by decide +kernel
theorem dX6_newField_18 : decode cX6_newField 18 = .ok (.iadd, 1) := by decide +kernel
theorem dX6_newField_19 : decode cX6_newField 19 = .ok (.iconst 0, 1) := by decide +kernel
theorem dX6_newField_20 : decode cX6_newField 20 = .ok (.iastore, 1) := by decide +kernel
theorem dX6_newField_21 : decode cX6_newField 21 = .ok (.aload_n 0, 1) := by decide +kernel
theorem dX6_newField_22 : decode cX6_newField 22 = .ok (.getfield 7, 3) := by decide +kernel
theorem dX6_newField_25 : decode cX6_newField 25 = .ok (.iload_n 1, 1) := by decide +kernel
theorem dX6_newField_26 : decode cX6_newField 26 = .ok (.iconst 1, 1) := by decide +kernel
theorem dX6_newField_27 : decode cX6_newField 27 = .ok (.iadd, 1) := by decide +kernel
theorem dX6_newField_28 : decode cX6_newField 28 = .ok (.iconst 0, 1) := by decide +kernel
theorem dX6_newField_29 : decode cX6_newField 29 = .ok (.iastore, 1) := by decide +kernel
theorem dX6_newField_30 : decode cX6_newField 30 = .ok (.aload_n 0, 1) := by decide +kernel
theorem dX6_newField_31 : decode cX6_newField 31 = .ok (.getfield 7, 3) := by decide +kernel
theorem dX6_newField_34 : decode cX6_newField 34 = .ok (.iload_n 1, 1) := by decide +kernel
theorem dX6_newField_35 : decode cX6_newField 35 = .ok (.iconst 2, 1) := by decide +kernel
theorem dX6_newField_36 : decode cX6_newField 36 = .ok (.iadd, 1) := by decide +kernel
theorem dX6_newField_37 : decode cX6_newField 37 = .ok (.iconst (-1), 1) := by decide +kernel
theorem dX6_newField_38 : decode cX6_newField 38 = .ok (.iastore, 1) := by decide +kernel
theorem dX6_newField_39 : decode cX6_newField 39 = .ok (.aload_n 0, 1) := by decide +kernel
theorem dX6_newField_40 : decode cX6_newField 40 = .ok (.getfield 7, 3) := by decide +kernel
theorem dX6_newField_43 : decode cX6_newField 43 = .ok (.iload_n 1, 1) := by decide +kernel
theorem dX6_newField_44 : decode cX6_newField 44 = .ok (.iconst 3, 1) := by decide +kernel
theorem dX6_newField_45 : decode cX6_newField 45 = .ok (.iadd, 1) := by decide +kernel
theorem dX6_newField_46 : decode cX6_newField 46 = .ok (.iconst (-1), 1) := by decide +kernel
theorem dX6_newField_47 : decode cX6_newField 47 = .ok (.iastore, 1) := by decide +kernel
theorem dX6_newField_48 : decode cX6_newField 48 = .ok (.aload_n 0, 1) := by decide +kernel
theorem dX6_newField_49 : decode cX6_newField 49 = .ok (.getfield 7, 3) := by decide +kernel
theorem dX6_newField_52 : decode cX6_newField 52 = .ok (.iload_n 1, 1) := by decide +kernel
theorem dX6_newField_53 : decode cX6_newField 53 = .ok (.iconst 4, 1) := by decide +kernel
theorem dX6_newField_54 : decode cX6_newField 54 = .ok (.iadd, 1) := by decide +kernel
theorem dX6_newField_55 : decode cX6_newField 55 = .ok (.iconst 0, 1) := by decide +kernel
theorem dX6_newField_56 : decode cX6_newField 56 = .ok (.iastore, 1) := by decide +kernel
theorem dX6_newField_57 : decode cX6_newField 57 = .ok (.aload_n 0, 1) := by decide +kernel
theorem dX6_newField_58 : decode cX6_newField 58 = .ok (.getfield 7, 3) := by decide +kernel
theorem dX6_newField_61 : decode cX6_newField 61 = .ok (.iload_n 1, 1) := by decide +kernel
theorem dX6_newField_62 : decode cX6_newField 62 = .ok (.iconst 5, 1) := by decide +kernel
theorem dX6_newField_63 : decode cX6_newField 63 = .ok (.iadd, 1) := by decide +kernel
theorem dX6_newField_64 : decode cX6_newField 64 = .ok (.bipush 100, 2) := by decide +kernel
theorem dX6_newField_66 : decode cX6_newField 66 = .ok (.iastore, 1) := by decide +kernel
theorem dX6_newField_67 : decode cX6_newField 67 = .ok (.aload_n 0, 1) := by decide +kernel
theorem dX6_newField_68 : decode cX6_newField 68 = .ok (.getfield 7, 3) := by decide +kernel
theorem dX6_newField_71 : decode cX6_newField 71 = .ok (.bipush 38, 2) := by decide +kernel
theorem dX6_newField_73 : decode cX6_newField 73 = .ok (.aload_n 0, 1) := by decide +kernel
theorem dX6_newField_74 : decode cX6_newField 74 = .ok (.getfield 7, 3) := by decide +kernel
theorem dX6_newField_77 : decode cX6_newField 77 = .ok (.iconst 0, 1) := by decide +kernel
theorem dX6_newField_78 : decode cX6_newField 78 = .ok (.iaload, 1) := by decide +kernel
theorem dX6_newField_79 : decode cX6_newField 79 = .ok (.iadd, 1) := by decide +kernel
theorem dX6_newField_80 : decode cX6_newField 80 = .ok (.iconst 0, 1) := by decide +kernel
theorem dX6_newField_81 : decode cX6_newField 81 = .ok (.iastore, 1) := by decide +kernel
theorem dX6_newField_82 : decode cX6_newField 82 = .ok (.aload_n 0, 1) := by decide +kernel
theorem dX6_newField_83 : decode cX6_newField 83 = .ok (.getfield 7, 3) := by decide +kernel
theorem dX6_newField_86 : decode cX6_newField 86 = .ok (.iconst 0, 1) := by decide +kernel
theorem dX6_newField_87 : decode cX6_newField 87 = .ok (.dup2, 1) := by decide +kernel
theorem dX6_newField_88 : decode cX6_newField 88 = .ok (.iaload, 1) := by decide +kernel
theorem dX6_newField_89 : decode cX6_newField 89 = .ok (.iconst 1, 1) := by decide +kernel
theorem dX6_newField_90 : decode cX6_newField 90 = .ok (.iadd, 1) := by decide +kernel
theorem dX6_newField_91 : decode cX6_newField 91 = .ok (.iastore, 1) := by decide +kernel
theorem dX6_newField_92 : decode cX6_newField 92 = .ok (.aload_n 0, 1) := by decide +kernel
theorem dX6_newField_93 : decode cX6_newField 93 = .ok (.getfield 7, 3) := by decide +kernel
theorem dX6_newField_96 : decode cX6_newField 96 = .ok (.iconst 0, 1) := by decide +kernel
theorem dX6_newField_97 : decode cX6_newField 97 = .ok (.iaload, 1) := by decide +kernel
theorem dX6_newField_98 : decode cX6_newField 98 = .ok (.iconst 1, 1) := by decide +kernel
theorem dX6_newField_99 : decode cX6_newField 99 = .ok (.isub, 1) := by decide +kernel
theorem dX6_newField_100 : decode cX6_newField 100 = .ok (.ireturn, 1) := by decide +kernel
set_option maxRecDepth 20000 in
theorem ggX6_field_X6_finds : GoodIn wsX6_field wsX6_finds := goodIn_r _ [7, 8, 9, 14, 15, 16, 17, 18, 19, 20, 21, 22, 23, 24, 25, 26, 27, 28, 29, 30, 31, 32, 33, 34, 35, 36, 37, 38, 39, 40, 41, 42, 43, 44, 45, 46] (by decide +kernel) (by decide +kernel)
set_option maxRecDepth 20000 in
theorem gX6_field_X6_finds : GoodIn wsX6_field (wsV RX6 79 RX6 yX6_finds wsX6_finds) := goodIn_app (goodIn_of _ (by decide +kernel)) ggX6_field_X6_finds
set_option maxRecDepth 20000 in
theorem ggX6_field_X6_newField : GoodIn wsX6_field wsX6_newField := goodIn_r _ [13, 1, 14, 15, 16, 17, 18, 19, 20, 21, 22, 23, 24, 25, 26, 27, 28, 29, 30, 31, 32, 33, 34, 35, 36, 37, 38, 39, 40, 41, 42, 43, 44, 45, 46] (by decide +kernel) (by decide +kernel)
set_option maxRecDepth 20000 in
theorem gX6_field_X6_newField : GoodIn wsX6_field (wsV RX6 83 RX6 yX6_newField wsX6_newField) := goodIn_app (goodIn_of _ (by decide +kernel)) ggX6_field_X6_newField
theorem dX6_field_0 : decode cX6_field 0 = .ok (.aload_n 0, 1) := by decide +kernel
theorem dX6_field_1 : decode cX6_field 1 = .ok (.getfield 7, 3) := by decide +kernel
theorem dX6_field_4 : decode cX6_field 4 = .ok (.iconst 0, 1) := by decide +kernel
theorem dX6_field_5 : decode cX6_field 5 = .ok (.iaload, 1) := by decide +kernel
theorem dX6_field_6 : decode cX6_field 6 = .ok (.bipush 6, 2) := by decide +kernel
theorem dX6_field_8 : decode cX6_field 8 = .ok (.if_icmp .ne 12, 3) := by decide +kernel
theorem dX6_field_11 : decode cX6_field 11 = .ok (.aload_n 0, 1) := by decide +kernel
theorem dX6_field_12 : decode cX6_field 12 = .ok (.ldc 78, 2) := by decide +kernel
theorem dX6_field_14 : decode cX6_field 14 = .ok (.invokevirtual 79, 3) := by decide +kernel
theorem dX6_field_17 : decode cX6_field 17 = .ok (.goto 7, 3) := by decide +kernel
theorem dX6_field_20 : decode cX6_field 20 = .ok (.aload_n 0, 1) := by decide +kernel
theorem dX6_field_21 : decode cX6_field 21 = .ok (.invokevirtual 83, 3) := by decide +kernel
theorem dX6_field_24 : decode cX6_field 24 = .ok (.ireturn, 1) := by decide +kernel
theorem dX6_isEven_0 : decode cX6_isEven 0 = .ok (.iload_n 0, 1) := by decide +kernel
theorem dX6_isEven_1 : decode cX6_isEven 1 = .ok (.iconst 4, 1) := by decide +kernel
theorem dX6_isEven_2 : decode cX6_isEven 2 = .ok (.idiv, 1) := by decide +kernel
theorem dX6_isEven_3 : decode cX6_isEven 3 = .ok (.iload_n 0, 1) := by decide +kernel
theorem dX6_isEven_4 : decode cX6_isEven 4 = .ok (.iconst 4, 1) := by decide +kernel
theorem dX6_isEven_5 : decode cX6_isEven 5 = .ok (.irem, 1) := by decide +kernel
theorem dX6_isEven_6 : decode cX6_isEven 6 = .ok (.iadd, 1) := by decide +kernel
theorem dX6_isEven_7 : decode cX6_isEven 7 = .ok (.iconst 2, 1) := by decide +kernel
theorem dX6_isEven_8 : decode cX6_isEven 8 = .ok (.irem, 1) := by decide +kernel
theorem dX6_isEven_9 : decode cX6_isEven 9 = .ok (.ifCond .ne 7, 3) := by decide +kernel
theorem dX6_isEven_12 : decode cX6_isEven 12 = .ok (.iconst 1, 1) := by decide +kernel
theorem dX6_isEven_13 : decode cX6_isEven 13 = .ok (.goto 4, 3) := by decide +kernel
theorem dX6_isEven_16 : decode cX6_isEven 16 = .ok (.iconst 0, 1) := by decide +kernel
theorem dX6_isEven_17 : decode cX6_isEven 17 = .ok (.ireturn, 1) := by decide +kernel
set_option maxRecDepth 20000 in
theorem ggX6_colours_X6_earth : GoodIn wsX6_colours wsX6_earth := goodIn_r _ [5, 6, 7, 8, 9, 4, 10, 11, 18, 19, 20, 21, 22, 23, 24, 25, 26, 27, 28, 29, 30, 31, 32, 33, 34, 35, 36, 37, 38, 39, 40, 41, 42, 43, 44, 45, 46, 47, 48, 49, 50] (by decide +kernel) (by decide +kernel)
set_option maxRecDepth 20000 in
theorem gX6_colours_X6_earth : GoodIn wsX6_colours (wsV RX6 87 RX6 yX6_earth wsX6_earth) := goodIn_app (goodIn_of _ (by decide +kernel)) ggX6_colours_X6_earth
set_option maxRecDepth 20000 in
theorem ggX6_colours_X6_has : GoodIn wsX6_colours wsX6_has := goodIn_r _ [14] (by decide +kernel) (by decide +kernel)
set_option maxRecDepth 20000 in
theorem gX6_colours_X6_has : GoodIn wsX6_colours (va_wsS RX6 90 yX6_has wsX6_has) := goodIn_app (goodIn_of _ (by decide +kernel)) ggX6_colours_X6_has
set_option maxRecDepth 20000 in
theorem ggX6_colours_X6_isEven : GoodIn wsX6_colours wsX6_isEven := goodIn_r _ [17] (by decide +kernel) (by decide +kernel)
set_option maxRecDepth 20000 in
theorem gX6_colours_X6_isEven : GoodIn wsX6_colours (va_wsS RX6 94 yX6_isEven wsX6_isEven) := goodIn_app (goodIn_of _ (by decide +kernel)) ggX6_colours_X6_isEven
theorem dX6_colours_0 : decode cX6_colours 0 = .ok (.iconst 0, 1) := by decide +kernel
theorem dX6_colours_1 : decode cX6_colours 1 = .ok (.istore_n 2, 1) := by decide +kernel
theorem dX6_colours_2 : decode cX6_colours 2 = .ok (.aload_n 0, 1) := by decide +kernel
theorem dX6_colours_3 : decode cX6_colours 3 = .ok (.iload_n 1, 1) := by decide +kernel
theorem dX6_colours_4 : decode cX6_colours 4 = .ok (.invokevirtual 87, 3) := by decide +kernel
theorem dX6_colours_7 : decode cX6_colours 7 = .ok (.istore_n 3, 1) := by decide +kernel
theorem dX6_colours_8 : decode cX6_colours 8 = .ok (.iconst 0, 1) := by decide +kernel
theorem dX6_colours_9 : decode cX6_colours 9 = .ok (.istore 4, 2) := by decide +kernel
theorem dX6_colours_11 : decode cX6_colours 11 = .ok (.iload 4, 2) := by decide +kernel
theorem dX6_colours_13 : decode cX6_colours 13 = .ok (.bipush 16, 2) := by decide +kernel
theorem dX6_colours_15 : decode cX6_colours 15 = .ok (.if_icmp .ge 38, 3) := by decide +kernel
theorem dX6_colours_18 : decode cX6_colours 18 = .ok (.iload_n 2, 1) := by decide +kernel
theorem dX6_colours_19 : decode cX6_colours 19 = .ok (.iload_n 3, 1) := by decide +kernel
theorem dX6_colours_20 : decode cX6_colours 20 = .ok (.iload 4, 2) := by decide +kernel
theorem dX6_colours_22 : decode cX6_colours 22 = .ok (.invokestatic 90, 3) := by decide +kernel
theorem dX6_colours_25 : decode cX6_colours 25 = .ok (.ifCond .ne 7, 3) := by decide +kernel
theorem dX6_colours_28 : decode cX6_colours 28 = .ok (.iconst 0, 1) := by decide +kernel
theorem dX6_colours_29 : decode cX6_colours 29 = .ok (.goto 16, 3) := by decide +kernel
theorem dX6_colours_32 : decode cX6_colours 32 = .ok (.iload 4, 2) := by decide +kernel
theorem dX6_colours_34 : decode cX6_colours 34 = .ok (.invokestatic 94, 3) := by decide +kernel
theorem dX6_colours_37 : decode cX6_colours 37 = .ok (.ifCond .eq 7, 3) := by decide +kernel
theorem dX6_colours_40 : decode cX6_colours 40 = .ok (.iconst 1, 1) := by decide +kernel
theorem dX6_colours_41 : decode cX6_colours 41 = .ok (.goto 4, 3) := by decide +kernel
theorem dX6_colours_44 : decode cX6_colours 44 = .ok (.iconst (-1), 1) := by decide +kernel
theorem dX6_colours_45 : decode cX6_colours 45 = .ok (.iadd, 1) := by decide +kernel
theorem dX6_colours_46 : decode cX6_colours 46 = .ok (.istore_n 2, 1) := by decide +kernel
theorem dX6_colours_47 : decode cX6_colours 47 = .ok (.iinc 4 1, 3) := by decide +kernel
theorem dX6_colours_50 : decode cX6_colours 50 = .ok (.goto (-39), 3) := by decide +kernel
theorem dX6_colours_53 : decode cX6_colours 53 = .ok (.iload_n 2, 1) := by decide +kernel
theorem dX6_colours_54 : decode cX6_colours 54 = .ok (.ireturn, 1) := by decide +kernel
set_option maxRecDepth 20000 in
theorem ggX6_of_X6_isField : GoodIn wsX6_of wsX6_isField := goodIn_r _ [7, 8, 9, 10, 6, 11, 36, 37, 38, 39, 40, 41, 42, 43, 44, 45, 46, 47, 48, 49, 50, 51, 52, 53, 54, 55, 56, 57, 58, 59, 60, 61, 62, 63, 64, 65, 66, 67, 68] (by decide +kernel) (by decide +kernel)
set_option maxRecDepth 20000 in
theorem gX6_of_X6_isField : GoodIn wsX6_of (wsV RX6 98 RX6 yX6_isField wsX6_isField) := goodIn_app (goodIn_of _ (by decide +kernel)) ggX6_of_X6_isField
set_option maxRecDepth 20000 in
theorem ggX6_of_X6_in : GoodIn wsX6_of wsX6_in := goodIn_r _ [11] (by decide +kernel) (by decide +kernel)
set_option maxRecDepth 20000 in
theorem gX6_of_X6_in : GoodIn wsX6_of (va_wsS RX6 69 yX6_in wsX6_in) := goodIn_app (goodIn_of _ (by decide +kernel)) ggX6_of_X6_in
set_option maxRecDepth 20000 in
theorem ggX6_of_X6_finds : GoodIn wsX6_of wsX6_finds := goodIn_r _ [15, 16, 2, 36, 37, 38, 39, 40, 41, 42, 43, 44, 45, 46, 47, 48, 49, 50, 51, 52, 53, 54, 55, 56, 57, 58, 59, 60, 61, 62, 63, 64, 65, 66, 67, 68] (by decide +kernel) (by decide +kernel)
set_option maxRecDepth 20000 in
theorem gX6_of_X6_finds : GoodIn wsX6_of (wsV RX6 79 RX6 yX6_finds wsX6_finds) := goodIn_app (goodIn_of _ (by decide +kernel)) ggX6_of_X6_finds
set_option maxRecDepth 20000 in
theorem ggX6_of_X6_its : GoodIn wsX6_of wsX6_its := goodIn_r _ [20, 8, 36, 37, 38, 39, 40, 41, 42, 43, 44, 45, 46, 47, 48, 49, 50, 51, 52, 53, 54, 55, 56, 57, 58, 59, 60, 61, 62, 63, 64, 65, 66, 67, 68] (by decide +kernel) (by decide +kernel)
set_option maxRecDepth 20000 in
theorem gX6_of_X6_its : GoodIn wsX6_of (wsV RX6 74 RX6 yX6_its wsX6_its) := goodIn_app (goodIn_of _ (by decide +kernel)) ggX6_of_X6_its
set_option maxRecDepth 20000 in
theorem ggX6_of_X6_earth : GoodIn wsX6_of wsX6_earth := goodIn_r _ [24, 25, 17, 18, 19, 6, 20, 8, 36, 37, 38, 39, 40, 41, 42, 43, 44, 45, 46, 47, 48, 49, 50, 51, 52, 53, 54, 55, 56, 57, 58, 59, 60, 61, 62, 63, 64, 65, 66, 67, 68] (by decide +kernel) (by decide +kernel)
set_option maxRecDepth 20000 in
theorem gX6_of_X6_earth : GoodIn wsX6_of (wsV RX6 87 RX6 yX6_earth wsX6_earth) := goodIn_app (goodIn_of _ (by decide +kernel)) ggX6_of_X6_earth
set_option maxRecDepth 20000 in
theorem ggX6_of_X6_colours : GoodIn wsX6_of wsX6_colours := goodIn_r _ [29, 21, 22, 23, 6, 24, 25, 17, 18, 19, 20, 8, 30, 31, 32, 33, 34, 35, 36, 37, 38, 39, 40, 41, 42, 43, 44, 45, 46, 47, 48, 49, 50, 51, 52, 53, 54, 55, 56, 57, 58, 59, 60, 61, 62, 63, 64, 65, 66, 67, 68] (by decide +kernel) (by decide +kernel)
set_option maxRecDepth 20000 in
theorem gX6_of_X6_colours : GoodIn wsX6_of (wsV RX6 103 RX6 yX6_colours wsX6_colours) := goodIn_app (goodIn_of _ (by decide +kernel)) ggX6_of_X6_colours
theorem dX6_of_0 : decode cX6_of 0 = .ok (.aload_n 0, 1) := by decide +kernel
theorem dX6_of_1 : decode cX6_of 1 = .ok (.iload_n 1, 1) := by decide +kernel
theorem dX6_of_2 : decode cX6_of 2 = .ok (.invokevirtual 98, 3) := by decide +kernel
theorem dX6_of_5 : decode cX6_of 5 = .ok (.ifCond .eq 15, 3) := by decide +kernel
theorem dX6_of_8 : decode cX6_of 8 = .ok (.iload_n 2, 1) := by decide +kernel
theorem dX6_of_9 : decode cX6_of 9 = .ok (.i2l, 1) := by decide +kernel
theorem dX6_of_10 : decode cX6_of 10 = .ok (.lconst 0, 1) := by decide +kernel
theorem dX6_of_11 : decode cX6_of 11 = .ok (.ldc2_w 101, 3) := by decide +kernel
theorem dX6_of_14 : decode cX6_of 14 = .ok (.invokestatic 69, 3) := by decide +kernel
theorem dX6_of_17 : decode cX6_of 17 = .ok (.ifCond .ne 10, 3) := by decide +kernel
theorem dX6_of_20 : decode cX6_of 20 = .ok (.aload_n 0, 1) := by decide +kernel
theorem dX6_of_21 : decode cX6_of 21 = .ok (.ldc 68, 2) := by decide +kernel
theorem dX6_of_23 : decode cX6_of 23 = .ok (.invokevirtual 79, 3) := by decide +kernel
theorem dX6_of_26 : decode cX6_of 26 = .ok (.ireturn, 1) := by decide +kernel
theorem dX6_of_27 : decode cX6_of 27 = .ok (.iload_n 2, 1) := by decide +kernel
theorem dX6_of_28 : decode cX6_of 28 = .ok (.bipush 6, 2) := by decide +kernel
theorem dX6_of_30 : decode cX6_of 30 = .ok (.if_icmp .ge 12, 3) := by decide +kernel
theorem dX6_of_33 : decode cX6_of 33 = .ok (.aload_n 0, 1) := by decide +kernel
theorem dX6_of_34 : decode cX6_of 34 = .ok (.iload_n 1, 1) := by decide +kernel
theorem dX6_of_35 : decode cX6_of 35 = .ok (.iload_n 2, 1) := by decide +kernel
theorem dX6_of_36 : decode cX6_of 36 = .ok (.invokevirtual 74, 3) := by decide +kernel
theorem dX6_of_39 : decode cX6_of 39 = .ok (.goto 22, 3) := by decide +kernel
theorem dX6_of_42 : decode cX6_of 42 = .ok (.iload_n 2, 1) := by decide +kernel
theorem dX6_of_43 : decode cX6_of 43 = .ok (.bipush 6, 2) := by decide +kernel
theorem dX6_of_45 : decode cX6_of 45 = .ok (.if_icmp .ne 11, 3) := by decide +kernel
theorem dX6_of_48 : decode cX6_of 48 = .ok (.aload_n 0, 1) := by decide +kernel
theorem dX6_of_49 : decode cX6_of 49 = .ok (.iload_n 1, 1) := by decide +kernel
theorem dX6_of_50 : decode cX6_of 50 = .ok (.invokevirtual 87, 3) := by decide +kernel
theorem dX6_of_53 : decode cX6_of 53 = .ok (.goto 8, 3) := by decide +kernel
theorem dX6_of_56 : decode cX6_of 56 = .ok (.aload_n 0, 1) := by decide +kernel
theorem dX6_of_57 : decode cX6_of 57 = .ok (.iload_n 1, 1) := by decide +kernel
theorem dX6_of_58 : decode cX6_of 58 = .ok (.invokevirtual 103, 3) := by decide +kernel
theorem dX6_of_61 : decode cX6_of 61 = .ok (.ireturn, 1) := by decide +kernel
theorem dX6_leastOf_0 : decode cX6_leastOf 0 = .ok (.iload_n 0, 1) := by decide +kernel
theorem dX6_leastOf_1 : decode cX6_leastOf 1 = .ok (.iconst 2, 1) := by decide +kernel
theorem dX6_leastOf_2 : decode cX6_leastOf 2 = .ok (.if_icmp .eq 8, 3) := by decide +kernel
theorem dX6_leastOf_5 : decode cX6_leastOf 5 = .ok (.iload_n 0, 1) := by decide +kernel
theorem dX6_leastOf_6 : decode cX6_leastOf 6 = .ok (.iconst 3, 1) := by decide +kernel
theorem dX6_leastOf_7 : decode cX6_leastOf 7 = .ok (.if_icmp .ne 7, 3) := by decide +kernel
theorem dX6_leastOf_10 : decode cX6_leastOf 10 = .ok (.iconst (-1), 1) := by decide +kernel
theorem dX6_leastOf_11 : decode cX6_leastOf 11 = .ok (.goto 4, 3) := by decide +kernel
theorem dX6_leastOf_14 : decode cX6_leastOf 14 = .ok (.iconst 0, 1) := by decide +kernel
theorem dX6_leastOf_15 : decode cX6_leastOf 15 = .ok (.ireturn, 1) := by decide +kernel
theorem dX6_mostOf_0 : decode cX6_mostOf 0 = .ok (.iload_n 0, 1) := by decide +kernel
theorem dX6_mostOf_1 : decode cX6_mostOf 1 = .ok (.iconst 2, 1) := by decide +kernel
theorem dX6_mostOf_2 : decode cX6_mostOf 2 = .ok (.if_icmp .ge 8, 3) := by decide +kernel
theorem dX6_mostOf_5 : decode cX6_mostOf 5 = .ok (.ldc 73, 2) := by decide +kernel
theorem dX6_mostOf_7 : decode cX6_mostOf 7 = .ok (.goto 26, 3) := by decide +kernel
theorem dX6_mostOf_10 : decode cX6_mostOf 10 = .ok (.iload_n 0, 1) := by decide +kernel
theorem dX6_mostOf_11 : decode cX6_mostOf 11 = .ok (.iconst 4, 1) := by decide +kernel
theorem dX6_mostOf_12 : decode cX6_mostOf 12 = .ok (.if_icmp .ge 8, 3) := by decide +kernel
theorem dX6_mostOf_15 : decode cX6_mostOf 15 = .ok (.bipush 15, 2) := by decide +kernel
theorem dX6_mostOf_17 : decode cX6_mostOf 17 = .ok (.goto 16, 3) := by decide +kernel
theorem dX6_mostOf_20 : decode cX6_mostOf 20 = .ok (.iload_n 0, 1) := by decide +kernel
theorem dX6_mostOf_21 : decode cX6_mostOf 21 = .ok (.iconst 4, 1) := by decide +kernel
theorem dX6_mostOf_22 : decode cX6_mostOf 22 = .ok (.if_icmp .ne 8, 3) := by decide +kernel
theorem dX6_mostOf_25 : decode cX6_mostOf 25 = .ok (.bipush 99, 2) := by decide +kernel
theorem dX6_mostOf_27 : decode cX6_mostOf 27 = .ok (.goto 6, 3) := by decide +kernel
theorem dX6_mostOf_30 : decode cX6_mostOf 30 = .ok (.sipush 999, 3) := by decide +kernel
theorem dX6_mostOf_33 : decode cX6_mostOf 33 = .ok (.ireturn, 1) := by decide +kernel
set_option maxRecDepth 20000 in
theorem ggX6_set_X6_isField : GoodIn wsX6_set wsX6_isField := goodIn_r _ [8, 3, 9, 10, 7, 11, 28, 29, 30, 31, 32, 33, 34, 35, 36, 37, 38, 39, 40, 41, 42, 43, 44, 45, 46, 47, 48, 49, 50, 51, 52, 53, 54, 55, 56, 57, 58, 59, 60] (by decide +kernel) (by decide +kernel)
set_option maxRecDepth 20000 in
theorem gX6_set_X6_isField : GoodIn wsX6_set (wsV RX6 98 RX6 yX6_isField wsX6_isField) := goodIn_app (goodIn_of _ (by decide +kernel)) ggX6_set_X6_isField
set_option maxRecDepth 20000 in
theorem ggX6_set_X6_in : GoodIn wsX6_set wsX6_in := goodIn_r _ [11] (by decide +kernel) (by decide +kernel)
set_option maxRecDepth 20000 in
theorem gX6_set_X6_in : GoodIn wsX6_set (va_wsS RX6 69 yX6_in wsX6_in) := goodIn_app (goodIn_of _ (by decide +kernel)) ggX6_set_X6_in
set_option maxRecDepth 20000 in
theorem ggX6_set_X6_leastOf : GoodIn wsX6_set wsX6_leastOf := goodIn_r _ [14] (by decide +kernel) (by decide +kernel)
set_option maxRecDepth 20000 in
theorem gX6_set_X6_leastOf : GoodIn wsX6_set (va_wsS RX6 108 yX6_leastOf wsX6_leastOf) := goodIn_app (goodIn_of _ (by decide +kernel)) ggX6_set_X6_leastOf
set_option maxRecDepth 20000 in
theorem ggX6_set_X6_mostOf : GoodIn wsX6_set wsX6_mostOf := goodIn_r _ [17, 18] (by decide +kernel) (by decide +kernel)
set_option maxRecDepth 20000 in
theorem gX6_set_X6_mostOf : GoodIn wsX6_set (va_wsS RX6 111 yX6_mostOf wsX6_mostOf) := goodIn_app (goodIn_of _ (by decide +kernel)) ggX6_set_X6_mostOf
set_option maxRecDepth 20000 in
theorem ggX6_set_X6_finds : GoodIn wsX6_set wsX6_finds := goodIn_r _ [22, 23, 2, 28, 29, 30, 31, 32, 33, 34, 35, 36, 37, 38, 39, 40, 41, 42, 43, 44, 45, 46, 47, 48, 49, 50, 51, 52, 53, 54, 55, 56, 57, 58, 59, 60] (by decide +kernel) (by decide +kernel)
set_option maxRecDepth 20000 in
theorem gX6_set_X6_finds : GoodIn wsX6_set (wsV RX6 79 RX6 yX6_finds wsX6_finds) := goodIn_app (goodIn_of _ (by decide +kernel)) ggX6_set_X6_finds
set_option maxRecDepth 20000 in
theorem ggX6_set_X6_its : GoodIn wsX6_set wsX6_its := goodIn_r _ [27, 3, 28, 29, 30, 31, 32, 33, 34, 35, 36, 37, 38, 39, 40, 41, 42, 43, 44, 45, 46, 47, 48, 49, 50, 51, 52, 53, 54, 55, 56, 57, 58, 59, 60] (by decide +kernel) (by decide +kernel)
set_option maxRecDepth 20000 in
theorem gX6_set_X6_its : GoodIn wsX6_set (wsV RX6 74 RX6 yX6_its wsX6_its) := goodIn_app (goodIn_of _ (by decide +kernel)) ggX6_set_X6_its
theorem dX6_set_0 : decode cX6_set 0 = .ok (.aload_n 0, 1) := by decide +kernel
theorem dX6_set_1 : decode cX6_set 1 = .ok (.iload_n 1, 1) := by decide +kernel
theorem dX6_set_2 : decode cX6_set 2 = .ok (.invokevirtual 98, 3) := by decide +kernel
theorem dX6_set_5 : decode cX6_set 5 = .ok (.ifCond .eq 33, 3) := by decide +kernel
theorem dX6_set_8 : decode cX6_set 8 = .ok (.iload_n 2, 1) := by decide +kernel
theorem dX6_set_9 : decode cX6_set 9 = .ok (.i2l, 1) := by decide +kernel
theorem dX6_set_10 : decode cX6_set 10 = .ok (.lconst 0, 1) := by decide +kernel
theorem dX6_set_11 : decode cX6_set 11 = .ok (.ldc2_w 106, 3) := by decide +kernel
theorem dX6_set_14 : decode cX6_set 14 = .ok (.invokestatic 69, 3) := by decide +kernel
theorem dX6_set_17 : decode cX6_set 17 = .ok (.ifCond .eq 21, 3) := by decide +kernel
theorem dX6_set_20 : decode cX6_set 20 = .ok (.iload_n 3, 1) := by decide +kernel
theorem dX6_set_21 : decode cX6_set 21 = .ok (.i2l, 1) := by decide +kernel
theorem dX6_set_22 : decode cX6_set 22 = .ok (.iload_n 2, 1) := by decide +kernel
theorem dX6_set_23 : decode cX6_set 23 = .ok (.invokestatic 108, 3) := by decide +kernel
theorem dX6_set_26 : decode cX6_set 26 = .ok (.i2l, 1) := by decide +kernel
theorem dX6_set_27 : decode cX6_set 27 = .ok (.iload_n 2, 1) := by decide +kernel
theorem dX6_set_28 : decode cX6_set 28 = .ok (.invokestatic 111, 3) := by decide +kernel
theorem dX6_set_31 : decode cX6_set 31 = .ok (.i2l, 1) := by decide +kernel
theorem dX6_set_32 : decode cX6_set 32 = .ok (.invokestatic 69, 3) := by decide +kernel
theorem dX6_set_35 : decode cX6_set 35 = .ok (.ifCond .ne 10, 3) := by decide +kernel
theorem dX6_set_38 : decode cX6_set 38 = .ok (.aload_n 0, 1) := by decide +kernel
theorem dX6_set_39 : decode cX6_set 39 = .ok (.ldc 68, 2) := by decide +kernel
theorem dX6_set_41 : decode cX6_set 41 = .ok (.invokevirtual 79, 3) := by decide +kernel
theorem dX6_set_44 : decode cX6_set 44 = .ok (.ireturn, 1) := by decide +kernel
theorem dX6_set_45 : decode cX6_set 45 = .ok (.aload_n 0, 1) := by decide +kernel
theorem dX6_set_46 : decode cX6_set 46 = .ok (.iload_n 1, 1) := by decide +kernel
theorem dX6_set_47 : decode cX6_set 47 = .ok (.iload_n 2, 1) := by decide +kernel
theorem dX6_set_48 : decode cX6_set 48 = .ok (.invokevirtual 74, 3) := by decide +kernel
theorem dX6_set_51 : decode cX6_set 51 = .ok (.istore 4, 2) := by decide +kernel
theorem dX6_set_53 : decode cX6_set 53 = .ok (.aload_n 0, 1) := by decide +kernel
theorem dX6_set_54 : decode cX6_set 54 = .ok (.getfield 7, 3) := by decide +kernel
theorem dX6_set_57 : decode cX6_set 57 = .ok (.iconst 2, 1) := by decide +kernel
theorem dX6_set_58 : decode cX6_set 58 = .ok (.bipush 6, 2) := by decide +kernel
theorem dX6_set_60 : decode cX6_set 60 = .ok (.iload_n 1, 1) := by decide +kernel
theorem dX6_set_61 : decode cX6_set 61 = .ok (.imul, 1) := by decide +kernel
theorem dX6_set_62 : decode cX6_set 62 = .ok (.iadd, 1) := by decide +kernel
theorem dX6_set_63 : decode cX6_set 63 = .ok (.iload_n 2, 1) := by decide +kernel
theorem dX6_set_64 : decode cX6_set 64 = .ok (.iadd, 1) := by decide +kernel
theorem dX6_set_65 : decode cX6_set 65 = .ok (.iload_n 3, 1) := by decide +kernel
theorem dX6_set_66 : decode cX6_set 66 = .ok (.iastore, 1) := by decide +kernel
theorem dX6_set_67 : decode cX6_set 67 = .ok (.iload 4, 2) := by decide +kernel
theorem dX6_set_69 : decode cX6_set 69 = .ok (.ireturn, 1) := by decide +kernel
set_option maxRecDepth 20000 in
theorem ggX6_join_X6_isField : GoodIn wsX6_join wsX6_isField := goodIn_r _ [7, 2, 8, 9, 6, 10, 19, 20, 21, 22, 23, 24, 25, 26, 27, 28, 29, 30, 31, 32, 33, 34, 35, 36, 37, 38, 39, 40, 41, 42, 43, 44, 45, 46, 47, 48, 49, 50, 51] (by decide +kernel) (by decide +kernel)
set_option maxRecDepth 20000 in
theorem gX6_join_X6_isField : GoodIn wsX6_join (wsV RX6 98 RX6 yX6_isField wsX6_isField) := goodIn_app (goodIn_of _ (by decide +kernel)) ggX6_join_X6_isField
set_option maxRecDepth 20000 in
theorem ggX6_join_X6_finds : GoodIn wsX6_join wsX6_finds := goodIn_r _ [14, 15, 1, 19, 20, 21, 22, 23, 24, 25, 26, 27, 28, 29, 30, 31, 32, 33, 34, 35, 36, 37, 38, 39, 40, 41, 42, 43, 44, 45, 46, 47, 48, 49, 50, 51] (by decide +kernel) (by decide +kernel)
set_option maxRecDepth 20000 in
theorem gX6_join_X6_finds : GoodIn wsX6_join (wsV RX6 79 RX6 yX6_finds wsX6_finds) := goodIn_app (goodIn_of _ (by decide +kernel)) ggX6_join_X6_finds
set_option maxRecDepth 20000 in
theorem ggX6_join_X6_has : GoodIn wsX6_join wsX6_has := goodIn_r _ [18] (by decide +kernel) (by decide +kernel)
set_option maxRecDepth 20000 in
theorem gX6_join_X6_has : GoodIn wsX6_join (va_wsS RX6 90 yX6_has wsX6_has) := goodIn_app (goodIn_of _ (by decide +kernel)) ggX6_join_X6_has
theorem dX6_join_0 : decode cX6_join 0 = .ok (.aload_n 0, 1) := by decide +kernel
theorem dX6_join_1 : decode cX6_join 1 = .ok (.iload_n 1, 1) := by decide +kernel
theorem dX6_join_2 : decode cX6_join 2 = .ok (.invokevirtual 98, 3) := by decide +kernel
theorem dX6_join_5 : decode cX6_join 5 = .ok (.ifCond .eq 16, 3) := by decide +kernel
theorem dX6_join_8 : decode cX6_join 8 = .ok (.aload_n 0, 1) := by decide +kernel
theorem dX6_join_9 : decode cX6_join 9 = .ok (.iload_n 2, 1) := by decide +kernel
theorem dX6_join_10 : decode cX6_join 10 = .ok (.invokevirtual 98, 3) := by decide +kernel
theorem dX6_join_13 : decode cX6_join 13 = .ok (.ifCond .eq 8, 3) := by decide +kernel
theorem dX6_join_16 : decode cX6_join 16 = .ok (.iload_n 1, 1) := by decide +kernel
theorem dX6_join_17 : decode cX6_join 17 = .ok (.iload_n 2, 1) := by decide +kernel
theorem dX6_join_18 : decode cX6_join 18 = .ok (.if_icmp .ne 10, 3) := by decide +kernel
theorem dX6_join_21 : decode cX6_join 21 = .ok (.aload_n 0, 1) := by decide +kernel
theorem dX6_join_22 : decode cX6_join 22 = .ok (.ldc 68, 2) := by decide +kernel
theorem dX6_join_24 : decode cX6_join 24 = .ok (.invokevirtual 79, 3) := by decide +kernel
theorem dX6_join_27 : decode cX6_join 27 = .ok (.ireturn, 1) := by decide +kernel
theorem dX6_join_28 : decode cX6_join 28 = .ok (.aload_n 0, 1) := by decide +kernel
theorem dX6_join_29 : decode cX6_join 29 = .ok (.getfield 7, 3) := by decide +kernel
theorem dX6_join_32 : decode cX6_join 32 = .ok (.bipush 38, 2) := by decide +kernel
theorem dX6_join_34 : decode cX6_join 34 = .ok (.iload_n 1, 1) := by decide +kernel
theorem dX6_join_35 : decode cX6_join 35 = .ok (.iadd, 1) := by decide +kernel
theorem dX6_join_36 : decode cX6_join 36 = .ok (.iaload, 1) := by decide +kernel
theorem dX6_join_37 : decode cX6_join 37 = .ok (.iload_n 2, 1) := by decide +kernel
theorem dX6_join_38 : decode cX6_join 38 = .ok (.invokestatic 90, 3) := by decide +kernel
theorem dX6_join_41 : decode cX6_join 41 = .ok (.istore 4, 2) := by decide +kernel
theorem dX6_join_43 : decode cX6_join 43 = .ok (.aload_n 0, 1) := by decide +kernel
theorem dX6_join_44 : decode cX6_join 44 = .ok (.getfield 7, 3) := by decide +kernel
theorem dX6_join_47 : decode cX6_join 47 = .ok (.bipush 38, 2) := by decide +kernel
theorem dX6_join_49 : decode cX6_join 49 = .ok (.iload_n 1, 1) := by decide +kernel
theorem dX6_join_50 : decode cX6_join 50 = .ok (.iadd, 1) := by decide +kernel
theorem dX6_join_51 : decode cX6_join 51 = .ok (.iload_n 3, 1) := by decide +kernel
theorem dX6_join_52 : decode cX6_join 52 = .ok (.ifCond .eq 19, 3) := by decide +kernel
theorem dX6_join_55 : decode cX6_join 55 = .ok (.aload_n 0, 1) := by decide +kernel
theorem dX6_join_56 : decode cX6_join 56 = .ok (.getfield 7, 3) := by decide +kernel
theorem dX6_join_59 : decode cX6_join 59 = .ok (.bipush 38, 2) := by decide +kernel
theorem dX6_join_61 : decode cX6_join 61 = .ok (.iload_n 1, 1) := by decide +kernel
theorem dX6_join_62 : decode cX6_join 62 = .ok (.iadd, 1) := by decide +kernel
theorem dX6_join_63 : decode cX6_join 63 = .ok (.iaload, 1) := by decide +kernel
theorem dX6_join_64 : decode cX6_join 64 = .ok (.iconst 1, 1) := by decide +kernel
theorem dX6_join_65 : decode cX6_join 65 = .ok (.iload_n 2, 1) := by decide +kernel
theorem dX6_join_66 : decode cX6_join 66 = .ok (.ishl, 1) := by decide +kernel
theorem dX6_join_67 : decode cX6_join 67 = .ok (.ior, 1) := by decide +kernel
theorem dX6_join_68 : decode cX6_join 68 = .ok (.goto 18, 3) := by decide +kernel
theorem dX6_join_71 : decode cX6_join 71 = .ok (.aload_n 0, 1) := by decide +kernel
theorem dX6_join_72 : decode cX6_join 72 = .ok (.getfield 7, 3) := by decide +kernel
theorem dX6_join_75 : decode cX6_join 75 = .ok (.bipush 38, 2) := by decide +kernel
theorem dX6_join_77 : decode cX6_join 77 = .ok (.iload_n 1, 1) := by decide +kernel
theorem dX6_join_78 : decode cX6_join 78 = .ok (.iadd, 1) := by decide +kernel
theorem dX6_join_79 : decode cX6_join 79 = .ok (.iaload, 1) := by decide +kernel
theorem dX6_join_80 : decode cX6_join 80 = .ok (.iconst 1, 1) := by decide +kernel
theorem dX6_join_81 : decode cX6_join 81 = .ok (.iload_n 2, 1) := by decide +kernel
theorem dX6_join_82 : decode cX6_join 82 = .ok (.ishl, 1) := by decide +kernel
theorem dX6_join_83 : decode cX6_join 83 = .ok (.iconst (-1), 1) := by decide +kernel
theorem dX6_join_84 : decode cX6_join 84 = .ok (.ixor, 1) := by decide +kernel
theorem dX6_join_85 : decode cX6_join 85 = .ok (.iand, 1) := by decide +kernel
theorem dX6_join_86 : decode cX6_join 86 = .ok (.iastore, 1) := by decide +kernel
theorem dX6_join_87 : decode cX6_join 87 = .ok (.iload 4, 2) := by decide +kernel
theorem dX6_join_89 : decode cX6_join 89 = .ok (.iload_n 3, 1) := by decide +kernel
theorem dX6_join_90 : decode cX6_join 90 = .ok (.if_icmp .ne 7, 3) := by decide +kernel
theorem dX6_join_93 : decode cX6_join 93 = .ok (.iconst 0, 1) := by decide +kernel
theorem dX6_join_94 : decode cX6_join 94 = .ok (.goto 4, 3) := by decide +kernel
theorem dX6_join_97 : decode cX6_join 97 = .ok (.iconst 1, 1) := by decide +kernel
theorem dX6_join_98 : decode cX6_join 98 = .ok (.ireturn, 1) := by decide +kernel
set_option maxRecDepth 20000 in
theorem ggX6_joined_X6_isField : GoodIn wsX6_joined wsX6_isField := goodIn_r _ [7, 1, 8, 9, 6, 10, 16, 17, 18, 19, 20, 21, 22, 23, 24, 25, 26, 27, 28, 29, 30, 31, 32, 33, 34, 35, 36, 37, 38, 39, 40, 41, 42, 43, 44, 45, 46, 47, 48] (by decide +kernel) (by decide +kernel)
set_option maxRecDepth 20000 in
theorem gX6_joined_X6_isField : GoodIn wsX6_joined (wsV RX6 98 RX6 yX6_isField wsX6_isField) := goodIn_app (goodIn_of _ (by decide +kernel)) ggX6_joined_X6_isField
set_option maxRecDepth 20000 in
theorem ggX6_joined_X6_finds : GoodIn wsX6_joined wsX6_finds := goodIn_r _ [14, 15, 2, 16, 17, 18, 19, 20, 21, 22, 23, 24, 25, 26, 27, 28, 29, 30, 31, 32, 33, 34, 35, 36, 37, 38, 39, 40, 41, 42, 43, 44, 45, 46, 47, 48] (by decide +kernel) (by decide +kernel)
set_option maxRecDepth 20000 in
theorem gX6_joined_X6_finds : GoodIn wsX6_joined (wsV RX6 79 RX6 yX6_finds wsX6_finds) := goodIn_app (goodIn_of _ (by decide +kernel)) ggX6_joined_X6_finds
theorem dX6_joined_0 : decode cX6_joined 0 = .ok (.aload_n 0, 1) := by decide +kernel
theorem dX6_joined_1 : decode cX6_joined 1 = .ok (.iload_n 1, 1) := by decide +kernel
theorem dX6_joined_2 : decode cX6_joined 2 = .ok (.invokevirtual 98, 3) := by decide +kernel
theorem dX6_joined_5 : decode cX6_joined 5 = .ok (.ifCond .eq 15, 3) := by decide +kernel
theorem dX6_joined_8 : decode cX6_joined 8 = .ok (.aload_n 0, 1) := by decide +kernel
theorem dX6_joined_9 : decode cX6_joined 9 = .ok (.getfield 7, 3) := by decide +kernel
theorem dX6_joined_12 : decode cX6_joined 12 = .ok (.bipush 38, 2) := by decide +kernel
theorem dX6_joined_14 : decode cX6_joined 14 = .ok (.iload_n 1, 1) := by decide +kernel
theorem dX6_joined_15 : decode cX6_joined 15 = .ok (.iadd, 1) := by decide +kernel
theorem dX6_joined_16 : decode cX6_joined 16 = .ok (.iaload, 1) := by decide +kernel
theorem dX6_joined_17 : decode cX6_joined 17 = .ok (.goto 9, 3) := by decide +kernel
theorem dX6_joined_20 : decode cX6_joined 20 = .ok (.aload_n 0, 1) := by decide +kernel
theorem dX6_joined_21 : decode cX6_joined 21 = .ok (.ldc 68, 2) := by decide +kernel
theorem dX6_joined_23 : decode cX6_joined 23 = .ok (.invokevirtual 79, 3) := by decide +kernel
theorem dX6_joined_26 : decode cX6_joined 26 = .ok (.ireturn, 1) := by decide +kernel
theorem dX6_newTeam_0 : decode cX6_newTeam 0 = .ok (.aload_n 0, 1) := by decide +kernel
theorem dX6_newTeam_1 : decode cX6_newTeam 1 = .ok (.getfield 7, 3) := by decide +kernel
theorem dX6_newTeam_4 : decode cX6_newTeam 4 = .ok (.bipush 44, 2) := by decide +kernel
theorem dX6_newTeam_6 : decode cX6_newTeam 6 = .ok (.iconst 2, 1) := by decide +kernel
theorem dX6_newTeam_7 : decode cX6_newTeam 7 = .ok (.aload_n 0, 1) := by decide +kernel
theorem dX6_newTeam_8 : decode cX6_newTeam 8 = .ok (.getfield 7, 3) := by decide +kernel
theorem dX6_newTeam_11 : decode cX6_newTeam 11 = .ok (.iconst 1, 1) := by decide +kernel
theorem dX6_newTeam_12 : decode cX6_newTeam 12 = .ok (.iaload, 1) := by decide +kernel
theorem dX6_newTeam_13 : decode cX6_newTeam 13 = .ok (.imul, 1) := by decide +kernel
theorem dX6_newTeam_14 : decode cX6_newTeam 14 = .ok (.iadd, 1) := by decide +kernel
theorem dX6_newTeam_15 : decode cX6_newTeam 15 = .ok (.iload_n 1, 1) := by decide +kernel
theorem dX6_newTeam_16 : decode cX6_newTeam 16 = .ok (.iastore, 1) := by decide +kernel
theorem dX6_newTeam_17 : decode cX6_newTeam 17 = .ok (.aload_n 0, 1) := by decide +kernel
theorem dX6_newTeam_18 : decode cX6_newTeam 18 = .ok (.getfield 7, 3) := by decide +kernel
theorem dX6_newTeam_21 : decode cX6_newTeam 21 = .ok (.bipush 44, 2) := by decide +kernel
theorem dX6_newTeam_23 : decode cX6_newTeam 23 = .ok (.iconst 2, 1) := by decide +kernel
theorem dX6_newTeam_24 : decode cX6_newTeam 24 = .ok (.aload_n 0, 1) := by decide +kernel
theorem dX6_newTeam_25 : decode cX6_newTeam 25 = .ok (.getfield 7, 3) := by decide +kernel
theorem dX6_newTeam_28 : decode cX6_newTeam 28 = .ok (.iconst 1, 1) := by decide +kernel
theorem dX6_newTeam_29 : decode cX6_newTeam 29 = .ok (.iaload, 1) := by decide +kernel
theorem dX6_newTeam_30 : decode cX6_newTeam 30 = .ok (.imul, 1) := by decide +kernel
theorem dX6_newTeam_31 : decode cX6_newTeam 31 = .ok (.iadd, 1) := by decide +kernel
theorem dX6_newTeam_32 : decode cX6_newTeam 32 = .ok (.iconst 1, 1) := by decide +kernel
theorem dX6_newTeam_33 : decode cX6_newTeam 33 = .ok (.iadd, 1) := by decide +kernel
theorem dX6_newTeam_34 : decode cX6_newTeam 34 = .ok (.iload_n 2, 1) := by decide +kernel
theorem dX6_newTeam_35 : decode cX6_newTeam 35 = .ok (.iastore, 1) := by decide +kernel
theorem dX6_newTeam_36 : decode cX6_newTeam 36 = .ok (.aload_n 0, 1) := by decide +kernel
theorem dX6_newTeam_37 : decode cX6_newTeam 37 = .ok (.getfield 7, 3) := by decide +kernel
theorem dX6_newTeam_40 : decode cX6_newTeam 40 = .ok (.iconst 1, 1) := by decide +kernel
theorem dX6_newTeam_41 : decode cX6_newTeam 41 = .ok (.dup2, 1) := by decide +kernel
theorem dX6_newTeam_42 : decode cX6_newTeam 42 = .ok (.iaload, 1) := by decide +kernel
theorem dX6_newTeam_43 : decode cX6_newTeam 43 = .ok (.iconst 1, 1) := by decide +kernel
theorem dX6_newTeam_44 : decode cX6_newTeam 44 = .ok (.iadd, 1) := by decide +kernel
theorem dX6_newTeam_45 : decode cX6_newTeam 45 = .ok (.iastore, 1) := by decide +kernel
theorem dX6_newTeam_46 : decode cX6_newTeam 46 = .ok (.aload_n 0, 1) := by decide +kernel
theorem dX6_newTeam_47 : decode cX6_newTeam 47 = .ok (.getfield 7, 3) := by decide +kernel
theorem dX6_newTeam_50 : decode cX6_newTeam 50 = .ok (.iconst 1, 1) := by decide +kernel
theorem dX6_newTeam_51 : decode cX6_newTeam 51 = .ok (.iaload, 1) := by decide +kernel
theorem dX6_newTeam_52 : decode cX6_newTeam 52 = .ok (.iconst 1, 1) := by decide +kernel
theorem dX6_newTeam_53 : decode cX6_newTeam 53 = .ok (.isub, 1) := by decide +kernel
theorem dX6_newTeam_54 : decode cX6_newTeam 54 = .ok (.ireturn, 1) := by decide +kernel
set_option maxRecDepth 20000 in
theorem ggX6_team_X6_in : GoodIn wsX6_team wsX6_in := goodIn_r _ [9] (by decide +kernel) (by decide +kernel)
set_option maxRecDepth 20000 in
theorem gX6_team_X6_in : GoodIn wsX6_team (va_wsS RX6 69 yX6_in wsX6_in) := goodIn_app (goodIn_of _ (by decide +kernel)) ggX6_team_X6_in
set_option maxRecDepth 20000 in
theorem ggX6_team_X6_finds : GoodIn wsX6_team wsX6_finds := goodIn_r _ [13, 14, 3, 19, 20, 21, 22, 23, 24, 25, 26, 27, 28, 29, 30, 31, 32, 33, 34, 35, 36, 37, 38, 39, 40, 41, 42, 43, 44, 45, 46, 47, 48, 49, 50, 51] (by decide +kernel) (by decide +kernel)
set_option maxRecDepth 20000 in
theorem gX6_team_X6_finds : GoodIn wsX6_team (wsV RX6 79 RX6 yX6_finds wsX6_finds) := goodIn_app (goodIn_of _ (by decide +kernel)) ggX6_team_X6_finds
set_option maxRecDepth 20000 in
theorem ggX6_team_X6_newTeam : GoodIn wsX6_team wsX6_newTeam := goodIn_r _ [18, 4, 19, 20, 21, 22, 23, 24, 25, 26, 27, 28, 29, 30, 31, 32, 33, 34, 35, 36, 37, 38, 39, 40, 41, 42, 43, 44, 45, 46, 47, 48, 49, 50, 51] (by decide +kernel) (by decide +kernel)
set_option maxRecDepth 20000 in
theorem gX6_team_X6_newTeam : GoodIn wsX6_team (wsV RX6 116 RX6 yX6_newTeam wsX6_newTeam) := goodIn_app (goodIn_of _ (by decide +kernel)) ggX6_team_X6_newTeam
theorem dX6_team_0 : decode cX6_team 0 = .ok (.iload_n 1, 1) := by decide +kernel
theorem dX6_team_1 : decode cX6_team 1 = .ok (.i2l, 1) := by decide +kernel
theorem dX6_team_2 : decode cX6_team 2 = .ok (.lconst 0, 1) := by decide +kernel
theorem dX6_team_3 : decode cX6_team 3 = .ok (.ldc2_w 106, 3) := by decide +kernel
theorem dX6_team_6 : decode cX6_team 6 = .ok (.invokestatic 69, 3) := by decide +kernel
theorem dX6_team_9 : decode cX6_team 9 = .ok (.ifCond .eq 15, 3) := by decide +kernel
theorem dX6_team_12 : decode cX6_team 12 = .ok (.iload_n 2, 1) := by decide +kernel
theorem dX6_team_13 : decode cX6_team 13 = .ok (.i2l, 1) := by decide +kernel
theorem dX6_team_14 : decode cX6_team 14 = .ok (.lconst 1, 1) := by decide +kernel
theorem dX6_team_15 : decode cX6_team 15 = .ok (.ldc2_w 114, 3) := by decide +kernel
theorem dX6_team_18 : decode cX6_team 18 = .ok (.invokestatic 69, 3) := by decide +kernel
theorem dX6_team_21 : decode cX6_team 21 = .ok (.ifCond .ne 10, 3) := by decide +kernel
theorem dX6_team_24 : decode cX6_team 24 = .ok (.aload_n 0, 1) := by decide +kernel
theorem dX6_team_25 : decode cX6_team 25 = .ok (.ldc 68, 2) := by decide +kernel
theorem dX6_team_27 : decode cX6_team 27 = .ok (.invokevirtual 79, 3) := by decide +kernel
theorem dX6_team_30 : decode cX6_team 30 = .ok (.ireturn, 1) := by decide +kernel
theorem dX6_team_31 : decode cX6_team 31 = .ok (.aload_n 0, 1) := by decide +kernel
theorem dX6_team_32 : decode cX6_team 32 = .ok (.getfield 7, 3) := by decide +kernel
theorem dX6_team_35 : decode cX6_team 35 = .ok (.iconst 1, 1) := by decide +kernel
theorem dX6_team_36 : decode cX6_team 36 = .ok (.iaload, 1) := by decide +kernel
theorem dX6_team_37 : decode cX6_team 37 = .ok (.bipush 6, 2) := by decide +kernel
theorem dX6_team_39 : decode cX6_team 39 = .ok (.if_icmp .ne 12, 3) := by decide +kernel
theorem dX6_team_42 : decode cX6_team 42 = .ok (.aload_n 0, 1) := by decide +kernel
theorem dX6_team_43 : decode cX6_team 43 = .ok (.ldc 78, 2) := by decide +kernel
theorem dX6_team_45 : decode cX6_team 45 = .ok (.invokevirtual 79, 3) := by decide +kernel
theorem dX6_team_48 : decode cX6_team 48 = .ok (.goto 9, 3) := by decide +kernel
theorem dX6_team_51 : decode cX6_team 51 = .ok (.aload_n 0, 1) := by decide +kernel
theorem dX6_team_52 : decode cX6_team 52 = .ok (.iload_n 1, 1) := by decide +kernel
theorem dX6_team_53 : decode cX6_team 53 = .ok (.iload_n 2, 1) := by decide +kernel
theorem dX6_team_54 : decode cX6_team 54 = .ok (.invokevirtual 116, 3) := by decide +kernel
theorem dX6_team_57 : decode cX6_team 57 = .ok (.ireturn, 1) := by decide +kernel
theorem dX6_kindOf_0 : decode cX6_kindOf 0 = .ok (.aload_n 0, 1) := by decide +kernel
theorem dX6_kindOf_1 : decode cX6_kindOf 1 = .ok (.getfield 7, 3) := by decide +kernel
theorem dX6_kindOf_4 : decode cX6_kindOf 4 = .ok (.bipush 44, 2) := by decide +kernel
theorem dX6_kindOf_6 : decode cX6_kindOf 6 = .ok (.iconst 2, 1) := by decide +kernel
theorem dX6_kindOf_7 : decode cX6_kindOf 7 = .ok (.iload_n 1, 1) := by decide +kernel
theorem dX6_kindOf_8 : decode cX6_kindOf 8 = .ok (.imul, 1) := by decide +kernel
theorem dX6_kindOf_9 : decode cX6_kindOf 9 = .ok (.iadd, 1) := by decide +kernel
theorem dX6_kindOf_10 : decode cX6_kindOf 10 = .ok (.iaload, 1) := by decide +kernel
theorem dX6_kindOf_11 : decode cX6_kindOf 11 = .ok (.ireturn, 1) := by decide +kernel
theorem dX6_paceOf_0 : decode cX6_paceOf 0 = .ok (.aload_n 0, 1) := by decide +kernel
theorem dX6_paceOf_1 : decode cX6_paceOf 1 = .ok (.getfield 7, 3) := by decide +kernel
theorem dX6_paceOf_4 : decode cX6_paceOf 4 = .ok (.bipush 44, 2) := by decide +kernel
theorem dX6_paceOf_6 : decode cX6_paceOf 6 = .ok (.iconst 2, 1) := by decide +kernel
theorem dX6_paceOf_7 : decode cX6_paceOf 7 = .ok (.iload_n 1, 1) := by decide +kernel
theorem dX6_paceOf_8 : decode cX6_paceOf 8 = .ok (.imul, 1) := by decide +kernel
theorem dX6_paceOf_9 : decode cX6_paceOf 9 = .ok (.iadd, 1) := by decide +kernel
theorem dX6_paceOf_10 : decode cX6_paceOf 10 = .ok (.iconst 1, 1) := by decide +kernel
theorem dX6_paceOf_11 : decode cX6_paceOf 11 = .ok (.iadd, 1) := by decide +kernel
theorem dX6_paceOf_12 : decode cX6_paceOf 12 = .ok (.iaload, 1) := by decide +kernel
theorem dX6_paceOf_13 : decode cX6_paceOf 13 = .ok (.ireturn, 1) := by decide +kernel
set_option maxRecDepth 20000 in
theorem ggX6_dear_X6_kindOf : GoodIn wsX6_dear wsX6_kindOf := goodIn_r _ [5, 6, 7, 8, 9, 10, 11, 12, 13, 14, 15, 16, 17, 18, 19, 20, 21, 22, 23, 24, 25, 26, 27, 28, 29, 30, 31, 32, 33, 34, 35, 36, 37, 38, 39] (by decide +kernel) (by decide +kernel)
set_option maxRecDepth 20000 in
theorem gX6_dear_X6_kindOf : GoodIn wsX6_dear (wsV RX6 119 RX6 yX6_kindOf wsX6_kindOf) := goodIn_app (goodIn_of _ (by decide +kernel)) ggX6_dear_X6_kindOf
theorem dX6_dear_0 : decode cX6_dear 0 = .ok (.aload_n 0, 1) := by decide +kernel
theorem dX6_dear_1 : decode cX6_dear 1 = .ok (.iload_n 1, 1) := by decide +kernel
theorem dX6_dear_2 : decode cX6_dear 2 = .ok (.invokevirtual 119, 3) := by decide +kernel
theorem dX6_dear_5 : decode cX6_dear 5 = .ok (.tableswitch 42 1 5 #[35, 42, 37, 35, 39], 35) := by decide +kernel
theorem dX6_dear_40 : decode cX6_dear 40 = .ok (.iconst 1, 1) := by decide +kernel
theorem dX6_dear_41 : decode cX6_dear 41 = .ok (.ireturn, 1) := by decide +kernel
theorem dX6_dear_42 : decode cX6_dear 42 = .ok (.iconst 3, 1) := by decide +kernel
theorem dX6_dear_43 : decode cX6_dear 43 = .ok (.ireturn, 1) := by decide +kernel
theorem dX6_dear_44 : decode cX6_dear 44 = .ok (.bipush 6, 2) := by decide +kernel
theorem dX6_dear_46 : decode cX6_dear 46 = .ok (.ireturn, 1) := by decide +kernel
theorem dX6_dear_47 : decode cX6_dear 47 = .ok (.iconst 2, 1) := by decide +kernel
theorem dX6_dear_48 : decode cX6_dear 48 = .ok (.ireturn, 1) := by decide +kernel
set_option maxRecDepth 20000 in
theorem ggX6_teamOf_X6_isTeam : GoodIn wsX6_teamOf wsX6_isTeam := goodIn_r _ [7, 8, 9, 10, 6, 11, 29, 30, 31, 32, 33, 34, 35, 36, 37, 38, 39, 40, 41, 42, 43, 44, 45, 46, 47, 48, 49, 50, 51, 52, 53, 54, 55, 56, 57, 58, 59, 60, 61] (by decide +kernel) (by decide +kernel)
set_option maxRecDepth 20000 in
theorem gX6_teamOf_X6_isTeam : GoodIn wsX6_teamOf (wsV RX6 122 RX6 yX6_isTeam wsX6_isTeam) := goodIn_app (goodIn_of _ (by decide +kernel)) ggX6_teamOf_X6_isTeam
set_option maxRecDepth 20000 in
theorem ggX6_teamOf_X6_in : GoodIn wsX6_teamOf wsX6_in := goodIn_r _ [11] (by decide +kernel) (by decide +kernel)
set_option maxRecDepth 20000 in
theorem gX6_teamOf_X6_in : GoodIn wsX6_teamOf (va_wsS RX6 69 yX6_in wsX6_in) := goodIn_app (goodIn_of _ (by decide +kernel)) ggX6_teamOf_X6_in
set_option maxRecDepth 20000 in
theorem ggX6_teamOf_X6_finds : GoodIn wsX6_teamOf wsX6_finds := goodIn_r _ [15, 16, 2, 29, 30, 31, 32, 33, 34, 35, 36, 37, 38, 39, 40, 41, 42, 43, 44, 45, 46, 47, 48, 49, 50, 51, 52, 53, 54, 55, 56, 57, 58, 59, 60, 61] (by decide +kernel) (by decide +kernel)
set_option maxRecDepth 20000 in
theorem gX6_teamOf_X6_finds : GoodIn wsX6_teamOf (wsV RX6 79 RX6 yX6_finds wsX6_finds) := goodIn_app (goodIn_of _ (by decide +kernel)) ggX6_teamOf_X6_finds
set_option maxRecDepth 20000 in
theorem ggX6_teamOf_X6_kindOf : GoodIn wsX6_teamOf wsX6_kindOf := goodIn_r _ [20, 8, 29, 30, 31, 32, 33, 34, 35, 36, 37, 38, 39, 40, 41, 42, 43, 44, 45, 46, 47, 48, 49, 50, 51, 52, 53, 54, 55, 56, 57, 58, 59, 60, 61] (by decide +kernel) (by decide +kernel)
set_option maxRecDepth 20000 in
theorem gX6_teamOf_X6_kindOf : GoodIn wsX6_teamOf (wsV RX6 119 RX6 yX6_kindOf wsX6_kindOf) := goodIn_app (goodIn_of _ (by decide +kernel)) ggX6_teamOf_X6_kindOf
set_option maxRecDepth 20000 in
theorem ggX6_teamOf_X6_paceOf : GoodIn wsX6_teamOf wsX6_paceOf := goodIn_r _ [24, 8, 29, 30, 31, 32, 33, 34, 35, 36, 37, 38, 39, 40, 41, 42, 43, 44, 45, 46, 47, 48, 49, 50, 51, 52, 53, 54, 55, 56, 57, 58, 59, 60, 61] (by decide +kernel) (by decide +kernel)
set_option maxRecDepth 20000 in
theorem gX6_teamOf_X6_paceOf : GoodIn wsX6_teamOf (wsV RX6 127 RX6 yX6_paceOf wsX6_paceOf) := goodIn_app (goodIn_of _ (by decide +kernel)) ggX6_teamOf_X6_paceOf
set_option maxRecDepth 20000 in
theorem ggX6_teamOf_X6_dear : GoodIn wsX6_teamOf wsX6_dear := goodIn_r _ [28, 17, 18, 19, 6, 20, 8, 29, 30, 31, 32, 33, 34, 35, 36, 37, 38, 39, 40, 41, 42, 43, 44, 45, 46, 47, 48, 49, 50, 51, 52, 53, 54, 55, 56, 57, 58, 59, 60, 61] (by decide +kernel) (by decide +kernel)
set_option maxRecDepth 20000 in
theorem gX6_teamOf_X6_dear : GoodIn wsX6_teamOf (wsV RX6 130 RX6 yX6_dear wsX6_dear) := goodIn_app (goodIn_of _ (by decide +kernel)) ggX6_teamOf_X6_dear
theorem dX6_teamOf_0 : decode cX6_teamOf 0 = .ok (.aload_n 0, 1) := by decide +kernel
theorem dX6_teamOf_1 : decode cX6_teamOf 1 = .ok (.iload_n 1, 1) := by decide +kernel
theorem dX6_teamOf_2 : decode cX6_teamOf 2 = .ok (.invokevirtual 122, 3) := by decide +kernel
theorem dX6_teamOf_5 : decode cX6_teamOf 5 = .ok (.ifCond .eq 15, 3) := by decide +kernel
theorem dX6_teamOf_8 : decode cX6_teamOf 8 = .ok (.iload_n 2, 1) := by decide +kernel
theorem dX6_teamOf_9 : decode cX6_teamOf 9 = .ok (.i2l, 1) := by decide +kernel
theorem dX6_teamOf_10 : decode cX6_teamOf 10 = .ok (.lconst 0, 1) := by decide +kernel
theorem dX6_teamOf_11 : decode cX6_teamOf 11 = .ok (.ldc2_w 125, 3) := by decide +kernel
theorem dX6_teamOf_14 : decode cX6_teamOf 14 = .ok (.invokestatic 69, 3) := by decide +kernel
theorem dX6_teamOf_17 : decode cX6_teamOf 17 = .ok (.ifCond .ne 10, 3) := by decide +kernel
theorem dX6_teamOf_20 : decode cX6_teamOf 20 = .ok (.aload_n 0, 1) := by decide +kernel
theorem dX6_teamOf_21 : decode cX6_teamOf 21 = .ok (.ldc 68, 2) := by decide +kernel
theorem dX6_teamOf_23 : decode cX6_teamOf 23 = .ok (.invokevirtual 79, 3) := by decide +kernel
theorem dX6_teamOf_26 : decode cX6_teamOf 26 = .ok (.ireturn, 1) := by decide +kernel
theorem dX6_teamOf_27 : decode cX6_teamOf 27 = .ok (.iload_n 2, 1) := by decide +kernel
theorem dX6_teamOf_28 : decode cX6_teamOf 28 = .ok (.ifCond .ne 11, 3) := by decide +kernel
theorem dX6_teamOf_31 : decode cX6_teamOf 31 = .ok (.aload_n 0, 1) := by decide +kernel
theorem dX6_teamOf_32 : decode cX6_teamOf 32 = .ok (.iload_n 1, 1) := by decide +kernel
theorem dX6_teamOf_33 : decode cX6_teamOf 33 = .ok (.invokevirtual 119, 3) := by decide +kernel
theorem dX6_teamOf_36 : decode cX6_teamOf 36 = .ok (.goto 21, 3) := by decide +kernel
theorem dX6_teamOf_39 : decode cX6_teamOf 39 = .ok (.iload_n 2, 1) := by decide +kernel
theorem dX6_teamOf_40 : decode cX6_teamOf 40 = .ok (.iconst 1, 1) := by decide +kernel
theorem dX6_teamOf_41 : decode cX6_teamOf 41 = .ok (.if_icmp .ne 11, 3) := by decide +kernel
theorem dX6_teamOf_44 : decode cX6_teamOf 44 = .ok (.aload_n 0, 1) := by decide +kernel
theorem dX6_teamOf_45 : decode cX6_teamOf 45 = .ok (.iload_n 1, 1) := by decide +kernel
theorem dX6_teamOf_46 : decode cX6_teamOf 46 = .ok (.invokevirtual 127, 3) := by decide +kernel
theorem dX6_teamOf_49 : decode cX6_teamOf 49 = .ok (.goto 8, 3) := by decide +kernel
theorem dX6_teamOf_52 : decode cX6_teamOf 52 = .ok (.aload_n 0, 1) := by decide +kernel
theorem dX6_teamOf_53 : decode cX6_teamOf 53 = .ok (.iload_n 1, 1) := by decide +kernel
theorem dX6_teamOf_54 : decode cX6_teamOf 54 = .ok (.invokevirtual 130, 3) := by decide +kernel
theorem dX6_teamOf_57 : decode cX6_teamOf 57 = .ok (.ireturn, 1) := by decide +kernel
set_option maxRecDepth 20000 in
theorem ggX6_pace_X6_isTeam : GoodIn wsX6_pace wsX6_isTeam := goodIn_r _ [8, 3, 9, 10, 7, 11, 21, 22, 23, 24, 25, 26, 27, 28, 29, 30, 31, 32, 33, 34, 35, 36, 37, 38, 39, 40, 41, 42, 43, 44, 45, 46, 47, 48, 49, 50, 51, 52, 53] (by decide +kernel) (by decide +kernel)
set_option maxRecDepth 20000 in
theorem gX6_pace_X6_isTeam : GoodIn wsX6_pace (wsV RX6 122 RX6 yX6_isTeam wsX6_isTeam) := goodIn_app (goodIn_of _ (by decide +kernel)) ggX6_pace_X6_isTeam
set_option maxRecDepth 20000 in
theorem ggX6_pace_X6_in : GoodIn wsX6_pace wsX6_in := goodIn_r _ [11] (by decide +kernel) (by decide +kernel)
set_option maxRecDepth 20000 in
theorem gX6_pace_X6_in : GoodIn wsX6_pace (va_wsS RX6 69 yX6_in wsX6_in) := goodIn_app (goodIn_of _ (by decide +kernel)) ggX6_pace_X6_in
set_option maxRecDepth 20000 in
theorem ggX6_pace_X6_finds : GoodIn wsX6_pace wsX6_finds := goodIn_r _ [15, 16, 2, 21, 22, 23, 24, 25, 26, 27, 28, 29, 30, 31, 32, 33, 34, 35, 36, 37, 38, 39, 40, 41, 42, 43, 44, 45, 46, 47, 48, 49, 50, 51, 52, 53] (by decide +kernel) (by decide +kernel)
set_option maxRecDepth 20000 in
theorem gX6_pace_X6_finds : GoodIn wsX6_pace (wsV RX6 79 RX6 yX6_finds wsX6_finds) := goodIn_app (goodIn_of _ (by decide +kernel)) ggX6_pace_X6_finds
set_option maxRecDepth 20000 in
theorem ggX6_pace_X6_paceOf : GoodIn wsX6_pace wsX6_paceOf := goodIn_r _ [20, 3, 21, 22, 23, 24, 25, 26, 27, 28, 29, 30, 31, 32, 33, 34, 35, 36, 37, 38, 39, 40, 41, 42, 43, 44, 45, 46, 47, 48, 49, 50, 51, 52, 53] (by decide +kernel) (by decide +kernel)
set_option maxRecDepth 20000 in
theorem gX6_pace_X6_paceOf : GoodIn wsX6_pace (wsV RX6 127 RX6 yX6_paceOf wsX6_paceOf) := goodIn_app (goodIn_of _ (by decide +kernel)) ggX6_pace_X6_paceOf
theorem dX6_pace_0 : decode cX6_pace 0 = .ok (.aload_n 0, 1) := by decide +kernel
theorem dX6_pace_1 : decode cX6_pace 1 = .ok (.iload_n 1, 1) := by decide +kernel
theorem dX6_pace_2 : decode cX6_pace 2 = .ok (.invokevirtual 122, 3) := by decide +kernel
theorem dX6_pace_5 : decode cX6_pace 5 = .ok (.ifCond .eq 15, 3) := by decide +kernel
theorem dX6_pace_8 : decode cX6_pace 8 = .ok (.iload_n 2, 1) := by decide +kernel
theorem dX6_pace_9 : decode cX6_pace 9 = .ok (.i2l, 1) := by decide +kernel
theorem dX6_pace_10 : decode cX6_pace 10 = .ok (.lconst 1, 1) := by decide +kernel
theorem dX6_pace_11 : decode cX6_pace 11 = .ok (.ldc2_w 114, 3) := by decide +kernel
theorem dX6_pace_14 : decode cX6_pace 14 = .ok (.invokestatic 69, 3) := by decide +kernel
theorem dX6_pace_17 : decode cX6_pace 17 = .ok (.ifCond .ne 10, 3) := by decide +kernel
theorem dX6_pace_20 : decode cX6_pace 20 = .ok (.aload_n 0, 1) := by decide +kernel
theorem dX6_pace_21 : decode cX6_pace 21 = .ok (.ldc 68, 2) := by decide +kernel
theorem dX6_pace_23 : decode cX6_pace 23 = .ok (.invokevirtual 79, 3) := by decide +kernel
theorem dX6_pace_26 : decode cX6_pace 26 = .ok (.ireturn, 1) := by decide +kernel
theorem dX6_pace_27 : decode cX6_pace 27 = .ok (.aload_n 0, 1) := by decide +kernel
theorem dX6_pace_28 : decode cX6_pace 28 = .ok (.iload_n 1, 1) := by decide +kernel
theorem dX6_pace_29 : decode cX6_pace 29 = .ok (.invokevirtual 127, 3) := by decide +kernel
theorem dX6_pace_32 : decode cX6_pace 32 = .ok (.istore_n 3, 1) := by decide +kernel
theorem dX6_pace_33 : decode cX6_pace 33 = .ok (.aload_n 0, 1) := by decide +kernel
theorem dX6_pace_34 : decode cX6_pace 34 = .ok (.getfield 7, 3) := by decide +kernel
theorem dX6_pace_37 : decode cX6_pace 37 = .ok (.bipush 44, 2) := by decide +kernel
theorem dX6_pace_39 : decode cX6_pace 39 = .ok (.iconst 2, 1) := by decide +kernel
theorem dX6_pace_40 : decode cX6_pace 40 = .ok (.iload_n 1, 1) := by decide +kernel
theorem dX6_pace_41 : decode cX6_pace 41 = .ok (.imul, 1) := by decide +kernel
theorem dX6_pace_42 : decode cX6_pace 42 = .ok (.iadd, 1) := by decide +kernel
theorem dX6_pace_43 : decode cX6_pace 43 = .ok (.iconst 1, 1) := by decide +kernel
theorem dX6_pace_44 : decode cX6_pace 44 = .ok (.iadd, 1) := by decide +kernel
theorem dX6_pace_45 : decode cX6_pace 45 = .ok (.iload_n 2, 1) := by decide +kernel
theorem dX6_pace_46 : decode cX6_pace 46 = .ok (.iastore, 1) := by decide +kernel
theorem dX6_pace_47 : decode cX6_pace 47 = .ok (.iload_n 3, 1) := by decide +kernel
theorem dX6_pace_48 : decode cX6_pace 48 = .ok (.ireturn, 1) := by decide +kernel
set_option maxRecDepth 20000 in
theorem ggX6_as_X6_isTeam : GoodIn wsX6_as wsX6_isTeam := goodIn_r _ [8, 9, 10, 11, 7, 12, 26, 27, 28, 29, 30, 31, 32, 33, 34, 35, 36, 37, 38, 39, 40, 41, 42, 43, 44, 45, 46, 47, 48, 49, 50, 51, 52, 53, 54, 55, 56, 57, 58] (by decide +kernel) (by decide +kernel)
set_option maxRecDepth 20000 in
theorem gX6_as_X6_isTeam : GoodIn wsX6_as (wsV RX6 122 RX6 yX6_isTeam wsX6_isTeam) := goodIn_app (goodIn_of _ (by decide +kernel)) ggX6_as_X6_isTeam
set_option maxRecDepth 20000 in
theorem ggX6_as_X6_in : GoodIn wsX6_as wsX6_in := goodIn_r _ [12] (by decide +kernel) (by decide +kernel)
set_option maxRecDepth 20000 in
theorem gX6_as_X6_in : GoodIn wsX6_as (va_wsS RX6 69 yX6_in wsX6_in) := goodIn_app (goodIn_of _ (by decide +kernel)) ggX6_as_X6_in
set_option maxRecDepth 20000 in
theorem ggX6_as_X6_finds : GoodIn wsX6_as wsX6_finds := goodIn_r _ [16, 17, 2, 26, 27, 28, 29, 30, 31, 32, 33, 34, 35, 36, 37, 38, 39, 40, 41, 42, 43, 44, 45, 46, 47, 48, 49, 50, 51, 52, 53, 54, 55, 56, 57, 58] (by decide +kernel) (by decide +kernel)
set_option maxRecDepth 20000 in
theorem gX6_as_X6_finds : GoodIn wsX6_as (wsV RX6 79 RX6 yX6_finds wsX6_finds) := goodIn_app (goodIn_of _ (by decide +kernel)) ggX6_as_X6_finds
set_option maxRecDepth 20000 in
theorem ggX6_as_X6_kindOf : GoodIn wsX6_as wsX6_kindOf := goodIn_r _ [21, 9, 26, 27, 28, 29, 30, 31, 32, 33, 34, 35, 36, 37, 38, 39, 40, 41, 42, 43, 44, 45, 46, 47, 48, 49, 50, 51, 52, 53, 54, 55, 56, 57, 58] (by decide +kernel) (by decide +kernel)
set_option maxRecDepth 20000 in
theorem gX6_as_X6_kindOf : GoodIn wsX6_as (wsV RX6 119 RX6 yX6_kindOf wsX6_kindOf) := goodIn_app (goodIn_of _ (by decide +kernel)) ggX6_as_X6_kindOf
set_option maxRecDepth 20000 in
theorem ggX6_as_X6_dear : GoodIn wsX6_as wsX6_dear := goodIn_r _ [25, 18, 19, 20, 7, 21, 9, 26, 27, 28, 29, 30, 31, 32, 33, 34, 35, 36, 37, 38, 39, 40, 41, 42, 43, 44, 45, 46, 47, 48, 49, 50, 51, 52, 53, 54, 55, 56, 57, 58] (by decide +kernel) (by decide +kernel)
set_option maxRecDepth 20000 in
theorem gX6_as_X6_dear : GoodIn wsX6_as (wsV RX6 130 RX6 yX6_dear wsX6_dear) := goodIn_app (goodIn_of _ (by decide +kernel)) ggX6_as_X6_dear
theorem dX6_as_0 : decode cX6_as 0 = .ok (.aload_n 0, 1) := by decide +kernel
theorem dX6_as_1 : decode cX6_as 1 = .ok (.iload_n 1, 1) := by decide +kernel
theorem dX6_as_2 : decode cX6_as 2 = .ok (.invokevirtual 122, 3) := by decide +kernel
theorem dX6_as_5 : decode cX6_as 5 = .ok (.ifCond .eq 15, 3) := by decide +kernel
theorem dX6_as_8 : decode cX6_as 8 = .ok (.iload_n 2, 1) := by decide +kernel
theorem dX6_as_9 : decode cX6_as 9 = .ok (.i2l, 1) := by decide +kernel
theorem dX6_as_10 : decode cX6_as 10 = .ok (.lconst 0, 1) := by decide +kernel
theorem dX6_as_11 : decode cX6_as 11 = .ok (.ldc2_w 106, 3) := by decide +kernel
theorem dX6_as_14 : decode cX6_as 14 = .ok (.invokestatic 69, 3) := by decide +kernel
theorem dX6_as_17 : decode cX6_as 17 = .ok (.ifCond .ne 10, 3) := by decide +kernel
theorem dX6_as_20 : decode cX6_as 20 = .ok (.aload_n 0, 1) := by decide +kernel
theorem dX6_as_21 : decode cX6_as 21 = .ok (.ldc 68, 2) := by decide +kernel
theorem dX6_as_23 : decode cX6_as 23 = .ok (.invokevirtual 79, 3) := by decide +kernel
theorem dX6_as_26 : decode cX6_as 26 = .ok (.ireturn, 1) := by decide +kernel
theorem dX6_as_27 : decode cX6_as 27 = .ok (.aload_n 0, 1) := by decide +kernel
theorem dX6_as_28 : decode cX6_as 28 = .ok (.iload_n 1, 1) := by decide +kernel
theorem dX6_as_29 : decode cX6_as 29 = .ok (.invokevirtual 119, 3) := by decide +kernel
theorem dX6_as_32 : decode cX6_as 32 = .ok (.istore_n 3, 1) := by decide +kernel
theorem dX6_as_33 : decode cX6_as 33 = .ok (.iload_n 2, 1) := by decide +kernel
theorem dX6_as_34 : decode cX6_as 34 = .ok (.ifCond .eq 28, 3) := by decide +kernel
theorem dX6_as_37 : decode cX6_as 37 = .ok (.iload_n 3, 1) := by decide +kernel
theorem dX6_as_38 : decode cX6_as 38 = .ok (.iload_n 2, 1) := by decide +kernel
theorem dX6_as_39 : decode cX6_as 39 = .ok (.if_icmp .eq 23, 3) := by decide +kernel
theorem dX6_as_42 : decode cX6_as 42 = .ok (.iload_n 2, 1) := by decide +kernel
theorem dX6_as_43 : decode cX6_as 43 = .ok (.iconst 1, 1) := by decide +kernel
theorem dX6_as_44 : decode cX6_as 44 = .ok (.if_icmp .ne 8, 3) := by decide +kernel
theorem dX6_as_47 : decode cX6_as 47 = .ok (.iload_n 3, 1) := by decide +kernel
theorem dX6_as_48 : decode cX6_as 48 = .ok (.iconst 4, 1) := by decide +kernel
theorem dX6_as_49 : decode cX6_as 49 = .ok (.if_icmp .eq 13, 3) := by decide +kernel
theorem dX6_as_52 : decode cX6_as 52 = .ok (.iload_n 2, 1) := by decide +kernel
theorem dX6_as_53 : decode cX6_as 53 = .ok (.iconst 3, 1) := by decide +kernel
theorem dX6_as_54 : decode cX6_as 54 = .ok (.if_icmp .ne 12, 3) := by decide +kernel
theorem dX6_as_57 : decode cX6_as 57 = .ok (.iload_n 3, 1) := by decide +kernel
theorem dX6_as_58 : decode cX6_as 58 = .ok (.iconst 5, 1) := by decide +kernel
theorem dX6_as_59 : decode cX6_as 59 = .ok (.if_icmp .ne 7, 3) := by decide +kernel
theorem dX6_as_62 : decode cX6_as 62 = .ok (.iconst 1, 1) := by decide +kernel
theorem dX6_as_63 : decode cX6_as 63 = .ok (.goto 4, 3) := by decide +kernel
theorem dX6_as_66 : decode cX6_as 66 = .ok (.iconst 0, 1) := by decide +kernel
theorem dX6_as_67 : decode cX6_as 67 = .ok (.istore 4, 2) := by decide +kernel
theorem dX6_as_69 : decode cX6_as 69 = .ok (.iload 4, 2) := by decide +kernel
theorem dX6_as_71 : decode cX6_as 71 = .ok (.ifCond .eq 11, 3) := by decide +kernel
theorem dX6_as_74 : decode cX6_as 74 = .ok (.aload_n 0, 1) := by decide +kernel
theorem dX6_as_75 : decode cX6_as 75 = .ok (.iload_n 1, 1) := by decide +kernel
theorem dX6_as_76 : decode cX6_as 76 = .ok (.invokevirtual 130, 3) := by decide +kernel
theorem dX6_as_79 : decode cX6_as 79 = .ok (.goto 9, 3) := by decide +kernel
theorem dX6_as_82 : decode cX6_as 82 = .ok (.aload_n 0, 1) := by decide +kernel
theorem dX6_as_83 : decode cX6_as 83 = .ok (.ldc 133, 2) := by decide +kernel
theorem dX6_as_85 : decode cX6_as 85 = .ok (.invokevirtual 79, 3) := by decide +kernel
theorem dX6_as_88 : decode cX6_as 88 = .ok (.ireturn, 1) := by decide +kernel
theorem dX6_beside_0 : decode cX6_beside 0 = .ok (.iload_n 1, 1) := by decide +kernel
theorem dX6_beside_1 : decode cX6_beside 1 = .ok (.tableswitch 69 0 2 #[27, 40, 55], 27) := by decide +kernel
theorem dX6_beside_28 : decode cX6_beside 28 = .ok (.iload_n 0, 1) := by decide +kernel
theorem dX6_beside_29 : decode cX6_beside 29 = .ok (.iconst 4, 1) := by decide +kernel
theorem dX6_beside_30 : decode cX6_beside 30 = .ok (.if_icmp .ge 7, 3) := by decide +kernel
theorem dX6_beside_33 : decode cX6_beside 33 = .ok (.iconst (-1), 1) := by decide +kernel
theorem dX6_beside_34 : decode cX6_beside 34 = .ok (.goto 6, 3) := by decide +kernel
theorem dX6_beside_37 : decode cX6_beside 37 = .ok (.iload_n 0, 1) := by decide +kernel
theorem dX6_beside_38 : decode cX6_beside 38 = .ok (.iconst 4, 1) := by decide +kernel
theorem dX6_beside_39 : decode cX6_beside 39 = .ok (.isub, 1) := by decide +kernel
theorem dX6_beside_40 : decode cX6_beside 40 = .ok (.ireturn, 1) := by decide +kernel
theorem dX6_beside_41 : decode cX6_beside 41 = .ok (.iload_n 0, 1) := by decide +kernel
theorem dX6_beside_42 : decode cX6_beside 42 = .ok (.iconst 4, 1) := by decide +kernel
theorem dX6_beside_43 : decode cX6_beside 43 = .ok (.irem, 1) := by decide +kernel
theorem dX6_beside_44 : decode cX6_beside 44 = .ok (.iconst 3, 1) := by decide +kernel
theorem dX6_beside_45 : decode cX6_beside 45 = .ok (.if_icmp .ne 7, 3) := by decide +kernel
theorem dX6_beside_48 : decode cX6_beside 48 = .ok (.iconst (-1), 1) := by decide +kernel
theorem dX6_beside_49 : decode cX6_beside 49 = .ok (.goto 6, 3) := by decide +kernel
theorem dX6_beside_52 : decode cX6_beside 52 = .ok (.iload_n 0, 1) := by decide +kernel
theorem dX6_beside_53 : decode cX6_beside 53 = .ok (.iconst 1, 1) := by decide +kernel
theorem dX6_beside_54 : decode cX6_beside 54 = .ok (.iadd, 1) := by decide +kernel
theorem dX6_beside_55 : decode cX6_beside 55 = .ok (.ireturn, 1) := by decide +kernel
theorem dX6_beside_56 : decode cX6_beside 56 = .ok (.iload_n 0, 1) := by decide +kernel
theorem dX6_beside_57 : decode cX6_beside 57 = .ok (.bipush 11, 2) := by decide +kernel
theorem dX6_beside_59 : decode cX6_beside 59 = .ok (.if_icmp .le 7, 3) := by decide +kernel
theorem dX6_beside_62 : decode cX6_beside 62 = .ok (.iconst (-1), 1) := by decide +kernel
theorem dX6_beside_63 : decode cX6_beside 63 = .ok (.goto 6, 3) := by decide +kernel
theorem dX6_beside_66 : decode cX6_beside 66 = .ok (.iload_n 0, 1) := by decide +kernel
theorem dX6_beside_67 : decode cX6_beside 67 = .ok (.iconst 4, 1) := by decide +kernel
theorem dX6_beside_68 : decode cX6_beside 68 = .ok (.iadd, 1) := by decide +kernel
theorem dX6_beside_69 : decode cX6_beside 69 = .ok (.ireturn, 1) := by decide +kernel
theorem dX6_beside_70 : decode cX6_beside 70 = .ok (.iload_n 0, 1) := by decide +kernel
theorem dX6_beside_71 : decode cX6_beside 71 = .ok (.iconst 4, 1) := by decide +kernel
theorem dX6_beside_72 : decode cX6_beside 72 = .ok (.irem, 1) := by decide +kernel
theorem dX6_beside_73 : decode cX6_beside 73 = .ok (.ifCond .ne 7, 3) := by decide +kernel
theorem dX6_beside_76 : decode cX6_beside 76 = .ok (.iconst (-1), 1) := by decide +kernel
theorem dX6_beside_77 : decode cX6_beside 77 = .ok (.goto 6, 3) := by decide +kernel
theorem dX6_beside_80 : decode cX6_beside 80 = .ok (.iload_n 0, 1) := by decide +kernel
theorem dX6_beside_81 : decode cX6_beside 81 = .ok (.iconst 1, 1) := by decide +kernel
theorem dX6_beside_82 : decode cX6_beside 82 = .ok (.isub, 1) := by decide +kernel
theorem dX6_beside_83 : decode cX6_beside 83 = .ok (.ireturn, 1) := by decide +kernel
set_option maxRecDepth 20000 in
theorem ggX6_isByTree_X6_beside : GoodIn wsX6_isByTree wsX6_beside := goodIn_r _ [4] (by decide +kernel) (by decide +kernel)
set_option maxRecDepth 20000 in
theorem gX6_isByTree_X6_beside : GoodIn wsX6_isByTree (va_wsS RX6 134 yX6_beside wsX6_beside) := goodIn_app (goodIn_of _ (by decide +kernel)) ggX6_isByTree_X6_beside
set_option maxRecDepth 20000 in
theorem ggX6_isByTree_X6_its : GoodIn wsX6_isByTree wsX6_its := goodIn_r _ [8, 9, 13, 14, 15, 16, 17, 18, 19, 20, 21, 22, 23, 24, 25, 26, 27, 28, 29, 30, 31, 32, 33, 34, 35, 36, 37, 38, 39, 40, 41, 42, 43, 44, 45] (by decide +kernel) (by decide +kernel)
set_option maxRecDepth 20000 in
theorem gX6_isByTree_X6_its : GoodIn wsX6_isByTree (wsV RX6 74 RX6 yX6_its wsX6_its) := goodIn_app (goodIn_of _ (by decide +kernel)) ggX6_isByTree_X6_its
set_option maxRecDepth 20000 in
theorem ggX6_isByTree_X6_has : GoodIn wsX6_isByTree wsX6_has := goodIn_r _ [12] (by decide +kernel) (by decide +kernel)
set_option maxRecDepth 20000 in
theorem gX6_isByTree_X6_has : GoodIn wsX6_isByTree (va_wsS RX6 90 yX6_has wsX6_has) := goodIn_app (goodIn_of _ (by decide +kernel)) ggX6_isByTree_X6_has
theorem dX6_isByTree_0 : decode cX6_isByTree 0 = .ok (.iconst 0, 1) := by decide +kernel
theorem dX6_isByTree_1 : decode cX6_isByTree 1 = .ok (.istore_n 3, 1) := by decide +kernel
theorem dX6_isByTree_2 : decode cX6_isByTree 2 = .ok (.iconst 0, 1) := by decide +kernel
theorem dX6_isByTree_3 : decode cX6_isByTree 3 = .ok (.istore 4, 2) := by decide +kernel
theorem dX6_isByTree_5 : decode cX6_isByTree 5 = .ok (.iload 4, 2) := by decide +kernel
theorem dX6_isByTree_7 : decode cX6_isByTree 7 = .ok (.iconst 4, 1) := by decide +kernel
theorem dX6_isByTree_8 : decode cX6_isByTree 8 = .ok (.if_icmp .ge 46, 3) := by decide +kernel
theorem dX6_isByTree_11 : decode cX6_isByTree 11 = .ok (.iload_n 2, 1) := by decide +kernel
theorem dX6_isByTree_12 : decode cX6_isByTree 12 = .ok (.iload 4, 2) := by decide +kernel
theorem dX6_isByTree_14 : decode cX6_isByTree 14 = .ok (.invokestatic 134, 3) := by decide +kernel
theorem dX6_isByTree_17 : decode cX6_isByTree 17 = .ok (.istore 5, 2) := by decide +kernel
theorem dX6_isByTree_19 : decode cX6_isByTree 19 = .ok (.iload_n 3, 1) := by decide +kernel
theorem dX6_isByTree_20 : decode cX6_isByTree 20 = .ok (.ifCond .ne 22, 3) := by decide +kernel
theorem dX6_isByTree_23 : decode cX6_isByTree 23 = .ok (.iload 5, 2) := by decide +kernel
theorem dX6_isByTree_25 : decode cX6_isByTree 25 = .ok (.ifCond .lt 21, 3) := by decide +kernel
theorem dX6_isByTree_28 : decode cX6_isByTree 28 = .ok (.aload_n 0, 1) := by decide +kernel
theorem dX6_isByTree_29 : decode cX6_isByTree 29 = .ok (.iload_n 1, 1) := by decide +kernel
theorem dX6_isByTree_30 : decode cX6_isByTree 30 = .ok (.iconst 1, 1) := by decide +kernel
theorem dX6_isByTree_31 : decode cX6_isByTree 31 = .ok (.invokevirtual 74, 3) := by decide +kernel
theorem dX6_isByTree_34 : decode cX6_isByTree 34 = .ok (.iload 5, 2) := by decide +kernel
theorem dX6_isByTree_36 : decode cX6_isByTree 36 = .ok (.invokestatic 90, 3) := by decide +kernel
theorem dX6_isByTree_39 : decode cX6_isByTree 39 = .ok (.ifCond .eq 7, 3) := by decide +kernel
theorem dX6_isByTree_42 : decode cX6_isByTree 42 = .ok (.iconst 1, 1) := by decide +kernel
theorem dX6_isByTree_43 : decode cX6_isByTree 43 = .ok (.goto 4, 3) := by decide +kernel
theorem dX6_isByTree_46 : decode cX6_isByTree 46 = .ok (.iconst 0, 1) := by decide +kernel
theorem dX6_isByTree_47 : decode cX6_isByTree 47 = .ok (.istore_n 3, 1) := by decide +kernel
theorem dX6_isByTree_48 : decode cX6_isByTree 48 = .ok (.iinc 4 1, 3) := by decide +kernel
theorem dX6_isByTree_51 : decode cX6_isByTree 51 = .ok (.goto (-46), 3) := by decide +kernel
theorem dX6_isByTree_54 : decode cX6_isByTree 54 = .ok (.iload_n 3, 1) := by decide +kernel
theorem dX6_isByTree_55 : decode cX6_isByTree 55 = .ok (.ireturn, 1) := by decide +kernel
set_option maxRecDepth 20000 in
theorem ggX6_mayGo_X6_kindOf : GoodIn wsX6_mayGo wsX6_kindOf := goodIn_r _ [5, 6, 21, 22, 23, 24, 25, 26, 27, 28, 29, 30, 31, 32, 33, 34, 35, 36, 37, 38, 39, 40, 41, 42, 43, 44, 45, 46, 47, 48, 49, 50, 51, 52, 53] (by decide +kernel) (by decide +kernel)
set_option maxRecDepth 20000 in
theorem gX6_mayGo_X6_kindOf : GoodIn wsX6_mayGo (wsV RX6 119 RX6 yX6_kindOf wsX6_kindOf) := goodIn_app (goodIn_of _ (by decide +kernel)) ggX6_mayGo_X6_kindOf
set_option maxRecDepth 20000 in
theorem ggX6_mayGo_X6_isByTree : GoodIn wsX6_mayGo wsX6_isByTree := goodIn_r _ [10, 11, 12, 4, 13, 14, 15, 16, 17, 6, 18, 19, 20, 21, 22, 23, 24, 25, 26, 27, 28, 29, 30, 31, 32, 33, 34, 35, 36, 37, 38, 39, 40, 41, 42, 43, 44, 45, 46, 47, 48, 49, 50, 51, 52, 53] (by decide +kernel) (by decide +kernel)
set_option maxRecDepth 20000 in
theorem gX6_mayGo_X6_isByTree : GoodIn wsX6_mayGo (wsV RX6 137 RX6 yX6_isByTree wsX6_isByTree) := goodIn_app (goodIn_of _ (by decide +kernel)) ggX6_mayGo_X6_isByTree
theorem dX6_mayGo_0 : decode cX6_mayGo 0 = .ok (.iload 4, 2) := by decide +kernel
theorem dX6_mayGo_2 : decode cX6_mayGo 2 = .ok (.ifCond .lt 14, 3) := by decide +kernel
theorem dX6_mayGo_5 : decode cX6_mayGo 5 = .ok (.iload 4, 2) := by decide +kernel
theorem dX6_mayGo_7 : decode cX6_mayGo 7 = .ok (.iload 5, 2) := by decide +kernel
theorem dX6_mayGo_9 : decode cX6_mayGo 9 = .ok (.if_icmp .eq 7, 3) := by decide +kernel
theorem dX6_mayGo_12 : decode cX6_mayGo 12 = .ok (.iconst 1, 1) := by decide +kernel
theorem dX6_mayGo_13 : decode cX6_mayGo 13 = .ok (.goto 4, 3) := by decide +kernel
theorem dX6_mayGo_16 : decode cX6_mayGo 16 = .ok (.iconst 0, 1) := by decide +kernel
theorem dX6_mayGo_17 : decode cX6_mayGo 17 = .ok (.istore 7, 2) := by decide +kernel
theorem dX6_mayGo_19 : decode cX6_mayGo 19 = .ok (.iload 5, 2) := by decide +kernel
theorem dX6_mayGo_21 : decode cX6_mayGo 21 = .ok (.iload 4, 2) := by decide +kernel
theorem dX6_mayGo_23 : decode cX6_mayGo 23 = .ok (.isub, 1) := by decide +kernel
theorem dX6_mayGo_24 : decode cX6_mayGo 24 = .ok (.iconst 4, 1) := by decide +kernel
theorem dX6_mayGo_25 : decode cX6_mayGo 25 = .ok (.iadd, 1) := by decide +kernel
theorem dX6_mayGo_26 : decode cX6_mayGo 26 = .ok (.iconst 4, 1) := by decide +kernel
theorem dX6_mayGo_27 : decode cX6_mayGo 27 = .ok (.irem, 1) := by decide +kernel
theorem dX6_mayGo_28 : decode cX6_mayGo 28 = .ok (.istore 8, 2) := by decide +kernel
theorem dX6_mayGo_30 : decode cX6_mayGo 30 = .ok (.aload_n 0, 1) := by decide +kernel
theorem dX6_mayGo_31 : decode cX6_mayGo 31 = .ok (.iload_n 1, 1) := by decide +kernel
theorem dX6_mayGo_32 : decode cX6_mayGo 32 = .ok (.invokevirtual 119, 3) := by decide +kernel
theorem dX6_mayGo_35 : decode cX6_mayGo 35 = .ok (.tableswitch 109 1 5 #[33, 50, 67, 83, 67], 33) := by decide +kernel
theorem dX6_mayGo_68 : decode cX6_mayGo 68 = .ok (.iload 7, 2) := by decide +kernel
theorem dX6_mayGo_70 : decode cX6_mayGo 70 = .ok (.ifCond .eq 9, 3) := by decide +kernel
theorem dX6_mayGo_73 : decode cX6_mayGo 73 = .ok (.iload 8, 2) := by decide +kernel
theorem dX6_mayGo_75 : decode cX6_mayGo 75 = .ok (.iconst 1, 1) := by decide +kernel
theorem dX6_mayGo_76 : decode cX6_mayGo 76 = .ok (.if_icmp .eq 7, 3) := by decide +kernel
theorem dX6_mayGo_79 : decode cX6_mayGo 79 = .ok (.iconst 1, 1) := by decide +kernel
theorem dX6_mayGo_80 : decode cX6_mayGo 80 = .ok (.goto 4, 3) := by decide +kernel
theorem dX6_mayGo_83 : decode cX6_mayGo 83 = .ok (.iconst 0, 1) := by decide +kernel
theorem dX6_mayGo_84 : decode cX6_mayGo 84 = .ok (.ireturn, 1) := by decide +kernel
theorem dX6_mayGo_85 : decode cX6_mayGo 85 = .ok (.iload 7, 2) := by decide +kernel
theorem dX6_mayGo_87 : decode cX6_mayGo 87 = .ok (.ifCond .eq 9, 3) := by decide +kernel
theorem dX6_mayGo_90 : decode cX6_mayGo 90 = .ok (.iload 8, 2) := by decide +kernel
theorem dX6_mayGo_92 : decode cX6_mayGo 92 = .ok (.iconst 3, 1) := by decide +kernel
theorem dX6_mayGo_93 : decode cX6_mayGo 93 = .ok (.if_icmp .eq 7, 3) := by decide +kernel
theorem dX6_mayGo_96 : decode cX6_mayGo 96 = .ok (.iconst 1, 1) := by decide +kernel
theorem dX6_mayGo_97 : decode cX6_mayGo 97 = .ok (.goto 4, 3) := by decide +kernel
theorem dX6_mayGo_100 : decode cX6_mayGo 100 = .ok (.iconst 0, 1) := by decide +kernel
theorem dX6_mayGo_101 : decode cX6_mayGo 101 = .ok (.ireturn, 1) := by decide +kernel
theorem dX6_mayGo_102 : decode cX6_mayGo 102 = .ok (.iload 7, 2) := by decide +kernel
theorem dX6_mayGo_104 : decode cX6_mayGo 104 = .ok (.ifCond .eq 8, 3) := by decide +kernel
theorem dX6_mayGo_107 : decode cX6_mayGo 107 = .ok (.iload 6, 2) := by decide +kernel
theorem dX6_mayGo_109 : decode cX6_mayGo 109 = .ok (.ifCond .ne 7, 3) := by decide +kernel
theorem dX6_mayGo_112 : decode cX6_mayGo 112 = .ok (.iconst 1, 1) := by decide +kernel
theorem dX6_mayGo_113 : decode cX6_mayGo 113 = .ok (.goto 4, 3) := by decide +kernel
theorem dX6_mayGo_116 : decode cX6_mayGo 116 = .ok (.iconst 0, 1) := by decide +kernel
theorem dX6_mayGo_117 : decode cX6_mayGo 117 = .ok (.ireturn, 1) := by decide +kernel
theorem dX6_mayGo_118 : decode cX6_mayGo 118 = .ok (.iload 7, 2) := by decide +kernel
theorem dX6_mayGo_120 : decode cX6_mayGo 120 = .ok (.ifCond .eq 9, 3) := by decide +kernel
theorem dX6_mayGo_123 : decode cX6_mayGo 123 = .ok (.iload 8, 2) := by decide +kernel
theorem dX6_mayGo_125 : decode cX6_mayGo 125 = .ok (.iconst 1, 1) := by decide +kernel
theorem dX6_mayGo_126 : decode cX6_mayGo 126 = .ok (.if_icmp .eq 16, 3) := by decide +kernel
theorem dX6_mayGo_129 : decode cX6_mayGo 129 = .ok (.aload_n 0, 1) := by decide +kernel
theorem dX6_mayGo_130 : decode cX6_mayGo 130 = .ok (.iload_n 2, 1) := by decide +kernel
theorem dX6_mayGo_131 : decode cX6_mayGo 131 = .ok (.iload_n 3, 1) := by decide +kernel
theorem dX6_mayGo_132 : decode cX6_mayGo 132 = .ok (.invokevirtual 137, 3) := by decide +kernel
theorem dX6_mayGo_135 : decode cX6_mayGo 135 = .ok (.ifCond .ne 7, 3) := by decide +kernel
theorem dX6_mayGo_138 : decode cX6_mayGo 138 = .ok (.iconst 1, 1) := by decide +kernel
theorem dX6_mayGo_139 : decode cX6_mayGo 139 = .ok (.goto 4, 3) := by decide +kernel
theorem dX6_mayGo_142 : decode cX6_mayGo 142 = .ok (.iconst 0, 1) := by decide +kernel
theorem dX6_mayGo_143 : decode cX6_mayGo 143 = .ok (.ireturn, 1) := by decide +kernel
theorem dX6_mayGo_144 : decode cX6_mayGo 144 = .ok (.iconst 1, 1) := by decide +kernel
theorem dX6_mayGo_145 : decode cX6_mayGo 145 = .ok (.ireturn, 1) := by decide +kernel
set_option maxRecDepth 20000 in
theorem ggX6_may_X6_isTeam : GoodIn wsX6_may wsX6_isTeam := goodIn_r _ [9, 10, 11, 12, 8, 13, 45, 46, 47, 48, 49, 50, 51, 52, 53, 54, 55, 56, 57, 58, 59, 60, 61, 62, 63, 64, 65, 66, 67, 68, 69, 70, 71, 72, 73, 74, 75, 76, 77] (by decide +kernel) (by decide +kernel)
set_option maxRecDepth 20000 in
theorem gX6_may_X6_isTeam : GoodIn wsX6_may (wsV RX6 122 RX6 yX6_isTeam wsX6_isTeam) := goodIn_app (goodIn_of _ (by decide +kernel)) ggX6_may_X6_isTeam
set_option maxRecDepth 20000 in
theorem ggX6_may_X6_isField : GoodIn wsX6_may wsX6_isField := goodIn_r _ [17, 10, 11, 12, 8, 13, 45, 46, 47, 48, 49, 50, 51, 52, 53, 54, 55, 56, 57, 58, 59, 60, 61, 62, 63, 64, 65, 66, 67, 68, 69, 70, 71, 72, 73, 74, 75, 76, 77] (by decide +kernel) (by decide +kernel)
set_option maxRecDepth 20000 in
theorem gX6_may_X6_isField : GoodIn wsX6_may (wsV RX6 98 RX6 yX6_isField wsX6_isField) := goodIn_app (goodIn_of _ (by decide +kernel)) ggX6_may_X6_isField
set_option maxRecDepth 20000 in
theorem ggX6_may_X6_in : GoodIn wsX6_may wsX6_in := goodIn_r _ [13] (by decide +kernel) (by decide +kernel)
set_option maxRecDepth 20000 in
theorem gX6_may_X6_in : GoodIn wsX6_may (va_wsS RX6 69 yX6_in wsX6_in) := goodIn_app (goodIn_of _ (by decide +kernel)) ggX6_may_X6_in
set_option maxRecDepth 20000 in
theorem ggX6_may_X6_finds : GoodIn wsX6_may wsX6_finds := goodIn_r _ [21, 22, 4, 45, 46, 47, 48, 49, 50, 51, 52, 53, 54, 55, 56, 57, 58, 59, 60, 61, 62, 63, 64, 65, 66, 67, 68, 69, 70, 71, 72, 73, 74, 75, 76, 77] (by decide +kernel) (by decide +kernel)
set_option maxRecDepth 20000 in
theorem gX6_may_X6_finds : GoodIn wsX6_may (wsV RX6 79 RX6 yX6_finds wsX6_finds) := goodIn_app (goodIn_of _ (by decide +kernel)) ggX6_may_X6_finds
set_option maxRecDepth 20000 in
theorem ggX6_may_X6_mayGo : GoodIn wsX6_may wsX6_mayGo := goodIn_r _ [26, 27, 28, 29, 8, 30, 10, 31, 32, 33, 34, 35, 36, 37, 38, 39, 40, 41, 42, 43, 44, 45, 46, 47, 48, 49, 50, 51, 52, 53, 54, 55, 56, 57, 58, 59, 60, 61, 62, 63, 64, 65, 66, 67, 68, 69, 70, 71, 72, 73, 74, 75, 76, 77] (by decide +kernel) (by decide +kernel)
set_option maxRecDepth 20000 in
theorem gX6_may_X6_mayGo : GoodIn wsX6_may (wsV RX6 146 RX6 yX6_mayGo wsX6_mayGo) := goodIn_app (goodIn_of _ (by decide +kernel)) ggX6_may_X6_mayGo
theorem dX6_may_0 : decode cX6_may 0 = .ok (.aload_n 0, 1) := by decide +kernel
theorem dX6_may_1 : decode cX6_may 1 = .ok (.iload_n 1, 1) := by decide +kernel
theorem dX6_may_2 : decode cX6_may 2 = .ok (.invokevirtual 122, 3) := by decide +kernel
theorem dX6_may_5 : decode cX6_may 5 = .ok (.ifCond .eq 51, 3) := by decide +kernel
theorem dX6_may_8 : decode cX6_may 8 = .ok (.aload_n 0, 1) := by decide +kernel
theorem dX6_may_9 : decode cX6_may 9 = .ok (.iload_n 2, 1) := by decide +kernel
theorem dX6_may_10 : decode cX6_may 10 = .ok (.invokevirtual 98, 3) := by decide +kernel
theorem dX6_may_13 : decode cX6_may 13 = .ok (.ifCond .eq 43, 3) := by decide +kernel
theorem dX6_may_16 : decode cX6_may 16 = .ok (.iload_n 3, 1) := by decide +kernel
theorem dX6_may_17 : decode cX6_may 17 = .ok (.i2l, 1) := by decide +kernel
theorem dX6_may_18 : decode cX6_may 18 = .ok (.lconst 0, 1) := by decide +kernel
theorem dX6_may_19 : decode cX6_may 19 = .ok (.ldc2_w 140, 3) := by decide +kernel
theorem dX6_may_22 : decode cX6_may 22 = .ok (.invokestatic 69, 3) := by decide +kernel
theorem dX6_may_25 : decode cX6_may 25 = .ok (.ifCond .eq 31, 3) := by decide +kernel
theorem dX6_may_28 : decode cX6_may 28 = .ok (.iload 4, 2) := by decide +kernel
theorem dX6_may_30 : decode cX6_may 30 = .ok (.i2l, 1) := by decide +kernel
theorem dX6_may_31 : decode cX6_may 31 = .ok (.ldc2_w 142, 3) := by decide +kernel
theorem dX6_may_34 : decode cX6_may 34 = .ok (.ldc2_w 144, 3) := by decide +kernel
theorem dX6_may_37 : decode cX6_may 37 = .ok (.invokestatic 69, 3) := by decide +kernel
theorem dX6_may_40 : decode cX6_may 40 = .ok (.ifCond .eq 16, 3) := by decide +kernel
theorem dX6_may_43 : decode cX6_may 43 = .ok (.iload 5, 2) := by decide +kernel
theorem dX6_may_45 : decode cX6_may 45 = .ok (.i2l, 1) := by decide +kernel
theorem dX6_may_46 : decode cX6_may 46 = .ok (.lconst 0, 1) := by decide +kernel
theorem dX6_may_47 : decode cX6_may 47 = .ok (.ldc2_w 144, 3) := by decide +kernel
theorem dX6_may_50 : decode cX6_may 50 = .ok (.invokestatic 69, 3) := by decide +kernel
theorem dX6_may_53 : decode cX6_may 53 = .ok (.ifCond .ne 10, 3) := by decide +kernel
theorem dX6_may_56 : decode cX6_may 56 = .ok (.aload_n 0, 1) := by decide +kernel
theorem dX6_may_57 : decode cX6_may 57 = .ok (.ldc 68, 2) := by decide +kernel
theorem dX6_may_59 : decode cX6_may 59 = .ok (.invokevirtual 79, 3) := by decide +kernel
theorem dX6_may_62 : decode cX6_may 62 = .ok (.ireturn, 1) := by decide +kernel
theorem dX6_may_63 : decode cX6_may 63 = .ok (.aload_n 0, 1) := by decide +kernel
theorem dX6_may_64 : decode cX6_may 64 = .ok (.iload_n 1, 1) := by decide +kernel
theorem dX6_may_65 : decode cX6_may 65 = .ok (.iload_n 2, 1) := by decide +kernel
theorem dX6_may_66 : decode cX6_may 66 = .ok (.iload_n 3, 1) := by decide +kernel
theorem dX6_may_67 : decode cX6_may 67 = .ok (.iload 4, 2) := by decide +kernel
theorem dX6_may_69 : decode cX6_may 69 = .ok (.iload 5, 2) := by decide +kernel
theorem dX6_may_71 : decode cX6_may 71 = .ok (.iload 6, 2) := by decide +kernel
theorem dX6_may_73 : decode cX6_may 73 = .ok (.invokevirtual 146, 3) := by decide +kernel
theorem dX6_may_76 : decode cX6_may 76 = .ok (.ifCond .eq 7, 3) := by decide +kernel
theorem dX6_may_79 : decode cX6_may 79 = .ok (.iconst 1, 1) := by decide +kernel
theorem dX6_may_80 : decode cX6_may 80 = .ok (.goto 4, 3) := by decide +kernel
theorem dX6_may_83 : decode cX6_may 83 = .ok (.iconst 0, 1) := by decide +kernel
theorem dX6_may_84 : decode cX6_may 84 = .ok (.ireturn, 1) := by decide +kernel
theorem dX6_direction_0 : decode cX6_direction 0 = .ok (.iload_n 0, 1) := by decide +kernel
theorem dX6_direction_1 : decode cX6_direction 1 = .ok (.ifCond .ne 7, 3) := by decide +kernel
theorem dX6_direction_4 : decode cX6_direction 4 = .ok (.iconst 0, 1) := by decide +kernel
theorem dX6_direction_5 : decode cX6_direction 5 = .ok (.goto 22, 3) := by decide +kernel
theorem dX6_direction_8 : decode cX6_direction 8 = .ok (.iload_n 0, 1) := by decide +kernel
theorem dX6_direction_9 : decode cX6_direction 9 = .ok (.iconst 1, 1) := by decide +kernel
theorem dX6_direction_10 : decode cX6_direction 10 = .ok (.if_icmp .ne 7, 3) := by decide +kernel
theorem dX6_direction_13 : decode cX6_direction 13 = .ok (.iconst 3, 1) := by decide +kernel
theorem dX6_direction_14 : decode cX6_direction 14 = .ok (.goto 13, 3) := by decide +kernel
theorem dX6_direction_17 : decode cX6_direction 17 = .ok (.iload_n 0, 1) := by decide +kernel
theorem dX6_direction_18 : decode cX6_direction 18 = .ok (.iconst 2, 1) := by decide +kernel
theorem dX6_direction_19 : decode cX6_direction 19 = .ok (.if_icmp .ne 7, 3) := by decide +kernel
theorem dX6_direction_22 : decode cX6_direction 22 = .ok (.iconst 1, 1) := by decide +kernel
theorem dX6_direction_23 : decode cX6_direction 23 = .ok (.goto 4, 3) := by decide +kernel
theorem dX6_direction_26 : decode cX6_direction 26 = .ok (.iconst 2, 1) := by decide +kernel
theorem dX6_direction_27 : decode cX6_direction 27 = .ok (.ireturn, 1) := by decide +kernel
set_option maxRecDepth 20000 in
theorem ggX6_reaches_X6_its : GoodIn wsX6_reaches wsX6_its := goodIn_r _ [12, 13, 22, 23, 24, 25, 26, 27, 28, 29, 30, 31, 32, 33, 34, 35, 36, 37, 38, 39, 40, 41, 42, 43, 44, 45, 46, 47, 48, 49, 50, 51, 52, 53, 54] (by decide +kernel) (by decide +kernel)
set_option maxRecDepth 20000 in
theorem gX6_reaches_X6_its : GoodIn wsX6_reaches (wsV RX6 74 RX6 yX6_its wsX6_its) := goodIn_app (goodIn_of _ (by decide +kernel)) ggX6_reaches_X6_its
set_option maxRecDepth 20000 in
theorem ggX6_reaches_X6_earth : GoodIn wsX6_reaches wsX6_earth := goodIn_r _ [17, 18, 8, 9, 10, 11, 12, 13, 22, 23, 24, 25, 26, 27, 28, 29, 30, 31, 32, 33, 34, 35, 36, 37, 38, 39, 40, 41, 42, 43, 44, 45, 46, 47, 48, 49, 50, 51, 52, 53, 54] (by decide +kernel) (by decide +kernel)
set_option maxRecDepth 20000 in
theorem gX6_reaches_X6_earth : GoodIn wsX6_reaches (wsV RX6 87 RX6 yX6_earth wsX6_earth) := goodIn_app (goodIn_of _ (by decide +kernel)) ggX6_reaches_X6_earth
set_option maxRecDepth 20000 in
theorem ggX6_reaches_X6_ones : GoodIn wsX6_reaches wsX6_ones := goodIn_r _ [21] (by decide +kernel) (by decide +kernel)
set_option maxRecDepth 20000 in
theorem gX6_reaches_X6_ones : GoodIn wsX6_reaches (va_wsS RX6 154 yX6_ones wsX6_ones) := goodIn_app (goodIn_of _ (by decide +kernel)) ggX6_reaches_X6_ones
theorem dX6_reaches_0 : decode cX6_reaches 0 = .ok (.aload_n 0, 1) := by decide +kernel
theorem dX6_reaches_1 : decode cX6_reaches 1 = .ok (.getfield 22, 3) := by decide +kernel
theorem dX6_reaches_4 : decode cX6_reaches 4 = .ok (.iload_n 2, 1) := by decide +kernel
theorem dX6_reaches_5 : decode cX6_reaches 5 = .ok (.iconst 1, 1) := by decide +kernel
theorem dX6_reaches_6 : decode cX6_reaches 6 = .ok (.isub, 1) := by decide +kernel
theorem dX6_reaches_7 : decode cX6_reaches 7 = .ok (.iaload, 1) := by decide +kernel
theorem dX6_reaches_8 : decode cX6_reaches 8 = .ok (.istore_n 3, 1) := by decide +kernel
theorem dX6_reaches_9 : decode cX6_reaches 9 = .ok (.aload_n 0, 1) := by decide +kernel
theorem dX6_reaches_10 : decode cX6_reaches 10 = .ok (.iload_n 1, 1) := by decide +kernel
theorem dX6_reaches_11 : decode cX6_reaches 11 = .ok (.iconst 3, 1) := by decide +kernel
theorem dX6_reaches_12 : decode cX6_reaches 12 = .ok (.invokevirtual 74, 3) := by decide +kernel
theorem dX6_reaches_15 : decode cX6_reaches 15 = .ok (.ifCond .lt 14, 3) := by decide +kernel
theorem dX6_reaches_18 : decode cX6_reaches 18 = .ok (.aload_n 0, 1) := by decide +kernel
theorem dX6_reaches_19 : decode cX6_reaches 19 = .ok (.iload_n 1, 1) := by decide +kernel
theorem dX6_reaches_20 : decode cX6_reaches 20 = .ok (.iconst 3, 1) := by decide +kernel
theorem dX6_reaches_21 : decode cX6_reaches 21 = .ok (.invokevirtual 74, 3) := by decide +kernel
theorem dX6_reaches_24 : decode cX6_reaches 24 = .ok (.iload_n 3, 1) := by decide +kernel
theorem dX6_reaches_25 : decode cX6_reaches 25 = .ok (.if_icmp .eq 4, 3) := by decide +kernel
theorem dX6_reaches_28 : decode cX6_reaches 28 = .ok (.return_, 1) := by decide +kernel
theorem dX6_reaches_29 : decode cX6_reaches 29 = .ok (.aload_n 0, 1) := by decide +kernel
theorem dX6_reaches_30 : decode cX6_reaches 30 = .ok (.iload_n 2, 1) := by decide +kernel
theorem dX6_reaches_31 : decode cX6_reaches 31 = .ok (.aload_n 0, 1) := by decide +kernel
theorem dX6_reaches_32 : decode cX6_reaches 32 = .ok (.getfield 150, 3) := by decide +kernel
theorem dX6_reaches_35 : decode cX6_reaches 35 = .ok (.if_icmp .le 7, 3) := by decide +kernel
theorem dX6_reaches_38 : decode cX6_reaches 38 = .ok (.iload_n 2, 1) := by decide +kernel
theorem dX6_reaches_39 : decode cX6_reaches 39 = .ok (.goto 7, 3) := by decide +kernel
theorem dX6_reaches_42 : decode cX6_reaches 42 = .ok (.aload_n 0, 1) := by decide +kernel
theorem dX6_reaches_43 : decode cX6_reaches 43 = .ok (.getfield 150, 3) := by decide +kernel
theorem dX6_reaches_46 : decode cX6_reaches 46 = .ok (.putfield 150, 3) := by decide +kernel
theorem dX6_reaches_49 : decode cX6_reaches 49 = .ok (.iload_n 2, 1) := by decide +kernel
theorem dX6_reaches_50 : decode cX6_reaches 50 = .ok (.aload_n 0, 1) := by decide +kernel
theorem dX6_reaches_51 : decode cX6_reaches 51 = .ok (.iload_n 1, 1) := by decide +kernel
theorem dX6_reaches_52 : decode cX6_reaches 52 = .ok (.invokevirtual 87, 3) := by decide +kernel
theorem dX6_reaches_55 : decode cX6_reaches 55 = .ok (.invokestatic 154, 3) := by decide +kernel
theorem dX6_reaches_58 : decode cX6_reaches 58 = .ok (.if_icmp .ne 81, 3) := by decide +kernel
theorem dX6_reaches_61 : decode cX6_reaches 61 = .ok (.aload_n 0, 1) := by decide +kernel
theorem dX6_reaches_62 : decode cX6_reaches 62 = .ok (.dup, 1) := by decide +kernel
theorem dX6_reaches_63 : decode cX6_reaches 63 = .ok (.getfield 157, 3) := by decide +kernel
theorem dX6_reaches_66 : decode cX6_reaches 66 = .ok (.iconst 1, 1) := by decide +kernel
theorem dX6_reaches_67 : decode cX6_reaches 67 = .ok (.iadd, 1) := by decide +kernel
theorem dX6_reaches_68 : decode cX6_reaches 68 = .ok (.putfield 157, 3) := by decide +kernel
theorem dX6_reaches_71 : decode cX6_reaches 71 = .ok (.aload_n 0, 1) := by decide +kernel
theorem dX6_reaches_72 : decode cX6_reaches 72 = .ok (.getfield 160, 3) := by decide +kernel
theorem dX6_reaches_75 : decode cX6_reaches 75 = .ok (.ifCond .lt 18, 3) := by decide +kernel
theorem dX6_reaches_78 : decode cX6_reaches 78 = .ok (.aload_n 0, 1) := by decide +kernel
theorem dX6_reaches_79 : decode cX6_reaches 79 = .ok (.getfield 31, 3) := by decide +kernel
theorem dX6_reaches_82 : decode cX6_reaches 82 = .ok (.iload_n 2, 1) := by decide +kernel
theorem dX6_reaches_83 : decode cX6_reaches 83 = .ok (.iconst 1, 1) := by decide +kernel
theorem dX6_reaches_84 : decode cX6_reaches 84 = .ok (.isub, 1) := by decide +kernel
theorem dX6_reaches_85 : decode cX6_reaches 85 = .ok (.iaload, 1) := by decide +kernel
theorem dX6_reaches_86 : decode cX6_reaches 86 = .ok (.aload_n 0, 1) := by decide +kernel
theorem dX6_reaches_87 : decode cX6_reaches 87 = .ok (.getfield 160, 3) := by decide +kernel
theorem dX6_reaches_90 : decode cX6_reaches 90 = .ok (.if_icmp .ge 49, 3) := by decide +kernel
theorem dX6_reaches_93 : decode cX6_reaches 93 = .ok (.aload_n 0, 1) := by decide +kernel
theorem dX6_reaches_94 : decode cX6_reaches 94 = .ok (.aload_n 0, 1) := by decide +kernel
theorem dX6_reaches_95 : decode cX6_reaches 95 = .ok (.getfield 31, 3) := by decide +kernel
theorem dX6_reaches_98 : decode cX6_reaches 98 = .ok (.iload_n 2, 1) := by decide +kernel
theorem dX6_reaches_99 : decode cX6_reaches 99 = .ok (.iconst 1, 1) := by decide +kernel
theorem dX6_reaches_100 : decode cX6_reaches 100 = .ok (.isub, 1) := by decide +kernel
theorem dX6_reaches_101 : decode cX6_reaches 101 = .ok (.iaload, 1) := by decide +kernel
theorem dX6_reaches_102 : decode cX6_reaches 102 = .ok (.putfield 160, 3) := by decide +kernel
theorem dX6_reaches_105 : decode cX6_reaches 105 = .ok (.aload_n 0, 1) := by decide +kernel
theorem dX6_reaches_106 : decode cX6_reaches 106 = .ok (.iload_n 2, 1) := by decide +kernel
theorem dX6_reaches_107 : decode cX6_reaches 107 = .ok (.putfield 163, 3) := by decide +kernel
theorem dX6_reaches_110 : decode cX6_reaches 110 = .ok (.iconst 0, 1) := by decide +kernel
theorem dX6_reaches_111 : decode cX6_reaches 111 = .ok (.istore 4, 2) := by decide +kernel
theorem dX6_reaches_113 : decode cX6_reaches 113 = .ok (.iload 4, 2) := by decide +kernel
theorem dX6_reaches_115 : decode cX6_reaches 115 = .ok (.iload_n 2, 1) := by decide +kernel
theorem dX6_reaches_116 : decode cX6_reaches 116 = .ok (.if_icmp .ge 23, 3) := by decide +kernel
theorem dX6_reaches_119 : decode cX6_reaches 119 = .ok (.aload_n 0, 1) := by decide +kernel
theorem dX6_reaches_120 : decode cX6_reaches 120 = .ok (.getfield 34, 3) := by decide +kernel
theorem dX6_reaches_123 : decode cX6_reaches 123 = .ok (.iload 4, 2) := by decide +kernel
theorem dX6_reaches_125 : decode cX6_reaches 125 = .ok (.aload_n 0, 1) := by decide +kernel
theorem dX6_reaches_126 : decode cX6_reaches 126 = .ok (.getfield 22, 3) := by decide +kernel
theorem dX6_reaches_129 : decode cX6_reaches 129 = .ok (.iload 4, 2) := by decide +kernel
theorem dX6_reaches_131 : decode cX6_reaches 131 = .ok (.iaload, 1) := by decide +kernel
theorem dX6_reaches_132 : decode cX6_reaches 132 = .ok (.iastore, 1) := by decide +kernel
theorem dX6_reaches_133 : decode cX6_reaches 133 = .ok (.iinc 4 1, 3) := by decide +kernel
theorem dX6_reaches_136 : decode cX6_reaches 136 = .ok (.goto (-23), 3) := by decide +kernel
theorem dX6_reaches_139 : decode cX6_reaches 139 = .ok (.return_, 1) := by decide +kernel
set_option maxRecDepth 20000 in
theorem ggX6_begins_X6_earth : GoodIn wsX6_begins wsX6_earth := goodIn_r _ [9, 10, 11, 12, 13, 8, 14, 15, 49, 50, 51, 52, 53, 54, 55, 56, 57, 58, 59, 60, 61, 62, 63, 64, 65, 66, 67, 68, 69, 70, 71, 72, 73, 74, 75, 76, 77, 78, 79, 80, 81] (by decide +kernel) (by decide +kernel)
set_option maxRecDepth 20000 in
theorem gX6_begins_X6_earth : GoodIn wsX6_begins (wsV RX6 87 RX6 yX6_earth wsX6_earth) := goodIn_app (goodIn_of _ (by decide +kernel)) ggX6_begins_X6_earth
set_option maxRecDepth 20000 in
theorem ggX6_begins_X6_reaches : GoodIn wsX6_begins wsX6_reaches := goodIn_r _ [19, 1, 20, 21, 22, 4, 23, 24, 11, 12, 13, 8, 14, 15, 5, 6, 7, 9, 10, 25, 26, 27, 49, 50, 51, 52, 53, 54, 55, 56, 57, 58, 59, 60, 61, 62, 63, 64, 65, 66, 67, 68, 69, 70, 71, 72, 73, 74, 75, 76, 77, 78, 79, 80, 81] (by decide +kernel) (by decide +kernel)
set_option maxRecDepth 20000 in
theorem gX6_begins_X6_reaches : GoodIn wsX6_begins (wsV RX6 166 RX6 yX6_reaches wsX6_reaches) := goodIn_app (goodIn_of _ (by decide +kernel)) ggX6_begins_X6_reaches
set_option maxRecDepth 20000 in
theorem ggX6_begins_X6_direction : GoodIn wsX6_begins wsX6_direction := goodIn_r _ [30] (by decide +kernel) (by decide +kernel)
set_option maxRecDepth 20000 in
theorem gX6_begins_X6_direction : GoodIn wsX6_begins (va_wsS RX6 170 yX6_direction wsX6_direction) := goodIn_app (goodIn_of _ (by decide +kernel)) ggX6_begins_X6_direction
set_option maxRecDepth 20000 in
theorem ggX6_begins_X6_beside : GoodIn wsX6_begins wsX6_beside := goodIn_r _ [33] (by decide +kernel) (by decide +kernel)
set_option maxRecDepth 20000 in
theorem gX6_begins_X6_beside : GoodIn wsX6_begins (va_wsS RX6 134 yX6_beside wsX6_beside) := goodIn_app (goodIn_of _ (by decide +kernel)) ggX6_begins_X6_beside
set_option maxRecDepth 20000 in
theorem ggX6_begins_X6_has : GoodIn wsX6_begins wsX6_has := goodIn_r _ [36] (by decide +kernel) (by decide +kernel)
set_option maxRecDepth 20000 in
theorem gX6_begins_X6_has : GoodIn wsX6_begins (va_wsS RX6 90 yX6_has wsX6_has) := goodIn_app (goodIn_of _ (by decide +kernel)) ggX6_begins_X6_has
set_option maxRecDepth 20000 in
theorem ggX6_begins_X6_mayGo : GoodIn wsX6_begins wsX6_mayGo := goodIn_r _ [40, 41, 42, 43, 8, 44, 15, 45, 46, 47, 48, 31, 32, 33, 11, 12, 13, 14, 34, 35, 36, 49, 50, 51, 52, 53, 54, 55, 56, 57, 58, 59, 60, 61, 62, 63, 64, 65, 66, 67, 68, 69, 70, 71, 72, 73, 74, 75, 76, 77, 78, 79, 80, 81] (by decide +kernel) (by decide +kernel)
set_option maxRecDepth 20000 in
theorem gX6_begins_X6_mayGo : GoodIn wsX6_begins (wsV RX6 146 RX6 yX6_mayGo wsX6_mayGo) := goodIn_app (goodIn_of _ (by decide +kernel)) ggX6_begins_X6_mayGo
theorem dX6_begins_0 : decode cX6_begins 0 = .ok (.aload_n 0, 1) := by decide +kernel
theorem dX6_begins_1 : decode cX6_begins 1 = .ok (.iload_n 2, 1) := by decide +kernel
theorem dX6_begins_2 : decode cX6_begins 2 = .ok (.invokevirtual 87, 3) := by decide +kernel
theorem dX6_begins_5 : decode cX6_begins 5 = .ok (.istore 4, 2) := by decide +kernel
theorem dX6_begins_7 : decode cX6_begins 7 = .ok (.iconst 1, 1) := by decide +kernel
theorem dX6_begins_8 : decode cX6_begins 8 = .ok (.iload_n 3, 1) := by decide +kernel
theorem dX6_begins_9 : decode cX6_begins 9 = .ok (.ishl, 1) := by decide +kernel
theorem dX6_begins_10 : decode cX6_begins 10 = .ok (.istore 5, 2) := by decide +kernel
theorem dX6_begins_12 : decode cX6_begins 12 = .ok (.iconst 1, 1) := by decide +kernel
theorem dX6_begins_13 : decode cX6_begins 13 = .ok (.istore 6, 2) := by decide +kernel
theorem dX6_begins_15 : decode cX6_begins 15 = .ok (.aload_n 0, 1) := by decide +kernel
theorem dX6_begins_16 : decode cX6_begins 16 = .ok (.getfield 22, 3) := by decide +kernel
theorem dX6_begins_19 : decode cX6_begins 19 = .ok (.iconst 0, 1) := by decide +kernel
theorem dX6_begins_20 : decode cX6_begins 20 = .ok (.iload_n 3, 1) := by decide +kernel
theorem dX6_begins_21 : decode cX6_begins 21 = .ok (.iastore, 1) := by decide +kernel
theorem dX6_begins_22 : decode cX6_begins 22 = .ok (.aload_n 0, 1) := by decide +kernel
theorem dX6_begins_23 : decode cX6_begins 23 = .ok (.getfield 25, 3) := by decide +kernel
theorem dX6_begins_26 : decode cX6_begins 26 = .ok (.iconst 0, 1) := by decide +kernel
theorem dX6_begins_27 : decode cX6_begins 27 = .ok (.iconst (-1), 1) := by decide +kernel
theorem dX6_begins_28 : decode cX6_begins 28 = .ok (.iastore, 1) := by decide +kernel
theorem dX6_begins_29 : decode cX6_begins 29 = .ok (.aload_n 0, 1) := by decide +kernel
theorem dX6_begins_30 : decode cX6_begins 30 = .ok (.getfield 28, 3) := by decide +kernel
theorem dX6_begins_33 : decode cX6_begins 33 = .ok (.iconst 0, 1) := by decide +kernel
theorem dX6_begins_34 : decode cX6_begins 34 = .ok (.iconst 0, 1) := by decide +kernel
theorem dX6_begins_35 : decode cX6_begins 35 = .ok (.iastore, 1) := by decide +kernel
theorem dX6_begins_36 : decode cX6_begins 36 = .ok (.aload_n 0, 1) := by decide +kernel
theorem dX6_begins_37 : decode cX6_begins 37 = .ok (.getfield 31, 3) := by decide +kernel
theorem dX6_begins_40 : decode cX6_begins 40 = .ok (.iconst 0, 1) := by decide +kernel
theorem dX6_begins_41 : decode cX6_begins 41 = .ok (.iconst 0, 1) := by decide +kernel
theorem dX6_begins_42 : decode cX6_begins 42 = .ok (.iastore, 1) := by decide +kernel
theorem dX6_begins_43 : decode cX6_begins 43 = .ok (.aload_n 0, 1) := by decide +kernel
theorem dX6_begins_44 : decode cX6_begins 44 = .ok (.iload_n 2, 1) := by decide +kernel
theorem dX6_begins_45 : decode cX6_begins 45 = .ok (.iconst 1, 1) := by decide +kernel
theorem dX6_begins_46 : decode cX6_begins 46 = .ok (.invokevirtual 166, 3) := by decide +kernel
theorem dX6_begins_49 : decode cX6_begins 49 = .ok (.iload 6, 2) := by decide +kernel
theorem dX6_begins_51 : decode cX6_begins 51 = .ok (.ifCond .le 242, 3) := by decide +kernel
theorem dX6_begins_54 : decode cX6_begins 54 = .ok (.iload 6, 2) := by decide +kernel
theorem dX6_begins_56 : decode cX6_begins 56 = .ok (.iconst 1, 1) := by decide +kernel
theorem dX6_begins_57 : decode cX6_begins 57 = .ok (.isub, 1) := by decide +kernel
theorem dX6_begins_58 : decode cX6_begins 58 = .ok (.istore 7, 2) := by decide +kernel
theorem dX6_begins_60 : decode cX6_begins 60 = .ok (.aload_n 0, 1) := by decide +kernel
theorem dX6_begins_61 : decode cX6_begins 61 = .ok (.getfield 28, 3) := by decide +kernel
theorem dX6_begins_64 : decode cX6_begins 64 = .ok (.iload 7, 2) := by decide +kernel
theorem dX6_begins_66 : decode cX6_begins 66 = .ok (.iaload, 1) := by decide +kernel
theorem dX6_begins_67 : decode cX6_begins 67 = .ok (.iconst 4, 1) := by decide +kernel
theorem dX6_begins_68 : decode cX6_begins 68 = .ok (.if_icmp .ne 25, 3) := by decide +kernel
theorem dX6_begins_71 : decode cX6_begins 71 = .ok (.iload 5, 2) := by decide +kernel
theorem dX6_begins_73 : decode cX6_begins 73 = .ok (.iconst 1, 1) := by decide +kernel
theorem dX6_begins_74 : decode cX6_begins 74 = .ok (.aload_n 0, 1) := by decide +kernel
theorem dX6_begins_75 : decode cX6_begins 75 = .ok (.getfield 22, 3) := by decide +kernel
theorem dX6_begins_78 : decode cX6_begins 78 = .ok (.iload 7, 2) := by decide +kernel
theorem dX6_begins_80 : decode cX6_begins 80 = .ok (.iaload, 1) := by decide +kernel
theorem dX6_begins_81 : decode cX6_begins 81 = .ok (.ishl, 1) := by decide +kernel
theorem dX6_begins_82 : decode cX6_begins 82 = .ok (.iconst (-1), 1) := by decide +kernel
theorem dX6_begins_83 : decode cX6_begins 83 = .ok (.ixor, 1) := by decide +kernel
theorem dX6_begins_84 : decode cX6_begins 84 = .ok (.iand, 1) := by decide +kernel
theorem dX6_begins_85 : decode cX6_begins 85 = .ok (.istore 5, 2) := by decide +kernel
theorem dX6_begins_87 : decode cX6_begins 87 = .ok (.iinc 6 (-1), 3) := by decide +kernel
theorem dX6_begins_90 : decode cX6_begins 90 = .ok (.goto 200, 3) := by decide +kernel
theorem dX6_begins_93 : decode cX6_begins 93 = .ok (.aload_n 0, 1) := by decide +kernel
theorem dX6_begins_94 : decode cX6_begins 94 = .ok (.getfield 28, 3) := by decide +kernel
theorem dX6_begins_97 : decode cX6_begins 97 = .ok (.iload 7, 2) := by decide +kernel
theorem dX6_begins_99 : decode cX6_begins 99 = .ok (.iaload, 1) := by decide +kernel
theorem dX6_begins_100 : decode cX6_begins 100 = .ok (.invokestatic 170, 3) := by decide +kernel
theorem dX6_begins_103 : decode cX6_begins 103 = .ok (.istore 8, 2) := by decide +kernel
theorem dX6_begins_105 : decode cX6_begins 105 = .ok (.aload_n 0, 1) := by decide +kernel
theorem dX6_begins_106 : decode cX6_begins 106 = .ok (.getfield 28, 3) := by decide +kernel
theorem dX6_begins_109 : decode cX6_begins 109 = .ok (.iload 7, 2) := by decide +kernel
theorem dX6_begins_111 : decode cX6_begins 111 = .ok (.dup2, 1) := by decide +kernel
theorem dX6_begins_112 : decode cX6_begins 112 = .ok (.iaload, 1) := by decide +kernel
theorem dX6_begins_113 : decode cX6_begins 113 = .ok (.iconst 1, 1) := by decide +kernel
theorem dX6_begins_114 : decode cX6_begins 114 = .ok (.iadd, 1) := by decide +kernel
theorem dX6_begins_115 : decode cX6_begins 115 = .ok (.iastore, 1) := by decide +kernel
theorem dX6_begins_116 : decode cX6_begins 116 = .ok (.aload_n 0, 1) := by decide +kernel
theorem dX6_begins_117 : decode cX6_begins 117 = .ok (.getfield 22, 3) := by decide +kernel
theorem dX6_begins_120 : decode cX6_begins 120 = .ok (.iload 7, 2) := by decide +kernel
theorem dX6_begins_122 : decode cX6_begins 122 = .ok (.iaload, 1) := by decide +kernel
theorem dX6_begins_123 : decode cX6_begins 123 = .ok (.iload 8, 2) := by decide +kernel
theorem dX6_begins_125 : decode cX6_begins 125 = .ok (.invokestatic 134, 3) := by decide +kernel
theorem dX6_begins_128 : decode cX6_begins 128 = .ok (.istore 9, 2) := by decide +kernel
theorem dX6_begins_130 : decode cX6_begins 130 = .ok (.iload 7, 2) := by decide +kernel
theorem dX6_begins_132 : decode cX6_begins 132 = .ok (.ifCond .le 26, 3) := by decide +kernel
theorem dX6_begins_135 : decode cX6_begins 135 = .ok (.aload_n 0, 1) := by decide +kernel
theorem dX6_begins_136 : decode cX6_begins 136 = .ok (.getfield 31, 3) := by decide +kernel
theorem dX6_begins_139 : decode cX6_begins 139 = .ok (.iload 7, 2) := by decide +kernel
theorem dX6_begins_141 : decode cX6_begins 141 = .ok (.iaload, 1) := by decide +kernel
theorem dX6_begins_142 : decode cX6_begins 142 = .ok (.aload_n 0, 1) := by decide +kernel
theorem dX6_begins_143 : decode cX6_begins 143 = .ok (.getfield 31, 3) := by decide +kernel
theorem dX6_begins_146 : decode cX6_begins 146 = .ok (.iload 7, 2) := by decide +kernel
theorem dX6_begins_148 : decode cX6_begins 148 = .ok (.iconst 1, 1) := by decide +kernel
theorem dX6_begins_149 : decode cX6_begins 149 = .ok (.isub, 1) := by decide +kernel
theorem dX6_begins_150 : decode cX6_begins 150 = .ok (.iaload, 1) := by decide +kernel
theorem dX6_begins_151 : decode cX6_begins 151 = .ok (.if_icmp .le 7, 3) := by decide +kernel
theorem dX6_begins_154 : decode cX6_begins 154 = .ok (.iconst 1, 1) := by decide +kernel
theorem dX6_begins_155 : decode cX6_begins 155 = .ok (.goto 4, 3) := by decide +kernel
theorem dX6_begins_158 : decode cX6_begins 158 = .ok (.iconst 0, 1) := by decide +kernel
theorem dX6_begins_159 : decode cX6_begins 159 = .ok (.istore 10, 2) := by decide +kernel
theorem dX6_begins_161 : decode cX6_begins 161 = .ok (.iload 9, 2) := by decide +kernel
theorem dX6_begins_163 : decode cX6_begins 163 = .ok (.ifCond .lt 127, 3) := by decide +kernel
theorem dX6_begins_166 : decode cX6_begins 166 = .ok (.iload 4, 2) := by decide +kernel
theorem dX6_begins_168 : decode cX6_begins 168 = .ok (.iload 5, 2) := by decide +kernel
theorem dX6_begins_170 : decode cX6_begins 170 = .ok (.iconst (-1), 1) := by decide +kernel
theorem dX6_begins_171 : decode cX6_begins 171 = .ok (.ixor, 1) := by decide +kernel
theorem dX6_begins_172 : decode cX6_begins 172 = .ok (.iand, 1) := by decide +kernel
theorem dX6_begins_173 : decode cX6_begins 173 = .ok (.iload 9, 2) := by decide +kernel
theorem dX6_begins_175 : decode cX6_begins 175 = .ok (.invokestatic 90, 3) := by decide +kernel
theorem dX6_begins_178 : decode cX6_begins 178 = .ok (.ifCond .eq 112, 3) := by decide +kernel
theorem dX6_begins_181 : decode cX6_begins 181 = .ok (.aload_n 0, 1) := by decide +kernel
theorem dX6_begins_182 : decode cX6_begins 182 = .ok (.iload_n 1, 1) := by decide +kernel
theorem dX6_begins_183 : decode cX6_begins 183 = .ok (.iload_n 2, 1) := by decide +kernel
theorem dX6_begins_184 : decode cX6_begins 184 = .ok (.iload 9, 2) := by decide +kernel
theorem dX6_begins_186 : decode cX6_begins 186 = .ok (.aload_n 0, 1) := by decide +kernel
theorem dX6_begins_187 : decode cX6_begins 187 = .ok (.getfield 25, 3) := by decide +kernel
theorem dX6_begins_190 : decode cX6_begins 190 = .ok (.iload 7, 2) := by decide +kernel
theorem dX6_begins_192 : decode cX6_begins 192 = .ok (.iaload, 1) := by decide +kernel
theorem dX6_begins_193 : decode cX6_begins 193 = .ok (.iload 8, 2) := by decide +kernel
theorem dX6_begins_195 : decode cX6_begins 195 = .ok (.iload 10, 2) := by decide +kernel
theorem dX6_begins_197 : decode cX6_begins 197 = .ok (.invokevirtual 146, 3) := by decide +kernel
theorem dX6_begins_200 : decode cX6_begins 200 = .ok (.ifCond .eq 90, 3) := by decide +kernel
theorem dX6_begins_203 : decode cX6_begins 203 = .ok (.aload_n 0, 1) := by decide +kernel
theorem dX6_begins_204 : decode cX6_begins 204 = .ok (.getfield 22, 3) := by decide +kernel
theorem dX6_begins_207 : decode cX6_begins 207 = .ok (.iload 6, 2) := by decide +kernel
theorem dX6_begins_209 : decode cX6_begins 209 = .ok (.iload 9, 2) := by decide +kernel
theorem dX6_begins_211 : decode cX6_begins 211 = .ok (.iastore, 1) := by decide +kernel
theorem dX6_begins_212 : decode cX6_begins 212 = .ok (.aload_n 0, 1) := by decide +kernel
theorem dX6_begins_213 : decode cX6_begins 213 = .ok (.getfield 25, 3) := by decide +kernel
theorem dX6_begins_216 : decode cX6_begins 216 = .ok (.iload 6, 2) := by decide +kernel
theorem dX6_begins_218 : decode cX6_begins 218 = .ok (.iload 8, 2) := by decide +kernel
theorem dX6_begins_220 : decode cX6_begins 220 = .ok (.iastore, 1) := by decide +kernel
theorem dX6_begins_221 : decode cX6_begins 221 = .ok (.aload_n 0, 1) := by decide +kernel
theorem dX6_begins_222 : decode cX6_begins 222 = .ok (.getfield 28, 3) := by decide +kernel
theorem dX6_begins_225 : decode cX6_begins 225 = .ok (.iload 6, 2) := by decide +kernel
theorem dX6_begins_227 : decode cX6_begins 227 = .ok (.iconst 0, 1) := by decide +kernel
theorem dX6_begins_228 : decode cX6_begins 228 = .ok (.iastore, 1) := by decide +kernel
theorem dX6_begins_229 : decode cX6_begins 229 = .ok (.aload_n 0, 1) := by decide +kernel
theorem dX6_begins_230 : decode cX6_begins 230 = .ok (.getfield 31, 3) := by decide +kernel
theorem dX6_begins_233 : decode cX6_begins 233 = .ok (.iload 6, 2) := by decide +kernel
theorem dX6_begins_235 : decode cX6_begins 235 = .ok (.aload_n 0, 1) := by decide +kernel
theorem dX6_begins_236 : decode cX6_begins 236 = .ok (.getfield 31, 3) := by decide +kernel
theorem dX6_begins_239 : decode cX6_begins 239 = .ok (.iload 7, 2) := by decide +kernel
theorem dX6_begins_241 : decode cX6_begins 241 = .ok (.iaload, 1) := by decide +kernel
theorem dX6_begins_242 : decode cX6_begins 242 = .ok (.aload_n 0, 1) := by decide +kernel
theorem dX6_begins_243 : decode cX6_begins 243 = .ok (.getfield 25, 3) := by decide +kernel
theorem dX6_begins_246 : decode cX6_begins 246 = .ok (.iload 7, 2) := by decide +kernel
theorem dX6_begins_248 : decode cX6_begins 248 = .ok (.iaload, 1) := by decide +kernel
theorem dX6_begins_249 : decode cX6_begins 249 = .ok (.ifCond .lt 19, 3) := by decide +kernel
theorem dX6_begins_252 : decode cX6_begins 252 = .ok (.aload_n 0, 1) := by decide +kernel
theorem dX6_begins_253 : decode cX6_begins 253 = .ok (.getfield 25, 3) := by decide +kernel
theorem dX6_begins_256 : decode cX6_begins 256 = .ok (.iload 7, 2) := by decide +kernel
theorem dX6_begins_258 : decode cX6_begins 258 = .ok (.iaload, 1) := by decide +kernel
theorem dX6_begins_259 : decode cX6_begins 259 = .ok (.iload 8, 2) := by decide +kernel
theorem dX6_begins_261 : decode cX6_begins 261 = .ok (.if_icmp .eq 7, 3) := by decide +kernel
theorem dX6_begins_264 : decode cX6_begins 264 = .ok (.iconst 1, 1) := by decide +kernel
theorem dX6_begins_265 : decode cX6_begins 265 = .ok (.goto 4, 3) := by decide +kernel
theorem dX6_begins_268 : decode cX6_begins 268 = .ok (.iconst 0, 1) := by decide +kernel
theorem dX6_begins_269 : decode cX6_begins 269 = .ok (.iadd, 1) := by decide +kernel
theorem dX6_begins_270 : decode cX6_begins 270 = .ok (.iastore, 1) := by decide +kernel
theorem dX6_begins_271 : decode cX6_begins 271 = .ok (.iload 5, 2) := by decide +kernel
theorem dX6_begins_273 : decode cX6_begins 273 = .ok (.iconst 1, 1) := by decide +kernel
theorem dX6_begins_274 : decode cX6_begins 274 = .ok (.iload 9, 2) := by decide +kernel
theorem dX6_begins_276 : decode cX6_begins 276 = .ok (.ishl, 1) := by decide +kernel
theorem dX6_begins_277 : decode cX6_begins 277 = .ok (.ior, 1) := by decide +kernel
theorem dX6_begins_278 : decode cX6_begins 278 = .ok (.istore 5, 2) := by decide +kernel
theorem dX6_begins_280 : decode cX6_begins 280 = .ok (.iinc 6 1, 3) := by decide +kernel
theorem dX6_begins_283 : decode cX6_begins 283 = .ok (.aload_n 0, 1) := by decide +kernel
theorem dX6_begins_284 : decode cX6_begins 284 = .ok (.iload_n 2, 1) := by decide +kernel
theorem dX6_begins_285 : decode cX6_begins 285 = .ok (.iload 6, 2) := by decide +kernel
theorem dX6_begins_287 : decode cX6_begins 287 = .ok (.invokevirtual 166, 3) := by decide +kernel
theorem dX6_begins_290 : decode cX6_begins 290 = .ok (.goto (-241), 3) := by decide +kernel
theorem dX6_begins_293 : decode cX6_begins 293 = .ok (.return_, 1) := by decide +kernel
set_option maxRecDepth 20000 in
theorem ggX6_isGate_X6_its : GoodIn wsX6_isGate wsX6_its := goodIn_r _ [5, 6, 15, 16, 17, 18, 19, 20, 21, 22, 23, 24, 25, 26, 27, 28, 29, 30, 31, 32, 33, 34, 35, 36, 37, 38, 39, 40, 41, 42, 43, 44, 45, 46, 47] (by decide +kernel) (by decide +kernel)
set_option maxRecDepth 20000 in
theorem gX6_isGate_X6_its : GoodIn wsX6_isGate (wsV RX6 74 RX6 yX6_its wsX6_its) := goodIn_app (goodIn_of _ (by decide +kernel)) ggX6_isGate_X6_its
set_option maxRecDepth 20000 in
theorem ggX6_isGate_X6_earth : GoodIn wsX6_isGate wsX6_earth := goodIn_r _ [10, 11, 1, 2, 3, 4, 5, 6, 15, 16, 17, 18, 19, 20, 21, 22, 23, 24, 25, 26, 27, 28, 29, 30, 31, 32, 33, 34, 35, 36, 37, 38, 39, 40, 41, 42, 43, 44, 45, 46, 47] (by decide +kernel) (by decide +kernel)
set_option maxRecDepth 20000 in
theorem gX6_isGate_X6_earth : GoodIn wsX6_isGate (wsV RX6 87 RX6 yX6_earth wsX6_earth) := goodIn_app (goodIn_of _ (by decide +kernel)) ggX6_isGate_X6_earth
set_option maxRecDepth 20000 in
theorem ggX6_isGate_X6_has : GoodIn wsX6_isGate wsX6_has := goodIn_r _ [14] (by decide +kernel) (by decide +kernel)
set_option maxRecDepth 20000 in
theorem gX6_isGate_X6_has : GoodIn wsX6_isGate (va_wsS RX6 90 yX6_has wsX6_has) := goodIn_app (goodIn_of _ (by decide +kernel)) ggX6_isGate_X6_has
theorem dX6_isGate_0 : decode cX6_isGate 0 = .ok (.aload_n 0, 1) := by decide +kernel
theorem dX6_isGate_1 : decode cX6_isGate 1 = .ok (.iload_n 1, 1) := by decide +kernel
theorem dX6_isGate_2 : decode cX6_isGate 2 = .ok (.iload_n 2, 1) := by decide +kernel
theorem dX6_isGate_3 : decode cX6_isGate 3 = .ok (.invokevirtual 74, 3) := by decide +kernel
theorem dX6_isGate_6 : decode cX6_isGate 6 = .ok (.ifCond .lt 20, 3) := by decide +kernel
theorem dX6_isGate_9 : decode cX6_isGate 9 = .ok (.aload_n 0, 1) := by decide +kernel
theorem dX6_isGate_10 : decode cX6_isGate 10 = .ok (.iload_n 1, 1) := by decide +kernel
theorem dX6_isGate_11 : decode cX6_isGate 11 = .ok (.invokevirtual 87, 3) := by decide +kernel
theorem dX6_isGate_14 : decode cX6_isGate 14 = .ok (.aload_n 0, 1) := by decide +kernel
theorem dX6_isGate_15 : decode cX6_isGate 15 = .ok (.iload_n 1, 1) := by decide +kernel
theorem dX6_isGate_16 : decode cX6_isGate 16 = .ok (.iload_n 2, 1) := by decide +kernel
theorem dX6_isGate_17 : decode cX6_isGate 17 = .ok (.invokevirtual 74, 3) := by decide +kernel
theorem dX6_isGate_20 : decode cX6_isGate 20 = .ok (.invokestatic 90, 3) := by decide +kernel
theorem dX6_isGate_23 : decode cX6_isGate 23 = .ok (.ifCond .eq 7, 3) := by decide +kernel
theorem dX6_isGate_26 : decode cX6_isGate 26 = .ok (.iconst 1, 1) := by decide +kernel
theorem dX6_isGate_27 : decode cX6_isGate 27 = .ok (.goto 4, 3) := by decide +kernel
theorem dX6_isGate_30 : decode cX6_isGate 30 = .ok (.iconst 0, 1) := by decide +kernel
theorem dX6_isGate_31 : decode cX6_isGate 31 = .ok (.ireturn, 1) := by decide +kernel
set_option maxRecDepth 20000 in
theorem ggX6_furrows_X6_isGate : GoodIn wsX6_furrows wsX6_isGate := goodIn_r _ [9, 10, 11, 12, 8, 13, 14, 15, 16, 17, 18, 19, 20, 21, 22, 57, 58, 59, 60, 61, 62, 63, 64, 65, 66, 67, 68, 69, 70, 71, 72, 73, 74, 75, 76, 77, 78, 79, 80, 81, 82, 83, 84, 85, 86, 87, 88, 89] (by decide +kernel) (by decide +kernel)
set_option maxRecDepth 20000 in
theorem gX6_furrows_X6_isGate : GoodIn wsX6_furrows (wsV RX6 173 RX6 yX6_isGate wsX6_isGate) := goodIn_app (goodIn_of _ (by decide +kernel)) ggX6_furrows_X6_isGate
set_option maxRecDepth 20000 in
theorem ggX6_furrows_X6_earth : GoodIn wsX6_furrows wsX6_earth := goodIn_r _ [18, 19, 10, 11, 12, 8, 13, 14, 57, 58, 59, 60, 61, 62, 63, 64, 65, 66, 67, 68, 69, 70, 71, 72, 73, 74, 75, 76, 77, 78, 79, 80, 81, 82, 83, 84, 85, 86, 87, 88, 89] (by decide +kernel) (by decide +kernel)
set_option maxRecDepth 20000 in
theorem gX6_furrows_X6_earth : GoodIn wsX6_furrows (wsV RX6 87 RX6 yX6_earth wsX6_earth) := goodIn_app (goodIn_of _ (by decide +kernel)) ggX6_furrows_X6_earth
set_option maxRecDepth 20000 in
theorem ggX6_furrows_X6_has : GoodIn wsX6_furrows wsX6_has := goodIn_r _ [22] (by decide +kernel) (by decide +kernel)
set_option maxRecDepth 20000 in
theorem gX6_furrows_X6_has : GoodIn wsX6_furrows (va_wsS RX6 90 yX6_has wsX6_has) := goodIn_app (goodIn_of _ (by decide +kernel)) ggX6_furrows_X6_has
set_option maxRecDepth 20000 in
theorem ggX6_furrows_X6_its : GoodIn wsX6_furrows wsX6_its := goodIn_r _ [13, 14, 57, 58, 59, 60, 61, 62, 63, 64, 65, 66, 67, 68, 69, 70, 71, 72, 73, 74, 75, 76, 77, 78, 79, 80, 81, 82, 83, 84, 85, 86, 87, 88, 89] (by decide +kernel) (by decide +kernel)
set_option maxRecDepth 20000 in
theorem gX6_furrows_X6_its : GoodIn wsX6_furrows (wsV RX6 74 RX6 yX6_its wsX6_its) := goodIn_app (goodIn_of _ (by decide +kernel)) ggX6_furrows_X6_its
set_option maxRecDepth 20000 in
theorem ggX6_furrows_X6_begins : GoodIn wsX6_furrows wsX6_begins := goodIn_r _ [26, 27, 28, 29, 30, 15, 16, 17, 8, 18, 19, 10, 11, 12, 13, 14, 31, 32, 33, 34, 4, 1, 2, 3, 35, 36, 37, 38, 39, 40, 41, 42, 43, 44, 20, 21, 22, 45, 46, 47, 48, 49, 50, 51, 52, 53, 54, 55, 56, 57, 58, 59, 60, 61, 62, 63, 64, 65, 66, 67, 68, 69, 70, 71, 72, 73, 74, 75, 76, 77, 78, 79, 80, 81, 82, 83, 84, 85, 86, 87, 88, 89] (by decide +kernel) (by decide +kernel)
set_option maxRecDepth 20000 in
theorem gX6_furrows_X6_begins : GoodIn wsX6_furrows (wsV RX6 176 RX6 yX6_begins wsX6_begins) := goodIn_app (goodIn_of _ (by decide +kernel)) ggX6_furrows_X6_begins
theorem dX6_furrows_0 : decode cX6_furrows 0 = .ok (.aload_n 0, 1) := by decide +kernel
theorem dX6_furrows_1 : decode cX6_furrows 1 = .ok (.iconst 0, 1) := by decide +kernel
theorem dX6_furrows_2 : decode cX6_furrows 2 = .ok (.putfield 157, 3) := by decide +kernel
theorem dX6_furrows_5 : decode cX6_furrows 5 = .ok (.aload_n 0, 1) := by decide +kernel
theorem dX6_furrows_6 : decode cX6_furrows 6 = .ok (.iconst (-1), 1) := by decide +kernel
theorem dX6_furrows_7 : decode cX6_furrows 7 = .ok (.putfield 160, 3) := by decide +kernel
theorem dX6_furrows_10 : decode cX6_furrows 10 = .ok (.aload_n 0, 1) := by decide +kernel
theorem dX6_furrows_11 : decode cX6_furrows 11 = .ok (.iconst 0, 1) := by decide +kernel
theorem dX6_furrows_12 : decode cX6_furrows 12 = .ok (.putfield 163, 3) := by decide +kernel
theorem dX6_furrows_15 : decode cX6_furrows 15 = .ok (.aload_n 0, 1) := by decide +kernel
theorem dX6_furrows_16 : decode cX6_furrows 16 = .ok (.iconst 0, 1) := by decide +kernel
theorem dX6_furrows_17 : decode cX6_furrows 17 = .ok (.putfield 150, 3) := by decide +kernel
theorem dX6_furrows_20 : decode cX6_furrows 20 = .ok (.aload_n 0, 1) := by decide +kernel
theorem dX6_furrows_21 : decode cX6_furrows 21 = .ok (.iload_n 2, 1) := by decide +kernel
theorem dX6_furrows_22 : decode cX6_furrows 22 = .ok (.iconst 2, 1) := by decide +kernel
theorem dX6_furrows_23 : decode cX6_furrows 23 = .ok (.invokevirtual 173, 3) := by decide +kernel
theorem dX6_furrows_26 : decode cX6_furrows 26 = .ok (.ifCond .eq 64, 3) := by decide +kernel
theorem dX6_furrows_29 : decode cX6_furrows 29 = .ok (.aload_n 0, 1) := by decide +kernel
theorem dX6_furrows_30 : decode cX6_furrows 30 = .ok (.iload_n 2, 1) := by decide +kernel
theorem dX6_furrows_31 : decode cX6_furrows 31 = .ok (.iconst 3, 1) := by decide +kernel
theorem dX6_furrows_32 : decode cX6_furrows 32 = .ok (.invokevirtual 173, 3) := by decide +kernel
theorem dX6_furrows_35 : decode cX6_furrows 35 = .ok (.ifCond .eq 55, 3) := by decide +kernel
theorem dX6_furrows_38 : decode cX6_furrows 38 = .ok (.iconst 0, 1) := by decide +kernel
theorem dX6_furrows_39 : decode cX6_furrows 39 = .ok (.istore_n 3, 1) := by decide +kernel
theorem dX6_furrows_40 : decode cX6_furrows 40 = .ok (.iload_n 3, 1) := by decide +kernel
theorem dX6_furrows_41 : decode cX6_furrows 41 = .ok (.bipush 16, 2) := by decide +kernel
theorem dX6_furrows_43 : decode cX6_furrows 43 = .ok (.if_icmp .ge 47, 3) := by decide +kernel
theorem dX6_furrows_46 : decode cX6_furrows 46 = .ok (.aload_n 0, 1) := by decide +kernel
theorem dX6_furrows_47 : decode cX6_furrows 47 = .ok (.iload_n 2, 1) := by decide +kernel
theorem dX6_furrows_48 : decode cX6_furrows 48 = .ok (.invokevirtual 87, 3) := by decide +kernel
theorem dX6_furrows_51 : decode cX6_furrows 51 = .ok (.iload_n 3, 1) := by decide +kernel
theorem dX6_furrows_52 : decode cX6_furrows 52 = .ok (.invokestatic 90, 3) := by decide +kernel
theorem dX6_furrows_55 : decode cX6_furrows 55 = .ok (.ifCond .eq 29, 3) := by decide +kernel
theorem dX6_furrows_58 : decode cX6_furrows 58 = .ok (.aload_n 0, 1) := by decide +kernel
theorem dX6_furrows_59 : decode cX6_furrows 59 = .ok (.iload_n 2, 1) := by decide +kernel
theorem dX6_furrows_60 : decode cX6_furrows 60 = .ok (.iconst 2, 1) := by decide +kernel
theorem dX6_furrows_61 : decode cX6_furrows 61 = .ok (.invokevirtual 74, 3) := by decide +kernel
theorem dX6_furrows_64 : decode cX6_furrows 64 = .ok (.ifCond .lt 13, 3) := by decide +kernel
theorem dX6_furrows_67 : decode cX6_furrows 67 = .ok (.aload_n 0, 1) := by decide +kernel
theorem dX6_furrows_68 : decode cX6_furrows 68 = .ok (.iload_n 2, 1) := by decide +kernel
theorem dX6_furrows_69 : decode cX6_furrows 69 = .ok (.iconst 2, 1) := by decide +kernel
theorem dX6_furrows_70 : decode cX6_furrows 70 = .ok (.invokevirtual 74, 3) := by decide +kernel
theorem dX6_furrows_73 : decode cX6_furrows 73 = .ok (.iload_n 3, 1) := by decide +kernel
theorem dX6_furrows_74 : decode cX6_furrows 74 = .ok (.if_icmp .ne 10, 3) := by decide +kernel
theorem dX6_furrows_77 : decode cX6_furrows 77 = .ok (.aload_n 0, 1) := by decide +kernel
theorem dX6_furrows_78 : decode cX6_furrows 78 = .ok (.iload_n 1, 1) := by decide +kernel
theorem dX6_furrows_79 : decode cX6_furrows 79 = .ok (.iload_n 2, 1) := by decide +kernel
theorem dX6_furrows_80 : decode cX6_furrows 80 = .ok (.iload_n 3, 1) := by decide +kernel
theorem dX6_furrows_81 : decode cX6_furrows 81 = .ok (.invokevirtual 176, 3) := by decide +kernel
theorem dX6_furrows_84 : decode cX6_furrows 84 = .ok (.iinc 3 1, 3) := by decide +kernel
theorem dX6_furrows_87 : decode cX6_furrows 87 = .ok (.goto (-47), 3) := by decide +kernel
theorem dX6_furrows_90 : decode cX6_furrows 90 = .ok (.return_, 1) := by decide +kernel
set_option maxRecDepth 20000 in
theorem ggX6_costOf_X6_furrows : GoodIn wsX6_costOf wsX6_furrows := goodIn_r _ [7, 8, 1, 2, 9, 10, 11, 12, 6, 13, 14, 15, 16, 17, 18, 19, 20, 21, 22, 23, 24, 25, 26, 27, 28, 29, 30, 31, 32, 33, 34, 35, 36, 37, 38, 39, 40, 41, 42, 43, 44, 45, 46, 47, 48, 49, 50, 51, 52, 53, 54, 55, 56, 57, 58, 59, 60, 69, 70, 71, 72, 73, 74, 75, 76, 77, 78, 79, 80, 81, 82, 83, 84, 85, 86, 87, 88, 89, 90, 91, 92, 93, 94, 95, 96, 97, 98, 99, 100, 101] (by decide +kernel) (by decide +kernel)
set_option maxRecDepth 20000 in
theorem gX6_costOf_X6_furrows : GoodIn wsX6_costOf (wsV RX6 180 RX6 yX6_furrows wsX6_furrows) := goodIn_app (goodIn_of _ (by decide +kernel)) ggX6_costOf_X6_furrows
set_option maxRecDepth 20000 in
theorem ggX6_costOf_X6_paceOf : GoodIn wsX6_costOf wsX6_paceOf := goodIn_r _ [64, 18, 69, 70, 71, 72, 73, 74, 75, 76, 77, 78, 79, 80, 81, 82, 83, 84, 85, 86, 87, 88, 89, 90, 91, 92, 93, 94, 95, 96, 97, 98, 99, 100, 101] (by decide +kernel) (by decide +kernel)
set_option maxRecDepth 20000 in
theorem gX6_costOf_X6_paceOf : GoodIn wsX6_costOf (wsV RX6 127 RX6 yX6_paceOf wsX6_paceOf) := goodIn_app (goodIn_of _ (by decide +kernel)) ggX6_costOf_X6_paceOf
set_option maxRecDepth 20000 in
theorem ggX6_costOf_X6_dear : GoodIn wsX6_costOf wsX6_dear := goodIn_r _ [68, 53, 54, 55, 6, 56, 18, 69, 70, 71, 72, 73, 74, 75, 76, 77, 78, 79, 80, 81, 82, 83, 84, 85, 86, 87, 88, 89, 90, 91, 92, 93, 94, 95, 96, 97, 98, 99, 100, 101] (by decide +kernel) (by decide +kernel)
set_option maxRecDepth 20000 in
theorem gX6_costOf_X6_dear : GoodIn wsX6_costOf (wsV RX6 130 RX6 yX6_dear wsX6_dear) := goodIn_app (goodIn_of _ (by decide +kernel)) ggX6_costOf_X6_dear
theorem dX6_costOf_0 : decode cX6_costOf 0 = .ok (.aload_n 0, 1) := by decide +kernel
theorem dX6_costOf_1 : decode cX6_costOf 1 = .ok (.iload_n 1, 1) := by decide +kernel
theorem dX6_costOf_2 : decode cX6_costOf 2 = .ok (.iload_n 2, 1) := by decide +kernel
theorem dX6_costOf_3 : decode cX6_costOf 3 = .ok (.invokevirtual 180, 3) := by decide +kernel
theorem dX6_costOf_6 : decode cX6_costOf 6 = .ok (.aload_n 0, 1) := by decide +kernel
theorem dX6_costOf_7 : decode cX6_costOf 7 = .ok (.getfield 160, 3) := by decide +kernel
theorem dX6_costOf_10 : decode cX6_costOf 10 = .ok (.ifCond .ge 7, 3) := by decide +kernel
theorem dX6_costOf_13 : decode cX6_costOf 13 = .ok (.iconst (-1), 1) := by decide +kernel
theorem dX6_costOf_14 : decode cX6_costOf 14 = .ok (.goto 24, 3) := by decide +kernel
theorem dX6_costOf_17 : decode cX6_costOf 17 = .ok (.aload_n 0, 1) := by decide +kernel
theorem dX6_costOf_18 : decode cX6_costOf 18 = .ok (.iload_n 1, 1) := by decide +kernel
theorem dX6_costOf_19 : decode cX6_costOf 19 = .ok (.invokevirtual 127, 3) := by decide +kernel
theorem dX6_costOf_22 : decode cX6_costOf 22 = .ok (.aload_n 0, 1) := by decide +kernel
theorem dX6_costOf_23 : decode cX6_costOf 23 = .ok (.getfield 163, 3) := by decide +kernel
theorem dX6_costOf_26 : decode cX6_costOf 26 = .ok (.imul, 1) := by decide +kernel
theorem dX6_costOf_27 : decode cX6_costOf 27 = .ok (.aload_n 0, 1) := by decide +kernel
theorem dX6_costOf_28 : decode cX6_costOf 28 = .ok (.iload_n 1, 1) := by decide +kernel
theorem dX6_costOf_29 : decode cX6_costOf 29 = .ok (.invokevirtual 130, 3) := by decide +kernel
theorem dX6_costOf_32 : decode cX6_costOf 32 = .ok (.aload_n 0, 1) := by decide +kernel
theorem dX6_costOf_33 : decode cX6_costOf 33 = .ok (.getfield 160, 3) := by decide +kernel
theorem dX6_costOf_36 : decode cX6_costOf 36 = .ok (.imul, 1) := by decide +kernel
theorem dX6_costOf_37 : decode cX6_costOf 37 = .ok (.iadd, 1) := by decide +kernel
theorem dX6_costOf_38 : decode cX6_costOf 38 = .ok (.ireturn, 1) := by decide +kernel
set_option maxRecDepth 20000 in
theorem ggX6_best_X6_isTeam : GoodIn wsX6_best wsX6_isTeam := goodIn_r _ [12, 13, 14, 15, 11, 16, 93, 94, 95, 96, 97, 98, 99, 100, 101, 102, 103, 104, 105, 106, 107, 108, 109, 110, 111, 112, 113, 114, 115, 116, 117, 118, 119, 120, 121, 122, 123, 124, 125] (by decide +kernel) (by decide +kernel)
set_option maxRecDepth 20000 in
theorem gX6_best_X6_isTeam : GoodIn wsX6_best (wsV RX6 122 RX6 yX6_isTeam wsX6_isTeam) := goodIn_app (goodIn_of _ (by decide +kernel)) ggX6_best_X6_isTeam
set_option maxRecDepth 20000 in
theorem ggX6_best_X6_isField : GoodIn wsX6_best wsX6_isField := goodIn_r _ [20, 13, 14, 15, 11, 16, 93, 94, 95, 96, 97, 98, 99, 100, 101, 102, 103, 104, 105, 106, 107, 108, 109, 110, 111, 112, 113, 114, 115, 116, 117, 118, 119, 120, 121, 122, 123, 124, 125] (by decide +kernel) (by decide +kernel)
set_option maxRecDepth 20000 in
theorem gX6_best_X6_isField : GoodIn wsX6_best (wsV RX6 98 RX6 yX6_isField wsX6_isField) := goodIn_app (goodIn_of _ (by decide +kernel)) ggX6_best_X6_isField
set_option maxRecDepth 20000 in
theorem ggX6_best_X6_in : GoodIn wsX6_best wsX6_in := goodIn_r _ [16] (by decide +kernel) (by decide +kernel)
set_option maxRecDepth 20000 in
theorem gX6_best_X6_in : GoodIn wsX6_best (va_wsS RX6 69 yX6_in wsX6_in) := goodIn_app (goodIn_of _ (by decide +kernel)) ggX6_best_X6_in
set_option maxRecDepth 20000 in
theorem ggX6_best_X6_finds : GoodIn wsX6_best wsX6_finds := goodIn_r _ [24, 25, 3, 93, 94, 95, 96, 97, 98, 99, 100, 101, 102, 103, 104, 105, 106, 107, 108, 109, 110, 111, 112, 113, 114, 115, 116, 117, 118, 119, 120, 121, 122, 123, 124, 125] (by decide +kernel) (by decide +kernel)
set_option maxRecDepth 20000 in
theorem gX6_best_X6_finds : GoodIn wsX6_best (wsV RX6 79 RX6 yX6_finds wsX6_finds) := goodIn_app (goodIn_of _ (by decide +kernel)) ggX6_best_X6_finds
set_option maxRecDepth 20000 in
theorem ggX6_best_X6_costOf : GoodIn wsX6_best wsX6_costOf := goodIn_r _ [29, 6, 4, 30, 31, 32, 11, 33, 34, 35, 36, 37, 38, 39, 40, 41, 42, 43, 13, 44, 45, 46, 47, 48, 49, 50, 51, 52, 53, 54, 55, 56, 57, 58, 59, 60, 61, 62, 63, 7, 64, 65, 66, 67, 68, 69, 70, 71, 72, 73, 74, 75, 76, 77, 78, 79, 80, 81, 82, 83, 84, 85, 86, 87, 88, 89, 90, 91, 92, 93, 94, 95, 96, 97, 98, 99, 100, 101, 102, 103, 104, 105, 106, 107, 108, 109, 110, 111, 112, 113, 114, 115, 116, 117, 118, 119, 120, 121, 122, 123, 124, 125] (by decide +kernel) (by decide +kernel)
set_option maxRecDepth 20000 in
theorem gX6_best_X6_costOf : GoodIn wsX6_best (wsV RX6 185 RX6 yX6_costOf wsX6_costOf) := goodIn_app (goodIn_of _ (by decide +kernel)) ggX6_best_X6_costOf
theorem dX6_best_0 : decode cX6_best 0 = .ok (.aload_n 0, 1) := by decide +kernel
theorem dX6_best_1 : decode cX6_best 1 = .ok (.iload_n 1, 1) := by decide +kernel
theorem dX6_best_2 : decode cX6_best 2 = .ok (.invokevirtual 122, 3) := by decide +kernel
theorem dX6_best_5 : decode cX6_best 5 = .ok (.ifCond .eq 25, 3) := by decide +kernel
theorem dX6_best_8 : decode cX6_best 8 = .ok (.aload_n 0, 1) := by decide +kernel
theorem dX6_best_9 : decode cX6_best 9 = .ok (.iload_n 2, 1) := by decide +kernel
theorem dX6_best_10 : decode cX6_best 10 = .ok (.invokevirtual 98, 3) := by decide +kernel
theorem dX6_best_13 : decode cX6_best 13 = .ok (.ifCond .eq 17, 3) := by decide +kernel
theorem dX6_best_16 : decode cX6_best 16 = .ok (.iload_n 3, 1) := by decide +kernel
theorem dX6_best_17 : decode cX6_best 17 = .ok (.i2l, 1) := by decide +kernel
theorem dX6_best_18 : decode cX6_best 18 = .ok (.ldc2_w 183, 3) := by decide +kernel
theorem dX6_best_21 : decode cX6_best 21 = .ok (.ldc2_w 140, 3) := by decide +kernel
theorem dX6_best_24 : decode cX6_best 24 = .ok (.invokestatic 69, 3) := by decide +kernel
theorem dX6_best_27 : decode cX6_best 27 = .ok (.ifCond .ne 10, 3) := by decide +kernel
theorem dX6_best_30 : decode cX6_best 30 = .ok (.aload_n 0, 1) := by decide +kernel
theorem dX6_best_31 : decode cX6_best 31 = .ok (.ldc 68, 2) := by decide +kernel
theorem dX6_best_33 : decode cX6_best 33 = .ok (.invokevirtual 79, 3) := by decide +kernel
theorem dX6_best_36 : decode cX6_best 36 = .ok (.ireturn, 1) := by decide +kernel
theorem dX6_best_37 : decode cX6_best 37 = .ok (.aload_n 0, 1) := by decide +kernel
theorem dX6_best_38 : decode cX6_best 38 = .ok (.iload_n 1, 1) := by decide +kernel
theorem dX6_best_39 : decode cX6_best 39 = .ok (.iload_n 2, 1) := by decide +kernel
theorem dX6_best_40 : decode cX6_best 40 = .ok (.invokevirtual 185, 3) := by decide +kernel
theorem dX6_best_43 : decode cX6_best 43 = .ok (.istore 4, 2) := by decide +kernel
theorem dX6_best_45 : decode cX6_best 45 = .ok (.iload 4, 2) := by decide +kernel
theorem dX6_best_47 : decode cX6_best 47 = .ok (.ifCond .lt 11, 3) := by decide +kernel
theorem dX6_best_50 : decode cX6_best 50 = .ok (.iload_n 3, 1) := by decide +kernel
theorem dX6_best_51 : decode cX6_best 51 = .ok (.aload_n 0, 1) := by decide +kernel
theorem dX6_best_52 : decode cX6_best 52 = .ok (.getfield 163, 3) := by decide +kernel
theorem dX6_best_55 : decode cX6_best 55 = .ok (.if_icmp .lt 10, 3) := by decide +kernel
theorem dX6_best_58 : decode cX6_best 58 = .ok (.aload_n 0, 1) := by decide +kernel
theorem dX6_best_59 : decode cX6_best 59 = .ok (.ldc 188, 2) := by decide +kernel
theorem dX6_best_61 : decode cX6_best 61 = .ok (.invokevirtual 79, 3) := by decide +kernel
theorem dX6_best_64 : decode cX6_best 64 = .ok (.ireturn, 1) := by decide +kernel
theorem dX6_best_65 : decode cX6_best 65 = .ok (.iload_n 3, 1) := by decide +kernel
theorem dX6_best_66 : decode cX6_best 66 = .ok (.iconst (-1), 1) := by decide +kernel
theorem dX6_best_67 : decode cX6_best 67 = .ok (.if_icmp .ne 8, 3) := by decide +kernel
theorem dX6_best_70 : decode cX6_best 70 = .ok (.iload 4, 2) := by decide +kernel
theorem dX6_best_72 : decode cX6_best 72 = .ok (.goto 22, 3) := by decide +kernel
theorem dX6_best_75 : decode cX6_best 75 = .ok (.iload_n 3, 1) := by decide +kernel
theorem dX6_best_76 : decode cX6_best 76 = .ok (.bipush (-2), 2) := by decide +kernel
theorem dX6_best_78 : decode cX6_best 78 = .ok (.if_icmp .ne 10, 3) := by decide +kernel
theorem dX6_best_81 : decode cX6_best 81 = .ok (.aload_n 0, 1) := by decide +kernel
theorem dX6_best_82 : decode cX6_best 82 = .ok (.getfield 160, 3) := by decide +kernel
theorem dX6_best_85 : decode cX6_best 85 = .ok (.goto 9, 3) := by decide +kernel
theorem dX6_best_88 : decode cX6_best 88 = .ok (.aload_n 0, 1) := by decide +kernel
theorem dX6_best_89 : decode cX6_best 89 = .ok (.getfield 34, 3) := by decide +kernel
theorem dX6_best_92 : decode cX6_best 92 = .ok (.iload_n 3, 1) := by decide +kernel
theorem dX6_best_93 : decode cX6_best 93 = .ok (.iaload, 1) := by decide +kernel
theorem dX6_best_94 : decode cX6_best 94 = .ok (.ireturn, 1) := by decide +kernel
set_option maxRecDepth 20000 in
theorem ggX6_many_X6_isTeam : GoodIn wsX6_many wsX6_isTeam := goodIn_r _ [7, 8, 9, 10, 6, 11, 78, 79, 80, 81, 82, 83, 84, 85, 86, 87, 88, 89, 90, 91, 92, 93, 94, 95, 96, 97, 98, 99, 100, 101, 102, 103, 104, 105, 106, 107, 108, 109, 110] (by decide +kernel) (by decide +kernel)
set_option maxRecDepth 20000 in
theorem gX6_many_X6_isTeam : GoodIn wsX6_many (wsV RX6 122 RX6 yX6_isTeam wsX6_isTeam) := goodIn_app (goodIn_of _ (by decide +kernel)) ggX6_many_X6_isTeam
set_option maxRecDepth 20000 in
theorem ggX6_many_X6_isField : GoodIn wsX6_many wsX6_isField := goodIn_r _ [15, 8, 9, 10, 6, 11, 78, 79, 80, 81, 82, 83, 84, 85, 86, 87, 88, 89, 90, 91, 92, 93, 94, 95, 96, 97, 98, 99, 100, 101, 102, 103, 104, 105, 106, 107, 108, 109, 110] (by decide +kernel) (by decide +kernel)
set_option maxRecDepth 20000 in
theorem gX6_many_X6_isField : GoodIn wsX6_many (wsV RX6 98 RX6 yX6_isField wsX6_isField) := goodIn_app (goodIn_of _ (by decide +kernel)) ggX6_many_X6_isField
set_option maxRecDepth 20000 in
theorem ggX6_many_X6_finds : GoodIn wsX6_many wsX6_finds := goodIn_r _ [19, 20, 1, 78, 79, 80, 81, 82, 83, 84, 85, 86, 87, 88, 89, 90, 91, 92, 93, 94, 95, 96, 97, 98, 99, 100, 101, 102, 103, 104, 105, 106, 107, 108, 109, 110] (by decide +kernel) (by decide +kernel)
set_option maxRecDepth 20000 in
theorem gX6_many_X6_finds : GoodIn wsX6_many (wsV RX6 79 RX6 yX6_finds wsX6_finds) := goodIn_app (goodIn_of _ (by decide +kernel)) ggX6_many_X6_finds
set_option maxRecDepth 20000 in
theorem ggX6_many_X6_furrows : GoodIn wsX6_many wsX6_furrows := goodIn_r _ [24, 2, 25, 26, 27, 28, 29, 30, 6, 31, 32, 33, 34, 35, 8, 36, 37, 38, 39, 40, 41, 42, 43, 44, 45, 46, 47, 48, 49, 50, 51, 52, 53, 54, 55, 56, 57, 58, 59, 60, 61, 62, 63, 64, 65, 66, 67, 68, 69, 70, 71, 72, 73, 74, 75, 76, 77, 78, 79, 80, 81, 82, 83, 84, 85, 86, 87, 88, 89, 90, 91, 92, 93, 94, 95, 96, 97, 98, 99, 100, 101, 102, 103, 104, 105, 106, 107, 108, 109, 110] (by decide +kernel) (by decide +kernel)
set_option maxRecDepth 20000 in
theorem gX6_many_X6_furrows : GoodIn wsX6_many (wsV RX6 180 RX6 yX6_furrows wsX6_furrows) := goodIn_app (goodIn_of _ (by decide +kernel)) ggX6_many_X6_furrows
theorem dX6_many_0 : decode cX6_many 0 = .ok (.aload_n 0, 1) := by decide +kernel
theorem dX6_many_1 : decode cX6_many 1 = .ok (.iload_n 1, 1) := by decide +kernel
theorem dX6_many_2 : decode cX6_many 2 = .ok (.invokevirtual 122, 3) := by decide +kernel
theorem dX6_many_5 : decode cX6_many 5 = .ok (.ifCond .eq 11, 3) := by decide +kernel
theorem dX6_many_8 : decode cX6_many 8 = .ok (.aload_n 0, 1) := by decide +kernel
theorem dX6_many_9 : decode cX6_many 9 = .ok (.iload_n 2, 1) := by decide +kernel
theorem dX6_many_10 : decode cX6_many 10 = .ok (.invokevirtual 98, 3) := by decide +kernel
theorem dX6_many_13 : decode cX6_many 13 = .ok (.ifCond .ne 10, 3) := by decide +kernel
theorem dX6_many_16 : decode cX6_many 16 = .ok (.aload_n 0, 1) := by decide +kernel
theorem dX6_many_17 : decode cX6_many 17 = .ok (.ldc 68, 2) := by decide +kernel
theorem dX6_many_19 : decode cX6_many 19 = .ok (.invokevirtual 79, 3) := by decide +kernel
theorem dX6_many_22 : decode cX6_many 22 = .ok (.ireturn, 1) := by decide +kernel
theorem dX6_many_23 : decode cX6_many 23 = .ok (.aload_n 0, 1) := by decide +kernel
theorem dX6_many_24 : decode cX6_many 24 = .ok (.iload_n 1, 1) := by decide +kernel
theorem dX6_many_25 : decode cX6_many 25 = .ok (.iload_n 2, 1) := by decide +kernel
theorem dX6_many_26 : decode cX6_many 26 = .ok (.invokevirtual 180, 3) := by decide +kernel
theorem dX6_many_29 : decode cX6_many 29 = .ok (.aload_n 0, 1) := by decide +kernel
theorem dX6_many_30 : decode cX6_many 30 = .ok (.getfield 157, 3) := by decide +kernel
theorem dX6_many_33 : decode cX6_many 33 = .ok (.ireturn, 1) := by decide +kernel
set_option maxRecDepth 20000 in
theorem ggX6_isColour_X6_its : GoodIn wsX6_isColour wsX6_its := goodIn_r _ [5, 6, 10, 11, 12, 13, 14, 15, 16, 17, 18, 19, 20, 21, 22, 23, 24, 25, 26, 27, 28, 29, 30, 31, 32, 33, 34, 35, 36, 37, 38, 39, 40, 41, 42] (by decide +kernel) (by decide +kernel)
set_option maxRecDepth 20000 in
theorem gX6_isColour_X6_its : GoodIn wsX6_isColour (wsV RX6 74 RX6 yX6_its wsX6_its) := goodIn_app (goodIn_of _ (by decide +kernel)) ggX6_isColour_X6_its
set_option maxRecDepth 20000 in
theorem ggX6_isColour_X6_isEven : GoodIn wsX6_isColour wsX6_isEven := goodIn_r _ [9] (by decide +kernel) (by decide +kernel)
set_option maxRecDepth 20000 in
theorem gX6_isColour_X6_isEven : GoodIn wsX6_isColour (va_wsS RX6 94 yX6_isEven wsX6_isEven) := goodIn_app (goodIn_of _ (by decide +kernel)) ggX6_isColour_X6_isEven
theorem dX6_isColour_0 : decode cX6_isColour 0 = .ok (.aload_n 0, 1) := by decide +kernel
theorem dX6_isColour_1 : decode cX6_isColour 1 = .ok (.iload_n 1, 1) := by decide +kernel
theorem dX6_isColour_2 : decode cX6_isColour 2 = .ok (.iload_n 2, 1) := by decide +kernel
theorem dX6_isColour_3 : decode cX6_isColour 3 = .ok (.invokevirtual 74, 3) := by decide +kernel
theorem dX6_isColour_6 : decode cX6_isColour 6 = .ok (.ifCond .lt 16, 3) := by decide +kernel
theorem dX6_isColour_9 : decode cX6_isColour 9 = .ok (.aload_n 0, 1) := by decide +kernel
theorem dX6_isColour_10 : decode cX6_isColour 10 = .ok (.iload_n 1, 1) := by decide +kernel
theorem dX6_isColour_11 : decode cX6_isColour 11 = .ok (.iload_n 2, 1) := by decide +kernel
theorem dX6_isColour_12 : decode cX6_isColour 12 = .ok (.invokevirtual 74, 3) := by decide +kernel
theorem dX6_isColour_15 : decode cX6_isColour 15 = .ok (.invokestatic 94, 3) := by decide +kernel
theorem dX6_isColour_18 : decode cX6_isColour 18 = .ok (.iload_n 3, 1) := by decide +kernel
theorem dX6_isColour_19 : decode cX6_isColour 19 = .ok (.if_icmp .ne 7, 3) := by decide +kernel
theorem dX6_isColour_22 : decode cX6_isColour 22 = .ok (.iconst 1, 1) := by decide +kernel
theorem dX6_isColour_23 : decode cX6_isColour 23 = .ok (.goto 4, 3) := by decide +kernel
theorem dX6_isColour_26 : decode cX6_isColour 26 = .ok (.iconst 0, 1) := by decide +kernel
theorem dX6_isColour_27 : decode cX6_isColour 27 = .ok (.ireturn, 1) := by decide +kernel
set_option maxRecDepth 20000 in
theorem ggX6_barred_X6_isField : GoodIn wsX6_barred wsX6_isField := goodIn_r _ [6, 7, 8, 9, 5, 10, 39, 40, 41, 42, 43, 44, 45, 46, 47, 48, 49, 50, 51, 52, 53, 54, 55, 56, 57, 58, 59, 60, 61, 62, 63, 64, 65, 66, 67, 68, 69, 70, 71] (by decide +kernel) (by decide +kernel)
set_option maxRecDepth 20000 in
theorem gX6_barred_X6_isField : GoodIn wsX6_barred (wsV RX6 98 RX6 yX6_isField wsX6_isField) := goodIn_app (goodIn_of _ (by decide +kernel)) ggX6_barred_X6_isField
set_option maxRecDepth 20000 in
theorem ggX6_barred_X6_finds : GoodIn wsX6_barred wsX6_finds := goodIn_r _ [14, 15, 1, 39, 40, 41, 42, 43, 44, 45, 46, 47, 48, 49, 50, 51, 52, 53, 54, 55, 56, 57, 58, 59, 60, 61, 62, 63, 64, 65, 66, 67, 68, 69, 70, 71] (by decide +kernel) (by decide +kernel)
set_option maxRecDepth 20000 in
theorem gX6_barred_X6_finds : GoodIn wsX6_barred (wsV RX6 79 RX6 yX6_finds wsX6_finds) := goodIn_app (goodIn_of _ (by decide +kernel)) ggX6_barred_X6_finds
set_option maxRecDepth 20000 in
theorem ggX6_barred_X6_colours : GoodIn wsX6_barred wsX6_colours := goodIn_r _ [19, 20, 21, 22, 5, 23, 24, 25, 26, 27, 28, 7, 29, 30, 31, 32, 33, 34, 39, 40, 41, 42, 43, 44, 45, 46, 47, 48, 49, 50, 51, 52, 53, 54, 55, 56, 57, 58, 59, 60, 61, 62, 63, 64, 65, 66, 67, 68, 69, 70, 71] (by decide +kernel) (by decide +kernel)
set_option maxRecDepth 20000 in
theorem gX6_barred_X6_colours : GoodIn wsX6_barred (wsV RX6 103 RX6 yX6_colours wsX6_colours) := goodIn_app (goodIn_of _ (by decide +kernel)) ggX6_barred_X6_colours
set_option maxRecDepth 20000 in
theorem ggX6_barred_X6_earth : GoodIn wsX6_barred wsX6_earth := goodIn_r _ [23, 24, 25, 26, 27, 5, 28, 7, 39, 40, 41, 42, 43, 44, 45, 46, 47, 48, 49, 50, 51, 52, 53, 54, 55, 56, 57, 58, 59, 60, 61, 62, 63, 64, 65, 66, 67, 68, 69, 70, 71] (by decide +kernel) (by decide +kernel)
set_option maxRecDepth 20000 in
theorem gX6_barred_X6_earth : GoodIn wsX6_barred (wsV RX6 87 RX6 yX6_earth wsX6_earth) := goodIn_app (goodIn_of _ (by decide +kernel)) ggX6_barred_X6_earth
set_option maxRecDepth 20000 in
theorem ggX6_barred_X6_isColour : GoodIn wsX6_barred wsX6_isColour := goodIn_r _ [38, 25, 26, 27, 5, 28, 7, 32, 33, 34, 39, 40, 41, 42, 43, 44, 45, 46, 47, 48, 49, 50, 51, 52, 53, 54, 55, 56, 57, 58, 59, 60, 61, 62, 63, 64, 65, 66, 67, 68, 69, 70, 71] (by decide +kernel) (by decide +kernel)
set_option maxRecDepth 20000 in
theorem gX6_barred_X6_isColour : GoodIn wsX6_barred (wsV RX6 189 RX6 yX6_isColour wsX6_isColour) := goodIn_app (goodIn_of _ (by decide +kernel)) ggX6_barred_X6_isColour
set_option maxRecDepth 20000 in
theorem ggX6_barred_X6_its : GoodIn wsX6_barred wsX6_its := goodIn_r _ [28, 7, 39, 40, 41, 42, 43, 44, 45, 46, 47, 48, 49, 50, 51, 52, 53, 54, 55, 56, 57, 58, 59, 60, 61, 62, 63, 64, 65, 66, 67, 68, 69, 70, 71] (by decide +kernel) (by decide +kernel)
set_option maxRecDepth 20000 in
theorem gX6_barred_X6_its : GoodIn wsX6_barred (wsV RX6 74 RX6 yX6_its wsX6_its) := goodIn_app (goodIn_of _ (by decide +kernel)) ggX6_barred_X6_its
set_option maxRecDepth 20000 in
theorem ggX6_barred_X6_isEven : GoodIn wsX6_barred wsX6_isEven := goodIn_r _ [34] (by decide +kernel) (by decide +kernel)
set_option maxRecDepth 20000 in
theorem gX6_barred_X6_isEven : GoodIn wsX6_barred (va_wsS RX6 94 yX6_isEven wsX6_isEven) := goodIn_app (goodIn_of _ (by decide +kernel)) ggX6_barred_X6_isEven
theorem dX6_barred_0 : decode cX6_barred 0 = .ok (.aload_n 0, 1) := by decide +kernel
theorem dX6_barred_1 : decode cX6_barred 1 = .ok (.iload_n 1, 1) := by decide +kernel
theorem dX6_barred_2 : decode cX6_barred 2 = .ok (.invokevirtual 98, 3) := by decide +kernel
theorem dX6_barred_5 : decode cX6_barred 5 = .ok (.ifCond .ne 10, 3) := by decide +kernel
theorem dX6_barred_8 : decode cX6_barred 8 = .ok (.aload_n 0, 1) := by decide +kernel
theorem dX6_barred_9 : decode cX6_barred 9 = .ok (.ldc 68, 2) := by decide +kernel
theorem dX6_barred_11 : decode cX6_barred 11 = .ok (.invokevirtual 79, 3) := by decide +kernel
theorem dX6_barred_14 : decode cX6_barred 14 = .ok (.ireturn, 1) := by decide +kernel
theorem dX6_barred_15 : decode cX6_barred 15 = .ok (.aload_n 0, 1) := by decide +kernel
theorem dX6_barred_16 : decode cX6_barred 16 = .ok (.iload_n 1, 1) := by decide +kernel
theorem dX6_barred_17 : decode cX6_barred 17 = .ok (.invokevirtual 103, 3) := by decide +kernel
theorem dX6_barred_20 : decode cX6_barred 20 = .ok (.istore_n 2, 1) := by decide +kernel
theorem dX6_barred_21 : decode cX6_barred 21 = .ok (.iload_n 2, 1) := by decide +kernel
theorem dX6_barred_22 : decode cX6_barred 22 = .ok (.iconst 1, 1) := by decide +kernel
theorem dX6_barred_23 : decode cX6_barred 23 = .ok (.if_icmp .gt 8, 3) := by decide +kernel
theorem dX6_barred_26 : decode cX6_barred 26 = .ok (.iload_n 2, 1) := by decide +kernel
theorem dX6_barred_27 : decode cX6_barred 27 = .ok (.iconst (-1), 1) := by decide +kernel
theorem dX6_barred_28 : decode cX6_barred 28 = .ok (.if_icmp .ge 5, 3) := by decide +kernel
theorem dX6_barred_31 : decode cX6_barred 31 = .ok (.iconst 1, 1) := by decide +kernel
theorem dX6_barred_32 : decode cX6_barred 32 = .ok (.ireturn, 1) := by decide +kernel
theorem dX6_barred_33 : decode cX6_barred 33 = .ok (.aload_n 0, 1) := by decide +kernel
theorem dX6_barred_34 : decode cX6_barred 34 = .ok (.iload_n 1, 1) := by decide +kernel
theorem dX6_barred_35 : decode cX6_barred 35 = .ok (.invokevirtual 87, 3) := by decide +kernel
theorem dX6_barred_38 : decode cX6_barred 38 = .ok (.ifCond .ne 5, 3) := by decide +kernel
theorem dX6_barred_41 : decode cX6_barred 41 = .ok (.iconst 0, 1) := by decide +kernel
theorem dX6_barred_42 : decode cX6_barred 42 = .ok (.ireturn, 1) := by decide +kernel
theorem dX6_barred_43 : decode cX6_barred 43 = .ok (.iload_n 2, 1) := by decide +kernel
theorem dX6_barred_44 : decode cX6_barred 44 = .ok (.ifCond .eq 45, 3) := by decide +kernel
theorem dX6_barred_47 : decode cX6_barred 47 = .ok (.aload_n 0, 1) := by decide +kernel
theorem dX6_barred_48 : decode cX6_barred 48 = .ok (.iload_n 1, 1) := by decide +kernel
theorem dX6_barred_49 : decode cX6_barred 49 = .ok (.iconst 2, 1) := by decide +kernel
theorem dX6_barred_50 : decode cX6_barred 50 = .ok (.iload_n 2, 1) := by decide +kernel
theorem dX6_barred_51 : decode cX6_barred 51 = .ok (.ifCond .le 7, 3) := by decide +kernel
theorem dX6_barred_54 : decode cX6_barred 54 = .ok (.iconst 1, 1) := by decide +kernel
theorem dX6_barred_55 : decode cX6_barred 55 = .ok (.goto 4, 3) := by decide +kernel
theorem dX6_barred_58 : decode cX6_barred 58 = .ok (.iconst 0, 1) := by decide +kernel
theorem dX6_barred_59 : decode cX6_barred 59 = .ok (.invokevirtual 189, 3) := by decide +kernel
theorem dX6_barred_62 : decode cX6_barred 62 = .ok (.ifCond .eq 25, 3) := by decide +kernel
theorem dX6_barred_65 : decode cX6_barred 65 = .ok (.aload_n 0, 1) := by decide +kernel
theorem dX6_barred_66 : decode cX6_barred 66 = .ok (.iload_n 1, 1) := by decide +kernel
theorem dX6_barred_67 : decode cX6_barred 67 = .ok (.iconst 3, 1) := by decide +kernel
theorem dX6_barred_68 : decode cX6_barred 68 = .ok (.iload_n 2, 1) := by decide +kernel
theorem dX6_barred_69 : decode cX6_barred 69 = .ok (.ifCond .le 7, 3) := by decide +kernel
theorem dX6_barred_72 : decode cX6_barred 72 = .ok (.iconst 1, 1) := by decide +kernel
theorem dX6_barred_73 : decode cX6_barred 73 = .ok (.goto 4, 3) := by decide +kernel
theorem dX6_barred_76 : decode cX6_barred 76 = .ok (.iconst 0, 1) := by decide +kernel
theorem dX6_barred_77 : decode cX6_barred 77 = .ok (.invokevirtual 189, 3) := by decide +kernel
theorem dX6_barred_80 : decode cX6_barred 80 = .ok (.ifCond .eq 7, 3) := by decide +kernel
theorem dX6_barred_83 : decode cX6_barred 83 = .ok (.iconst 0, 1) := by decide +kernel
theorem dX6_barred_84 : decode cX6_barred 84 = .ok (.goto 4, 3) := by decide +kernel
theorem dX6_barred_87 : decode cX6_barred 87 = .ok (.iconst 2, 1) := by decide +kernel
theorem dX6_barred_88 : decode cX6_barred 88 = .ok (.ireturn, 1) := by decide +kernel
theorem dX6_barred_89 : decode cX6_barred 89 = .ok (.aload_n 0, 1) := by decide +kernel
theorem dX6_barred_90 : decode cX6_barred 90 = .ok (.iload_n 1, 1) := by decide +kernel
theorem dX6_barred_91 : decode cX6_barred 91 = .ok (.iconst 2, 1) := by decide +kernel
theorem dX6_barred_92 : decode cX6_barred 92 = .ok (.invokevirtual 74, 3) := by decide +kernel
theorem dX6_barred_95 : decode cX6_barred 95 = .ok (.ifCond .lt 16, 3) := by decide +kernel
theorem dX6_barred_98 : decode cX6_barred 98 = .ok (.aload_n 0, 1) := by decide +kernel
theorem dX6_barred_99 : decode cX6_barred 99 = .ok (.iload_n 1, 1) := by decide +kernel
theorem dX6_barred_100 : decode cX6_barred 100 = .ok (.iconst 3, 1) := by decide +kernel
theorem dX6_barred_101 : decode cX6_barred 101 = .ok (.invokevirtual 74, 3) := by decide +kernel
theorem dX6_barred_104 : decode cX6_barred 104 = .ok (.ifCond .lt 7, 3) := by decide +kernel
theorem dX6_barred_107 : decode cX6_barred 107 = .ok (.iconst 1, 1) := by decide +kernel
theorem dX6_barred_108 : decode cX6_barred 108 = .ok (.goto 4, 3) := by decide +kernel
theorem dX6_barred_111 : decode cX6_barred 111 = .ok (.iconst 0, 1) := by decide +kernel
theorem dX6_barred_112 : decode cX6_barred 112 = .ok (.istore_n 3, 1) := by decide +kernel
theorem dX6_barred_113 : decode cX6_barred 113 = .ok (.iload_n 3, 1) := by decide +kernel
theorem dX6_barred_114 : decode cX6_barred 114 = .ok (.ifCond .eq 28, 3) := by decide +kernel
theorem dX6_barred_117 : decode cX6_barred 117 = .ok (.aload_n 0, 1) := by decide +kernel
theorem dX6_barred_118 : decode cX6_barred 118 = .ok (.iload_n 1, 1) := by decide +kernel
theorem dX6_barred_119 : decode cX6_barred 119 = .ok (.iconst 2, 1) := by decide +kernel
theorem dX6_barred_120 : decode cX6_barred 120 = .ok (.invokevirtual 74, 3) := by decide +kernel
theorem dX6_barred_123 : decode cX6_barred 123 = .ok (.invokestatic 94, 3) := by decide +kernel
theorem dX6_barred_126 : decode cX6_barred 126 = .ok (.aload_n 0, 1) := by decide +kernel
theorem dX6_barred_127 : decode cX6_barred 127 = .ok (.iload_n 1, 1) := by decide +kernel
theorem dX6_barred_128 : decode cX6_barred 128 = .ok (.iconst 3, 1) := by decide +kernel
theorem dX6_barred_129 : decode cX6_barred 129 = .ok (.invokevirtual 74, 3) := by decide +kernel
theorem dX6_barred_132 : decode cX6_barred 132 = .ok (.invokestatic 94, 3) := by decide +kernel
theorem dX6_barred_135 : decode cX6_barred 135 = .ok (.if_icmp .ne 7, 3) := by decide +kernel
theorem dX6_barred_138 : decode cX6_barred 138 = .ok (.iconst 2, 1) := by decide +kernel
theorem dX6_barred_139 : decode cX6_barred 139 = .ok (.goto 4, 3) := by decide +kernel
theorem dX6_barred_142 : decode cX6_barred 142 = .ok (.iconst 0, 1) := by decide +kernel
theorem dX6_barred_143 : decode cX6_barred 143 = .ok (.ireturn, 1) := by decide +kernel
set_option maxRecDepth 20000 in
theorem ggX6_missed_X6_isTeam : GoodIn wsX6_missed wsX6_isTeam := goodIn_r _ [8, 9, 10, 11, 7, 12, 79, 80, 81, 82, 83, 84, 85, 86, 87, 88, 89, 90, 91, 92, 93, 94, 95, 96, 97, 98, 99, 100, 101, 102, 103, 104, 105, 106, 107, 108, 109, 110, 111] (by decide +kernel) (by decide +kernel)
set_option maxRecDepth 20000 in
theorem gX6_missed_X6_isTeam : GoodIn wsX6_missed (wsV RX6 122 RX6 yX6_isTeam wsX6_isTeam) := goodIn_app (goodIn_of _ (by decide +kernel)) ggX6_missed_X6_isTeam
set_option maxRecDepth 20000 in
theorem ggX6_missed_X6_isField : GoodIn wsX6_missed wsX6_isField := goodIn_r _ [16, 9, 10, 11, 7, 12, 79, 80, 81, 82, 83, 84, 85, 86, 87, 88, 89, 90, 91, 92, 93, 94, 95, 96, 97, 98, 99, 100, 101, 102, 103, 104, 105, 106, 107, 108, 109, 110, 111] (by decide +kernel) (by decide +kernel)
set_option maxRecDepth 20000 in
theorem gX6_missed_X6_isField : GoodIn wsX6_missed (wsV RX6 98 RX6 yX6_isField wsX6_isField) := goodIn_app (goodIn_of _ (by decide +kernel)) ggX6_missed_X6_isField
set_option maxRecDepth 20000 in
theorem ggX6_missed_X6_finds : GoodIn wsX6_missed wsX6_finds := goodIn_r _ [20, 21, 1, 79, 80, 81, 82, 83, 84, 85, 86, 87, 88, 89, 90, 91, 92, 93, 94, 95, 96, 97, 98, 99, 100, 101, 102, 103, 104, 105, 106, 107, 108, 109, 110, 111] (by decide +kernel) (by decide +kernel)
set_option maxRecDepth 20000 in
theorem gX6_missed_X6_finds : GoodIn wsX6_missed (wsV RX6 79 RX6 yX6_finds wsX6_finds) := goodIn_app (goodIn_of _ (by decide +kernel)) ggX6_missed_X6_finds
set_option maxRecDepth 20000 in
theorem ggX6_missed_X6_furrows : GoodIn wsX6_missed wsX6_furrows := goodIn_r _ [25, 26, 27, 28, 2, 29, 30, 31, 7, 32, 33, 34, 35, 36, 9, 37, 38, 39, 40, 41, 42, 43, 44, 45, 46, 47, 48, 49, 50, 51, 52, 53, 54, 55, 56, 57, 58, 59, 60, 61, 62, 63, 64, 65, 66, 67, 68, 69, 70, 71, 72, 73, 74, 75, 76, 77, 78, 79, 80, 81, 82, 83, 84, 85, 86, 87, 88, 89, 90, 91, 92, 93, 94, 95, 96, 97, 98, 99, 100, 101, 102, 103, 104, 105, 106, 107, 108, 109, 110, 111] (by decide +kernel) (by decide +kernel)
set_option maxRecDepth 20000 in
theorem gX6_missed_X6_furrows : GoodIn wsX6_missed (wsV RX6 180 RX6 yX6_furrows wsX6_furrows) := goodIn_app (goodIn_of _ (by decide +kernel)) ggX6_missed_X6_furrows
set_option maxRecDepth 20000 in
theorem ggX6_missed_X6_earth : GoodIn wsX6_missed wsX6_earth := goodIn_r _ [40, 41, 33, 34, 35, 7, 36, 9, 79, 80, 81, 82, 83, 84, 85, 86, 87, 88, 89, 90, 91, 92, 93, 94, 95, 96, 97, 98, 99, 100, 101, 102, 103, 104, 105, 106, 107, 108, 109, 110, 111] (by decide +kernel) (by decide +kernel)
set_option maxRecDepth 20000 in
theorem gX6_missed_X6_earth : GoodIn wsX6_missed (wsV RX6 87 RX6 yX6_earth wsX6_earth) := goodIn_app (goodIn_of _ (by decide +kernel)) ggX6_missed_X6_earth
set_option maxRecDepth 20000 in
theorem ggX6_missed_X6_ones : GoodIn wsX6_missed wsX6_ones := goodIn_r _ [60] (by decide +kernel) (by decide +kernel)
set_option maxRecDepth 20000 in
theorem gX6_missed_X6_ones : GoodIn wsX6_missed (va_wsS RX6 154 yX6_ones wsX6_ones) := goodIn_app (goodIn_of _ (by decide +kernel)) ggX6_missed_X6_ones
theorem dX6_missed_0 : decode cX6_missed 0 = .ok (.aload_n 0, 1) := by decide +kernel
theorem dX6_missed_1 : decode cX6_missed 1 = .ok (.iload_n 1, 1) := by decide +kernel
theorem dX6_missed_2 : decode cX6_missed 2 = .ok (.invokevirtual 122, 3) := by decide +kernel
theorem dX6_missed_5 : decode cX6_missed 5 = .ok (.ifCond .eq 11, 3) := by decide +kernel
theorem dX6_missed_8 : decode cX6_missed 8 = .ok (.aload_n 0, 1) := by decide +kernel
theorem dX6_missed_9 : decode cX6_missed 9 = .ok (.iload_n 2, 1) := by decide +kernel
theorem dX6_missed_10 : decode cX6_missed 10 = .ok (.invokevirtual 98, 3) := by decide +kernel
theorem dX6_missed_13 : decode cX6_missed 13 = .ok (.ifCond .ne 10, 3) := by decide +kernel
theorem dX6_missed_16 : decode cX6_missed 16 = .ok (.aload_n 0, 1) := by decide +kernel
theorem dX6_missed_17 : decode cX6_missed 17 = .ok (.ldc 68, 2) := by decide +kernel
theorem dX6_missed_19 : decode cX6_missed 19 = .ok (.invokevirtual 79, 3) := by decide +kernel
theorem dX6_missed_22 : decode cX6_missed 22 = .ok (.ireturn, 1) := by decide +kernel
theorem dX6_missed_23 : decode cX6_missed 23 = .ok (.aload_n 0, 1) := by decide +kernel
theorem dX6_missed_24 : decode cX6_missed 24 = .ok (.iload_n 1, 1) := by decide +kernel
theorem dX6_missed_25 : decode cX6_missed 25 = .ok (.iload_n 2, 1) := by decide +kernel
theorem dX6_missed_26 : decode cX6_missed 26 = .ok (.invokevirtual 180, 3) := by decide +kernel
theorem dX6_missed_29 : decode cX6_missed 29 = .ok (.aload_n 0, 1) := by decide +kernel
theorem dX6_missed_30 : decode cX6_missed 30 = .ok (.getfield 150, 3) := by decide +kernel
theorem dX6_missed_33 : decode cX6_missed 33 = .ok (.ifCond .ne 12, 3) := by decide +kernel
theorem dX6_missed_36 : decode cX6_missed 36 = .ok (.aload_n 0, 1) := by decide +kernel
theorem dX6_missed_37 : decode cX6_missed 37 = .ok (.ldc 188, 2) := by decide +kernel
theorem dX6_missed_39 : decode cX6_missed 39 = .ok (.invokevirtual 79, 3) := by decide +kernel
theorem dX6_missed_42 : decode cX6_missed 42 = .ok (.goto 16, 3) := by decide +kernel
theorem dX6_missed_45 : decode cX6_missed 45 = .ok (.aload_n 0, 1) := by decide +kernel
theorem dX6_missed_46 : decode cX6_missed 46 = .ok (.iload_n 2, 1) := by decide +kernel
theorem dX6_missed_47 : decode cX6_missed 47 = .ok (.invokevirtual 87, 3) := by decide +kernel
theorem dX6_missed_50 : decode cX6_missed 50 = .ok (.invokestatic 154, 3) := by decide +kernel
theorem dX6_missed_53 : decode cX6_missed 53 = .ok (.aload_n 0, 1) := by decide +kernel
theorem dX6_missed_54 : decode cX6_missed 54 = .ok (.getfield 150, 3) := by decide +kernel
theorem dX6_missed_57 : decode cX6_missed 57 = .ok (.isub, 1) := by decide +kernel
theorem dX6_missed_58 : decode cX6_missed 58 = .ok (.ireturn, 1) := by decide +kernel
set_option maxRecDepth 20000 in
theorem ggX6_stone_X6_isTeam : GoodIn wsX6_stone wsX6_isTeam := goodIn_r _ [8, 2, 9, 10, 7, 11, 91, 92, 93, 94, 95, 96, 97, 98, 99, 100, 101, 102, 103, 104, 105, 106, 107, 108, 109, 110, 111, 112, 113, 114, 115, 116, 117, 118, 119, 120, 121, 122, 123] (by decide +kernel) (by decide +kernel)
set_option maxRecDepth 20000 in
theorem gX6_stone_X6_isTeam : GoodIn wsX6_stone (wsV RX6 122 RX6 yX6_isTeam wsX6_isTeam) := goodIn_app (goodIn_of _ (by decide +kernel)) ggX6_stone_X6_isTeam
set_option maxRecDepth 20000 in
theorem ggX6_stone_X6_isField : GoodIn wsX6_stone wsX6_isField := goodIn_r _ [15, 2, 9, 10, 7, 11, 91, 92, 93, 94, 95, 96, 97, 98, 99, 100, 101, 102, 103, 104, 105, 106, 107, 108, 109, 110, 111, 112, 113, 114, 115, 116, 117, 118, 119, 120, 121, 122, 123] (by decide +kernel) (by decide +kernel)
set_option maxRecDepth 20000 in
theorem gX6_stone_X6_isField : GoodIn wsX6_stone (wsV RX6 98 RX6 yX6_isField wsX6_isField) := goodIn_app (goodIn_of _ (by decide +kernel)) ggX6_stone_X6_isField
set_option maxRecDepth 20000 in
theorem ggX6_stone_X6_finds : GoodIn wsX6_stone wsX6_finds := goodIn_r _ [19, 20, 1, 91, 92, 93, 94, 95, 96, 97, 98, 99, 100, 101, 102, 103, 104, 105, 106, 107, 108, 109, 110, 111, 112, 113, 114, 115, 116, 117, 118, 119, 120, 121, 122, 123] (by decide +kernel) (by decide +kernel)
set_option maxRecDepth 20000 in
theorem gX6_stone_X6_finds : GoodIn wsX6_stone (wsV RX6 79 RX6 yX6_finds wsX6_finds) := goodIn_app (goodIn_of _ (by decide +kernel)) ggX6_stone_X6_finds
set_option maxRecDepth 20000 in
theorem ggX6_stone_X6_its : GoodIn wsX6_stone wsX6_its := goodIn_r _ [24, 2, 91, 92, 93, 94, 95, 96, 97, 98, 99, 100, 101, 102, 103, 104, 105, 106, 107, 108, 109, 110, 111, 112, 113, 114, 115, 116, 117, 118, 119, 120, 121, 122, 123] (by decide +kernel) (by decide +kernel)
set_option maxRecDepth 20000 in
theorem gX6_stone_X6_its : GoodIn wsX6_stone (wsV RX6 74 RX6 yX6_its wsX6_its) := goodIn_app (goodIn_of _ (by decide +kernel)) ggX6_stone_X6_its
set_option maxRecDepth 20000 in
theorem ggX6_stone_X6_has : GoodIn wsX6_stone wsX6_has := goodIn_r _ [27] (by decide +kernel) (by decide +kernel)
set_option maxRecDepth 20000 in
theorem gX6_stone_X6_has : GoodIn wsX6_stone (va_wsS RX6 90 yX6_has wsX6_has) := goodIn_app (goodIn_of _ (by decide +kernel)) ggX6_stone_X6_has
set_option maxRecDepth 20000 in
theorem ggX6_stone_X6_costOf : GoodIn wsX6_stone wsX6_costOf := goodIn_r _ [31, 32, 33, 34, 35, 36, 7, 37, 38, 39, 40, 41, 42, 43, 21, 22, 23, 24, 2, 44, 45, 46, 47, 48, 25, 26, 27, 49, 50, 51, 52, 53, 54, 55, 56, 57, 58, 59, 60, 61, 62, 63, 64, 65, 66, 67, 68, 69, 70, 71, 72, 73, 74, 75, 76, 77, 78, 79, 80, 81, 82, 83, 84, 85, 86, 87, 88, 89, 90, 91, 92, 93, 94, 95, 96, 97, 98, 99, 100, 101, 102, 103, 104, 105, 106, 107, 108, 109, 110, 111, 112, 113, 114, 115, 116, 117, 118, 119, 120, 121, 122, 123] (by decide +kernel) (by decide +kernel)
set_option maxRecDepth 20000 in
theorem gX6_stone_X6_costOf : GoodIn wsX6_stone (wsV RX6 185 RX6 yX6_costOf wsX6_costOf) := goodIn_app (goodIn_of _ (by decide +kernel)) ggX6_stone_X6_costOf
theorem dX6_stone_0 : decode cX6_stone 0 = .ok (.aload_n 0, 1) := by decide +kernel
theorem dX6_stone_1 : decode cX6_stone 1 = .ok (.iload_n 1, 1) := by decide +kernel
theorem dX6_stone_2 : decode cX6_stone 2 = .ok (.invokevirtual 122, 3) := by decide +kernel
theorem dX6_stone_5 : decode cX6_stone 5 = .ok (.ifCond .eq 11, 3) := by decide +kernel
theorem dX6_stone_8 : decode cX6_stone 8 = .ok (.aload_n 0, 1) := by decide +kernel
theorem dX6_stone_9 : decode cX6_stone 9 = .ok (.iload_n 2, 1) := by decide +kernel
theorem dX6_stone_10 : decode cX6_stone 10 = .ok (.invokevirtual 98, 3) := by decide +kernel
theorem dX6_stone_13 : decode cX6_stone 13 = .ok (.ifCond .ne 10, 3) := by decide +kernel
theorem dX6_stone_16 : decode cX6_stone 16 = .ok (.aload_n 0, 1) := by decide +kernel
theorem dX6_stone_17 : decode cX6_stone 17 = .ok (.ldc 68, 2) := by decide +kernel
theorem dX6_stone_19 : decode cX6_stone 19 = .ok (.invokevirtual 79, 3) := by decide +kernel
theorem dX6_stone_22 : decode cX6_stone 22 = .ok (.ireturn, 1) := by decide +kernel
theorem dX6_stone_23 : decode cX6_stone 23 = .ok (.aload_n 0, 1) := by decide +kernel
theorem dX6_stone_24 : decode cX6_stone 24 = .ok (.iload_n 2, 1) := by decide +kernel
theorem dX6_stone_25 : decode cX6_stone 25 = .ok (.iconst 0, 1) := by decide +kernel
theorem dX6_stone_26 : decode cX6_stone 26 = .ok (.invokevirtual 74, 3) := by decide +kernel
theorem dX6_stone_29 : decode cX6_stone 29 = .ok (.istore_n 3, 1) := by decide +kernel
theorem dX6_stone_30 : decode cX6_stone 30 = .ok (.iconst (-1), 1) := by decide +kernel
theorem dX6_stone_31 : decode cX6_stone 31 = .ok (.istore 4, 2) := by decide +kernel
theorem dX6_stone_33 : decode cX6_stone 33 = .ok (.iconst 0, 1) := by decide +kernel
theorem dX6_stone_34 : decode cX6_stone 34 = .ok (.istore 5, 2) := by decide +kernel
theorem dX6_stone_36 : decode cX6_stone 36 = .ok (.iconst 0, 1) := by decide +kernel
theorem dX6_stone_37 : decode cX6_stone 37 = .ok (.istore 6, 2) := by decide +kernel
theorem dX6_stone_39 : decode cX6_stone 39 = .ok (.iload 6, 2) := by decide +kernel
theorem dX6_stone_41 : decode cX6_stone 41 = .ok (.bipush 16, 2) := by decide +kernel
theorem dX6_stone_43 : decode cX6_stone 43 = .ok (.if_icmp .ge 72, 3) := by decide +kernel
theorem dX6_stone_46 : decode cX6_stone 46 = .ok (.iload_n 3, 1) := by decide +kernel
theorem dX6_stone_47 : decode cX6_stone 47 = .ok (.iload 6, 2) := by decide +kernel
theorem dX6_stone_49 : decode cX6_stone 49 = .ok (.invokestatic 90, 3) := by decide +kernel
theorem dX6_stone_52 : decode cX6_stone 52 = .ok (.ifCond .eq 57, 3) := by decide +kernel
theorem dX6_stone_55 : decode cX6_stone 55 = .ok (.aload_n 0, 1) := by decide +kernel
theorem dX6_stone_56 : decode cX6_stone 56 = .ok (.getfield 7, 3) := by decide +kernel
theorem dX6_stone_59 : decode cX6_stone 59 = .ok (.iconst 2, 1) := by decide +kernel
theorem dX6_stone_60 : decode cX6_stone 60 = .ok (.bipush 6, 2) := by decide +kernel
theorem dX6_stone_62 : decode cX6_stone 62 = .ok (.iload_n 2, 1) := by decide +kernel
theorem dX6_stone_63 : decode cX6_stone 63 = .ok (.imul, 1) := by decide +kernel
theorem dX6_stone_64 : decode cX6_stone 64 = .ok (.iadd, 1) := by decide +kernel
theorem dX6_stone_65 : decode cX6_stone 65 = .ok (.iconst 0, 1) := by decide +kernel
theorem dX6_stone_66 : decode cX6_stone 66 = .ok (.iadd, 1) := by decide +kernel
theorem dX6_stone_67 : decode cX6_stone 67 = .ok (.iload_n 3, 1) := by decide +kernel
theorem dX6_stone_68 : decode cX6_stone 68 = .ok (.iconst 1, 1) := by decide +kernel
theorem dX6_stone_69 : decode cX6_stone 69 = .ok (.iload 6, 2) := by decide +kernel
theorem dX6_stone_71 : decode cX6_stone 71 = .ok (.ishl, 1) := by decide +kernel
theorem dX6_stone_72 : decode cX6_stone 72 = .ok (.iconst (-1), 1) := by decide +kernel
theorem dX6_stone_73 : decode cX6_stone 73 = .ok (.ixor, 1) := by decide +kernel
theorem dX6_stone_74 : decode cX6_stone 74 = .ok (.iand, 1) := by decide +kernel
theorem dX6_stone_75 : decode cX6_stone 75 = .ok (.iastore, 1) := by decide +kernel
theorem dX6_stone_76 : decode cX6_stone 76 = .ok (.aload_n 0, 1) := by decide +kernel
theorem dX6_stone_77 : decode cX6_stone 77 = .ok (.iload_n 1, 1) := by decide +kernel
theorem dX6_stone_78 : decode cX6_stone 78 = .ok (.iload_n 2, 1) := by decide +kernel
theorem dX6_stone_79 : decode cX6_stone 79 = .ok (.invokevirtual 185, 3) := by decide +kernel
theorem dX6_stone_82 : decode cX6_stone 82 = .ok (.istore 7, 2) := by decide +kernel
theorem dX6_stone_84 : decode cX6_stone 84 = .ok (.iload 7, 2) := by decide +kernel
theorem dX6_stone_86 : decode cX6_stone 86 = .ok (.ifCond .lt 23, 3) := by decide +kernel
theorem dX6_stone_89 : decode cX6_stone 89 = .ok (.iload 4, 2) := by decide +kernel
theorem dX6_stone_91 : decode cX6_stone 91 = .ok (.ifCond .lt 10, 3) := by decide +kernel
theorem dX6_stone_94 : decode cX6_stone 94 = .ok (.iload 7, 2) := by decide +kernel
theorem dX6_stone_96 : decode cX6_stone 96 = .ok (.iload 5, 2) := by decide +kernel
theorem dX6_stone_98 : decode cX6_stone 98 = .ok (.if_icmp .ge 11, 3) := by decide +kernel
theorem dX6_stone_101 : decode cX6_stone 101 = .ok (.iload 6, 2) := by decide +kernel
theorem dX6_stone_103 : decode cX6_stone 103 = .ok (.istore 4, 2) := by decide +kernel
theorem dX6_stone_105 : decode cX6_stone 105 = .ok (.iload 7, 2) := by decide +kernel
theorem dX6_stone_107 : decode cX6_stone 107 = .ok (.istore 5, 2) := by decide +kernel
theorem dX6_stone_109 : decode cX6_stone 109 = .ok (.iinc 6 1, 3) := by decide +kernel
theorem dX6_stone_112 : decode cX6_stone 112 = .ok (.goto (-73), 3) := by decide +kernel
theorem dX6_stone_115 : decode cX6_stone 115 = .ok (.aload_n 0, 1) := by decide +kernel
theorem dX6_stone_116 : decode cX6_stone 116 = .ok (.getfield 7, 3) := by decide +kernel
theorem dX6_stone_119 : decode cX6_stone 119 = .ok (.iconst 2, 1) := by decide +kernel
theorem dX6_stone_120 : decode cX6_stone 120 = .ok (.bipush 6, 2) := by decide +kernel
theorem dX6_stone_122 : decode cX6_stone 122 = .ok (.iload_n 2, 1) := by decide +kernel
theorem dX6_stone_123 : decode cX6_stone 123 = .ok (.imul, 1) := by decide +kernel
theorem dX6_stone_124 : decode cX6_stone 124 = .ok (.iadd, 1) := by decide +kernel
theorem dX6_stone_125 : decode cX6_stone 125 = .ok (.iconst 0, 1) := by decide +kernel
theorem dX6_stone_126 : decode cX6_stone 126 = .ok (.iadd, 1) := by decide +kernel
theorem dX6_stone_127 : decode cX6_stone 127 = .ok (.iload_n 3, 1) := by decide +kernel
theorem dX6_stone_128 : decode cX6_stone 128 = .ok (.iastore, 1) := by decide +kernel
theorem dX6_stone_129 : decode cX6_stone 129 = .ok (.iload 4, 2) := by decide +kernel
theorem dX6_stone_131 : decode cX6_stone 131 = .ok (.ifCond .ge 12, 3) := by decide +kernel
theorem dX6_stone_134 : decode cX6_stone 134 = .ok (.aload_n 0, 1) := by decide +kernel
theorem dX6_stone_135 : decode cX6_stone 135 = .ok (.ldc 188, 2) := by decide +kernel
theorem dX6_stone_137 : decode cX6_stone 137 = .ok (.invokevirtual 79, 3) := by decide +kernel
theorem dX6_stone_140 : decode cX6_stone 140 = .ok (.goto 5, 3) := by decide +kernel
theorem dX6_stone_143 : decode cX6_stone 143 = .ok (.iload 4, 2) := by decide +kernel
theorem dX6_stone_145 : decode cX6_stone 145 = .ok (.ireturn, 1) := by decide +kernel
set_option maxRecDepth 20000 in
theorem ggX6_gate_X6_isTeam : GoodIn wsX6_gate wsX6_isTeam := goodIn_r _ [10, 4, 11, 12, 9, 13, 93, 94, 95, 96, 97, 98, 99, 100, 101, 102, 103, 104, 105, 106, 107, 108, 109, 110, 111, 112, 113, 114, 115, 116, 117, 118, 119, 120, 121, 122, 123, 124, 125] (by decide +kernel) (by decide +kernel)
set_option maxRecDepth 20000 in
theorem gX6_gate_X6_isTeam : GoodIn wsX6_gate (wsV RX6 122 RX6 yX6_isTeam wsX6_isTeam) := goodIn_app (goodIn_of _ (by decide +kernel)) ggX6_gate_X6_isTeam
set_option maxRecDepth 20000 in
theorem ggX6_gate_X6_isField : GoodIn wsX6_gate wsX6_isField := goodIn_r _ [17, 4, 11, 12, 9, 13, 93, 94, 95, 96, 97, 98, 99, 100, 101, 102, 103, 104, 105, 106, 107, 108, 109, 110, 111, 112, 113, 114, 115, 116, 117, 118, 119, 120, 121, 122, 123, 124, 125] (by decide +kernel) (by decide +kernel)
set_option maxRecDepth 20000 in
theorem gX6_gate_X6_isField : GoodIn wsX6_gate (wsV RX6 98 RX6 yX6_isField wsX6_isField) := goodIn_app (goodIn_of _ (by decide +kernel)) ggX6_gate_X6_isField
set_option maxRecDepth 20000 in
theorem ggX6_gate_X6_in : GoodIn wsX6_gate wsX6_in := goodIn_r _ [13] (by decide +kernel) (by decide +kernel)
set_option maxRecDepth 20000 in
theorem gX6_gate_X6_in : GoodIn wsX6_gate (va_wsS RX6 69 yX6_in wsX6_in) := goodIn_app (goodIn_of _ (by decide +kernel)) ggX6_gate_X6_in
set_option maxRecDepth 20000 in
theorem ggX6_gate_X6_finds : GoodIn wsX6_gate wsX6_finds := goodIn_r _ [21, 22, 3, 93, 94, 95, 96, 97, 98, 99, 100, 101, 102, 103, 104, 105, 106, 107, 108, 109, 110, 111, 112, 113, 114, 115, 116, 117, 118, 119, 120, 121, 122, 123, 124, 125] (by decide +kernel) (by decide +kernel)
set_option maxRecDepth 20000 in
theorem gX6_gate_X6_finds : GoodIn wsX6_gate (wsV RX6 79 RX6 yX6_finds wsX6_finds) := goodIn_app (goodIn_of _ (by decide +kernel)) ggX6_gate_X6_finds
set_option maxRecDepth 20000 in
theorem ggX6_gate_X6_its : GoodIn wsX6_gate wsX6_its := goodIn_r _ [26, 4, 93, 94, 95, 96, 97, 98, 99, 100, 101, 102, 103, 104, 105, 106, 107, 108, 109, 110, 111, 112, 113, 114, 115, 116, 117, 118, 119, 120, 121, 122, 123, 124, 125] (by decide +kernel) (by decide +kernel)
set_option maxRecDepth 20000 in
theorem gX6_gate_X6_its : GoodIn wsX6_gate (wsV RX6 74 RX6 yX6_its wsX6_its) := goodIn_app (goodIn_of _ (by decide +kernel)) ggX6_gate_X6_its
set_option maxRecDepth 20000 in
theorem ggX6_gate_X6_costOf : GoodIn wsX6_gate wsX6_costOf := goodIn_r _ [30, 31, 32, 33, 34, 35, 9, 36, 37, 38, 39, 40, 41, 42, 23, 24, 25, 26, 4, 43, 44, 45, 46, 47, 48, 49, 50, 51, 52, 53, 54, 55, 56, 57, 58, 59, 60, 61, 62, 63, 64, 65, 66, 67, 68, 69, 70, 71, 72, 73, 74, 75, 76, 77, 78, 79, 80, 81, 82, 83, 84, 85, 86, 87, 88, 89, 90, 91, 92, 93, 94, 95, 96, 97, 98, 99, 100, 101, 102, 103, 104, 105, 106, 107, 108, 109, 110, 111, 112, 113, 114, 115, 116, 117, 118, 119, 120, 121, 122, 123, 124, 125] (by decide +kernel) (by decide +kernel)
set_option maxRecDepth 20000 in
theorem gX6_gate_X6_costOf : GoodIn wsX6_gate (wsV RX6 185 RX6 yX6_costOf wsX6_costOf) := goodIn_app (goodIn_of _ (by decide +kernel)) ggX6_gate_X6_costOf
theorem dX6_gate_0 : decode cX6_gate 0 = .ok (.aload_n 0, 1) := by decide +kernel
theorem dX6_gate_1 : decode cX6_gate 1 = .ok (.iload_n 1, 1) := by decide +kernel
theorem dX6_gate_2 : decode cX6_gate 2 = .ok (.invokevirtual 122, 3) := by decide +kernel
theorem dX6_gate_5 : decode cX6_gate 5 = .ok (.ifCond .eq 25, 3) := by decide +kernel
theorem dX6_gate_8 : decode cX6_gate 8 = .ok (.aload_n 0, 1) := by decide +kernel
theorem dX6_gate_9 : decode cX6_gate 9 = .ok (.iload_n 2, 1) := by decide +kernel
theorem dX6_gate_10 : decode cX6_gate 10 = .ok (.invokevirtual 98, 3) := by decide +kernel
theorem dX6_gate_13 : decode cX6_gate 13 = .ok (.ifCond .eq 17, 3) := by decide +kernel
theorem dX6_gate_16 : decode cX6_gate 16 = .ok (.iload_n 3, 1) := by decide +kernel
theorem dX6_gate_17 : decode cX6_gate 17 = .ok (.i2l, 1) := by decide +kernel
theorem dX6_gate_18 : decode cX6_gate 18 = .ok (.ldc2_w 125, 3) := by decide +kernel
theorem dX6_gate_21 : decode cX6_gate 21 = .ok (.ldc2_w 144, 3) := by decide +kernel
theorem dX6_gate_24 : decode cX6_gate 24 = .ok (.invokestatic 69, 3) := by decide +kernel
theorem dX6_gate_27 : decode cX6_gate 27 = .ok (.ifCond .ne 10, 3) := by decide +kernel
theorem dX6_gate_30 : decode cX6_gate 30 = .ok (.aload_n 0, 1) := by decide +kernel
theorem dX6_gate_31 : decode cX6_gate 31 = .ok (.ldc 68, 2) := by decide +kernel
theorem dX6_gate_33 : decode cX6_gate 33 = .ok (.invokevirtual 79, 3) := by decide +kernel
theorem dX6_gate_36 : decode cX6_gate 36 = .ok (.ireturn, 1) := by decide +kernel
theorem dX6_gate_37 : decode cX6_gate 37 = .ok (.aload_n 0, 1) := by decide +kernel
theorem dX6_gate_38 : decode cX6_gate 38 = .ok (.iload_n 2, 1) := by decide +kernel
theorem dX6_gate_39 : decode cX6_gate 39 = .ok (.iload_n 3, 1) := by decide +kernel
theorem dX6_gate_40 : decode cX6_gate 40 = .ok (.invokevirtual 74, 3) := by decide +kernel
theorem dX6_gate_43 : decode cX6_gate 43 = .ok (.istore 4, 2) := by decide +kernel
theorem dX6_gate_45 : decode cX6_gate 45 = .ok (.iconst (-1), 1) := by decide +kernel
theorem dX6_gate_46 : decode cX6_gate 46 = .ok (.istore 5, 2) := by decide +kernel
theorem dX6_gate_48 : decode cX6_gate 48 = .ok (.iconst 0, 1) := by decide +kernel
theorem dX6_gate_49 : decode cX6_gate 49 = .ok (.istore 6, 2) := by decide +kernel
theorem dX6_gate_51 : decode cX6_gate 51 = .ok (.iconst 0, 1) := by decide +kernel
theorem dX6_gate_52 : decode cX6_gate 52 = .ok (.istore 7, 2) := by decide +kernel
theorem dX6_gate_54 : decode cX6_gate 54 = .ok (.iload 7, 2) := by decide +kernel
theorem dX6_gate_56 : decode cX6_gate 56 = .ok (.bipush 16, 2) := by decide +kernel
theorem dX6_gate_58 : decode cX6_gate 58 = .ok (.if_icmp .ge 57, 3) := by decide +kernel
theorem dX6_gate_61 : decode cX6_gate 61 = .ok (.aload_n 0, 1) := by decide +kernel
theorem dX6_gate_62 : decode cX6_gate 62 = .ok (.getfield 7, 3) := by decide +kernel
theorem dX6_gate_65 : decode cX6_gate 65 = .ok (.iconst 2, 1) := by decide +kernel
theorem dX6_gate_66 : decode cX6_gate 66 = .ok (.bipush 6, 2) := by decide +kernel
theorem dX6_gate_68 : decode cX6_gate 68 = .ok (.iload_n 2, 1) := by decide +kernel
theorem dX6_gate_69 : decode cX6_gate 69 = .ok (.imul, 1) := by decide +kernel
theorem dX6_gate_70 : decode cX6_gate 70 = .ok (.iadd, 1) := by decide +kernel
theorem dX6_gate_71 : decode cX6_gate 71 = .ok (.iload_n 3, 1) := by decide +kernel
theorem dX6_gate_72 : decode cX6_gate 72 = .ok (.iadd, 1) := by decide +kernel
theorem dX6_gate_73 : decode cX6_gate 73 = .ok (.iload 7, 2) := by decide +kernel
theorem dX6_gate_75 : decode cX6_gate 75 = .ok (.iastore, 1) := by decide +kernel
theorem dX6_gate_76 : decode cX6_gate 76 = .ok (.aload_n 0, 1) := by decide +kernel
theorem dX6_gate_77 : decode cX6_gate 77 = .ok (.iload_n 1, 1) := by decide +kernel
theorem dX6_gate_78 : decode cX6_gate 78 = .ok (.iload_n 2, 1) := by decide +kernel
theorem dX6_gate_79 : decode cX6_gate 79 = .ok (.invokevirtual 185, 3) := by decide +kernel
theorem dX6_gate_82 : decode cX6_gate 82 = .ok (.istore 8, 2) := by decide +kernel
theorem dX6_gate_84 : decode cX6_gate 84 = .ok (.iload 8, 2) := by decide +kernel
theorem dX6_gate_86 : decode cX6_gate 86 = .ok (.ifCond .lt 23, 3) := by decide +kernel
theorem dX6_gate_89 : decode cX6_gate 89 = .ok (.iload 5, 2) := by decide +kernel
theorem dX6_gate_91 : decode cX6_gate 91 = .ok (.ifCond .lt 10, 3) := by decide +kernel
theorem dX6_gate_94 : decode cX6_gate 94 = .ok (.iload 8, 2) := by decide +kernel
theorem dX6_gate_96 : decode cX6_gate 96 = .ok (.iload 6, 2) := by decide +kernel
theorem dX6_gate_98 : decode cX6_gate 98 = .ok (.if_icmp .ge 11, 3) := by decide +kernel
theorem dX6_gate_101 : decode cX6_gate 101 = .ok (.iload 7, 2) := by decide +kernel
theorem dX6_gate_103 : decode cX6_gate 103 = .ok (.istore 5, 2) := by decide +kernel
theorem dX6_gate_105 : decode cX6_gate 105 = .ok (.iload 8, 2) := by decide +kernel
theorem dX6_gate_107 : decode cX6_gate 107 = .ok (.istore 6, 2) := by decide +kernel
theorem dX6_gate_109 : decode cX6_gate 109 = .ok (.iinc 7 1, 3) := by decide +kernel
theorem dX6_gate_112 : decode cX6_gate 112 = .ok (.goto (-58), 3) := by decide +kernel
theorem dX6_gate_115 : decode cX6_gate 115 = .ok (.aload_n 0, 1) := by decide +kernel
theorem dX6_gate_116 : decode cX6_gate 116 = .ok (.getfield 7, 3) := by decide +kernel
theorem dX6_gate_119 : decode cX6_gate 119 = .ok (.iconst 2, 1) := by decide +kernel
theorem dX6_gate_120 : decode cX6_gate 120 = .ok (.bipush 6, 2) := by decide +kernel
theorem dX6_gate_122 : decode cX6_gate 122 = .ok (.iload_n 2, 1) := by decide +kernel
theorem dX6_gate_123 : decode cX6_gate 123 = .ok (.imul, 1) := by decide +kernel
theorem dX6_gate_124 : decode cX6_gate 124 = .ok (.iadd, 1) := by decide +kernel
theorem dX6_gate_125 : decode cX6_gate 125 = .ok (.iload_n 3, 1) := by decide +kernel
theorem dX6_gate_126 : decode cX6_gate 126 = .ok (.iadd, 1) := by decide +kernel
theorem dX6_gate_127 : decode cX6_gate 127 = .ok (.iload 4, 2) := by decide +kernel
theorem dX6_gate_129 : decode cX6_gate 129 = .ok (.iastore, 1) := by decide +kernel
theorem dX6_gate_130 : decode cX6_gate 130 = .ok (.iload 5, 2) := by decide +kernel
theorem dX6_gate_132 : decode cX6_gate 132 = .ok (.ifCond .ge 12, 3) := by decide +kernel
theorem dX6_gate_135 : decode cX6_gate 135 = .ok (.aload_n 0, 1) := by decide +kernel
theorem dX6_gate_136 : decode cX6_gate 136 = .ok (.ldc 188, 2) := by decide +kernel
theorem dX6_gate_138 : decode cX6_gate 138 = .ok (.invokevirtual 79, 3) := by decide +kernel
theorem dX6_gate_141 : decode cX6_gate 141 = .ok (.goto 5, 3) := by decide +kernel
theorem dX6_gate_144 : decode cX6_gate 144 = .ok (.iload 5, 2) := by decide +kernel
theorem dX6_gate_146 : decode cX6_gate 146 = .ok (.ireturn, 1) := by decide +kernel
set_option maxRecDepth 20000 in
theorem ggX6_whose_X6_isField : GoodIn wsX6_whose wsX6_isField := goodIn_r _ [8, 2, 9, 10, 7, 11, 87, 88, 89, 90, 91, 92, 93, 94, 95, 96, 97, 98, 99, 100, 101, 102, 103, 104, 105, 106, 107, 108, 109, 110, 111, 112, 113, 114, 115, 116, 117, 118, 119] (by decide +kernel) (by decide +kernel)
set_option maxRecDepth 20000 in
theorem gX6_whose_X6_isField : GoodIn wsX6_whose (wsV RX6 98 RX6 yX6_isField wsX6_isField) := goodIn_app (goodIn_of _ (by decide +kernel)) ggX6_whose_X6_isField
set_option maxRecDepth 20000 in
theorem ggX6_whose_X6_finds : GoodIn wsX6_whose wsX6_finds := goodIn_r _ [15, 16, 1, 87, 88, 89, 90, 91, 92, 93, 94, 95, 96, 97, 98, 99, 100, 101, 102, 103, 104, 105, 106, 107, 108, 109, 110, 111, 112, 113, 114, 115, 116, 117, 118, 119] (by decide +kernel) (by decide +kernel)
set_option maxRecDepth 20000 in
theorem gX6_whose_X6_finds : GoodIn wsX6_whose (wsV RX6 79 RX6 yX6_finds wsX6_finds) := goodIn_app (goodIn_of _ (by decide +kernel)) ggX6_whose_X6_finds
set_option maxRecDepth 20000 in
theorem ggX6_whose_X6_costOf : GoodIn wsX6_whose wsX6_costOf := goodIn_r _ [20, 21, 22, 23, 24, 25, 7, 26, 27, 28, 29, 30, 31, 32, 33, 34, 35, 36, 2, 37, 38, 39, 40, 41, 42, 43, 44, 45, 46, 47, 48, 49, 50, 51, 52, 53, 54, 55, 56, 57, 58, 59, 60, 61, 62, 63, 64, 65, 66, 67, 68, 69, 70, 71, 72, 73, 74, 75, 76, 77, 78, 79, 80, 81, 82, 83, 84, 85, 86, 87, 88, 89, 90, 91, 92, 93, 94, 95, 96, 97, 98, 99, 100, 101, 102, 103, 104, 105, 106, 107, 108, 109, 110, 111, 112, 113, 114, 115, 116, 117, 118, 119] (by decide +kernel) (by decide +kernel)
set_option maxRecDepth 20000 in
theorem gX6_whose_X6_costOf : GoodIn wsX6_whose (wsV RX6 185 RX6 yX6_costOf wsX6_costOf) := goodIn_app (goodIn_of _ (by decide +kernel)) ggX6_whose_X6_costOf
theorem dX6_whose_0 : decode cX6_whose 0 = .ok (.aload_n 0, 1) := by decide +kernel
theorem dX6_whose_1 : decode cX6_whose 1 = .ok (.iload_n 1, 1) := by decide +kernel
theorem dX6_whose_2 : decode cX6_whose 2 = .ok (.invokevirtual 98, 3) := by decide +kernel
theorem dX6_whose_5 : decode cX6_whose 5 = .ok (.ifCond .ne 10, 3) := by decide +kernel
theorem dX6_whose_8 : decode cX6_whose 8 = .ok (.aload_n 0, 1) := by decide +kernel
theorem dX6_whose_9 : decode cX6_whose 9 = .ok (.ldc 68, 2) := by decide +kernel
theorem dX6_whose_11 : decode cX6_whose 11 = .ok (.invokevirtual 79, 3) := by decide +kernel
theorem dX6_whose_14 : decode cX6_whose 14 = .ok (.ireturn, 1) := by decide +kernel
theorem dX6_whose_15 : decode cX6_whose 15 = .ok (.iconst (-1), 1) := by decide +kernel
theorem dX6_whose_16 : decode cX6_whose 16 = .ok (.istore_n 2, 1) := by decide +kernel
theorem dX6_whose_17 : decode cX6_whose 17 = .ok (.iconst 0, 1) := by decide +kernel
theorem dX6_whose_18 : decode cX6_whose 18 = .ok (.istore_n 3, 1) := by decide +kernel
theorem dX6_whose_19 : decode cX6_whose 19 = .ok (.iconst 0, 1) := by decide +kernel
theorem dX6_whose_20 : decode cX6_whose 20 = .ok (.istore 4, 2) := by decide +kernel
theorem dX6_whose_22 : decode cX6_whose 22 = .ok (.iload 4, 2) := by decide +kernel
theorem dX6_whose_24 : decode cX6_whose 24 = .ok (.aload_n 0, 1) := by decide +kernel
theorem dX6_whose_25 : decode cX6_whose 25 = .ok (.getfield 7, 3) := by decide +kernel
theorem dX6_whose_28 : decode cX6_whose 28 = .ok (.iconst 1, 1) := by decide +kernel
theorem dX6_whose_29 : decode cX6_whose 29 = .ok (.iaload, 1) := by decide +kernel
theorem dX6_whose_30 : decode cX6_whose 30 = .ok (.if_icmp .ge 39, 3) := by decide +kernel
theorem dX6_whose_33 : decode cX6_whose 33 = .ok (.aload_n 0, 1) := by decide +kernel
theorem dX6_whose_34 : decode cX6_whose 34 = .ok (.iload 4, 2) := by decide +kernel
theorem dX6_whose_36 : decode cX6_whose 36 = .ok (.iload_n 1, 1) := by decide +kernel
theorem dX6_whose_37 : decode cX6_whose 37 = .ok (.invokevirtual 185, 3) := by decide +kernel
theorem dX6_whose_40 : decode cX6_whose 40 = .ok (.istore 5, 2) := by decide +kernel
theorem dX6_whose_42 : decode cX6_whose 42 = .ok (.iload 5, 2) := by decide +kernel
theorem dX6_whose_44 : decode cX6_whose 44 = .ok (.ifCond .lt 19, 3) := by decide +kernel
theorem dX6_whose_47 : decode cX6_whose 47 = .ok (.iload_n 2, 1) := by decide +kernel
theorem dX6_whose_48 : decode cX6_whose 48 = .ok (.ifCond .lt 9, 3) := by decide +kernel
theorem dX6_whose_51 : decode cX6_whose 51 = .ok (.iload 5, 2) := by decide +kernel
theorem dX6_whose_53 : decode cX6_whose 53 = .ok (.iload_n 3, 1) := by decide +kernel
theorem dX6_whose_54 : decode cX6_whose 54 = .ok (.if_icmp .ge 9, 3) := by decide +kernel
theorem dX6_whose_57 : decode cX6_whose 57 = .ok (.iload 4, 2) := by decide +kernel
theorem dX6_whose_59 : decode cX6_whose 59 = .ok (.istore_n 2, 1) := by decide +kernel
theorem dX6_whose_60 : decode cX6_whose 60 = .ok (.iload 5, 2) := by decide +kernel
theorem dX6_whose_62 : decode cX6_whose 62 = .ok (.istore_n 3, 1) := by decide +kernel
theorem dX6_whose_63 : decode cX6_whose 63 = .ok (.iinc 4 1, 3) := by decide +kernel
theorem dX6_whose_66 : decode cX6_whose 66 = .ok (.goto (-44), 3) := by decide +kernel
theorem dX6_whose_69 : decode cX6_whose 69 = .ok (.iload_n 2, 1) := by decide +kernel
theorem dX6_whose_70 : decode cX6_whose 70 = .ok (.ifCond .ge 12, 3) := by decide +kernel
theorem dX6_whose_73 : decode cX6_whose 73 = .ok (.aload_n 0, 1) := by decide +kernel
theorem dX6_whose_74 : decode cX6_whose 74 = .ok (.ldc 188, 2) := by decide +kernel
theorem dX6_whose_76 : decode cX6_whose 76 = .ok (.invokevirtual 79, 3) := by decide +kernel
theorem dX6_whose_79 : decode cX6_whose 79 = .ok (.goto 4, 3) := by decide +kernel
theorem dX6_whose_82 : decode cX6_whose 82 = .ok (.iload_n 2, 1) := by decide +kernel
theorem dX6_whose_83 : decode cX6_whose 83 = .ok (.ireturn, 1) := by decide +kernel
set_option maxRecDepth 20000 in
theorem ggX6_findCosts_X6_costOf : GoodIn wsX6_findCosts wsX6_costOf := goodIn_r _ [7, 8, 9, 10, 11, 12, 6, 13, 14, 15, 16, 17, 18, 19, 20, 21, 22, 23, 1, 24, 25, 26, 27, 28, 29, 30, 31, 32, 33, 34, 35, 36, 37, 38, 39, 40, 41, 42, 43, 44, 45, 46, 47, 48, 49, 50, 51, 52, 53, 54, 55, 56, 57, 58, 59, 60, 61, 62, 63, 64, 65, 66, 67, 68, 69, 70, 71, 72, 73, 74, 75, 76, 77, 78, 79, 80, 81, 82, 83, 84, 85, 86, 87, 88, 89, 90, 91, 92, 93, 94, 95, 96, 97, 98, 99, 100, 101, 102, 103, 104, 105, 106] (by decide +kernel) (by decide +kernel)
set_option maxRecDepth 20000 in
theorem gX6_findCosts_X6_costOf : GoodIn wsX6_findCosts (wsV RX6 185 RX6 yX6_costOf wsX6_costOf) := goodIn_app (goodIn_of _ (by decide +kernel)) ggX6_findCosts_X6_costOf
theorem dX6_findCosts_0 : decode cX6_findCosts 0 = .ok (.iconst 0, 1) := by decide +kernel
theorem dX6_findCosts_1 : decode cX6_findCosts 1 = .ok (.istore_n 2, 1) := by decide +kernel
theorem dX6_findCosts_2 : decode cX6_findCosts 2 = .ok (.iload_n 2, 1) := by decide +kernel
theorem dX6_findCosts_3 : decode cX6_findCosts 3 = .ok (.aload_n 0, 1) := by decide +kernel
theorem dX6_findCosts_4 : decode cX6_findCosts 4 = .ok (.getfield 7, 3) := by decide +kernel
theorem dX6_findCosts_7 : decode cX6_findCosts 7 = .ok (.iconst 0, 1) := by decide +kernel
theorem dX6_findCosts_8 : decode cX6_findCosts 8 = .ok (.iaload, 1) := by decide +kernel
theorem dX6_findCosts_9 : decode cX6_findCosts 9 = .ok (.if_icmp .ge 21, 3) := by decide +kernel
theorem dX6_findCosts_12 : decode cX6_findCosts 12 = .ok (.aload_n 0, 1) := by decide +kernel
theorem dX6_findCosts_13 : decode cX6_findCosts 13 = .ok (.getfield 37, 3) := by decide +kernel
theorem dX6_findCosts_16 : decode cX6_findCosts 16 = .ok (.iload_n 2, 1) := by decide +kernel
theorem dX6_findCosts_17 : decode cX6_findCosts 17 = .ok (.aload_n 0, 1) := by decide +kernel
theorem dX6_findCosts_18 : decode cX6_findCosts 18 = .ok (.iload_n 1, 1) := by decide +kernel
theorem dX6_findCosts_19 : decode cX6_findCosts 19 = .ok (.iload_n 2, 1) := by decide +kernel
theorem dX6_findCosts_20 : decode cX6_findCosts 20 = .ok (.invokevirtual 185, 3) := by decide +kernel
theorem dX6_findCosts_23 : decode cX6_findCosts 23 = .ok (.iastore, 1) := by decide +kernel
theorem dX6_findCosts_24 : decode cX6_findCosts 24 = .ok (.iinc 2 1, 3) := by decide +kernel
theorem dX6_findCosts_27 : decode cX6_findCosts 27 = .ok (.goto (-25), 3) := by decide +kernel
theorem dX6_findCosts_30 : decode cX6_findCosts 30 = .ok (.return_, 1) := by decide +kernel
set_option maxRecDepth 20000 in
theorem ggX6_looks_X6_its : GoodIn wsX6_looks wsX6_its := goodIn_r _ [15, 1, 16, 17, 18, 19, 20, 21, 22, 23, 24, 25, 26, 27, 28, 29, 30, 31, 32, 33, 34, 35, 36, 37, 38, 39, 40, 41, 42, 43, 44, 45, 46, 47, 48] (by decide +kernel) (by decide +kernel)
set_option maxRecDepth 20000 in
theorem gX6_looks_X6_its : GoodIn wsX6_looks (wsV RX6 74 RX6 yX6_its wsX6_its) := goodIn_app (goodIn_of _ (by decide +kernel)) ggX6_looks_X6_its
theorem dX6_looks_0 : decode cX6_looks 0 = .ok (.iconst 0, 1) := by decide +kernel
theorem dX6_looks_1 : decode cX6_looks 1 = .ok (.istore_n 1, 1) := by decide +kernel
theorem dX6_looks_2 : decode cX6_looks 2 = .ok (.iconst 0, 1) := by decide +kernel
theorem dX6_looks_3 : decode cX6_looks 3 = .ok (.istore_n 2, 1) := by decide +kernel
theorem dX6_looks_4 : decode cX6_looks 4 = .ok (.aload_n 0, 1) := by decide +kernel
theorem dX6_looks_5 : decode cX6_looks 5 = .ok (.getfield 7, 3) := by decide +kernel
theorem dX6_looks_8 : decode cX6_looks 8 = .ok (.iconst 0, 1) := by decide +kernel
theorem dX6_looks_9 : decode cX6_looks 9 = .ok (.iaload, 1) := by decide +kernel
theorem dX6_looks_10 : decode cX6_looks 10 = .ok (.istore_n 3, 1) := by decide +kernel
theorem dX6_looks_11 : decode cX6_looks 11 = .ok (.iconst 0, 1) := by decide +kernel
theorem dX6_looks_12 : decode cX6_looks 12 = .ok (.istore 4, 2) := by decide +kernel
theorem dX6_looks_14 : decode cX6_looks 14 = .ok (.iload 4, 2) := by decide +kernel
theorem dX6_looks_16 : decode cX6_looks 16 = .ok (.iload_n 3, 1) := by decide +kernel
theorem dX6_looks_17 : decode cX6_looks 17 = .ok (.if_icmp .ge 103, 3) := by decide +kernel
theorem dX6_looks_20 : decode cX6_looks 20 = .ok (.aload_n 0, 1) := by decide +kernel
theorem dX6_looks_21 : decode cX6_looks 21 = .ok (.getfield 40, 3) := by decide +kernel
theorem dX6_looks_24 : decode cX6_looks 24 = .ok (.iload 4, 2) := by decide +kernel
theorem dX6_looks_26 : decode cX6_looks 26 = .ok (.iaload, 1) := by decide +kernel
theorem dX6_looks_27 : decode cX6_looks 27 = .ok (.istore 5, 2) := by decide +kernel
theorem dX6_looks_29 : decode cX6_looks 29 = .ok (.iload_n 1, 1) := by decide +kernel
theorem dX6_looks_30 : decode cX6_looks 30 = .ok (.bipush 8, 2) := by decide +kernel
theorem dX6_looks_32 : decode cX6_looks 32 = .ok (.aload_n 0, 1) := by decide +kernel
theorem dX6_looks_33 : decode cX6_looks 33 = .ok (.iload 5, 2) := by decide +kernel
theorem dX6_looks_35 : decode cX6_looks 35 = .ok (.iconst 4, 1) := by decide +kernel
theorem dX6_looks_36 : decode cX6_looks 36 = .ok (.invokevirtual 74, 3) := by decide +kernel
theorem dX6_looks_39 : decode cX6_looks 39 = .ok (.imul, 1) := by decide +kernel
theorem dX6_looks_40 : decode cX6_looks 40 = .ok (.if_icmp .ge 16, 3) := by decide +kernel
theorem dX6_looks_43 : decode cX6_looks 43 = .ok (.bipush 8, 2) := by decide +kernel
theorem dX6_looks_45 : decode cX6_looks 45 = .ok (.aload_n 0, 1) := by decide +kernel
theorem dX6_looks_46 : decode cX6_looks 46 = .ok (.iload 5, 2) := by decide +kernel
theorem dX6_looks_48 : decode cX6_looks 48 = .ok (.iconst 4, 1) := by decide +kernel
theorem dX6_looks_49 : decode cX6_looks 49 = .ok (.invokevirtual 74, 3) := by decide +kernel
theorem dX6_looks_52 : decode cX6_looks 52 = .ok (.imul, 1) := by decide +kernel
theorem dX6_looks_53 : decode cX6_looks 53 = .ok (.goto 4, 3) := by decide +kernel
theorem dX6_looks_56 : decode cX6_looks 56 = .ok (.iload_n 1, 1) := by decide +kernel
theorem dX6_looks_57 : decode cX6_looks 57 = .ok (.istore_n 1, 1) := by decide +kernel
theorem dX6_looks_58 : decode cX6_looks 58 = .ok (.iload_n 1, 1) := by decide +kernel
theorem dX6_looks_59 : decode cX6_looks 59 = .ok (.aload_n 0, 1) := by decide +kernel
theorem dX6_looks_60 : decode cX6_looks 60 = .ok (.getfield 37, 3) := by decide +kernel
theorem dX6_looks_63 : decode cX6_looks 63 = .ok (.iload 5, 2) := by decide +kernel
theorem dX6_looks_65 : decode cX6_looks 65 = .ok (.iaload, 1) := by decide +kernel
theorem dX6_looks_66 : decode cX6_looks 66 = .ok (.iadd, 1) := by decide +kernel
theorem dX6_looks_67 : decode cX6_looks 67 = .ok (.istore_n 1, 1) := by decide +kernel
theorem dX6_looks_68 : decode cX6_looks 68 = .ok (.aload_n 0, 1) := by decide +kernel
theorem dX6_looks_69 : decode cX6_looks 69 = .ok (.getfield 43, 3) := by decide +kernel
theorem dX6_looks_72 : decode cX6_looks 72 = .ok (.iload 5, 2) := by decide +kernel
theorem dX6_looks_74 : decode cX6_looks 74 = .ok (.iload_n 1, 1) := by decide +kernel
theorem dX6_looks_75 : decode cX6_looks 75 = .ok (.iconst 1, 1) := by decide +kernel
theorem dX6_looks_76 : decode cX6_looks 76 = .ok (.isub, 1) := by decide +kernel
theorem dX6_looks_77 : decode cX6_looks 77 = .ok (.bipush 8, 2) := by decide +kernel
theorem dX6_looks_79 : decode cX6_looks 79 = .ok (.idiv, 1) := by decide +kernel
theorem dX6_looks_80 : decode cX6_looks 80 = .ok (.iastore, 1) := by decide +kernel
theorem dX6_looks_81 : decode cX6_looks 81 = .ok (.aload_n 0, 1) := by decide +kernel
theorem dX6_looks_82 : decode cX6_looks 82 = .ok (.iload 5, 2) := by decide +kernel
theorem dX6_looks_84 : decode cX6_looks 84 = .ok (.iconst 5, 1) := by decide +kernel
theorem dX6_looks_85 : decode cX6_looks 85 = .ok (.invokevirtual 74, 3) := by decide +kernel
theorem dX6_looks_88 : decode cX6_looks 88 = .ok (.iconst 3, 1) := by decide +kernel
theorem dX6_looks_89 : decode cX6_looks 89 = .ok (.aload_n 0, 1) := by decide +kernel
theorem dX6_looks_90 : decode cX6_looks 90 = .ok (.getfield 43, 3) := by decide +kernel
theorem dX6_looks_93 : decode cX6_looks 93 = .ok (.iload 5, 2) := by decide +kernel
theorem dX6_looks_95 : decode cX6_looks 95 = .ok (.iaload, 1) := by decide +kernel
theorem dX6_looks_96 : decode cX6_looks 96 = .ok (.imul, 1) := by decide +kernel
theorem dX6_looks_97 : decode cX6_looks 97 = .ok (.isub, 1) := by decide +kernel
theorem dX6_looks_98 : decode cX6_looks 98 = .ok (.istore 6, 2) := by decide +kernel
theorem dX6_looks_100 : decode cX6_looks 100 = .ok (.iload_n 2, 1) := by decide +kernel
theorem dX6_looks_101 : decode cX6_looks 101 = .ok (.iload 6, 2) := by decide +kernel
theorem dX6_looks_103 : decode cX6_looks 103 = .ok (.ifCond .ge 7, 3) := by decide +kernel
theorem dX6_looks_106 : decode cX6_looks 106 = .ok (.iconst 0, 1) := by decide +kernel
theorem dX6_looks_107 : decode cX6_looks 107 = .ok (.goto 5, 3) := by decide +kernel
theorem dX6_looks_110 : decode cX6_looks 110 = .ok (.iload 6, 2) := by decide +kernel
theorem dX6_looks_112 : decode cX6_looks 112 = .ok (.iadd, 1) := by decide +kernel
theorem dX6_looks_113 : decode cX6_looks 113 = .ok (.istore_n 2, 1) := by decide +kernel
theorem dX6_looks_114 : decode cX6_looks 114 = .ok (.iinc 4 1, 3) := by decide +kernel
theorem dX6_looks_117 : decode cX6_looks 117 = .ok (.goto (-103), 3) := by decide +kernel
theorem dX6_looks_120 : decode cX6_looks 120 = .ok (.aload_n 0, 1) := by decide +kernel
theorem dX6_looks_121 : decode cX6_looks 121 = .ok (.getfield 43, 3) := by decide +kernel
theorem dX6_looks_124 : decode cX6_looks 124 = .ok (.aload_n 0, 1) := by decide +kernel
theorem dX6_looks_125 : decode cX6_looks 125 = .ok (.getfield 40, 3) := by decide +kernel
theorem dX6_looks_128 : decode cX6_looks 128 = .ok (.iload_n 3, 1) := by decide +kernel
theorem dX6_looks_129 : decode cX6_looks 129 = .ok (.iconst 1, 1) := by decide +kernel
theorem dX6_looks_130 : decode cX6_looks 130 = .ok (.isub, 1) := by decide +kernel
theorem dX6_looks_131 : decode cX6_looks 131 = .ok (.iaload, 1) := by decide +kernel
theorem dX6_looks_132 : decode cX6_looks 132 = .ok (.iaload, 1) := by decide +kernel
theorem dX6_looks_133 : decode cX6_looks 133 = .ok (.istore 4, 2) := by decide +kernel
theorem dX6_looks_135 : decode cX6_looks 135 = .ok (.aload_n 0, 1) := by decide +kernel
theorem dX6_looks_136 : decode cX6_looks 136 = .ok (.dup, 1) := by decide +kernel
theorem dX6_looks_137 : decode cX6_looks 137 = .ok (.getfield 193, 3) := by decide +kernel
theorem dX6_looks_140 : decode cX6_looks 140 = .ok (.iconst 1, 1) := by decide +kernel
theorem dX6_looks_141 : decode cX6_looks 141 = .ok (.iadd, 1) := by decide +kernel
theorem dX6_looks_142 : decode cX6_looks 142 = .ok (.putfield 193, 3) := by decide +kernel
theorem dX6_looks_145 : decode cX6_looks 145 = .ok (.aload_n 0, 1) := by decide +kernel
theorem dX6_looks_146 : decode cX6_looks 146 = .ok (.iload_n 2, 1) := by decide +kernel
theorem dX6_looks_147 : decode cX6_looks 147 = .ok (.aload_n 0, 1) := by decide +kernel
theorem dX6_looks_148 : decode cX6_looks 148 = .ok (.getfield 196, 3) := by decide +kernel
theorem dX6_looks_151 : decode cX6_looks 151 = .ok (.if_icmp .le 7, 3) := by decide +kernel
theorem dX6_looks_154 : decode cX6_looks 154 = .ok (.iload_n 2, 1) := by decide +kernel
theorem dX6_looks_155 : decode cX6_looks 155 = .ok (.goto 7, 3) := by decide +kernel
theorem dX6_looks_158 : decode cX6_looks 158 = .ok (.aload_n 0, 1) := by decide +kernel
theorem dX6_looks_159 : decode cX6_looks 159 = .ok (.getfield 196, 3) := by decide +kernel
theorem dX6_looks_162 : decode cX6_looks 162 = .ok (.putfield 196, 3) := by decide +kernel
theorem dX6_looks_165 : decode cX6_looks 165 = .ok (.aload_n 0, 1) := by decide +kernel
theorem dX6_looks_166 : decode cX6_looks 166 = .ok (.getfield 199, 3) := by decide +kernel
theorem dX6_looks_169 : decode cX6_looks 169 = .ok (.ifCond .lt 12, 3) := by decide +kernel
theorem dX6_looks_172 : decode cX6_looks 172 = .ok (.iload 4, 2) := by decide +kernel
theorem dX6_looks_174 : decode cX6_looks 174 = .ok (.aload_n 0, 1) := by decide +kernel
theorem dX6_looks_175 : decode cX6_looks 175 = .ok (.getfield 199, 3) := by decide +kernel
theorem dX6_looks_178 : decode cX6_looks 178 = .ok (.if_icmp .ge 57, 3) := by decide +kernel
theorem dX6_looks_181 : decode cX6_looks 181 = .ok (.aload_n 0, 1) := by decide +kernel
theorem dX6_looks_182 : decode cX6_looks 182 = .ok (.iload 4, 2) := by decide +kernel
theorem dX6_looks_184 : decode cX6_looks 184 = .ok (.putfield 199, 3) := by decide +kernel
theorem dX6_looks_187 : decode cX6_looks 187 = .ok (.aload_n 0, 1) := by decide +kernel
theorem dX6_looks_188 : decode cX6_looks 188 = .ok (.iload_n 2, 1) := by decide +kernel
theorem dX6_looks_189 : decode cX6_looks 189 = .ok (.putfield 202, 3) := by decide +kernel
theorem dX6_looks_192 : decode cX6_looks 192 = .ok (.iconst 0, 1) := by decide +kernel
theorem dX6_looks_193 : decode cX6_looks 193 = .ok (.istore 5, 2) := by decide +kernel
theorem dX6_looks_195 : decode cX6_looks 195 = .ok (.iload 5, 2) := by decide +kernel
theorem dX6_looks_197 : decode cX6_looks 197 = .ok (.iload_n 3, 1) := by decide +kernel
theorem dX6_looks_198 : decode cX6_looks 198 = .ok (.if_icmp .ge 37, 3) := by decide +kernel
theorem dX6_looks_201 : decode cX6_looks 201 = .ok (.aload_n 0, 1) := by decide +kernel
theorem dX6_looks_202 : decode cX6_looks 202 = .ok (.getfield 46, 3) := by decide +kernel
theorem dX6_looks_205 : decode cX6_looks 205 = .ok (.iload 5, 2) := by decide +kernel
theorem dX6_looks_207 : decode cX6_looks 207 = .ok (.aload_n 0, 1) := by decide +kernel
theorem dX6_looks_208 : decode cX6_looks 208 = .ok (.getfield 40, 3) := by decide +kernel
theorem dX6_looks_211 : decode cX6_looks 211 = .ok (.iload 5, 2) := by decide +kernel
theorem dX6_looks_213 : decode cX6_looks 213 = .ok (.iaload, 1) := by decide +kernel
theorem dX6_looks_214 : decode cX6_looks 214 = .ok (.iastore, 1) := by decide +kernel
theorem dX6_looks_215 : decode cX6_looks 215 = .ok (.aload_n 0, 1) := by decide +kernel
theorem dX6_looks_216 : decode cX6_looks 216 = .ok (.getfield 49, 3) := by decide +kernel
theorem dX6_looks_219 : decode cX6_looks 219 = .ok (.iload 5, 2) := by decide +kernel
theorem dX6_looks_221 : decode cX6_looks 221 = .ok (.aload_n 0, 1) := by decide +kernel
theorem dX6_looks_222 : decode cX6_looks 222 = .ok (.getfield 43, 3) := by decide +kernel
theorem dX6_looks_225 : decode cX6_looks 225 = .ok (.iload 5, 2) := by decide +kernel
theorem dX6_looks_227 : decode cX6_looks 227 = .ok (.iaload, 1) := by decide +kernel
theorem dX6_looks_228 : decode cX6_looks 228 = .ok (.iastore, 1) := by decide +kernel
theorem dX6_looks_229 : decode cX6_looks 229 = .ok (.iinc 5 1, 3) := by decide +kernel
theorem dX6_looks_232 : decode cX6_looks 232 = .ok (.goto (-37), 3) := by decide +kernel
theorem dX6_looks_235 : decode cX6_looks 235 = .ok (.return_, 1) := by decide +kernel
set_option maxRecDepth 20000 in
theorem ggX6_mayStand_X6_has : GoodIn wsX6_mayStand wsX6_has := goodIn_r _ [6] (by decide +kernel) (by decide +kernel)
set_option maxRecDepth 20000 in
theorem gX6_mayStand_X6_has : GoodIn wsX6_mayStand (va_wsS RX6 90 yX6_has wsX6_has) := goodIn_app (goodIn_of _ (by decide +kernel)) ggX6_mayStand_X6_has
theorem dX6_mayStand_0 : decode cX6_mayStand 0 = .ok (.iload_n 1, 1) := by decide +kernel
theorem dX6_mayStand_1 : decode cX6_mayStand 1 = .ok (.ifCond .eq 31, 3) := by decide +kernel
theorem dX6_mayStand_4 : decode cX6_mayStand 4 = .ok (.aload_n 0, 1) := by decide +kernel
theorem dX6_mayStand_5 : decode cX6_mayStand 5 = .ok (.getfield 7, 3) := by decide +kernel
theorem dX6_mayStand_8 : decode cX6_mayStand 8 = .ok (.bipush 38, 2) := by decide +kernel
theorem dX6_mayStand_10 : decode cX6_mayStand 10 = .ok (.aload_n 0, 1) := by decide +kernel
theorem dX6_mayStand_11 : decode cX6_mayStand 11 = .ok (.getfield 40, 3) := by decide +kernel
theorem dX6_mayStand_14 : decode cX6_mayStand 14 = .ok (.iload_n 1, 1) := by decide +kernel
theorem dX6_mayStand_15 : decode cX6_mayStand 15 = .ok (.iconst 1, 1) := by decide +kernel
theorem dX6_mayStand_16 : decode cX6_mayStand 16 = .ok (.isub, 1) := by decide +kernel
theorem dX6_mayStand_17 : decode cX6_mayStand 17 = .ok (.iaload, 1) := by decide +kernel
theorem dX6_mayStand_18 : decode cX6_mayStand 18 = .ok (.iadd, 1) := by decide +kernel
theorem dX6_mayStand_19 : decode cX6_mayStand 19 = .ok (.iaload, 1) := by decide +kernel
theorem dX6_mayStand_20 : decode cX6_mayStand 20 = .ok (.aload_n 0, 1) := by decide +kernel
theorem dX6_mayStand_21 : decode cX6_mayStand 21 = .ok (.getfield 40, 3) := by decide +kernel
theorem dX6_mayStand_24 : decode cX6_mayStand 24 = .ok (.iload_n 1, 1) := by decide +kernel
theorem dX6_mayStand_25 : decode cX6_mayStand 25 = .ok (.iaload, 1) := by decide +kernel
theorem dX6_mayStand_26 : decode cX6_mayStand 26 = .ok (.invokestatic 90, 3) := by decide +kernel
theorem dX6_mayStand_29 : decode cX6_mayStand 29 = .ok (.ifCond .eq 7, 3) := by decide +kernel
theorem dX6_mayStand_32 : decode cX6_mayStand 32 = .ok (.iconst 1, 1) := by decide +kernel
theorem dX6_mayStand_33 : decode cX6_mayStand 33 = .ok (.goto 4, 3) := by decide +kernel
theorem dX6_mayStand_36 : decode cX6_mayStand 36 = .ok (.iconst 0, 1) := by decide +kernel
theorem dX6_mayStand_37 : decode cX6_mayStand 37 = .ok (.istore_n 2, 1) := by decide +kernel
theorem dX6_mayStand_38 : decode cX6_mayStand 38 = .ok (.iconst 0, 1) := by decide +kernel
theorem dX6_mayStand_39 : decode cX6_mayStand 39 = .ok (.istore_n 3, 1) := by decide +kernel
theorem dX6_mayStand_40 : decode cX6_mayStand 40 = .ok (.iload_n 3, 1) := by decide +kernel
theorem dX6_mayStand_41 : decode cX6_mayStand 41 = .ok (.iload_n 1, 1) := by decide +kernel
theorem dX6_mayStand_42 : decode cX6_mayStand 42 = .ok (.if_icmp .ge 34, 3) := by decide +kernel
theorem dX6_mayStand_45 : decode cX6_mayStand 45 = .ok (.iload_n 2, 1) := by decide +kernel
theorem dX6_mayStand_46 : decode cX6_mayStand 46 = .ok (.ifCond .eq 22, 3) := by decide +kernel
theorem dX6_mayStand_49 : decode cX6_mayStand 49 = .ok (.aload_n 0, 1) := by decide +kernel
theorem dX6_mayStand_50 : decode cX6_mayStand 50 = .ok (.getfield 40, 3) := by decide +kernel
theorem dX6_mayStand_53 : decode cX6_mayStand 53 = .ok (.iload_n 3, 1) := by decide +kernel
theorem dX6_mayStand_54 : decode cX6_mayStand 54 = .ok (.iaload, 1) := by decide +kernel
theorem dX6_mayStand_55 : decode cX6_mayStand 55 = .ok (.aload_n 0, 1) := by decide +kernel
theorem dX6_mayStand_56 : decode cX6_mayStand 56 = .ok (.getfield 40, 3) := by decide +kernel
theorem dX6_mayStand_59 : decode cX6_mayStand 59 = .ok (.iload_n 1, 1) := by decide +kernel
theorem dX6_mayStand_60 : decode cX6_mayStand 60 = .ok (.iaload, 1) := by decide +kernel
theorem dX6_mayStand_61 : decode cX6_mayStand 61 = .ok (.if_icmp .eq 7, 3) := by decide +kernel
theorem dX6_mayStand_64 : decode cX6_mayStand 64 = .ok (.iconst 1, 1) := by decide +kernel
theorem dX6_mayStand_65 : decode cX6_mayStand 65 = .ok (.goto 4, 3) := by decide +kernel
theorem dX6_mayStand_68 : decode cX6_mayStand 68 = .ok (.iconst 0, 1) := by decide +kernel
theorem dX6_mayStand_69 : decode cX6_mayStand 69 = .ok (.istore_n 2, 1) := by decide +kernel
theorem dX6_mayStand_70 : decode cX6_mayStand 70 = .ok (.iinc 3 1, 3) := by decide +kernel
theorem dX6_mayStand_73 : decode cX6_mayStand 73 = .ok (.goto (-33), 3) := by decide +kernel
theorem dX6_mayStand_76 : decode cX6_mayStand 76 = .ok (.iload_n 2, 1) := by decide +kernel
theorem dX6_mayStand_77 : decode cX6_mayStand 77 = .ok (.ireturn, 1) := by decide +kernel
set_option maxRecDepth 20000 in
theorem ggX6_findLines_X6_mayStand : GoodIn wsX6_findLines wsX6_mayStand := goodIn_r _ [12, 5, 7, 13, 14, 11, 15, 27, 28, 29, 30, 31, 32, 33, 34, 35, 36, 37, 38, 39, 40, 41, 42, 43, 44, 45, 46, 47, 48, 49, 50, 51, 52, 53, 54, 55, 56, 57, 58, 59] (by decide +kernel) (by decide +kernel)
set_option maxRecDepth 20000 in
theorem gX6_findLines_X6_mayStand : GoodIn wsX6_findLines (wsV RX6 205 RX6 yX6_mayStand wsX6_mayStand) := goodIn_app (goodIn_of _ (by decide +kernel)) ggX6_findLines_X6_mayStand
set_option maxRecDepth 20000 in
theorem ggX6_findLines_X6_looks : GoodIn wsX6_findLines wsX6_looks := goodIn_r _ [19, 5, 7, 6, 20, 1, 4, 2, 3, 21, 22, 23, 24, 25, 11, 26, 27, 28, 29, 30, 31, 32, 33, 34, 35, 36, 37, 38, 39, 40, 41, 42, 43, 44, 45, 46, 47, 48, 49, 50, 51, 52, 53, 54, 55, 56, 57, 58, 59] (by decide +kernel) (by decide +kernel)
set_option maxRecDepth 20000 in
theorem gX6_findLines_X6_looks : GoodIn wsX6_findLines (wsV RX6 208 RX6 yX6_looks wsX6_looks) := goodIn_app (goodIn_of _ (by decide +kernel)) ggX6_findLines_X6_looks
theorem dX6_findLines_0 : decode cX6_findLines 0 = .ok (.aload_n 0, 1) := by decide +kernel
theorem dX6_findLines_1 : decode cX6_findLines 1 = .ok (.iconst 0, 1) := by decide +kernel
theorem dX6_findLines_2 : decode cX6_findLines 2 = .ok (.putfield 193, 3) := by decide +kernel
theorem dX6_findLines_5 : decode cX6_findLines 5 = .ok (.aload_n 0, 1) := by decide +kernel
theorem dX6_findLines_6 : decode cX6_findLines 6 = .ok (.iconst (-1), 1) := by decide +kernel
theorem dX6_findLines_7 : decode cX6_findLines 7 = .ok (.putfield 199, 3) := by decide +kernel
theorem dX6_findLines_10 : decode cX6_findLines 10 = .ok (.aload_n 0, 1) := by decide +kernel
theorem dX6_findLines_11 : decode cX6_findLines 11 = .ok (.iconst 0, 1) := by decide +kernel
theorem dX6_findLines_12 : decode cX6_findLines 12 = .ok (.putfield 202, 3) := by decide +kernel
theorem dX6_findLines_15 : decode cX6_findLines 15 = .ok (.aload_n 0, 1) := by decide +kernel
theorem dX6_findLines_16 : decode cX6_findLines 16 = .ok (.iconst (-1), 1) := by decide +kernel
theorem dX6_findLines_17 : decode cX6_findLines 17 = .ok (.putfield 196, 3) := by decide +kernel
theorem dX6_findLines_20 : decode cX6_findLines 20 = .ok (.aload_n 0, 1) := by decide +kernel
theorem dX6_findLines_21 : decode cX6_findLines 21 = .ok (.getfield 7, 3) := by decide +kernel
theorem dX6_findLines_24 : decode cX6_findLines 24 = .ok (.iconst 0, 1) := by decide +kernel
theorem dX6_findLines_25 : decode cX6_findLines 25 = .ok (.iaload, 1) := by decide +kernel
theorem dX6_findLines_26 : decode cX6_findLines 26 = .ok (.istore_n 1, 1) := by decide +kernel
theorem dX6_findLines_27 : decode cX6_findLines 27 = .ok (.iload_n 1, 1) := by decide +kernel
theorem dX6_findLines_28 : decode cX6_findLines 28 = .ok (.ifCond .le 7, 3) := by decide +kernel
theorem dX6_findLines_31 : decode cX6_findLines 31 = .ok (.iconst 1, 1) := by decide +kernel
theorem dX6_findLines_32 : decode cX6_findLines 32 = .ok (.goto 4, 3) := by decide +kernel
theorem dX6_findLines_35 : decode cX6_findLines 35 = .ok (.iconst 0, 1) := by decide +kernel
theorem dX6_findLines_36 : decode cX6_findLines 36 = .ok (.istore_n 2, 1) := by decide +kernel
theorem dX6_findLines_37 : decode cX6_findLines 37 = .ok (.iconst 0, 1) := by decide +kernel
theorem dX6_findLines_38 : decode cX6_findLines 38 = .ok (.istore_n 3, 1) := by decide +kernel
theorem dX6_findLines_39 : decode cX6_findLines 39 = .ok (.iload_n 3, 1) := by decide +kernel
theorem dX6_findLines_40 : decode cX6_findLines 40 = .ok (.iload_n 1, 1) := by decide +kernel
theorem dX6_findLines_41 : decode cX6_findLines 41 = .ok (.if_icmp .ge 28, 3) := by decide +kernel
theorem dX6_findLines_44 : decode cX6_findLines 44 = .ok (.iload_n 2, 1) := by decide +kernel
theorem dX6_findLines_45 : decode cX6_findLines 45 = .ok (.ifCond .eq 16, 3) := by decide +kernel
theorem dX6_findLines_48 : decode cX6_findLines 48 = .ok (.aload_n 0, 1) := by decide +kernel
theorem dX6_findLines_49 : decode cX6_findLines 49 = .ok (.getfield 37, 3) := by decide +kernel
theorem dX6_findLines_52 : decode cX6_findLines 52 = .ok (.iload_n 3, 1) := by decide +kernel
theorem dX6_findLines_53 : decode cX6_findLines 53 = .ok (.iaload, 1) := by decide +kernel
theorem dX6_findLines_54 : decode cX6_findLines 54 = .ok (.ifCond .lt 7, 3) := by decide +kernel
theorem dX6_findLines_57 : decode cX6_findLines 57 = .ok (.iconst 1, 1) := by decide +kernel
theorem dX6_findLines_58 : decode cX6_findLines 58 = .ok (.goto 4, 3) := by decide +kernel
theorem dX6_findLines_61 : decode cX6_findLines 61 = .ok (.iconst 0, 1) := by decide +kernel
theorem dX6_findLines_62 : decode cX6_findLines 62 = .ok (.istore_n 2, 1) := by decide +kernel
theorem dX6_findLines_63 : decode cX6_findLines 63 = .ok (.iinc 3 1, 3) := by decide +kernel
theorem dX6_findLines_66 : decode cX6_findLines 66 = .ok (.goto (-27), 3) := by decide +kernel
theorem dX6_findLines_69 : decode cX6_findLines 69 = .ok (.iconst 0, 1) := by decide +kernel
theorem dX6_findLines_70 : decode cX6_findLines 70 = .ok (.istore_n 3, 1) := by decide +kernel
theorem dX6_findLines_71 : decode cX6_findLines 71 = .ok (.aload_n 0, 1) := by decide +kernel
theorem dX6_findLines_72 : decode cX6_findLines 72 = .ok (.getfield 40, 3) := by decide +kernel
theorem dX6_findLines_75 : decode cX6_findLines 75 = .ok (.iconst 0, 1) := by decide +kernel
theorem dX6_findLines_76 : decode cX6_findLines 76 = .ok (.iconst (-1), 1) := by decide +kernel
theorem dX6_findLines_77 : decode cX6_findLines 77 = .ok (.iastore, 1) := by decide +kernel
theorem dX6_findLines_78 : decode cX6_findLines 78 = .ok (.iload_n 2, 1) := by decide +kernel
theorem dX6_findLines_79 : decode cX6_findLines 79 = .ok (.ifCond .eq 68, 3) := by decide +kernel
theorem dX6_findLines_82 : decode cX6_findLines 82 = .ok (.iload_n 3, 1) := by decide +kernel
theorem dX6_findLines_83 : decode cX6_findLines 83 = .ok (.ifCond .lt 64, 3) := by decide +kernel
theorem dX6_findLines_86 : decode cX6_findLines 86 = .ok (.aload_n 0, 1) := by decide +kernel
theorem dX6_findLines_87 : decode cX6_findLines 87 = .ok (.getfield 40, 3) := by decide +kernel
theorem dX6_findLines_90 : decode cX6_findLines 90 = .ok (.iload_n 3, 1) := by decide +kernel
theorem dX6_findLines_91 : decode cX6_findLines 91 = .ok (.dup2, 1) := by decide +kernel
theorem dX6_findLines_92 : decode cX6_findLines 92 = .ok (.iaload, 1) := by decide +kernel
theorem dX6_findLines_93 : decode cX6_findLines 93 = .ok (.iconst 1, 1) := by decide +kernel
theorem dX6_findLines_94 : decode cX6_findLines 94 = .ok (.iadd, 1) := by decide +kernel
theorem dX6_findLines_95 : decode cX6_findLines 95 = .ok (.iastore, 1) := by decide +kernel
theorem dX6_findLines_96 : decode cX6_findLines 96 = .ok (.aload_n 0, 1) := by decide +kernel
theorem dX6_findLines_97 : decode cX6_findLines 97 = .ok (.getfield 40, 3) := by decide +kernel
theorem dX6_findLines_100 : decode cX6_findLines 100 = .ok (.iload_n 3, 1) := by decide +kernel
theorem dX6_findLines_101 : decode cX6_findLines 101 = .ok (.iaload, 1) := by decide +kernel
theorem dX6_findLines_102 : decode cX6_findLines 102 = .ok (.iload_n 1, 1) := by decide +kernel
theorem dX6_findLines_103 : decode cX6_findLines 103 = .ok (.if_icmp .ne 9, 3) := by decide +kernel
theorem dX6_findLines_106 : decode cX6_findLines 106 = .ok (.iinc 3 (-1), 3) := by decide +kernel
theorem dX6_findLines_109 : decode cX6_findLines 109 = .ok (.goto (-31), 3) := by decide +kernel
theorem dX6_findLines_112 : decode cX6_findLines 112 = .ok (.aload_n 0, 1) := by decide +kernel
theorem dX6_findLines_113 : decode cX6_findLines 113 = .ok (.iload_n 3, 1) := by decide +kernel
theorem dX6_findLines_114 : decode cX6_findLines 114 = .ok (.invokevirtual 205, 3) := by decide +kernel
theorem dX6_findLines_117 : decode cX6_findLines 117 = .ok (.ifCond .eq (-39), 3) := by decide +kernel
theorem dX6_findLines_120 : decode cX6_findLines 120 = .ok (.iload_n 3, 1) := by decide +kernel
theorem dX6_findLines_121 : decode cX6_findLines 121 = .ok (.iload_n 1, 1) := by decide +kernel
theorem dX6_findLines_122 : decode cX6_findLines 122 = .ok (.iconst 1, 1) := by decide +kernel
theorem dX6_findLines_123 : decode cX6_findLines 123 = .ok (.isub, 1) := by decide +kernel
theorem dX6_findLines_124 : decode cX6_findLines 124 = .ok (.if_icmp .ne 10, 3) := by decide +kernel
theorem dX6_findLines_127 : decode cX6_findLines 127 = .ok (.aload_n 0, 1) := by decide +kernel
theorem dX6_findLines_128 : decode cX6_findLines 128 = .ok (.invokevirtual 208, 3) := by decide +kernel
theorem dX6_findLines_131 : decode cX6_findLines 131 = .ok (.goto (-53), 3) := by decide +kernel
theorem dX6_findLines_134 : decode cX6_findLines 134 = .ok (.iinc 3 1, 3) := by decide +kernel
theorem dX6_findLines_137 : decode cX6_findLines 137 = .ok (.aload_n 0, 1) := by decide +kernel
theorem dX6_findLines_138 : decode cX6_findLines 138 = .ok (.getfield 40, 3) := by decide +kernel
theorem dX6_findLines_141 : decode cX6_findLines 141 = .ok (.iload_n 3, 1) := by decide +kernel
theorem dX6_findLines_142 : decode cX6_findLines 142 = .ok (.iconst (-1), 1) := by decide +kernel
theorem dX6_findLines_143 : decode cX6_findLines 143 = .ok (.iastore, 1) := by decide +kernel
theorem dX6_findLines_144 : decode cX6_findLines 144 = .ok (.goto (-66), 3) := by decide +kernel
theorem dX6_findLines_147 : decode cX6_findLines 147 = .ok (.return_, 1) := by decide +kernel
set_option maxRecDepth 20000 in
theorem ggX6_lines_X6_isTeam : GoodIn wsX6_lines wsX6_isTeam := goodIn_r _ [7, 8, 9, 10, 6, 11, 111, 112, 113, 114, 115, 116, 117, 118, 119, 120, 121, 122, 123, 124, 125, 126, 127, 128, 129, 130, 131, 132, 133, 134, 135, 136, 137, 138, 139, 140, 141, 142, 143] (by decide +kernel) (by decide +kernel)
set_option maxRecDepth 20000 in
theorem gX6_lines_X6_isTeam : GoodIn wsX6_lines (wsV RX6 122 RX6 yX6_isTeam wsX6_isTeam) := goodIn_app (goodIn_of _ (by decide +kernel)) ggX6_lines_X6_isTeam
set_option maxRecDepth 20000 in
theorem ggX6_lines_X6_finds : GoodIn wsX6_lines wsX6_finds := goodIn_r _ [15, 16, 1, 111, 112, 113, 114, 115, 116, 117, 118, 119, 120, 121, 122, 123, 124, 125, 126, 127, 128, 129, 130, 131, 132, 133, 134, 135, 136, 137, 138, 139, 140, 141, 142, 143] (by decide +kernel) (by decide +kernel)
set_option maxRecDepth 20000 in
theorem gX6_lines_X6_finds : GoodIn wsX6_lines (wsV RX6 79 RX6 yX6_finds wsX6_finds) := goodIn_app (goodIn_of _ (by decide +kernel)) ggX6_lines_X6_finds
set_option maxRecDepth 20000 in
theorem ggX6_lines_X6_findCosts : GoodIn wsX6_lines wsX6_findCosts := goodIn_r _ [20, 8, 21, 22, 23, 24, 6, 25, 26, 27, 28, 29, 30, 31, 32, 33, 34, 35, 36, 37, 38, 39, 40, 41, 42, 43, 44, 45, 46, 47, 48, 49, 50, 51, 52, 53, 54, 55, 56, 57, 58, 59, 60, 61, 62, 63, 64, 65, 66, 67, 68, 69, 70, 71, 72, 73, 74, 75, 76, 77, 78, 79, 80, 81, 82, 83, 84, 85, 86, 87, 88, 89, 90, 91, 111, 112, 113, 114, 115, 116, 117, 118, 119, 120, 121, 122, 123, 124, 125, 126, 127, 128, 129, 130, 131, 132, 133, 134, 135, 136, 137, 138, 139, 140, 141, 142, 143] (by decide +kernel) (by decide +kernel)
set_option maxRecDepth 20000 in
theorem gX6_lines_X6_findCosts : GoodIn wsX6_lines (wsV RX6 211 RX6 yX6_findCosts wsX6_findCosts) := goodIn_app (goodIn_of _ (by decide +kernel)) ggX6_lines_X6_findCosts
set_option maxRecDepth 20000 in
theorem ggX6_lines_X6_findLines : GoodIn wsX6_lines wsX6_findLines := goodIn_r _ [95, 2, 96, 97, 98, 8, 21, 99, 100, 101, 102, 6, 103, 47, 48, 49, 104, 105, 106, 107, 108, 109, 110, 38, 39, 40, 41, 111, 112, 113, 114, 115, 116, 117, 118, 119, 120, 121, 122, 123, 124, 125, 126, 127, 128, 129, 130, 131, 132, 133, 134, 135, 136, 137, 138, 139, 140, 141, 142, 143] (by decide +kernel) (by decide +kernel)
set_option maxRecDepth 20000 in
theorem gX6_lines_X6_findLines : GoodIn wsX6_lines (wsV RX6 215 RX6 yX6_findLines wsX6_findLines) := goodIn_app (goodIn_of _ (by decide +kernel)) ggX6_lines_X6_findLines
theorem dX6_lines_0 : decode cX6_lines 0 = .ok (.aload_n 0, 1) := by decide +kernel
theorem dX6_lines_1 : decode cX6_lines 1 = .ok (.iload_n 1, 1) := by decide +kernel
theorem dX6_lines_2 : decode cX6_lines 2 = .ok (.invokevirtual 122, 3) := by decide +kernel
theorem dX6_lines_5 : decode cX6_lines 5 = .ok (.ifCond .ne 10, 3) := by decide +kernel
theorem dX6_lines_8 : decode cX6_lines 8 = .ok (.aload_n 0, 1) := by decide +kernel
theorem dX6_lines_9 : decode cX6_lines 9 = .ok (.ldc 68, 2) := by decide +kernel
theorem dX6_lines_11 : decode cX6_lines 11 = .ok (.invokevirtual 79, 3) := by decide +kernel
theorem dX6_lines_14 : decode cX6_lines 14 = .ok (.ireturn, 1) := by decide +kernel
theorem dX6_lines_15 : decode cX6_lines 15 = .ok (.aload_n 0, 1) := by decide +kernel
theorem dX6_lines_16 : decode cX6_lines 16 = .ok (.iload_n 1, 1) := by decide +kernel
theorem dX6_lines_17 : decode cX6_lines 17 = .ok (.invokevirtual 211, 3) := by decide +kernel
theorem dX6_lines_20 : decode cX6_lines 20 = .ok (.aload_n 0, 1) := by decide +kernel
theorem dX6_lines_21 : decode cX6_lines 21 = .ok (.invokevirtual 215, 3) := by decide +kernel
theorem dX6_lines_24 : decode cX6_lines 24 = .ok (.aload_n 0, 1) := by decide +kernel
theorem dX6_lines_25 : decode cX6_lines 25 = .ok (.getfield 193, 3) := by decide +kernel
theorem dX6_lines_28 : decode cX6_lines 28 = .ok (.ireturn, 1) := by decide +kernel
set_option maxRecDepth 20000 in
theorem ggX6_late_X6_isTeam : GoodIn wsX6_late wsX6_isTeam := goodIn_r _ [13, 5, 14, 15, 12, 16, 114, 115, 116, 117, 118, 119, 120, 121, 122, 123, 124, 125, 126, 127, 128, 129, 130, 131, 132, 133, 134, 135, 136, 137, 138, 139, 140, 141, 142, 143, 144, 145, 146] (by decide +kernel) (by decide +kernel)
set_option maxRecDepth 20000 in
theorem gX6_late_X6_isTeam : GoodIn wsX6_late (wsV RX6 122 RX6 yX6_isTeam wsX6_isTeam) := goodIn_app (goodIn_of _ (by decide +kernel)) ggX6_late_X6_isTeam
set_option maxRecDepth 20000 in
theorem ggX6_late_X6_in : GoodIn wsX6_late wsX6_in := goodIn_r _ [16] (by decide +kernel) (by decide +kernel)
set_option maxRecDepth 20000 in
theorem gX6_late_X6_in : GoodIn wsX6_late (va_wsS RX6 69 yX6_in wsX6_in) := goodIn_app (goodIn_of _ (by decide +kernel)) ggX6_late_X6_in
set_option maxRecDepth 20000 in
theorem ggX6_late_X6_finds : GoodIn wsX6_late wsX6_finds := goodIn_r _ [20, 21, 3, 114, 115, 116, 117, 118, 119, 120, 121, 122, 123, 124, 125, 126, 127, 128, 129, 130, 131, 132, 133, 134, 135, 136, 137, 138, 139, 140, 141, 142, 143, 144, 145, 146] (by decide +kernel) (by decide +kernel)
set_option maxRecDepth 20000 in
theorem gX6_late_X6_finds : GoodIn wsX6_late (wsV RX6 79 RX6 yX6_finds wsX6_finds) := goodIn_app (goodIn_of _ (by decide +kernel)) ggX6_late_X6_finds
set_option maxRecDepth 20000 in
theorem ggX6_late_X6_findCosts : GoodIn wsX6_late wsX6_findCosts := goodIn_r _ [25, 5, 26, 27, 28, 29, 12, 30, 31, 32, 33, 34, 35, 36, 37, 38, 39, 40, 41, 42, 43, 44, 45, 46, 47, 48, 49, 50, 51, 52, 53, 54, 55, 56, 57, 58, 59, 60, 61, 62, 63, 64, 65, 66, 67, 68, 69, 70, 71, 72, 73, 74, 75, 76, 77, 78, 79, 80, 81, 82, 83, 84, 85, 86, 87, 88, 89, 90, 91, 92, 93, 94, 95, 96, 114, 115, 116, 117, 118, 119, 120, 121, 122, 123, 124, 125, 126, 127, 128, 129, 130, 131, 132, 133, 134, 135, 136, 137, 138, 139, 140, 141, 142, 143, 144, 145, 146] (by decide +kernel) (by decide +kernel)
set_option maxRecDepth 20000 in
theorem gX6_late_X6_findCosts : GoodIn wsX6_late (wsV RX6 211 RX6 yX6_findCosts wsX6_findCosts) := goodIn_app (goodIn_of _ (by decide +kernel)) ggX6_late_X6_findCosts
set_option maxRecDepth 20000 in
theorem ggX6_late_X6_findLines : GoodIn wsX6_late wsX6_findLines := goodIn_r _ [100, 101, 4, 7, 102, 5, 26, 103, 104, 105, 106, 12, 107, 52, 53, 54, 108, 109, 110, 111, 112, 8, 113, 43, 44, 45, 46, 114, 115, 116, 117, 118, 119, 120, 121, 122, 123, 124, 125, 126, 127, 128, 129, 130, 131, 132, 133, 134, 135, 136, 137, 138, 139, 140, 141, 142, 143, 144, 145, 146] (by decide +kernel) (by decide +kernel)
set_option maxRecDepth 20000 in
theorem gX6_late_X6_findLines : GoodIn wsX6_late (wsV RX6 215 RX6 yX6_findLines wsX6_findLines) := goodIn_app (goodIn_of _ (by decide +kernel)) ggX6_late_X6_findLines
theorem dX6_late_0 : decode cX6_late 0 = .ok (.aload_n 0, 1) := by decide +kernel
theorem dX6_late_1 : decode cX6_late 1 = .ok (.iload_n 1, 1) := by decide +kernel
theorem dX6_late_2 : decode cX6_late 2 = .ok (.invokevirtual 122, 3) := by decide +kernel
theorem dX6_late_5 : decode cX6_late 5 = .ok (.ifCond .eq 17, 3) := by decide +kernel
theorem dX6_late_8 : decode cX6_late 8 = .ok (.iload_n 2, 1) := by decide +kernel
theorem dX6_late_9 : decode cX6_late 9 = .ok (.i2l, 1) := by decide +kernel
theorem dX6_late_10 : decode cX6_late 10 = .ok (.ldc2_w 183, 3) := by decide +kernel
theorem dX6_late_13 : decode cX6_late 13 = .ok (.ldc2_w 106, 3) := by decide +kernel
theorem dX6_late_16 : decode cX6_late 16 = .ok (.invokestatic 69, 3) := by decide +kernel
theorem dX6_late_19 : decode cX6_late 19 = .ok (.ifCond .ne 10, 3) := by decide +kernel
theorem dX6_late_22 : decode cX6_late 22 = .ok (.aload_n 0, 1) := by decide +kernel
theorem dX6_late_23 : decode cX6_late 23 = .ok (.ldc 68, 2) := by decide +kernel
theorem dX6_late_25 : decode cX6_late 25 = .ok (.invokevirtual 79, 3) := by decide +kernel
theorem dX6_late_28 : decode cX6_late 28 = .ok (.ireturn, 1) := by decide +kernel
theorem dX6_late_29 : decode cX6_late 29 = .ok (.aload_n 0, 1) := by decide +kernel
theorem dX6_late_30 : decode cX6_late 30 = .ok (.iload_n 1, 1) := by decide +kernel
theorem dX6_late_31 : decode cX6_late 31 = .ok (.invokevirtual 211, 3) := by decide +kernel
theorem dX6_late_34 : decode cX6_late 34 = .ok (.aload_n 0, 1) := by decide +kernel
theorem dX6_late_35 : decode cX6_late 35 = .ok (.invokevirtual 215, 3) := by decide +kernel
theorem dX6_late_38 : decode cX6_late 38 = .ok (.aload_n 0, 1) := by decide +kernel
theorem dX6_late_39 : decode cX6_late 39 = .ok (.getfield 199, 3) := by decide +kernel
theorem dX6_late_42 : decode cX6_late 42 = .ok (.ifCond .lt 13, 3) := by decide +kernel
theorem dX6_late_45 : decode cX6_late 45 = .ok (.iload_n 2, 1) := by decide +kernel
theorem dX6_late_46 : decode cX6_late 46 = .ok (.aload_n 0, 1) := by decide +kernel
theorem dX6_late_47 : decode cX6_late 47 = .ok (.getfield 7, 3) := by decide +kernel
theorem dX6_late_50 : decode cX6_late 50 = .ok (.iconst 0, 1) := by decide +kernel
theorem dX6_late_51 : decode cX6_late 51 = .ok (.iaload, 1) := by decide +kernel
theorem dX6_late_52 : decode cX6_late 52 = .ok (.if_icmp .lt 10, 3) := by decide +kernel
theorem dX6_late_55 : decode cX6_late 55 = .ok (.aload_n 0, 1) := by decide +kernel
theorem dX6_late_56 : decode cX6_late 56 = .ok (.ldc 188, 2) := by decide +kernel
theorem dX6_late_58 : decode cX6_late 58 = .ok (.invokevirtual 79, 3) := by decide +kernel
theorem dX6_late_61 : decode cX6_late 61 = .ok (.ireturn, 1) := by decide +kernel
theorem dX6_late_62 : decode cX6_late 62 = .ok (.iload_n 2, 1) := by decide +kernel
theorem dX6_late_63 : decode cX6_late 63 = .ok (.iconst (-1), 1) := by decide +kernel
theorem dX6_late_64 : decode cX6_late 64 = .ok (.if_icmp .ne 10, 3) := by decide +kernel
theorem dX6_late_67 : decode cX6_late 67 = .ok (.aload_n 0, 1) := by decide +kernel
theorem dX6_late_68 : decode cX6_late 68 = .ok (.getfield 199, 3) := by decide +kernel
theorem dX6_late_71 : decode cX6_late 71 = .ok (.goto 22, 3) := by decide +kernel
theorem dX6_late_74 : decode cX6_late 74 = .ok (.iload_n 2, 1) := by decide +kernel
theorem dX6_late_75 : decode cX6_late 75 = .ok (.bipush (-2), 2) := by decide +kernel
theorem dX6_late_77 : decode cX6_late 77 = .ok (.if_icmp .ne 10, 3) := by decide +kernel
theorem dX6_late_80 : decode cX6_late 80 = .ok (.aload_n 0, 1) := by decide +kernel
theorem dX6_late_81 : decode cX6_late 81 = .ok (.getfield 202, 3) := by decide +kernel
theorem dX6_late_84 : decode cX6_late 84 = .ok (.goto 9, 3) := by decide +kernel
theorem dX6_late_87 : decode cX6_late 87 = .ok (.aload_n 0, 1) := by decide +kernel
theorem dX6_late_88 : decode cX6_late 88 = .ok (.getfield 46, 3) := by decide +kernel
theorem dX6_late_91 : decode cX6_late 91 = .ok (.iload_n 2, 1) := by decide +kernel
theorem dX6_late_92 : decode cX6_late 92 = .ok (.iaload, 1) := by decide +kernel
theorem dX6_late_93 : decode cX6_late 93 = .ok (.ireturn, 1) := by decide +kernel
set_option maxRecDepth 20000 in
theorem ggX6_done_X6_isTeam : GoodIn wsX6_done wsX6_isTeam := goodIn_r _ [9, 10, 11, 12, 8, 13, 116, 117, 118, 119, 120, 121, 122, 123, 124, 125, 126, 127, 128, 129, 130, 131, 132, 133, 134, 135, 136, 137, 138, 139, 140, 141, 142, 143, 144, 145, 146, 147, 148] (by decide +kernel) (by decide +kernel)
set_option maxRecDepth 20000 in
theorem gX6_done_X6_isTeam : GoodIn wsX6_done (wsV RX6 122 RX6 yX6_isTeam wsX6_isTeam) := goodIn_app (goodIn_of _ (by decide +kernel)) ggX6_done_X6_isTeam
set_option maxRecDepth 20000 in
theorem ggX6_done_X6_isField : GoodIn wsX6_done wsX6_isField := goodIn_r _ [17, 10, 11, 12, 8, 13, 116, 117, 118, 119, 120, 121, 122, 123, 124, 125, 126, 127, 128, 129, 130, 131, 132, 133, 134, 135, 136, 137, 138, 139, 140, 141, 142, 143, 144, 145, 146, 147, 148] (by decide +kernel) (by decide +kernel)
set_option maxRecDepth 20000 in
theorem gX6_done_X6_isField : GoodIn wsX6_done (wsV RX6 98 RX6 yX6_isField wsX6_isField) := goodIn_app (goodIn_of _ (by decide +kernel)) ggX6_done_X6_isField
set_option maxRecDepth 20000 in
theorem ggX6_done_X6_finds : GoodIn wsX6_done wsX6_finds := goodIn_r _ [21, 22, 1, 116, 117, 118, 119, 120, 121, 122, 123, 124, 125, 126, 127, 128, 129, 130, 131, 132, 133, 134, 135, 136, 137, 138, 139, 140, 141, 142, 143, 144, 145, 146, 147, 148] (by decide +kernel) (by decide +kernel)
set_option maxRecDepth 20000 in
theorem gX6_done_X6_finds : GoodIn wsX6_done (wsV RX6 79 RX6 yX6_finds wsX6_finds) := goodIn_app (goodIn_of _ (by decide +kernel)) ggX6_done_X6_finds
set_option maxRecDepth 20000 in
theorem ggX6_done_X6_findCosts : GoodIn wsX6_done wsX6_findCosts := goodIn_r _ [26, 10, 27, 28, 29, 30, 8, 31, 32, 33, 34, 35, 36, 37, 38, 39, 40, 41, 42, 43, 44, 45, 46, 47, 48, 49, 50, 51, 52, 53, 54, 55, 56, 57, 58, 59, 60, 61, 62, 63, 64, 65, 66, 67, 68, 69, 70, 71, 72, 73, 74, 75, 76, 77, 78, 79, 80, 81, 82, 83, 84, 85, 86, 87, 88, 89, 90, 91, 92, 93, 94, 95, 96, 97, 116, 117, 118, 119, 120, 121, 122, 123, 124, 125, 126, 127, 128, 129, 130, 131, 132, 133, 134, 135, 136, 137, 138, 139, 140, 141, 142, 143, 144, 145, 146, 147, 148] (by decide +kernel) (by decide +kernel)
set_option maxRecDepth 20000 in
theorem gX6_done_X6_findCosts : GoodIn wsX6_done (wsV RX6 211 RX6 yX6_findCosts wsX6_findCosts) := goodIn_app (goodIn_of _ (by decide +kernel)) ggX6_done_X6_findCosts
set_option maxRecDepth 20000 in
theorem ggX6_done_X6_findLines : GoodIn wsX6_done wsX6_findLines := goodIn_r _ [101, 102, 2, 103, 104, 10, 27, 105, 106, 107, 108, 8, 109, 53, 54, 55, 110, 111, 112, 113, 114, 115, 4, 44, 45, 46, 47, 116, 117, 118, 119, 120, 121, 122, 123, 124, 125, 126, 127, 128, 129, 130, 131, 132, 133, 134, 135, 136, 137, 138, 139, 140, 141, 142, 143, 144, 145, 146, 147, 148] (by decide +kernel) (by decide +kernel)
set_option maxRecDepth 20000 in
theorem gX6_done_X6_findLines : GoodIn wsX6_done (wsV RX6 215 RX6 yX6_findLines wsX6_findLines) := goodIn_app (goodIn_of _ (by decide +kernel)) ggX6_done_X6_findLines
theorem dX6_done_0 : decode cX6_done 0 = .ok (.aload_n 0, 1) := by decide +kernel
theorem dX6_done_1 : decode cX6_done 1 = .ok (.iload_n 1, 1) := by decide +kernel
theorem dX6_done_2 : decode cX6_done 2 = .ok (.invokevirtual 122, 3) := by decide +kernel
theorem dX6_done_5 : decode cX6_done 5 = .ok (.ifCond .eq 11, 3) := by decide +kernel
theorem dX6_done_8 : decode cX6_done 8 = .ok (.aload_n 0, 1) := by decide +kernel
theorem dX6_done_9 : decode cX6_done 9 = .ok (.iload_n 2, 1) := by decide +kernel
theorem dX6_done_10 : decode cX6_done 10 = .ok (.invokevirtual 98, 3) := by decide +kernel
theorem dX6_done_13 : decode cX6_done 13 = .ok (.ifCond .ne 10, 3) := by decide +kernel
theorem dX6_done_16 : decode cX6_done 16 = .ok (.aload_n 0, 1) := by decide +kernel
theorem dX6_done_17 : decode cX6_done 17 = .ok (.ldc 68, 2) := by decide +kernel
theorem dX6_done_19 : decode cX6_done 19 = .ok (.invokevirtual 79, 3) := by decide +kernel
theorem dX6_done_22 : decode cX6_done 22 = .ok (.ireturn, 1) := by decide +kernel
theorem dX6_done_23 : decode cX6_done 23 = .ok (.aload_n 0, 1) := by decide +kernel
theorem dX6_done_24 : decode cX6_done 24 = .ok (.iload_n 1, 1) := by decide +kernel
theorem dX6_done_25 : decode cX6_done 25 = .ok (.invokevirtual 211, 3) := by decide +kernel
theorem dX6_done_28 : decode cX6_done 28 = .ok (.aload_n 0, 1) := by decide +kernel
theorem dX6_done_29 : decode cX6_done 29 = .ok (.invokevirtual 215, 3) := by decide +kernel
theorem dX6_done_32 : decode cX6_done 32 = .ok (.aload_n 0, 1) := by decide +kernel
theorem dX6_done_33 : decode cX6_done 33 = .ok (.getfield 199, 3) := by decide +kernel
theorem dX6_done_36 : decode cX6_done 36 = .ok (.ifCond .ge 12, 3) := by decide +kernel
theorem dX6_done_39 : decode cX6_done 39 = .ok (.aload_n 0, 1) := by decide +kernel
theorem dX6_done_40 : decode cX6_done 40 = .ok (.ldc 188, 2) := by decide +kernel
theorem dX6_done_42 : decode cX6_done 42 = .ok (.invokevirtual 79, 3) := by decide +kernel
theorem dX6_done_45 : decode cX6_done 45 = .ok (.goto 9, 3) := by decide +kernel
theorem dX6_done_48 : decode cX6_done 48 = .ok (.aload_n 0, 1) := by decide +kernel
theorem dX6_done_49 : decode cX6_done 49 = .ok (.getfield 49, 3) := by decide +kernel
theorem dX6_done_52 : decode cX6_done 52 = .ok (.iload_n 2, 1) := by decide +kernel
theorem dX6_done_53 : decode cX6_done 53 = .ok (.iaload, 1) := by decide +kernel
theorem dX6_done_54 : decode cX6_done 54 = .ok (.ireturn, 1) := by decide +kernel
set_option maxRecDepth 20000 in
theorem ggX6_yields_X6_isTeam : GoodIn wsX6_yields wsX6_isTeam := goodIn_r _ [9, 10, 11, 12, 8, 13, 112, 113, 114, 115, 116, 117, 118, 119, 120, 121, 122, 123, 124, 125, 126, 127, 128, 129, 130, 131, 132, 133, 134, 135, 136, 137, 138, 139, 140, 141, 142, 143, 144] (by decide +kernel) (by decide +kernel)
set_option maxRecDepth 20000 in
theorem gX6_yields_X6_isTeam : GoodIn wsX6_yields (wsV RX6 122 RX6 yX6_isTeam wsX6_isTeam) := goodIn_app (goodIn_of _ (by decide +kernel)) ggX6_yields_X6_isTeam
set_option maxRecDepth 20000 in
theorem ggX6_yields_X6_finds : GoodIn wsX6_yields wsX6_finds := goodIn_r _ [17, 18, 1, 112, 113, 114, 115, 116, 117, 118, 119, 120, 121, 122, 123, 124, 125, 126, 127, 128, 129, 130, 131, 132, 133, 134, 135, 136, 137, 138, 139, 140, 141, 142, 143, 144] (by decide +kernel) (by decide +kernel)
set_option maxRecDepth 20000 in
theorem gX6_yields_X6_finds : GoodIn wsX6_yields (wsV RX6 79 RX6 yX6_finds wsX6_finds) := goodIn_app (goodIn_of _ (by decide +kernel)) ggX6_yields_X6_finds
set_option maxRecDepth 20000 in
theorem ggX6_yields_X6_findCosts : GoodIn wsX6_yields wsX6_findCosts := goodIn_r _ [22, 10, 23, 24, 25, 26, 8, 27, 28, 29, 30, 31, 32, 33, 34, 35, 36, 37, 38, 39, 40, 41, 42, 43, 44, 45, 46, 47, 48, 49, 50, 51, 52, 53, 54, 55, 56, 57, 58, 59, 60, 61, 62, 63, 64, 65, 66, 67, 68, 69, 70, 71, 72, 73, 74, 75, 76, 77, 78, 79, 80, 81, 82, 83, 84, 85, 86, 87, 88, 89, 90, 91, 92, 93, 112, 113, 114, 115, 116, 117, 118, 119, 120, 121, 122, 123, 124, 125, 126, 127, 128, 129, 130, 131, 132, 133, 134, 135, 136, 137, 138, 139, 140, 141, 142, 143, 144] (by decide +kernel) (by decide +kernel)
set_option maxRecDepth 20000 in
theorem gX6_yields_X6_findCosts : GoodIn wsX6_yields (wsV RX6 211 RX6 yX6_findCosts wsX6_findCosts) := goodIn_app (goodIn_of _ (by decide +kernel)) ggX6_yields_X6_findCosts
set_option maxRecDepth 20000 in
theorem ggX6_yields_X6_findLines : GoodIn wsX6_yields wsX6_findLines := goodIn_r _ [97, 2, 98, 99, 4, 10, 23, 100, 101, 102, 103, 8, 104, 49, 50, 51, 105, 106, 107, 108, 109, 110, 111, 40, 41, 42, 43, 112, 113, 114, 115, 116, 117, 118, 119, 120, 121, 122, 123, 124, 125, 126, 127, 128, 129, 130, 131, 132, 133, 134, 135, 136, 137, 138, 139, 140, 141, 142, 143, 144] (by decide +kernel) (by decide +kernel)
set_option maxRecDepth 20000 in
theorem gX6_yields_X6_findLines : GoodIn wsX6_yields (wsV RX6 215 RX6 yX6_findLines wsX6_findLines) := goodIn_app (goodIn_of _ (by decide +kernel)) ggX6_yields_X6_findLines
theorem dX6_yields_0 : decode cX6_yields 0 = .ok (.aload_n 0, 1) := by decide +kernel
theorem dX6_yields_1 : decode cX6_yields 1 = .ok (.iload_n 1, 1) := by decide +kernel
theorem dX6_yields_2 : decode cX6_yields 2 = .ok (.invokevirtual 122, 3) := by decide +kernel
theorem dX6_yields_5 : decode cX6_yields 5 = .ok (.ifCond .ne 10, 3) := by decide +kernel
theorem dX6_yields_8 : decode cX6_yields 8 = .ok (.aload_n 0, 1) := by decide +kernel
theorem dX6_yields_9 : decode cX6_yields 9 = .ok (.ldc 68, 2) := by decide +kernel
theorem dX6_yields_11 : decode cX6_yields 11 = .ok (.invokevirtual 79, 3) := by decide +kernel
theorem dX6_yields_14 : decode cX6_yields 14 = .ok (.ireturn, 1) := by decide +kernel
theorem dX6_yields_15 : decode cX6_yields 15 = .ok (.aload_n 0, 1) := by decide +kernel
theorem dX6_yields_16 : decode cX6_yields 16 = .ok (.iload_n 1, 1) := by decide +kernel
theorem dX6_yields_17 : decode cX6_yields 17 = .ok (.invokevirtual 211, 3) := by decide +kernel
theorem dX6_yields_20 : decode cX6_yields 20 = .ok (.aload_n 0, 1) := by decide +kernel
theorem dX6_yields_21 : decode cX6_yields 21 = .ok (.invokevirtual 215, 3) := by decide +kernel
theorem dX6_yields_24 : decode cX6_yields 24 = .ok (.aload_n 0, 1) := by decide +kernel
theorem dX6_yields_25 : decode cX6_yields 25 = .ok (.getfield 193, 3) := by decide +kernel
theorem dX6_yields_28 : decode cX6_yields 28 = .ok (.ifCond .ne 12, 3) := by decide +kernel
theorem dX6_yields_31 : decode cX6_yields 31 = .ok (.aload_n 0, 1) := by decide +kernel
theorem dX6_yields_32 : decode cX6_yields 32 = .ok (.ldc 188, 2) := by decide +kernel
theorem dX6_yields_34 : decode cX6_yields 34 = .ok (.invokevirtual 79, 3) := by decide +kernel
theorem dX6_yields_37 : decode cX6_yields 37 = .ok (.goto 7, 3) := by decide +kernel
theorem dX6_yields_40 : decode cX6_yields 40 = .ok (.aload_n 0, 1) := by decide +kernel
theorem dX6_yields_41 : decode cX6_yields 41 = .ok (.getfield 196, 3) := by decide +kernel
theorem dX6_yields_44 : decode cX6_yields 44 = .ok (.ireturn, 1) := by decide +kernel
set_option maxRecDepth 20000 in
theorem ggX6_row_X6_isTeam : GoodIn wsX6_row wsX6_isTeam := goodIn_r _ [10, 4, 11, 12, 9, 13, 97, 98, 99, 100, 101, 102, 103, 104, 105, 106, 107, 108, 109, 110, 111, 112, 113, 114, 115, 116, 117, 118, 119, 120, 121, 122, 123, 124, 125, 126, 127, 128, 129] (by decide +kernel) (by decide +kernel)
set_option maxRecDepth 20000 in
theorem gX6_row_X6_isTeam : GoodIn wsX6_row (wsV RX6 122 RX6 yX6_isTeam wsX6_isTeam) := goodIn_app (goodIn_of _ (by decide +kernel)) ggX6_row_X6_isTeam
set_option maxRecDepth 20000 in
theorem ggX6_row_X6_in : GoodIn wsX6_row wsX6_in := goodIn_r _ [13] (by decide +kernel) (by decide +kernel)
set_option maxRecDepth 20000 in
theorem gX6_row_X6_in : GoodIn wsX6_row (va_wsS RX6 69 yX6_in wsX6_in) := goodIn_app (goodIn_of _ (by decide +kernel)) ggX6_row_X6_in
set_option maxRecDepth 20000 in
theorem ggX6_row_X6_finds : GoodIn wsX6_row wsX6_finds := goodIn_r _ [17, 18, 2, 97, 98, 99, 100, 101, 102, 103, 104, 105, 106, 107, 108, 109, 110, 111, 112, 113, 114, 115, 116, 117, 118, 119, 120, 121, 122, 123, 124, 125, 126, 127, 128, 129] (by decide +kernel) (by decide +kernel)
set_option maxRecDepth 20000 in
theorem gX6_row_X6_finds : GoodIn wsX6_row (wsV RX6 79 RX6 yX6_finds wsX6_finds) := goodIn_app (goodIn_of _ (by decide +kernel)) ggX6_row_X6_finds
set_option maxRecDepth 20000 in
theorem ggX6_row_X6_findCosts : GoodIn wsX6_row wsX6_findCosts := goodIn_r _ [22, 4, 5, 23, 24, 25, 9, 26, 27, 28, 29, 30, 31, 32, 33, 34, 35, 36, 37, 38, 39, 40, 41, 42, 43, 44, 45, 46, 47, 48, 49, 50, 51, 52, 53, 54, 55, 56, 57, 58, 59, 60, 61, 62, 63, 64, 65, 66, 67, 68, 69, 70, 71, 72, 73, 74, 75, 76, 77, 78, 79, 80, 81, 82, 83, 84, 85, 86, 87, 88, 89, 90, 91, 92, 97, 98, 99, 100, 101, 102, 103, 104, 105, 106, 107, 108, 109, 110, 111, 112, 113, 114, 115, 116, 117, 118, 119, 120, 121, 122, 123, 124, 125, 126, 127, 128, 129] (by decide +kernel) (by decide +kernel)
set_option maxRecDepth 20000 in
theorem gX6_row_X6_findCosts : GoodIn wsX6_row (wsV RX6 211 RX6 yX6_findCosts wsX6_findCosts) := goodIn_app (goodIn_of _ (by decide +kernel)) ggX6_row_X6_findCosts
set_option maxRecDepth 20000 in
theorem ggX6_row_X6_mayStand : GoodIn wsX6_row wsX6_mayStand := goodIn_r _ [96, 4, 3, 48, 49, 9, 50, 97, 98, 99, 100, 101, 102, 103, 104, 105, 106, 107, 108, 109, 110, 111, 112, 113, 114, 115, 116, 117, 118, 119, 120, 121, 122, 123, 124, 125, 126, 127, 128, 129] (by decide +kernel) (by decide +kernel)
set_option maxRecDepth 20000 in
theorem gX6_row_X6_mayStand : GoodIn wsX6_row (wsV RX6 205 RX6 yX6_mayStand wsX6_mayStand) := goodIn_app (goodIn_of _ (by decide +kernel)) ggX6_row_X6_mayStand
theorem dX6_row_0 : decode cX6_row 0 = .ok (.aload_n 0, 1) := by decide +kernel
theorem dX6_row_1 : decode cX6_row 1 = .ok (.iload_n 1, 1) := by decide +kernel
theorem dX6_row_2 : decode cX6_row 2 = .ok (.invokevirtual 122, 3) := by decide +kernel
theorem dX6_row_5 : decode cX6_row 5 = .ok (.ifCond .eq 15, 3) := by decide +kernel
theorem dX6_row_8 : decode cX6_row 8 = .ok (.iload_n 3, 1) := by decide +kernel
theorem dX6_row_9 : decode cX6_row 9 = .ok (.i2l, 1) := by decide +kernel
theorem dX6_row_10 : decode cX6_row 10 = .ok (.lconst 0, 1) := by decide +kernel
theorem dX6_row_11 : decode cX6_row 11 = .ok (.ldc2_w 218, 3) := by decide +kernel
theorem dX6_row_14 : decode cX6_row 14 = .ok (.invokestatic 69, 3) := by decide +kernel
theorem dX6_row_17 : decode cX6_row 17 = .ok (.ifCond .ne 10, 3) := by decide +kernel
theorem dX6_row_20 : decode cX6_row 20 = .ok (.aload_n 0, 1) := by decide +kernel
theorem dX6_row_21 : decode cX6_row 21 = .ok (.ldc 68, 2) := by decide +kernel
theorem dX6_row_23 : decode cX6_row 23 = .ok (.invokevirtual 79, 3) := by decide +kernel
theorem dX6_row_26 : decode cX6_row 26 = .ok (.ireturn, 1) := by decide +kernel
theorem dX6_row_27 : decode cX6_row 27 = .ok (.iload_n 2, 1) := by decide +kernel
theorem dX6_row_28 : decode cX6_row 28 = .ok (.istore 4, 2) := by decide +kernel
theorem dX6_row_30 : decode cX6_row 30 = .ok (.iload_n 2, 1) := by decide +kernel
theorem dX6_row_31 : decode cX6_row 31 = .ok (.ifCond .lt 7, 3) := by decide +kernel
theorem dX6_row_34 : decode cX6_row 34 = .ok (.iconst 1, 1) := by decide +kernel
theorem dX6_row_35 : decode cX6_row 35 = .ok (.goto 4, 3) := by decide +kernel
theorem dX6_row_38 : decode cX6_row 38 = .ok (.iconst 0, 1) := by decide +kernel
theorem dX6_row_39 : decode cX6_row 39 = .ok (.istore 5, 2) := by decide +kernel
theorem dX6_row_41 : decode cX6_row 41 = .ok (.iload_n 3, 1) := by decide +kernel
theorem dX6_row_42 : decode cX6_row 42 = .ok (.iconst 1, 1) := by decide +kernel
theorem dX6_row_43 : decode cX6_row 43 = .ok (.isub, 1) := by decide +kernel
theorem dX6_row_44 : decode cX6_row 44 = .ok (.istore 6, 2) := by decide +kernel
theorem dX6_row_46 : decode cX6_row 46 = .ok (.iload 6, 2) := by decide +kernel
theorem dX6_row_48 : decode cX6_row 48 = .ok (.ifCond .lt 56, 3) := by decide +kernel
theorem dX6_row_51 : decode cX6_row 51 = .ok (.aload_n 0, 1) := by decide +kernel
theorem dX6_row_52 : decode cX6_row 52 = .ok (.getfield 40, 3) := by decide +kernel
theorem dX6_row_55 : decode cX6_row 55 = .ok (.iload 6, 2) := by decide +kernel
theorem dX6_row_57 : decode cX6_row 57 = .ok (.iload 4, 2) := by decide +kernel
theorem dX6_row_59 : decode cX6_row 59 = .ok (.bipush 6, 2) := by decide +kernel
theorem dX6_row_61 : decode cX6_row 61 = .ok (.irem, 1) := by decide +kernel
theorem dX6_row_62 : decode cX6_row 62 = .ok (.iastore, 1) := by decide +kernel
theorem dX6_row_63 : decode cX6_row 63 = .ok (.iload 4, 2) := by decide +kernel
theorem dX6_row_65 : decode cX6_row 65 = .ok (.bipush 6, 2) := by decide +kernel
theorem dX6_row_67 : decode cX6_row 67 = .ok (.idiv, 1) := by decide +kernel
theorem dX6_row_68 : decode cX6_row 68 = .ok (.istore 4, 2) := by decide +kernel
theorem dX6_row_70 : decode cX6_row 70 = .ok (.iload 5, 2) := by decide +kernel
theorem dX6_row_72 : decode cX6_row 72 = .ok (.ifCond .eq 23, 3) := by decide +kernel
theorem dX6_row_75 : decode cX6_row 75 = .ok (.aload_n 0, 1) := by decide +kernel
theorem dX6_row_76 : decode cX6_row 76 = .ok (.getfield 40, 3) := by decide +kernel
theorem dX6_row_79 : decode cX6_row 79 = .ok (.iload 6, 2) := by decide +kernel
theorem dX6_row_81 : decode cX6_row 81 = .ok (.iaload, 1) := by decide +kernel
theorem dX6_row_82 : decode cX6_row 82 = .ok (.aload_n 0, 1) := by decide +kernel
theorem dX6_row_83 : decode cX6_row 83 = .ok (.getfield 7, 3) := by decide +kernel
theorem dX6_row_86 : decode cX6_row 86 = .ok (.iconst 0, 1) := by decide +kernel
theorem dX6_row_87 : decode cX6_row 87 = .ok (.iaload, 1) := by decide +kernel
theorem dX6_row_88 : decode cX6_row 88 = .ok (.if_icmp .ge 7, 3) := by decide +kernel
theorem dX6_row_91 : decode cX6_row 91 = .ok (.iconst 1, 1) := by decide +kernel
theorem dX6_row_92 : decode cX6_row 92 = .ok (.goto 4, 3) := by decide +kernel
theorem dX6_row_95 : decode cX6_row 95 = .ok (.iconst 0, 1) := by decide +kernel
theorem dX6_row_96 : decode cX6_row 96 = .ok (.istore 5, 2) := by decide +kernel
theorem dX6_row_98 : decode cX6_row 98 = .ok (.iinc 6 (-1), 3) := by decide +kernel
theorem dX6_row_101 : decode cX6_row 101 = .ok (.goto (-55), 3) := by decide +kernel
theorem dX6_row_104 : decode cX6_row 104 = .ok (.iload 5, 2) := by decide +kernel
theorem dX6_row_106 : decode cX6_row 106 = .ok (.ifCond .eq 8, 3) := by decide +kernel
theorem dX6_row_109 : decode cX6_row 109 = .ok (.iload 4, 2) := by decide +kernel
theorem dX6_row_111 : decode cX6_row 111 = .ok (.ifCond .le 10, 3) := by decide +kernel
theorem dX6_row_114 : decode cX6_row 114 = .ok (.aload_n 0, 1) := by decide +kernel
theorem dX6_row_115 : decode cX6_row 115 = .ok (.ldc 68, 2) := by decide +kernel
theorem dX6_row_117 : decode cX6_row 117 = .ok (.invokevirtual 79, 3) := by decide +kernel
theorem dX6_row_120 : decode cX6_row 120 = .ok (.ireturn, 1) := by decide +kernel
theorem dX6_row_121 : decode cX6_row 121 = .ok (.aload_n 0, 1) := by decide +kernel
theorem dX6_row_122 : decode cX6_row 122 = .ok (.iload_n 1, 1) := by decide +kernel
theorem dX6_row_123 : decode cX6_row 123 = .ok (.invokevirtual 211, 3) := by decide +kernel
theorem dX6_row_126 : decode cX6_row 126 = .ok (.iconst 0, 1) := by decide +kernel
theorem dX6_row_127 : decode cX6_row 127 = .ok (.istore 6, 2) := by decide +kernel
theorem dX6_row_129 : decode cX6_row 129 = .ok (.iload 6, 2) := by decide +kernel
theorem dX6_row_131 : decode cX6_row 131 = .ok (.iload_n 3, 1) := by decide +kernel
theorem dX6_row_132 : decode cX6_row 132 = .ok (.if_icmp .ge 33, 3) := by decide +kernel
theorem dX6_row_135 : decode cX6_row 135 = .ok (.aload_n 0, 1) := by decide +kernel
theorem dX6_row_136 : decode cX6_row 136 = .ok (.getfield 37, 3) := by decide +kernel
theorem dX6_row_139 : decode cX6_row 139 = .ok (.aload_n 0, 1) := by decide +kernel
theorem dX6_row_140 : decode cX6_row 140 = .ok (.getfield 40, 3) := by decide +kernel
theorem dX6_row_143 : decode cX6_row 143 = .ok (.iload 6, 2) := by decide +kernel
theorem dX6_row_145 : decode cX6_row 145 = .ok (.iaload, 1) := by decide +kernel
theorem dX6_row_146 : decode cX6_row 146 = .ok (.iaload, 1) := by decide +kernel
theorem dX6_row_147 : decode cX6_row 147 = .ok (.ifCond .lt 18, 3) := by decide +kernel
theorem dX6_row_150 : decode cX6_row 150 = .ok (.aload_n 0, 1) := by decide +kernel
theorem dX6_row_151 : decode cX6_row 151 = .ok (.iload 6, 2) := by decide +kernel
theorem dX6_row_153 : decode cX6_row 153 = .ok (.invokevirtual 205, 3) := by decide +kernel
theorem dX6_row_156 : decode cX6_row 156 = .ok (.ifCond .eq 9, 3) := by decide +kernel
theorem dX6_row_159 : decode cX6_row 159 = .ok (.iinc 6 1, 3) := by decide +kernel
theorem dX6_row_162 : decode cX6_row 162 = .ok (.goto (-33), 3) := by decide +kernel
theorem dX6_row_165 : decode cX6_row 165 = .ok (.iload 6, 2) := by decide +kernel
theorem dX6_row_167 : decode cX6_row 167 = .ok (.ireturn, 1) := by decide +kernel
set_option maxRecDepth 20000 in
theorem ggX6_lacks_X6_isTeam : GoodIn wsX6_lacks wsX6_isTeam := goodIn_r _ [9, 2, 10, 11, 8, 12, 112, 113, 114, 115, 116, 117, 118, 119, 120, 121, 122, 123, 124, 125, 126, 127, 128, 129, 130, 131, 132, 133, 134, 135, 136, 137, 138, 139, 140, 141, 142, 143, 144] (by decide +kernel) (by decide +kernel)
set_option maxRecDepth 20000 in
theorem gX6_lacks_X6_isTeam : GoodIn wsX6_lacks (wsV RX6 122 RX6 yX6_isTeam wsX6_isTeam) := goodIn_app (goodIn_of _ (by decide +kernel)) ggX6_lacks_X6_isTeam
set_option maxRecDepth 20000 in
theorem ggX6_lacks_X6_finds : GoodIn wsX6_lacks wsX6_finds := goodIn_r _ [16, 17, 1, 112, 113, 114, 115, 116, 117, 118, 119, 120, 121, 122, 123, 124, 125, 126, 127, 128, 129, 130, 131, 132, 133, 134, 135, 136, 137, 138, 139, 140, 141, 142, 143, 144] (by decide +kernel) (by decide +kernel)
set_option maxRecDepth 20000 in
theorem gX6_lacks_X6_finds : GoodIn wsX6_lacks (wsV RX6 79 RX6 yX6_finds wsX6_finds) := goodIn_app (goodIn_of _ (by decide +kernel)) ggX6_lacks_X6_finds
set_option maxRecDepth 20000 in
theorem ggX6_lacks_X6_findCosts : GoodIn wsX6_lacks wsX6_findCosts := goodIn_r _ [21, 2, 22, 23, 24, 25, 8, 26, 27, 28, 29, 30, 31, 32, 33, 34, 35, 36, 37, 38, 39, 40, 41, 42, 43, 44, 45, 46, 47, 48, 49, 50, 51, 52, 53, 54, 55, 56, 57, 58, 59, 60, 61, 62, 63, 64, 65, 66, 67, 68, 69, 70, 71, 72, 73, 74, 75, 76, 77, 78, 79, 80, 81, 82, 83, 84, 85, 86, 87, 88, 89, 90, 91, 92, 112, 113, 114, 115, 116, 117, 118, 119, 120, 121, 122, 123, 124, 125, 126, 127, 128, 129, 130, 131, 132, 133, 134, 135, 136, 137, 138, 139, 140, 141, 142, 143, 144] (by decide +kernel) (by decide +kernel)
set_option maxRecDepth 20000 in
theorem gX6_lacks_X6_findCosts : GoodIn wsX6_lacks (wsV RX6 211 RX6 yX6_findCosts wsX6_findCosts) := goodIn_app (goodIn_of _ (by decide +kernel)) ggX6_lacks_X6_findCosts
set_option maxRecDepth 20000 in
theorem ggX6_lacks_X6_has : GoodIn wsX6_lacks wsX6_has := goodIn_r _ [50] (by decide +kernel) (by decide +kernel)
set_option maxRecDepth 20000 in
theorem gX6_lacks_X6_has : GoodIn wsX6_lacks (va_wsS RX6 90 yX6_has wsX6_has) := goodIn_app (goodIn_of _ (by decide +kernel)) ggX6_lacks_X6_has
set_option maxRecDepth 20000 in
theorem ggX6_lacks_X6_findLines : GoodIn wsX6_lacks wsX6_findLines := goodIn_r _ [96, 97, 3, 98, 99, 2, 22, 100, 101, 102, 103, 8, 104, 48, 49, 50, 105, 106, 107, 108, 109, 110, 111, 39, 40, 41, 42, 112, 113, 114, 115, 116, 117, 118, 119, 120, 121, 122, 123, 124, 125, 126, 127, 128, 129, 130, 131, 132, 133, 134, 135, 136, 137, 138, 139, 140, 141, 142, 143, 144] (by decide +kernel) (by decide +kernel)
set_option maxRecDepth 20000 in
theorem gX6_lacks_X6_findLines : GoodIn wsX6_lacks (wsV RX6 215 RX6 yX6_findLines wsX6_findLines) := goodIn_app (goodIn_of _ (by decide +kernel)) ggX6_lacks_X6_findLines
theorem dX6_lacks_0 : decode cX6_lacks 0 = .ok (.aload_n 0, 1) := by decide +kernel
theorem dX6_lacks_1 : decode cX6_lacks 1 = .ok (.iload_n 1, 1) := by decide +kernel
theorem dX6_lacks_2 : decode cX6_lacks 2 = .ok (.invokevirtual 122, 3) := by decide +kernel
theorem dX6_lacks_5 : decode cX6_lacks 5 = .ok (.ifCond .ne 10, 3) := by decide +kernel
theorem dX6_lacks_8 : decode cX6_lacks 8 = .ok (.aload_n 0, 1) := by decide +kernel
theorem dX6_lacks_9 : decode cX6_lacks 9 = .ok (.ldc 68, 2) := by decide +kernel
theorem dX6_lacks_11 : decode cX6_lacks 11 = .ok (.invokevirtual 79, 3) := by decide +kernel
theorem dX6_lacks_14 : decode cX6_lacks 14 = .ok (.ireturn, 1) := by decide +kernel
theorem dX6_lacks_15 : decode cX6_lacks 15 = .ok (.aload_n 0, 1) := by decide +kernel
theorem dX6_lacks_16 : decode cX6_lacks 16 = .ok (.iload_n 1, 1) := by decide +kernel
theorem dX6_lacks_17 : decode cX6_lacks 17 = .ok (.invokevirtual 211, 3) := by decide +kernel
theorem dX6_lacks_20 : decode cX6_lacks 20 = .ok (.iconst (-1), 1) := by decide +kernel
theorem dX6_lacks_21 : decode cX6_lacks 21 = .ok (.istore_n 2, 1) := by decide +kernel
theorem dX6_lacks_22 : decode cX6_lacks 22 = .ok (.iconst 0, 1) := by decide +kernel
theorem dX6_lacks_23 : decode cX6_lacks 23 = .ok (.istore_n 3, 1) := by decide +kernel
theorem dX6_lacks_24 : decode cX6_lacks 24 = .ok (.iconst 0, 1) := by decide +kernel
theorem dX6_lacks_25 : decode cX6_lacks 25 = .ok (.istore 4, 2) := by decide +kernel
theorem dX6_lacks_27 : decode cX6_lacks 27 = .ok (.iload 4, 2) := by decide +kernel
theorem dX6_lacks_29 : decode cX6_lacks 29 = .ok (.aload_n 0, 1) := by decide +kernel
theorem dX6_lacks_30 : decode cX6_lacks 30 = .ok (.getfield 7, 3) := by decide +kernel
theorem dX6_lacks_33 : decode cX6_lacks 33 = .ok (.iconst 0, 1) := by decide +kernel
theorem dX6_lacks_34 : decode cX6_lacks 34 = .ok (.iaload, 1) := by decide +kernel
theorem dX6_lacks_35 : decode cX6_lacks 35 = .ok (.if_icmp .ge 127, 3) := by decide +kernel
theorem dX6_lacks_38 : decode cX6_lacks 38 = .ok (.iconst 0, 1) := by decide +kernel
theorem dX6_lacks_39 : decode cX6_lacks 39 = .ok (.istore 5, 2) := by decide +kernel
theorem dX6_lacks_41 : decode cX6_lacks 41 = .ok (.iload 5, 2) := by decide +kernel
theorem dX6_lacks_43 : decode cX6_lacks 43 = .ok (.aload_n 0, 1) := by decide +kernel
theorem dX6_lacks_44 : decode cX6_lacks 44 = .ok (.getfield 7, 3) := by decide +kernel
theorem dX6_lacks_47 : decode cX6_lacks 47 = .ok (.iconst 0, 1) := by decide +kernel
theorem dX6_lacks_48 : decode cX6_lacks 48 = .ok (.iaload, 1) := by decide +kernel
theorem dX6_lacks_49 : decode cX6_lacks 49 = .ok (.if_icmp .ge 107, 3) := by decide +kernel
theorem dX6_lacks_52 : decode cX6_lacks 52 = .ok (.iload 4, 2) := by decide +kernel
theorem dX6_lacks_54 : decode cX6_lacks 54 = .ok (.iload 5, 2) := by decide +kernel
theorem dX6_lacks_56 : decode cX6_lacks 56 = .ok (.if_icmp .eq 94, 3) := by decide +kernel
theorem dX6_lacks_59 : decode cX6_lacks 59 = .ok (.aload_n 0, 1) := by decide +kernel
theorem dX6_lacks_60 : decode cX6_lacks 60 = .ok (.getfield 7, 3) := by decide +kernel
theorem dX6_lacks_63 : decode cX6_lacks 63 = .ok (.bipush 38, 2) := by decide +kernel
theorem dX6_lacks_65 : decode cX6_lacks 65 = .ok (.iload 4, 2) := by decide +kernel
theorem dX6_lacks_67 : decode cX6_lacks 67 = .ok (.iadd, 1) := by decide +kernel
theorem dX6_lacks_68 : decode cX6_lacks 68 = .ok (.iaload, 1) := by decide +kernel
theorem dX6_lacks_69 : decode cX6_lacks 69 = .ok (.iload 5, 2) := by decide +kernel
theorem dX6_lacks_71 : decode cX6_lacks 71 = .ok (.invokestatic 90, 3) := by decide +kernel
theorem dX6_lacks_74 : decode cX6_lacks 74 = .ok (.ifCond .ne 76, 3) := by decide +kernel
theorem dX6_lacks_77 : decode cX6_lacks 77 = .ok (.aload_n 0, 1) := by decide +kernel
theorem dX6_lacks_78 : decode cX6_lacks 78 = .ok (.getfield 7, 3) := by decide +kernel
theorem dX6_lacks_81 : decode cX6_lacks 81 = .ok (.bipush 38, 2) := by decide +kernel
theorem dX6_lacks_83 : decode cX6_lacks 83 = .ok (.iload 4, 2) := by decide +kernel
theorem dX6_lacks_85 : decode cX6_lacks 85 = .ok (.iadd, 1) := by decide +kernel
theorem dX6_lacks_86 : decode cX6_lacks 86 = .ok (.dup2, 1) := by decide +kernel
theorem dX6_lacks_87 : decode cX6_lacks 87 = .ok (.iaload, 1) := by decide +kernel
theorem dX6_lacks_88 : decode cX6_lacks 88 = .ok (.iconst 1, 1) := by decide +kernel
theorem dX6_lacks_89 : decode cX6_lacks 89 = .ok (.iload 5, 2) := by decide +kernel
theorem dX6_lacks_91 : decode cX6_lacks 91 = .ok (.ishl, 1) := by decide +kernel
theorem dX6_lacks_92 : decode cX6_lacks 92 = .ok (.ior, 1) := by decide +kernel
theorem dX6_lacks_93 : decode cX6_lacks 93 = .ok (.iastore, 1) := by decide +kernel
theorem dX6_lacks_94 : decode cX6_lacks 94 = .ok (.aload_n 0, 1) := by decide +kernel
theorem dX6_lacks_95 : decode cX6_lacks 95 = .ok (.invokevirtual 215, 3) := by decide +kernel
theorem dX6_lacks_98 : decode cX6_lacks 98 = .ok (.aload_n 0, 1) := by decide +kernel
theorem dX6_lacks_99 : decode cX6_lacks 99 = .ok (.getfield 7, 3) := by decide +kernel
theorem dX6_lacks_102 : decode cX6_lacks 102 = .ok (.bipush 38, 2) := by decide +kernel
theorem dX6_lacks_104 : decode cX6_lacks 104 = .ok (.iload 4, 2) := by decide +kernel
theorem dX6_lacks_106 : decode cX6_lacks 106 = .ok (.iadd, 1) := by decide +kernel
theorem dX6_lacks_107 : decode cX6_lacks 107 = .ok (.dup2, 1) := by decide +kernel
theorem dX6_lacks_108 : decode cX6_lacks 108 = .ok (.iaload, 1) := by decide +kernel
theorem dX6_lacks_109 : decode cX6_lacks 109 = .ok (.iconst 1, 1) := by decide +kernel
theorem dX6_lacks_110 : decode cX6_lacks 110 = .ok (.iload 5, 2) := by decide +kernel
theorem dX6_lacks_112 : decode cX6_lacks 112 = .ok (.ishl, 1) := by decide +kernel
theorem dX6_lacks_113 : decode cX6_lacks 113 = .ok (.iconst (-1), 1) := by decide +kernel
theorem dX6_lacks_114 : decode cX6_lacks 114 = .ok (.ixor, 1) := by decide +kernel
theorem dX6_lacks_115 : decode cX6_lacks 115 = .ok (.iand, 1) := by decide +kernel
theorem dX6_lacks_116 : decode cX6_lacks 116 = .ok (.iastore, 1) := by decide +kernel
theorem dX6_lacks_117 : decode cX6_lacks 117 = .ok (.aload_n 0, 1) := by decide +kernel
theorem dX6_lacks_118 : decode cX6_lacks 118 = .ok (.getfield 199, 3) := by decide +kernel
theorem dX6_lacks_121 : decode cX6_lacks 121 = .ok (.ifCond .lt 29, 3) := by decide +kernel
theorem dX6_lacks_124 : decode cX6_lacks 124 = .ok (.iload_n 2, 1) := by decide +kernel
theorem dX6_lacks_125 : decode cX6_lacks 125 = .ok (.ifCond .lt 11, 3) := by decide +kernel
theorem dX6_lacks_128 : decode cX6_lacks 128 = .ok (.aload_n 0, 1) := by decide +kernel
theorem dX6_lacks_129 : decode cX6_lacks 129 = .ok (.getfield 199, 3) := by decide +kernel
theorem dX6_lacks_132 : decode cX6_lacks 132 = .ok (.iload_n 3, 1) := by decide +kernel
theorem dX6_lacks_133 : decode cX6_lacks 133 = .ok (.if_icmp .ge 17, 3) := by decide +kernel
theorem dX6_lacks_136 : decode cX6_lacks 136 = .ok (.bipush 10, 2) := by decide +kernel
theorem dX6_lacks_138 : decode cX6_lacks 138 = .ok (.iload 4, 2) := by decide +kernel
theorem dX6_lacks_140 : decode cX6_lacks 140 = .ok (.imul, 1) := by decide +kernel
theorem dX6_lacks_141 : decode cX6_lacks 141 = .ok (.iload 5, 2) := by decide +kernel
theorem dX6_lacks_143 : decode cX6_lacks 143 = .ok (.iadd, 1) := by decide +kernel
theorem dX6_lacks_144 : decode cX6_lacks 144 = .ok (.istore_n 2, 1) := by decide +kernel
theorem dX6_lacks_145 : decode cX6_lacks 145 = .ok (.aload_n 0, 1) := by decide +kernel
theorem dX6_lacks_146 : decode cX6_lacks 146 = .ok (.getfield 199, 3) := by decide +kernel
theorem dX6_lacks_149 : decode cX6_lacks 149 = .ok (.istore_n 3, 1) := by decide +kernel
theorem dX6_lacks_150 : decode cX6_lacks 150 = .ok (.iinc 5 1, 3) := by decide +kernel
theorem dX6_lacks_153 : decode cX6_lacks 153 = .ok (.goto (-112), 3) := by decide +kernel
theorem dX6_lacks_156 : decode cX6_lacks 156 = .ok (.iinc 4 1, 3) := by decide +kernel
theorem dX6_lacks_159 : decode cX6_lacks 159 = .ok (.goto (-132), 3) := by decide +kernel
theorem dX6_lacks_162 : decode cX6_lacks 162 = .ok (.iload_n 2, 1) := by decide +kernel
theorem dX6_lacks_163 : decode cX6_lacks 163 = .ok (.ifCond .ge 12, 3) := by decide +kernel
theorem dX6_lacks_166 : decode cX6_lacks 166 = .ok (.aload_n 0, 1) := by decide +kernel
theorem dX6_lacks_167 : decode cX6_lacks 167 = .ok (.ldc 188, 2) := by decide +kernel
theorem dX6_lacks_169 : decode cX6_lacks 169 = .ok (.invokevirtual 79, 3) := by decide +kernel
theorem dX6_lacks_172 : decode cX6_lacks 172 = .ok (.goto 4, 3) := by decide +kernel
theorem dX6_lacks_175 : decode cX6_lacks 175 = .ok (.iload_n 2, 1) := by decide +kernel
theorem dX6_lacks_176 : decode cX6_lacks 176 = .ok (.ireturn, 1) := by decide +kernel
set_option maxRecDepth 20000 in
theorem ggX6_feed_X6_in : GoodIn wsX6_feed wsX6_in := goodIn_r _ [9] (by decide +kernel) (by decide +kernel)
set_option maxRecDepth 20000 in
theorem gX6_feed_X6_in : GoodIn wsX6_feed (va_wsS RX6 69 yX6_in wsX6_in) := goodIn_app (goodIn_of _ (by decide +kernel)) ggX6_feed_X6_in
set_option maxRecDepth 20000 in
theorem ggX6_feed_X6_finds : GoodIn wsX6_feed wsX6_finds := goodIn_r _ [13, 14, 2, 15, 16, 17, 18, 19, 20, 21, 22, 23, 24, 25, 26, 27, 28, 29, 30, 31, 32, 33, 34, 35, 36, 37, 38, 39, 40, 41, 42, 43, 44, 45, 46, 47] (by decide +kernel) (by decide +kernel)
set_option maxRecDepth 20000 in
theorem gX6_feed_X6_finds : GoodIn wsX6_feed (wsV RX6 79 RX6 yX6_finds wsX6_finds) := goodIn_app (goodIn_of _ (by decide +kernel)) ggX6_feed_X6_finds
theorem dX6_feed_0 : decode cX6_feed 0 = .ok (.iload_n 2, 1) := by decide +kernel
theorem dX6_feed_1 : decode cX6_feed 1 = .ok (.i2l, 1) := by decide +kernel
theorem dX6_feed_2 : decode cX6_feed 2 = .ok (.lconst 1, 1) := by decide +kernel
theorem dX6_feed_3 : decode cX6_feed 3 = .ok (.ldc2_w 220, 3) := by decide +kernel
theorem dX6_feed_6 : decode cX6_feed 6 = .ok (.invokestatic 69, 3) := by decide +kernel
theorem dX6_feed_9 : decode cX6_feed 9 = .ok (.ifCond .ne 10, 3) := by decide +kernel
theorem dX6_feed_12 : decode cX6_feed 12 = .ok (.aload_n 0, 1) := by decide +kernel
theorem dX6_feed_13 : decode cX6_feed 13 = .ok (.ldc 68, 2) := by decide +kernel
theorem dX6_feed_15 : decode cX6_feed 15 = .ok (.invokevirtual 79, 3) := by decide +kernel
theorem dX6_feed_18 : decode cX6_feed 18 = .ok (.ireturn, 1) := by decide +kernel
theorem dX6_feed_19 : decode cX6_feed 19 = .ok (.aload_n 0, 1) := by decide +kernel
theorem dX6_feed_20 : decode cX6_feed 20 = .ok (.getfield 222, 3) := by decide +kernel
theorem dX6_feed_23 : decode cX6_feed 23 = .ok (.iload_n 2, 1) := by decide +kernel
theorem dX6_feed_24 : decode cX6_feed 24 = .ok (.iadd, 1) := by decide +kernel
theorem dX6_feed_25 : decode cX6_feed 25 = .ok (.bipush 120, 2) := by decide +kernel
theorem dX6_feed_27 : decode cX6_feed 27 = .ok (.if_icmp .le 10, 3) := by decide +kernel
theorem dX6_feed_30 : decode cX6_feed 30 = .ok (.aload_n 0, 1) := by decide +kernel
theorem dX6_feed_31 : decode cX6_feed 31 = .ok (.ldc 78, 2) := by decide +kernel
theorem dX6_feed_33 : decode cX6_feed 33 = .ok (.invokevirtual 79, 3) := by decide +kernel
theorem dX6_feed_36 : decode cX6_feed 36 = .ok (.ireturn, 1) := by decide +kernel
theorem dX6_feed_37 : decode cX6_feed 37 = .ok (.iload_n 2, 1) := by decide +kernel
theorem dX6_feed_38 : decode cX6_feed 38 = .ok (.iconst 1, 1) := by decide +kernel
theorem dX6_feed_39 : decode cX6_feed 39 = .ok (.isub, 1) := by decide +kernel
theorem dX6_feed_40 : decode cX6_feed 40 = .ok (.istore_n 3, 1) := by decide +kernel
theorem dX6_feed_41 : decode cX6_feed 41 = .ok (.iload_n 3, 1) := by decide +kernel
theorem dX6_feed_42 : decode cX6_feed 42 = .ok (.ifCond .lt 38, 3) := by decide +kernel
theorem dX6_feed_45 : decode cX6_feed 45 = .ok (.aload_n 0, 1) := by decide +kernel
theorem dX6_feed_46 : decode cX6_feed 46 = .ok (.getfield 52, 3) := by decide +kernel
theorem dX6_feed_49 : decode cX6_feed 49 = .ok (.aload_n 0, 1) := by decide +kernel
theorem dX6_feed_50 : decode cX6_feed 50 = .ok (.getfield 222, 3) := by decide +kernel
theorem dX6_feed_53 : decode cX6_feed 53 = .ok (.iload_n 1, 1) := by decide +kernel
theorem dX6_feed_54 : decode cX6_feed 54 = .ok (.bipush 8, 2) := by decide +kernel
theorem dX6_feed_56 : decode cX6_feed 56 = .ok (.iload_n 3, 1) := by decide +kernel
theorem dX6_feed_57 : decode cX6_feed 57 = .ok (.imul, 1) := by decide +kernel
theorem dX6_feed_58 : decode cX6_feed 58 = .ok (.ishr, 1) := by decide +kernel
theorem dX6_feed_59 : decode cX6_feed 59 = .ok (.sipush 255, 3) := by decide +kernel
theorem dX6_feed_62 : decode cX6_feed 62 = .ok (.iand, 1) := by decide +kernel
theorem dX6_feed_63 : decode cX6_feed 63 = .ok (.iastore, 1) := by decide +kernel
theorem dX6_feed_64 : decode cX6_feed 64 = .ok (.aload_n 0, 1) := by decide +kernel
theorem dX6_feed_65 : decode cX6_feed 65 = .ok (.dup, 1) := by decide +kernel
theorem dX6_feed_66 : decode cX6_feed 66 = .ok (.getfield 222, 3) := by decide +kernel
theorem dX6_feed_69 : decode cX6_feed 69 = .ok (.iconst 1, 1) := by decide +kernel
theorem dX6_feed_70 : decode cX6_feed 70 = .ok (.iadd, 1) := by decide +kernel
theorem dX6_feed_71 : decode cX6_feed 71 = .ok (.putfield 222, 3) := by decide +kernel
theorem dX6_feed_74 : decode cX6_feed 74 = .ok (.iinc 3 (-1), 3) := by decide +kernel
theorem dX6_feed_77 : decode cX6_feed 77 = .ok (.goto (-36), 3) := by decide +kernel
theorem dX6_feed_80 : decode cX6_feed 80 = .ok (.aload_n 0, 1) := by decide +kernel
theorem dX6_feed_81 : decode cX6_feed 81 = .ok (.getfield 222, 3) := by decide +kernel
theorem dX6_feed_84 : decode cX6_feed 84 = .ok (.ireturn, 1) := by decide +kernel
theorem dX6_wipe_0 : decode cX6_wipe 0 = .ok (.aload_n 0, 1) := by decide +kernel
theorem dX6_wipe_1 : decode cX6_wipe 1 = .ok (.getfield 222, 3) := by decide +kernel
theorem dX6_wipe_4 : decode cX6_wipe 4 = .ok (.istore_n 1, 1) := by decide +kernel
theorem dX6_wipe_5 : decode cX6_wipe 5 = .ok (.aload_n 0, 1) := by decide +kernel
theorem dX6_wipe_6 : decode cX6_wipe 6 = .ok (.iconst 0, 1) := by decide +kernel
theorem dX6_wipe_7 : decode cX6_wipe 7 = .ok (.putfield 222, 3) := by decide +kernel
theorem dX6_wipe_10 : decode cX6_wipe 10 = .ok (.iload_n 1, 1) := by decide +kernel
theorem dX6_wipe_11 : decode cX6_wipe 11 = .ok (.ireturn, 1) := by decide +kernel
theorem dX6_byteAt_0 : decode cX6_byteAt 0 = .ok (.iload_n 1, 1) := by decide +kernel
theorem dX6_byteAt_1 : decode cX6_byteAt 1 = .ok (.aload_n 0, 1) := by decide +kernel
theorem dX6_byteAt_2 : decode cX6_byteAt 2 = .ok (.getfield 222, 3) := by decide +kernel
theorem dX6_byteAt_5 : decode cX6_byteAt 5 = .ok (.if_icmp .ge 12, 3) := by decide +kernel
theorem dX6_byteAt_8 : decode cX6_byteAt 8 = .ok (.aload_n 0, 1) := by decide +kernel
theorem dX6_byteAt_9 : decode cX6_byteAt 9 = .ok (.getfield 52, 3) := by decide +kernel
theorem dX6_byteAt_12 : decode cX6_byteAt 12 = .ok (.iload_n 1, 1) := by decide +kernel
theorem dX6_byteAt_13 : decode cX6_byteAt 13 = .ok (.iaload, 1) := by decide +kernel
theorem dX6_byteAt_14 : decode cX6_byteAt 14 = .ok (.goto 4, 3) := by decide +kernel
theorem dX6_byteAt_17 : decode cX6_byteAt 17 = .ok (.iconst (-1), 1) := by decide +kernel
theorem dX6_byteAt_18 : decode cX6_byteAt 18 = .ok (.ireturn, 1) := by decide +kernel
set_option maxRecDepth 20000 in
theorem ggX6_isLetter_X6_in : GoodIn wsX6_isLetter wsX6_in := goodIn_r _ [6] (by decide +kernel) (by decide +kernel)
set_option maxRecDepth 20000 in
theorem gX6_isLetter_X6_in : GoodIn wsX6_isLetter (va_wsS RX6 69 yX6_in wsX6_in) := goodIn_app (goodIn_of _ (by decide +kernel)) ggX6_isLetter_X6_in
theorem dX6_isLetter_0 : decode cX6_isLetter 0 = .ok (.iload_n 0, 1) := by decide +kernel
theorem dX6_isLetter_1 : decode cX6_isLetter 1 = .ok (.i2l, 1) := by decide +kernel
theorem dX6_isLetter_2 : decode cX6_isLetter 2 = .ok (.ldc2_w 225, 3) := by decide +kernel
theorem dX6_isLetter_5 : decode cX6_isLetter 5 = .ok (.ldc2_w 227, 3) := by decide +kernel
theorem dX6_isLetter_8 : decode cX6_isLetter 8 = .ok (.invokestatic 69, 3) := by decide +kernel
theorem dX6_isLetter_11 : decode cX6_isLetter 11 = .ok (.ireturn, 1) := by decide +kernel
set_option maxRecDepth 20000 in
theorem ggX6_isDigit_X6_in : GoodIn wsX6_isDigit wsX6_in := goodIn_r _ [6] (by decide +kernel) (by decide +kernel)
set_option maxRecDepth 20000 in
theorem gX6_isDigit_X6_in : GoodIn wsX6_isDigit (va_wsS RX6 69 yX6_in wsX6_in) := goodIn_app (goodIn_of _ (by decide +kernel)) ggX6_isDigit_X6_in
theorem dX6_isDigit_0 : decode cX6_isDigit 0 = .ok (.iload_n 0, 1) := by decide +kernel
theorem dX6_isDigit_1 : decode cX6_isDigit 1 = .ok (.i2l, 1) := by decide +kernel
theorem dX6_isDigit_2 : decode cX6_isDigit 2 = .ok (.ldc2_w 229, 3) := by decide +kernel
theorem dX6_isDigit_5 : decode cX6_isDigit 5 = .ok (.ldc2_w 231, 3) := by decide +kernel
theorem dX6_isDigit_8 : decode cX6_isDigit 8 = .ok (.invokestatic 69, 3) := by decide +kernel
theorem dX6_isDigit_11 : decode cX6_isDigit 11 = .ok (.ireturn, 1) := by decide +kernel
set_option maxRecDepth 20000 in
theorem ggX6_token_X6_byteAt : GoodIn wsX6_token wsX6_byteAt := goodIn_r _ [8, 3, 9, 23, 24, 25, 26, 27, 28, 29, 30, 31, 32, 33, 34, 35, 36, 37, 38, 39, 40, 41, 42, 43, 44, 45, 46, 47, 48, 49, 50, 51, 52, 53, 54, 55] (by decide +kernel) (by decide +kernel)
set_option maxRecDepth 20000 in
theorem gX6_token_X6_byteAt : GoodIn wsX6_token (wsV RX6 239 RX6 yX6_byteAt wsX6_byteAt) := goodIn_app (goodIn_of _ (by decide +kernel)) ggX6_token_X6_byteAt
set_option maxRecDepth 20000 in
theorem ggX6_token_X6_isLetter : GoodIn wsX6_token wsX6_isLetter := goodIn_r _ [12, 13, 14, 15, 16, 7, 17] (by decide +kernel) (by decide +kernel)
set_option maxRecDepth 20000 in
theorem gX6_token_X6_isLetter : GoodIn wsX6_token (va_wsS RX6 242 yX6_isLetter wsX6_isLetter) := goodIn_app (goodIn_of _ (by decide +kernel)) ggX6_token_X6_isLetter
set_option maxRecDepth 20000 in
theorem ggX6_token_X6_isDigit : GoodIn wsX6_token wsX6_isDigit := goodIn_r _ [20, 21, 22, 15, 16, 7, 17] (by decide +kernel) (by decide +kernel)
set_option maxRecDepth 20000 in
theorem gX6_token_X6_isDigit : GoodIn wsX6_token (va_wsS RX6 245 yX6_isDigit wsX6_isDigit) := goodIn_app (goodIn_of _ (by decide +kernel)) ggX6_token_X6_isDigit
theorem dX6_token_0 : decode cX6_token 0 = .ok (.aload_n 0, 1) := by decide +kernel
theorem dX6_token_1 : decode cX6_token 1 = .ok (.aload_n 0, 1) := by decide +kernel
theorem dX6_token_2 : decode cX6_token 2 = .ok (.getfield 233, 3) := by decide +kernel
theorem dX6_token_5 : decode cX6_token 5 = .ok (.putfield 236, 3) := by decide +kernel
theorem dX6_token_8 : decode cX6_token 8 = .ok (.aload_n 0, 1) := by decide +kernel
theorem dX6_token_9 : decode cX6_token 9 = .ok (.aload_n 0, 1) := by decide +kernel
theorem dX6_token_10 : decode cX6_token 10 = .ok (.getfield 236, 3) := by decide +kernel
theorem dX6_token_13 : decode cX6_token 13 = .ok (.invokevirtual 239, 3) := by decide +kernel
theorem dX6_token_16 : decode cX6_token 16 = .ok (.bipush 32, 2) := by decide +kernel
theorem dX6_token_18 : decode cX6_token 18 = .ok (.if_icmp .ne 16, 3) := by decide +kernel
theorem dX6_token_21 : decode cX6_token 21 = .ok (.aload_n 0, 1) := by decide +kernel
theorem dX6_token_22 : decode cX6_token 22 = .ok (.dup, 1) := by decide +kernel
theorem dX6_token_23 : decode cX6_token 23 = .ok (.getfield 236, 3) := by decide +kernel
theorem dX6_token_26 : decode cX6_token 26 = .ok (.iconst 1, 1) := by decide +kernel
theorem dX6_token_27 : decode cX6_token 27 = .ok (.iadd, 1) := by decide +kernel
theorem dX6_token_28 : decode cX6_token 28 = .ok (.putfield 236, 3) := by decide +kernel
theorem dX6_token_31 : decode cX6_token 31 = .ok (.goto (-23), 3) := by decide +kernel
theorem dX6_token_34 : decode cX6_token 34 = .ok (.aload_n 0, 1) := by decide +kernel
theorem dX6_token_35 : decode cX6_token 35 = .ok (.aload_n 0, 1) := by decide +kernel
theorem dX6_token_36 : decode cX6_token 36 = .ok (.getfield 236, 3) := by decide +kernel
theorem dX6_token_39 : decode cX6_token 39 = .ok (.invokevirtual 239, 3) := by decide +kernel
theorem dX6_token_42 : decode cX6_token 42 = .ok (.invokestatic 242, 3) := by decide +kernel
theorem dX6_token_45 : decode cX6_token 45 = .ok (.istore_n 1, 1) := by decide +kernel
theorem dX6_token_46 : decode cX6_token 46 = .ok (.aload_n 0, 1) := by decide +kernel
theorem dX6_token_47 : decode cX6_token 47 = .ok (.aload_n 0, 1) := by decide +kernel
theorem dX6_token_48 : decode cX6_token 48 = .ok (.getfield 236, 3) := by decide +kernel
theorem dX6_token_51 : decode cX6_token 51 = .ok (.invokevirtual 239, 3) := by decide +kernel
theorem dX6_token_54 : decode cX6_token 54 = .ok (.invokestatic 245, 3) := by decide +kernel
theorem dX6_token_57 : decode cX6_token 57 = .ok (.istore_n 2, 1) := by decide +kernel
theorem dX6_token_58 : decode cX6_token 58 = .ok (.aload_n 0, 1) := by decide +kernel
theorem dX6_token_59 : decode cX6_token 59 = .ok (.aload_n 0, 1) := by decide +kernel
theorem dX6_token_60 : decode cX6_token 60 = .ok (.getfield 236, 3) := by decide +kernel
theorem dX6_token_63 : decode cX6_token 63 = .ok (.aload_n 0, 1) := by decide +kernel
theorem dX6_token_64 : decode cX6_token 64 = .ok (.getfield 222, 3) := by decide +kernel
theorem dX6_token_67 : decode cX6_token 67 = .ok (.if_icmp .ge 12, 3) := by decide +kernel
theorem dX6_token_70 : decode cX6_token 70 = .ok (.aload_n 0, 1) := by decide +kernel
theorem dX6_token_71 : decode cX6_token 71 = .ok (.getfield 236, 3) := by decide +kernel
theorem dX6_token_74 : decode cX6_token 74 = .ok (.iconst 1, 1) := by decide +kernel
theorem dX6_token_75 : decode cX6_token 75 = .ok (.iadd, 1) := by decide +kernel
theorem dX6_token_76 : decode cX6_token 76 = .ok (.goto 7, 3) := by decide +kernel
theorem dX6_token_79 : decode cX6_token 79 = .ok (.aload_n 0, 1) := by decide +kernel
theorem dX6_token_80 : decode cX6_token 80 = .ok (.getfield 236, 3) := by decide +kernel
theorem dX6_token_83 : decode cX6_token 83 = .ok (.putfield 233, 3) := by decide +kernel
theorem dX6_token_86 : decode cX6_token 86 = .ok (.iload_n 1, 1) := by decide +kernel
theorem dX6_token_87 : decode cX6_token 87 = .ok (.ifCond .eq 17, 3) := by decide +kernel
theorem dX6_token_90 : decode cX6_token 90 = .ok (.aload_n 0, 1) := by decide +kernel
theorem dX6_token_91 : decode cX6_token 91 = .ok (.aload_n 0, 1) := by decide +kernel
theorem dX6_token_92 : decode cX6_token 92 = .ok (.getfield 233, 3) := by decide +kernel
theorem dX6_token_95 : decode cX6_token 95 = .ok (.invokevirtual 239, 3) := by decide +kernel
theorem dX6_token_98 : decode cX6_token 98 = .ok (.invokestatic 242, 3) := by decide +kernel
theorem dX6_token_101 : decode cX6_token 101 = .ok (.ifCond .ne 21, 3) := by decide +kernel
theorem dX6_token_104 : decode cX6_token 104 = .ok (.iload_n 2, 1) := by decide +kernel
theorem dX6_token_105 : decode cX6_token 105 = .ok (.ifCond .eq 30, 3) := by decide +kernel
theorem dX6_token_108 : decode cX6_token 108 = .ok (.aload_n 0, 1) := by decide +kernel
theorem dX6_token_109 : decode cX6_token 109 = .ok (.aload_n 0, 1) := by decide +kernel
theorem dX6_token_110 : decode cX6_token 110 = .ok (.getfield 233, 3) := by decide +kernel
theorem dX6_token_113 : decode cX6_token 113 = .ok (.invokevirtual 239, 3) := by decide +kernel
theorem dX6_token_116 : decode cX6_token 116 = .ok (.invokestatic 245, 3) := by decide +kernel
theorem dX6_token_119 : decode cX6_token 119 = .ok (.ifCond .eq 16, 3) := by decide +kernel
theorem dX6_token_122 : decode cX6_token 122 = .ok (.aload_n 0, 1) := by decide +kernel
theorem dX6_token_123 : decode cX6_token 123 = .ok (.dup, 1) := by decide +kernel
theorem dX6_token_124 : decode cX6_token 124 = .ok (.getfield 233, 3) := by decide +kernel
theorem dX6_token_127 : decode cX6_token 127 = .ok (.iconst 1, 1) := by decide +kernel
theorem dX6_token_128 : decode cX6_token 128 = .ok (.iadd, 1) := by decide +kernel
theorem dX6_token_129 : decode cX6_token 129 = .ok (.putfield 233, 3) := by decide +kernel
theorem dX6_token_132 : decode cX6_token 132 = .ok (.goto (-46), 3) := by decide +kernel
theorem dX6_token_135 : decode cX6_token 135 = .ok (.return_, 1) := by decide +kernel
set_option maxRecDepth 20000 in
theorem ggX6_needs_X6_token : GoodIn wsX6_needs wsX6_token := goodIn_r _ [6, 7, 8, 9, 10, 11, 12, 5, 13, 14, 15, 16, 17, 18, 19, 20, 21, 22, 23, 24, 25, 26, 27, 28, 29, 30, 31, 32, 33, 34, 35, 36, 37, 38, 39, 40, 41, 42, 43, 44, 45, 46, 47, 48, 49, 50, 51, 52, 53, 54, 55, 56, 57, 58, 59, 60] (by decide +kernel) (by decide +kernel)
set_option maxRecDepth 20000 in
theorem gX6_needs_X6_token : GoodIn wsX6_needs (wsV RX6 252 RX6 yX6_token wsX6_token) := goodIn_app (goodIn_of _ (by decide +kernel)) ggX6_needs_X6_token
theorem dX6_needs_0 : decode cX6_needs 0 = .ok (.aload_n 0, 1) := by decide +kernel
theorem dX6_needs_1 : decode cX6_needs 1 = .ok (.aload_n 0, 1) := by decide +kernel
theorem dX6_needs_2 : decode cX6_needs 2 = .ok (.getfield 248, 3) := by decide +kernel
theorem dX6_needs_5 : decode cX6_needs 5 = .ok (.ifCond .ne 7, 3) := by decide +kernel
theorem dX6_needs_8 : decode cX6_needs 8 = .ok (.iload_n 1, 1) := by decide +kernel
theorem dX6_needs_9 : decode cX6_needs 9 = .ok (.ifCond .ne 7, 3) := by decide +kernel
theorem dX6_needs_12 : decode cX6_needs 12 = .ok (.iconst 1, 1) := by decide +kernel
theorem dX6_needs_13 : decode cX6_needs 13 = .ok (.goto 4, 3) := by decide +kernel
theorem dX6_needs_16 : decode cX6_needs 16 = .ok (.iconst 0, 1) := by decide +kernel
theorem dX6_needs_17 : decode cX6_needs 17 = .ok (.putfield 248, 3) := by decide +kernel
theorem dX6_needs_20 : decode cX6_needs 20 = .ok (.aload_n 0, 1) := by decide +kernel
theorem dX6_needs_21 : decode cX6_needs 21 = .ok (.getfield 248, 3) := by decide +kernel
theorem dX6_needs_24 : decode cX6_needs 24 = .ok (.ifCond .ne 7, 3) := by decide +kernel
theorem dX6_needs_27 : decode cX6_needs 27 = .ok (.aload_n 0, 1) := by decide +kernel
theorem dX6_needs_28 : decode cX6_needs 28 = .ok (.invokevirtual 252, 3) := by decide +kernel
theorem dX6_needs_31 : decode cX6_needs 31 = .ok (.return_, 1) := by decide +kernel
set_option maxRecDepth 20000 in
theorem ggX6_isAt_X6_byteAt : GoodIn wsX6_isAt wsX6_byteAt := goodIn_r _ [6, 7, 8, 9, 10, 11, 12, 13, 14, 15, 16, 17, 18, 19, 20, 21, 22, 23, 24, 25, 26, 27, 28, 29, 30, 31, 32, 33, 34, 35, 36, 37, 38, 39, 40, 41] (by decide +kernel) (by decide +kernel)
set_option maxRecDepth 20000 in
theorem gX6_isAt_X6_byteAt : GoodIn wsX6_isAt (wsV RX6 239 RX6 yX6_byteAt wsX6_byteAt) := goodIn_app (goodIn_of _ (by decide +kernel)) ggX6_isAt_X6_byteAt
theorem dX6_isAt_0 : decode cX6_isAt 0 = .ok (.iload_n 2, 1) := by decide +kernel
theorem dX6_isAt_1 : decode cX6_isAt 1 = .ok (.ifCond .eq 17, 3) := by decide +kernel
theorem dX6_isAt_4 : decode cX6_isAt 4 = .ok (.aload_n 0, 1) := by decide +kernel
theorem dX6_isAt_5 : decode cX6_isAt 5 = .ok (.aload_n 0, 1) := by decide +kernel
theorem dX6_isAt_6 : decode cX6_isAt 6 = .ok (.getfield 236, 3) := by decide +kernel
theorem dX6_isAt_9 : decode cX6_isAt 9 = .ok (.iload_n 1, 1) := by decide +kernel
theorem dX6_isAt_10 : decode cX6_isAt 10 = .ok (.iadd, 1) := by decide +kernel
theorem dX6_isAt_11 : decode cX6_isAt 11 = .ok (.invokevirtual 239, 3) := by decide +kernel
theorem dX6_isAt_14 : decode cX6_isAt 14 = .ok (.iload_n 2, 1) := by decide +kernel
theorem dX6_isAt_15 : decode cX6_isAt 15 = .ok (.if_icmp .ne 7, 3) := by decide +kernel
theorem dX6_isAt_18 : decode cX6_isAt 18 = .ok (.iconst 1, 1) := by decide +kernel
theorem dX6_isAt_19 : decode cX6_isAt 19 = .ok (.goto 4, 3) := by decide +kernel
theorem dX6_isAt_22 : decode cX6_isAt 22 = .ok (.iconst 0, 1) := by decide +kernel
theorem dX6_isAt_23 : decode cX6_isAt 23 = .ok (.ireturn, 1) := by decide +kernel
set_option maxRecDepth 20000 in
theorem ggX6_isWord_X6_isAt : GoodIn wsX6_isWord wsX6_isAt := goodIn_r _ [8, 3, 9, 10, 11, 7, 12, 13, 14, 15, 16, 17, 18, 19, 20, 21, 22, 23, 24, 25, 26, 27, 28, 29, 30, 31, 32, 33, 34, 35, 36, 37, 38, 39, 40, 41, 42, 43, 44, 45, 46, 47] (by decide +kernel) (by decide +kernel)
set_option maxRecDepth 20000 in
theorem gX6_isWord_X6_isAt : GoodIn wsX6_isWord (wsV RX6 255 RX6 yX6_isAt wsX6_isAt) := goodIn_app (goodIn_of _ (by decide +kernel)) ggX6_isWord_X6_isAt
theorem dX6_isWord_0 : decode cX6_isWord 0 = .ok (.iload_n 3, 1) := by decide +kernel
theorem dX6_isWord_1 : decode cX6_isWord 1 = .ok (.ifCond .ne 7, 3) := by decide +kernel
theorem dX6_isWord_4 : decode cX6_isWord 4 = .ok (.iconst 2, 1) := by decide +kernel
theorem dX6_isWord_5 : decode cX6_isWord 5 = .ok (.goto 42, 3) := by decide +kernel
theorem dX6_isWord_8 : decode cX6_isWord 8 = .ok (.iload 4, 2) := by decide +kernel
theorem dX6_isWord_10 : decode cX6_isWord 10 = .ok (.ifCond .ne 7, 3) := by decide +kernel
theorem dX6_isWord_13 : decode cX6_isWord 13 = .ok (.iconst 3, 1) := by decide +kernel
theorem dX6_isWord_14 : decode cX6_isWord 14 = .ok (.goto 33, 3) := by decide +kernel
theorem dX6_isWord_17 : decode cX6_isWord 17 = .ok (.iload 5, 2) := by decide +kernel
theorem dX6_isWord_19 : decode cX6_isWord 19 = .ok (.ifCond .ne 7, 3) := by decide +kernel
theorem dX6_isWord_22 : decode cX6_isWord 22 = .ok (.iconst 4, 1) := by decide +kernel
theorem dX6_isWord_23 : decode cX6_isWord 23 = .ok (.goto 24, 3) := by decide +kernel
theorem dX6_isWord_26 : decode cX6_isWord 26 = .ok (.iload 6, 2) := by decide +kernel
theorem dX6_isWord_28 : decode cX6_isWord 28 = .ok (.ifCond .ne 7, 3) := by decide +kernel
theorem dX6_isWord_31 : decode cX6_isWord 31 = .ok (.iconst 5, 1) := by decide +kernel
theorem dX6_isWord_32 : decode cX6_isWord 32 = .ok (.goto 15, 3) := by decide +kernel
theorem dX6_isWord_35 : decode cX6_isWord 35 = .ok (.iload 7, 2) := by decide +kernel
theorem dX6_isWord_37 : decode cX6_isWord 37 = .ok (.ifCond .ne 8, 3) := by decide +kernel
theorem dX6_isWord_40 : decode cX6_isWord 40 = .ok (.bipush 6, 2) := by decide +kernel
theorem dX6_isWord_42 : decode cX6_isWord 42 = .ok (.goto 5, 3) := by decide +kernel
theorem dX6_isWord_45 : decode cX6_isWord 45 = .ok (.bipush 7, 2) := by decide +kernel
theorem dX6_isWord_47 : decode cX6_isWord 47 = .ok (.istore 8, 2) := by decide +kernel
theorem dX6_isWord_49 : decode cX6_isWord 49 = .ok (.aload_n 0, 1) := by decide +kernel
theorem dX6_isWord_50 : decode cX6_isWord 50 = .ok (.getfield 248, 3) := by decide +kernel
theorem dX6_isWord_53 : decode cX6_isWord 53 = .ok (.ifCond .ne 89, 3) := by decide +kernel
theorem dX6_isWord_56 : decode cX6_isWord 56 = .ok (.aload_n 0, 1) := by decide +kernel
theorem dX6_isWord_57 : decode cX6_isWord 57 = .ok (.getfield 233, 3) := by decide +kernel
theorem dX6_isWord_60 : decode cX6_isWord 60 = .ok (.aload_n 0, 1) := by decide +kernel
theorem dX6_isWord_61 : decode cX6_isWord 61 = .ok (.getfield 236, 3) := by decide +kernel
theorem dX6_isWord_64 : decode cX6_isWord 64 = .ok (.isub, 1) := by decide +kernel
theorem dX6_isWord_65 : decode cX6_isWord 65 = .ok (.iload 8, 2) := by decide +kernel
theorem dX6_isWord_67 : decode cX6_isWord 67 = .ok (.if_icmp .ne 75, 3) := by decide +kernel
theorem dX6_isWord_70 : decode cX6_isWord 70 = .ok (.aload_n 0, 1) := by decide +kernel
theorem dX6_isWord_71 : decode cX6_isWord 71 = .ok (.iconst 0, 1) := by decide +kernel
theorem dX6_isWord_72 : decode cX6_isWord 72 = .ok (.iload_n 1, 1) := by decide +kernel
theorem dX6_isWord_73 : decode cX6_isWord 73 = .ok (.invokevirtual 255, 3) := by decide +kernel
theorem dX6_isWord_76 : decode cX6_isWord 76 = .ok (.ifCond .eq 66, 3) := by decide +kernel
theorem dX6_isWord_79 : decode cX6_isWord 79 = .ok (.aload_n 0, 1) := by decide +kernel
theorem dX6_isWord_80 : decode cX6_isWord 80 = .ok (.iconst 1, 1) := by decide +kernel
theorem dX6_isWord_81 : decode cX6_isWord 81 = .ok (.iload_n 2, 1) := by decide +kernel
theorem dX6_isWord_82 : decode cX6_isWord 82 = .ok (.invokevirtual 255, 3) := by decide +kernel
theorem dX6_isWord_85 : decode cX6_isWord 85 = .ok (.ifCond .eq 57, 3) := by decide +kernel
theorem dX6_isWord_88 : decode cX6_isWord 88 = .ok (.aload_n 0, 1) := by decide +kernel
theorem dX6_isWord_89 : decode cX6_isWord 89 = .ok (.iconst 2, 1) := by decide +kernel
theorem dX6_isWord_90 : decode cX6_isWord 90 = .ok (.iload_n 3, 1) := by decide +kernel
theorem dX6_isWord_91 : decode cX6_isWord 91 = .ok (.invokevirtual 255, 3) := by decide +kernel
theorem dX6_isWord_94 : decode cX6_isWord 94 = .ok (.ifCond .eq 48, 3) := by decide +kernel
theorem dX6_isWord_97 : decode cX6_isWord 97 = .ok (.aload_n 0, 1) := by decide +kernel
theorem dX6_isWord_98 : decode cX6_isWord 98 = .ok (.iconst 3, 1) := by decide +kernel
theorem dX6_isWord_99 : decode cX6_isWord 99 = .ok (.iload 4, 2) := by decide +kernel
theorem dX6_isWord_101 : decode cX6_isWord 101 = .ok (.invokevirtual 255, 3) := by decide +kernel
theorem dX6_isWord_104 : decode cX6_isWord 104 = .ok (.ifCond .eq 38, 3) := by decide +kernel
theorem dX6_isWord_107 : decode cX6_isWord 107 = .ok (.aload_n 0, 1) := by decide +kernel
theorem dX6_isWord_108 : decode cX6_isWord 108 = .ok (.iconst 4, 1) := by decide +kernel
theorem dX6_isWord_109 : decode cX6_isWord 109 = .ok (.iload 5, 2) := by decide +kernel
theorem dX6_isWord_111 : decode cX6_isWord 111 = .ok (.invokevirtual 255, 3) := by decide +kernel
theorem dX6_isWord_114 : decode cX6_isWord 114 = .ok (.ifCond .eq 28, 3) := by decide +kernel
theorem dX6_isWord_117 : decode cX6_isWord 117 = .ok (.aload_n 0, 1) := by decide +kernel
theorem dX6_isWord_118 : decode cX6_isWord 118 = .ok (.iconst 5, 1) := by decide +kernel
theorem dX6_isWord_119 : decode cX6_isWord 119 = .ok (.iload 6, 2) := by decide +kernel
theorem dX6_isWord_121 : decode cX6_isWord 121 = .ok (.invokevirtual 255, 3) := by decide +kernel
theorem dX6_isWord_124 : decode cX6_isWord 124 = .ok (.ifCond .eq 18, 3) := by decide +kernel
theorem dX6_isWord_127 : decode cX6_isWord 127 = .ok (.aload_n 0, 1) := by decide +kernel
theorem dX6_isWord_128 : decode cX6_isWord 128 = .ok (.bipush 6, 2) := by decide +kernel
theorem dX6_isWord_130 : decode cX6_isWord 130 = .ok (.iload 7, 2) := by decide +kernel
theorem dX6_isWord_132 : decode cX6_isWord 132 = .ok (.invokevirtual 255, 3) := by decide +kernel
theorem dX6_isWord_135 : decode cX6_isWord 135 = .ok (.ifCond .eq 7, 3) := by decide +kernel
theorem dX6_isWord_138 : decode cX6_isWord 138 = .ok (.iconst 1, 1) := by decide +kernel
theorem dX6_isWord_139 : decode cX6_isWord 139 = .ok (.goto 4, 3) := by decide +kernel
theorem dX6_isWord_142 : decode cX6_isWord 142 = .ok (.iconst 0, 1) := by decide +kernel
theorem dX6_isWord_143 : decode cX6_isWord 143 = .ok (.ireturn, 1) := by decide +kernel
set_option maxRecDepth 20000 in
theorem ggX6_number_X6_byteAt : GoodIn wsX6_number wsX6_byteAt := goodIn_r _ [10, 11, 4, 33, 34, 35, 36, 37, 38, 39, 40, 41, 42, 43, 44, 45, 46, 47, 48, 49, 50, 51, 52, 53, 54, 55, 56, 57, 58, 59, 60, 61, 62, 63, 64, 65] (by decide +kernel) (by decide +kernel)
set_option maxRecDepth 20000 in
theorem gX6_number_X6_byteAt : GoodIn wsX6_number (wsV RX6 239 RX6 yX6_byteAt wsX6_byteAt) := goodIn_app (goodIn_of _ (by decide +kernel)) ggX6_number_X6_byteAt
set_option maxRecDepth 20000 in
theorem ggX6_number_X6_isDigit : GoodIn wsX6_number wsX6_isDigit := goodIn_r _ [14, 15, 16, 17, 18, 9, 19] (by decide +kernel) (by decide +kernel)
set_option maxRecDepth 20000 in
theorem gX6_number_X6_isDigit : GoodIn wsX6_number (va_wsS RX6 245 yX6_isDigit wsX6_isDigit) := goodIn_app (goodIn_of _ (by decide +kernel)) ggX6_number_X6_isDigit
set_option maxRecDepth 20000 in
theorem ggX6_number_X6_in : GoodIn wsX6_number wsX6_in := goodIn_r _ [19] (by decide +kernel) (by decide +kernel)
set_option maxRecDepth 20000 in
theorem gX6_number_X6_in : GoodIn wsX6_number (va_wsS RX6 69 yX6_in wsX6_in) := goodIn_app (goodIn_of _ (by decide +kernel)) ggX6_number_X6_in
set_option maxRecDepth 20000 in
theorem ggX6_number_X6_needs : GoodIn wsX6_number wsX6_needs := goodIn_r _ [23, 1, 24, 25, 26, 9, 27, 3, 2, 11, 6, 7, 8, 10, 4, 28, 29, 30, 31, 32, 17, 18, 19, 12, 13, 14, 15, 16, 33, 34, 35, 36, 37, 38, 39, 40, 41, 42, 43, 44, 45, 46, 47, 48, 49, 50, 51, 52, 53, 54, 55, 56, 57, 58, 59, 60, 61, 62, 63, 64, 65] (by decide +kernel) (by decide +kernel)
set_option maxRecDepth 20000 in
theorem gX6_number_X6_needs : GoodIn wsX6_number (wsV RX6 261 RX6 yX6_needs wsX6_needs) := goodIn_app (goodIn_of _ (by decide +kernel)) ggX6_number_X6_needs
theorem dX6_number_0 : decode cX6_number 0 = .ok (.aload_n 0, 1) := by decide +kernel
theorem dX6_number_1 : decode cX6_number 1 = .ok (.getfield 248, 3) := by decide +kernel
theorem dX6_number_4 : decode cX6_number 4 = .ok (.ifCond .eq 4, 3) := by decide +kernel
theorem dX6_number_7 : decode cX6_number 7 = .ok (.return_, 1) := by decide +kernel
theorem dX6_number_8 : decode cX6_number 8 = .ok (.aload_n 0, 1) := by decide +kernel
theorem dX6_number_9 : decode cX6_number 9 = .ok (.aload_n 0, 1) := by decide +kernel
theorem dX6_number_10 : decode cX6_number 10 = .ok (.getfield 236, 3) := by decide +kernel
theorem dX6_number_13 : decode cX6_number 13 = .ok (.invokevirtual 239, 3) := by decide +kernel
theorem dX6_number_16 : decode cX6_number 16 = .ok (.invokestatic 245, 3) := by decide +kernel
theorem dX6_number_19 : decode cX6_number 19 = .ok (.istore_n 3, 1) := by decide +kernel
theorem dX6_number_20 : decode cX6_number 20 = .ok (.iconst 0, 1) := by decide +kernel
theorem dX6_number_21 : decode cX6_number 21 = .ok (.istore 4, 2) := by decide +kernel
theorem dX6_number_23 : decode cX6_number 23 = .ok (.aload_n 0, 1) := by decide +kernel
theorem dX6_number_24 : decode cX6_number 24 = .ok (.getfield 236, 3) := by decide +kernel
theorem dX6_number_27 : decode cX6_number 27 = .ok (.istore 5, 2) := by decide +kernel
theorem dX6_number_29 : decode cX6_number 29 = .ok (.iload 5, 2) := by decide +kernel
theorem dX6_number_31 : decode cX6_number 31 = .ok (.aload_n 0, 1) := by decide +kernel
theorem dX6_number_32 : decode cX6_number 32 = .ok (.getfield 233, 3) := by decide +kernel
theorem dX6_number_35 : decode cX6_number 35 = .ok (.if_icmp .ge 44, 3) := by decide +kernel
theorem dX6_number_38 : decode cX6_number 38 = .ok (.iload_n 3, 1) := by decide +kernel
theorem dX6_number_39 : decode cX6_number 39 = .ok (.ifCond .eq 40, 3) := by decide +kernel
theorem dX6_number_42 : decode cX6_number 42 = .ok (.iload 4, 2) := by decide +kernel
theorem dX6_number_44 : decode cX6_number 44 = .ok (.sipush 999, 3) := by decide +kernel
theorem dX6_number_47 : decode cX6_number 47 = .ok (.if_icmp .le 8, 3) := by decide +kernel
theorem dX6_number_50 : decode cX6_number 50 = .ok (.iload 4, 2) := by decide +kernel
theorem dX6_number_52 : decode cX6_number 52 = .ok (.goto 19, 3) := by decide +kernel
theorem dX6_number_55 : decode cX6_number 55 = .ok (.bipush 10, 2) := by decide +kernel
theorem dX6_number_57 : decode cX6_number 57 = .ok (.iload 4, 2) := by decide +kernel
theorem dX6_number_59 : decode cX6_number 59 = .ok (.imul, 1) := by decide +kernel
theorem dX6_number_60 : decode cX6_number 60 = .ok (.aload_n 0, 1) := by decide +kernel
theorem dX6_number_61 : decode cX6_number 61 = .ok (.getfield 52, 3) := by decide +kernel
theorem dX6_number_64 : decode cX6_number 64 = .ok (.iload 5, 2) := by decide +kernel
theorem dX6_number_66 : decode cX6_number 66 = .ok (.iaload, 1) := by decide +kernel
theorem dX6_number_67 : decode cX6_number 67 = .ok (.iadd, 1) := by decide +kernel
theorem dX6_number_68 : decode cX6_number 68 = .ok (.bipush 48, 2) := by decide +kernel
theorem dX6_number_70 : decode cX6_number 70 = .ok (.isub, 1) := by decide +kernel
theorem dX6_number_71 : decode cX6_number 71 = .ok (.istore 4, 2) := by decide +kernel
theorem dX6_number_73 : decode cX6_number 73 = .ok (.iinc 5 1, 3) := by decide +kernel
theorem dX6_number_76 : decode cX6_number 76 = .ok (.goto (-47), 3) := by decide +kernel
theorem dX6_number_79 : decode cX6_number 79 = .ok (.aload_n 0, 1) := by decide +kernel
theorem dX6_number_80 : decode cX6_number 80 = .ok (.iload 4, 2) := by decide +kernel
theorem dX6_number_82 : decode cX6_number 82 = .ok (.putfield 258, 3) := by decide +kernel
theorem dX6_number_85 : decode cX6_number 85 = .ok (.aload_n 0, 1) := by decide +kernel
theorem dX6_number_86 : decode cX6_number 86 = .ok (.iload_n 3, 1) := by decide +kernel
theorem dX6_number_87 : decode cX6_number 87 = .ok (.ifCond .eq 20, 3) := by decide +kernel
theorem dX6_number_90 : decode cX6_number 90 = .ok (.iload 4, 2) := by decide +kernel
theorem dX6_number_92 : decode cX6_number 92 = .ok (.i2l, 1) := by decide +kernel
theorem dX6_number_93 : decode cX6_number 93 = .ok (.iload_n 1, 1) := by decide +kernel
theorem dX6_number_94 : decode cX6_number 94 = .ok (.i2l, 1) := by decide +kernel
theorem dX6_number_95 : decode cX6_number 95 = .ok (.iload_n 2, 1) := by decide +kernel
theorem dX6_number_96 : decode cX6_number 96 = .ok (.i2l, 1) := by decide +kernel
theorem dX6_number_97 : decode cX6_number 97 = .ok (.invokestatic 69, 3) := by decide +kernel
theorem dX6_number_100 : decode cX6_number 100 = .ok (.ifCond .eq 7, 3) := by decide +kernel
theorem dX6_number_103 : decode cX6_number 103 = .ok (.iconst 1, 1) := by decide +kernel
theorem dX6_number_104 : decode cX6_number 104 = .ok (.goto 4, 3) := by decide +kernel
theorem dX6_number_107 : decode cX6_number 107 = .ok (.iconst 0, 1) := by decide +kernel
theorem dX6_number_108 : decode cX6_number 108 = .ok (.invokevirtual 261, 3) := by decide +kernel
theorem dX6_number_111 : decode cX6_number 111 = .ok (.return_, 1) := by decide +kernel
set_option maxRecDepth 20000 in
theorem ggX6_kindHere_X6_isWord : GoodIn wsX6_kindHere wsX6_isWord := goodIn_r _ [5, 6, 7, 8, 9, 10, 11, 4, 12, 13, 14, 15, 16, 17, 18, 19, 20, 21, 22, 23, 24, 25, 26, 27, 28, 29, 30, 31, 32, 33, 34, 35, 36, 37, 38, 39, 40, 41, 42, 43, 44, 45, 46, 47, 48, 49, 50, 51] (by decide +kernel) (by decide +kernel)
set_option maxRecDepth 20000 in
theorem gX6_kindHere_X6_isWord : GoodIn wsX6_kindHere (wsV RX6 265 RX6 yX6_isWord wsX6_isWord) := goodIn_app (goodIn_of _ (by decide +kernel)) ggX6_kindHere_X6_isWord
theorem dX6_kindHere_0 : decode cX6_kindHere 0 = .ok (.aload_n 0, 1) := by decide +kernel
theorem dX6_kindHere_1 : decode cX6_kindHere 1 = .ok (.bipush 116, 2) := by decide +kernel
theorem dX6_kindHere_3 : decode cX6_kindHere 3 = .ok (.bipush 101, 2) := by decide +kernel
theorem dX6_kindHere_5 : decode cX6_kindHere 5 = .ok (.bipush 97, 2) := by decide +kernel
theorem dX6_kindHere_7 : decode cX6_kindHere 7 = .ok (.bipush 109, 2) := by decide +kernel
theorem dX6_kindHere_9 : decode cX6_kindHere 9 = .ok (.iconst 0, 1) := by decide +kernel
theorem dX6_kindHere_10 : decode cX6_kindHere 10 = .ok (.iconst 0, 1) := by decide +kernel
theorem dX6_kindHere_11 : decode cX6_kindHere 11 = .ok (.iconst 0, 1) := by decide +kernel
theorem dX6_kindHere_12 : decode cX6_kindHere 12 = .ok (.invokevirtual 265, 3) := by decide +kernel
theorem dX6_kindHere_15 : decode cX6_kindHere 15 = .ok (.ifCond .eq 5, 3) := by decide +kernel
theorem dX6_kindHere_18 : decode cX6_kindHere 18 = .ok (.iconst 0, 1) := by decide +kernel
theorem dX6_kindHere_19 : decode cX6_kindHere 19 = .ok (.ireturn, 1) := by decide +kernel
theorem dX6_kindHere_20 : decode cX6_kindHere 20 = .ok (.aload_n 0, 1) := by decide +kernel
theorem dX6_kindHere_21 : decode cX6_kindHere 21 = .ok (.bipush 108, 2) := by decide +kernel
theorem dX6_kindHere_23 : decode cX6_kindHere 23 = .ok (.bipush 101, 2) := by decide +kernel
theorem dX6_kindHere_25 : decode cX6_kindHere 25 = .ok (.bipush 102, 2) := by decide +kernel
theorem dX6_kindHere_27 : decode cX6_kindHere 27 = .ok (.bipush 116, 2) := by decide +kernel
theorem dX6_kindHere_29 : decode cX6_kindHere 29 = .ok (.iconst 0, 1) := by decide +kernel
theorem dX6_kindHere_30 : decode cX6_kindHere 30 = .ok (.iconst 0, 1) := by decide +kernel
theorem dX6_kindHere_31 : decode cX6_kindHere 31 = .ok (.iconst 0, 1) := by decide +kernel
theorem dX6_kindHere_32 : decode cX6_kindHere 32 = .ok (.invokevirtual 265, 3) := by decide +kernel
theorem dX6_kindHere_35 : decode cX6_kindHere 35 = .ok (.ifCond .eq 7, 3) := by decide +kernel
theorem dX6_kindHere_38 : decode cX6_kindHere 38 = .ok (.iconst 1, 1) := by decide +kernel
theorem dX6_kindHere_39 : decode cX6_kindHere 39 = .ok (.goto 92, 3) := by decide +kernel
theorem dX6_kindHere_42 : decode cX6_kindHere 42 = .ok (.aload_n 0, 1) := by decide +kernel
theorem dX6_kindHere_43 : decode cX6_kindHere 43 = .ok (.bipush 114, 2) := by decide +kernel
theorem dX6_kindHere_45 : decode cX6_kindHere 45 = .ok (.bipush 105, 2) := by decide +kernel
theorem dX6_kindHere_47 : decode cX6_kindHere 47 = .ok (.bipush 103, 2) := by decide +kernel
theorem dX6_kindHere_49 : decode cX6_kindHere 49 = .ok (.bipush 104, 2) := by decide +kernel
theorem dX6_kindHere_51 : decode cX6_kindHere 51 = .ok (.bipush 116, 2) := by decide +kernel
theorem dX6_kindHere_53 : decode cX6_kindHere 53 = .ok (.iconst 0, 1) := by decide +kernel
theorem dX6_kindHere_54 : decode cX6_kindHere 54 = .ok (.iconst 0, 1) := by decide +kernel
theorem dX6_kindHere_55 : decode cX6_kindHere 55 = .ok (.invokevirtual 265, 3) := by decide +kernel
theorem dX6_kindHere_58 : decode cX6_kindHere 58 = .ok (.ifCond .eq 7, 3) := by decide +kernel
theorem dX6_kindHere_61 : decode cX6_kindHere 61 = .ok (.iconst 2, 1) := by decide +kernel
theorem dX6_kindHere_62 : decode cX6_kindHere 62 = .ok (.goto 69, 3) := by decide +kernel
theorem dX6_kindHere_65 : decode cX6_kindHere 65 = .ok (.aload_n 0, 1) := by decide +kernel
theorem dX6_kindHere_66 : decode cX6_kindHere 66 = .ok (.bipush 119, 2) := by decide +kernel
theorem dX6_kindHere_68 : decode cX6_kindHere 68 = .ok (.bipush 105, 2) := by decide +kernel
theorem dX6_kindHere_70 : decode cX6_kindHere 70 = .ok (.bipush 100, 2) := by decide +kernel
theorem dX6_kindHere_72 : decode cX6_kindHere 72 = .ok (.bipush 101, 2) := by decide +kernel
theorem dX6_kindHere_74 : decode cX6_kindHere 74 = .ok (.iconst 0, 1) := by decide +kernel
theorem dX6_kindHere_75 : decode cX6_kindHere 75 = .ok (.iconst 0, 1) := by decide +kernel
theorem dX6_kindHere_76 : decode cX6_kindHere 76 = .ok (.iconst 0, 1) := by decide +kernel
theorem dX6_kindHere_77 : decode cX6_kindHere 77 = .ok (.invokevirtual 265, 3) := by decide +kernel
theorem dX6_kindHere_80 : decode cX6_kindHere 80 = .ok (.ifCond .eq 7, 3) := by decide +kernel
theorem dX6_kindHere_83 : decode cX6_kindHere 83 = .ok (.iconst 3, 1) := by decide +kernel
theorem dX6_kindHere_84 : decode cX6_kindHere 84 = .ok (.goto 47, 3) := by decide +kernel
theorem dX6_kindHere_87 : decode cX6_kindHere 87 = .ok (.aload_n 0, 1) := by decide +kernel
theorem dX6_kindHere_88 : decode cX6_kindHere 88 = .ok (.bipush 115, 2) := by decide +kernel
theorem dX6_kindHere_90 : decode cX6_kindHere 90 = .ok (.bipush 104, 2) := by decide +kernel
theorem dX6_kindHere_92 : decode cX6_kindHere 92 = .ok (.bipush 121, 2) := by decide +kernel
theorem dX6_kindHere_94 : decode cX6_kindHere 94 = .ok (.iconst 0, 1) := by decide +kernel
theorem dX6_kindHere_95 : decode cX6_kindHere 95 = .ok (.iconst 0, 1) := by decide +kernel
theorem dX6_kindHere_96 : decode cX6_kindHere 96 = .ok (.iconst 0, 1) := by decide +kernel
theorem dX6_kindHere_97 : decode cX6_kindHere 97 = .ok (.iconst 0, 1) := by decide +kernel
theorem dX6_kindHere_98 : decode cX6_kindHere 98 = .ok (.invokevirtual 265, 3) := by decide +kernel
theorem dX6_kindHere_101 : decode cX6_kindHere 101 = .ok (.ifCond .eq 7, 3) := by decide +kernel
theorem dX6_kindHere_104 : decode cX6_kindHere 104 = .ok (.iconst 4, 1) := by decide +kernel
theorem dX6_kindHere_105 : decode cX6_kindHere 105 = .ok (.goto 26, 3) := by decide +kernel
theorem dX6_kindHere_108 : decode cX6_kindHere 108 = .ok (.aload_n 0, 1) := by decide +kernel
theorem dX6_kindHere_109 : decode cX6_kindHere 109 = .ok (.bipush 115, 2) := by decide +kernel
theorem dX6_kindHere_111 : decode cX6_kindHere 111 = .ok (.bipush 108, 2) := by decide +kernel
theorem dX6_kindHere_113 : decode cX6_kindHere 113 = .ok (.bipush 111, 2) := by decide +kernel
theorem dX6_kindHere_115 : decode cX6_kindHere 115 = .ok (.bipush 119, 2) := by decide +kernel
theorem dX6_kindHere_117 : decode cX6_kindHere 117 = .ok (.iconst 0, 1) := by decide +kernel
theorem dX6_kindHere_118 : decode cX6_kindHere 118 = .ok (.iconst 0, 1) := by decide +kernel
theorem dX6_kindHere_119 : decode cX6_kindHere 119 = .ok (.iconst 0, 1) := by decide +kernel
theorem dX6_kindHere_120 : decode cX6_kindHere 120 = .ok (.invokevirtual 265, 3) := by decide +kernel
theorem dX6_kindHere_123 : decode cX6_kindHere 123 = .ok (.ifCond .eq 7, 3) := by decide +kernel
theorem dX6_kindHere_126 : decode cX6_kindHere 126 = .ok (.iconst 5, 1) := by decide +kernel
theorem dX6_kindHere_127 : decode cX6_kindHere 127 = .ok (.goto 4, 3) := by decide +kernel
theorem dX6_kindHere_130 : decode cX6_kindHere 130 = .ok (.iconst (-1), 1) := by decide +kernel
theorem dX6_kindHere_131 : decode cX6_kindHere 131 = .ok (.ireturn, 1) := by decide +kernel
set_option maxRecDepth 20000 in
theorem ggX6_cells_X6_needs : GoodIn wsX6_cells wsX6_needs := goodIn_r _ [8, 1, 9, 10, 11, 7, 12, 13, 3, 14, 15, 16, 17, 18, 19, 20, 21, 22, 23, 24, 25, 26, 27, 28, 29, 30, 31, 32, 37, 38, 39, 40, 41, 42, 43, 44, 45, 46, 47, 48, 49, 50, 51, 52, 53, 54, 55, 56, 57, 58, 59, 60, 61, 62, 63, 64, 65, 66, 67, 68, 69] (by decide +kernel) (by decide +kernel)
set_option maxRecDepth 20000 in
theorem gX6_cells_X6_needs : GoodIn wsX6_cells (wsV RX6 261 RX6 yX6_needs wsX6_needs) := goodIn_app (goodIn_of _ (by decide +kernel)) ggX6_cells_X6_needs
set_option maxRecDepth 20000 in
theorem ggX6_cells_X6_number : GoodIn wsX6_cells wsX6_number := goodIn_r _ [36, 1, 3, 13, 19, 2, 15, 16, 17, 7, 18, 14, 28, 29, 30, 31, 32, 25, 26, 27, 4, 5, 6, 8, 9, 10, 11, 12, 20, 21, 22, 23, 24, 37, 38, 39, 40, 41, 42, 43, 44, 45, 46, 47, 48, 49, 50, 51, 52, 53, 54, 55, 56, 57, 58, 59, 60, 61, 62, 63, 64, 65, 66, 67, 68, 69] (by decide +kernel) (by decide +kernel)
set_option maxRecDepth 20000 in
theorem gX6_cells_X6_number : GoodIn wsX6_cells (wsV RX6 269 RX6 yX6_number wsX6_number) := goodIn_app (goodIn_of _ (by decide +kernel)) ggX6_cells_X6_number
set_option maxRecDepth 20000 in
theorem ggX6_cells_X6_byteAt : GoodIn wsX6_cells wsX6_byteAt := goodIn_r _ [18, 14, 19, 37, 38, 39, 40, 41, 42, 43, 44, 45, 46, 47, 48, 49, 50, 51, 52, 53, 54, 55, 56, 57, 58, 59, 60, 61, 62, 63, 64, 65, 66, 67, 68, 69] (by decide +kernel) (by decide +kernel)
set_option maxRecDepth 20000 in
theorem gX6_cells_X6_byteAt : GoodIn wsX6_cells (wsV RX6 239 RX6 yX6_byteAt wsX6_byteAt) := goodIn_app (goodIn_of _ (by decide +kernel)) ggX6_cells_X6_byteAt
set_option maxRecDepth 20000 in
theorem ggX6_cells_X6_isDigit : GoodIn wsX6_cells wsX6_isDigit := goodIn_r _ [30, 31, 32, 25, 26, 7, 27] (by decide +kernel) (by decide +kernel)
set_option maxRecDepth 20000 in
theorem gX6_cells_X6_isDigit : GoodIn wsX6_cells (va_wsS RX6 245 yX6_isDigit wsX6_isDigit) := goodIn_app (goodIn_of _ (by decide +kernel)) ggX6_cells_X6_isDigit
theorem dX6_cells_0 : decode cX6_cells 0 = .ok (.aload_n 0, 1) := by decide +kernel
theorem dX6_cells_1 : decode cX6_cells 1 = .ok (.iconst 1, 1) := by decide +kernel
theorem dX6_cells_2 : decode cX6_cells 2 = .ok (.invokevirtual 261, 3) := by decide +kernel
theorem dX6_cells_5 : decode cX6_cells 5 = .ok (.iconst 0, 1) := by decide +kernel
theorem dX6_cells_6 : decode cX6_cells 6 = .ok (.istore_n 1, 1) := by decide +kernel
theorem dX6_cells_7 : decode cX6_cells 7 = .ok (.iconst 0, 1) := by decide +kernel
theorem dX6_cells_8 : decode cX6_cells 8 = .ok (.istore_n 2, 1) := by decide +kernel
theorem dX6_cells_9 : decode cX6_cells 9 = .ok (.iconst 1, 1) := by decide +kernel
theorem dX6_cells_10 : decode cX6_cells 10 = .ok (.istore_n 3, 1) := by decide +kernel
theorem dX6_cells_11 : decode cX6_cells 11 = .ok (.iload_n 3, 1) := by decide +kernel
theorem dX6_cells_12 : decode cX6_cells 12 = .ok (.ifCond .eq 63, 3) := by decide +kernel
theorem dX6_cells_15 : decode cX6_cells 15 = .ok (.aload_n 0, 1) := by decide +kernel
theorem dX6_cells_16 : decode cX6_cells 16 = .ok (.getfield 248, 3) := by decide +kernel
theorem dX6_cells_19 : decode cX6_cells 19 = .ok (.ifCond .ne 56, 3) := by decide +kernel
theorem dX6_cells_22 : decode cX6_cells 22 = .ok (.aload_n 0, 1) := by decide +kernel
theorem dX6_cells_23 : decode cX6_cells 23 = .ok (.iload_n 2, 1) := by decide +kernel
theorem dX6_cells_24 : decode cX6_cells 24 = .ok (.bipush 15, 2) := by decide +kernel
theorem dX6_cells_26 : decode cX6_cells 26 = .ok (.invokevirtual 269, 3) := by decide +kernel
theorem dX6_cells_29 : decode cX6_cells 29 = .ok (.iload_n 1, 1) := by decide +kernel
theorem dX6_cells_30 : decode cX6_cells 30 = .ok (.iconst 1, 1) := by decide +kernel
theorem dX6_cells_31 : decode cX6_cells 31 = .ok (.aload_n 0, 1) := by decide +kernel
theorem dX6_cells_32 : decode cX6_cells 32 = .ok (.getfield 258, 3) := by decide +kernel
theorem dX6_cells_35 : decode cX6_cells 35 = .ok (.ishl, 1) := by decide +kernel
theorem dX6_cells_36 : decode cX6_cells 36 = .ok (.ior, 1) := by decide +kernel
theorem dX6_cells_37 : decode cX6_cells 37 = .ok (.istore_n 1, 1) := by decide +kernel
theorem dX6_cells_38 : decode cX6_cells 38 = .ok (.aload_n 0, 1) := by decide +kernel
theorem dX6_cells_39 : decode cX6_cells 39 = .ok (.getfield 258, 3) := by decide +kernel
theorem dX6_cells_42 : decode cX6_cells 42 = .ok (.iconst 1, 1) := by decide +kernel
theorem dX6_cells_43 : decode cX6_cells 43 = .ok (.iadd, 1) := by decide +kernel
theorem dX6_cells_44 : decode cX6_cells 44 = .ok (.istore_n 2, 1) := by decide +kernel
theorem dX6_cells_45 : decode cX6_cells 45 = .ok (.aload_n 0, 1) := by decide +kernel
theorem dX6_cells_46 : decode cX6_cells 46 = .ok (.getfield 248, 3) := by decide +kernel
theorem dX6_cells_49 : decode cX6_cells 49 = .ok (.ifCond .ne 21, 3) := by decide +kernel
theorem dX6_cells_52 : decode cX6_cells 52 = .ok (.aload_n 0, 1) := by decide +kernel
theorem dX6_cells_53 : decode cX6_cells 53 = .ok (.aload_n 0, 1) := by decide +kernel
theorem dX6_cells_54 : decode cX6_cells 54 = .ok (.getfield 236, 3) := by decide +kernel
theorem dX6_cells_57 : decode cX6_cells 57 = .ok (.invokevirtual 239, 3) := by decide +kernel
theorem dX6_cells_60 : decode cX6_cells 60 = .ok (.invokestatic 245, 3) := by decide +kernel
theorem dX6_cells_63 : decode cX6_cells 63 = .ok (.ifCond .eq 7, 3) := by decide +kernel
theorem dX6_cells_66 : decode cX6_cells 66 = .ok (.iconst 1, 1) := by decide +kernel
theorem dX6_cells_67 : decode cX6_cells 67 = .ok (.goto 4, 3) := by decide +kernel
theorem dX6_cells_70 : decode cX6_cells 70 = .ok (.iconst 0, 1) := by decide +kernel
theorem dX6_cells_71 : decode cX6_cells 71 = .ok (.istore_n 3, 1) := by decide +kernel
theorem dX6_cells_72 : decode cX6_cells 72 = .ok (.goto (-61), 3) := by decide +kernel
theorem dX6_cells_75 : decode cX6_cells 75 = .ok (.iload_n 1, 1) := by decide +kernel
theorem dX6_cells_76 : decode cX6_cells 76 = .ok (.ireturn, 1) := by decide +kernel
set_option maxRecDepth 20000 in
theorem ggX6_perhaps_X6_needs : GoodIn wsX6_perhaps wsX6_needs := goodIn_r _ [7, 1, 8, 9, 10, 6, 11, 12, 13, 14, 15, 16, 17, 18, 19, 20, 21, 22, 23, 24, 25, 26, 27, 28, 29, 30, 31, 32, 37, 38, 39, 40, 41, 42, 43, 44, 45, 46, 47, 48, 49, 50, 51, 52, 53, 54, 55, 56, 57, 58, 59, 60, 61, 62, 63, 64, 65, 66, 67, 68, 69] (by decide +kernel) (by decide +kernel)
set_option maxRecDepth 20000 in
theorem gX6_perhaps_X6_needs : GoodIn wsX6_perhaps (wsV RX6 261 RX6 yX6_needs wsX6_needs) := goodIn_app (goodIn_of _ (by decide +kernel)) ggX6_perhaps_X6_needs
set_option maxRecDepth 20000 in
theorem ggX6_perhaps_X6_number : GoodIn wsX6_perhaps wsX6_number := goodIn_r _ [36, 1, 13, 12, 19, 2, 15, 16, 17, 6, 18, 14, 28, 29, 30, 31, 32, 25, 26, 27, 3, 4, 5, 7, 8, 9, 10, 11, 20, 21, 22, 23, 24, 37, 38, 39, 40, 41, 42, 43, 44, 45, 46, 47, 48, 49, 50, 51, 52, 53, 54, 55, 56, 57, 58, 59, 60, 61, 62, 63, 64, 65, 66, 67, 68, 69] (by decide +kernel) (by decide +kernel)
set_option maxRecDepth 20000 in
theorem gX6_perhaps_X6_number : GoodIn wsX6_perhaps (wsV RX6 269 RX6 yX6_number wsX6_number) := goodIn_app (goodIn_of _ (by decide +kernel)) ggX6_perhaps_X6_number
theorem dX6_perhaps_0 : decode cX6_perhaps 0 = .ok (.aload_n 0, 1) := by decide +kernel
theorem dX6_perhaps_1 : decode cX6_perhaps 1 = .ok (.getfield 248, 3) := by decide +kernel
theorem dX6_perhaps_4 : decode cX6_perhaps 4 = .ok (.ifCond .ne 7, 3) := by decide +kernel
theorem dX6_perhaps_7 : decode cX6_perhaps 7 = .ok (.iload_n 1, 1) := by decide +kernel
theorem dX6_perhaps_8 : decode cX6_perhaps 8 = .ok (.ifCond .ne 5, 3) := by decide +kernel
theorem dX6_perhaps_11 : decode cX6_perhaps 11 = .ok (.iload_n 3, 1) := by decide +kernel
theorem dX6_perhaps_12 : decode cX6_perhaps 12 = .ok (.ireturn, 1) := by decide +kernel
theorem dX6_perhaps_13 : decode cX6_perhaps 13 = .ok (.aload_n 0, 1) := by decide +kernel
theorem dX6_perhaps_14 : decode cX6_perhaps 14 = .ok (.iconst 1, 1) := by decide +kernel
theorem dX6_perhaps_15 : decode cX6_perhaps 15 = .ok (.invokevirtual 261, 3) := by decide +kernel
theorem dX6_perhaps_18 : decode cX6_perhaps 18 = .ok (.aload_n 0, 1) := by decide +kernel
theorem dX6_perhaps_19 : decode cX6_perhaps 19 = .ok (.iconst 0, 1) := by decide +kernel
theorem dX6_perhaps_20 : decode cX6_perhaps 20 = .ok (.iload_n 2, 1) := by decide +kernel
theorem dX6_perhaps_21 : decode cX6_perhaps 21 = .ok (.invokevirtual 269, 3) := by decide +kernel
theorem dX6_perhaps_24 : decode cX6_perhaps 24 = .ok (.aload_n 0, 1) := by decide +kernel
theorem dX6_perhaps_25 : decode cX6_perhaps 25 = .ok (.getfield 258, 3) := by decide +kernel
theorem dX6_perhaps_28 : decode cX6_perhaps 28 = .ok (.ireturn, 1) := by decide +kernel
set_option maxRecDepth 20000 in
theorem ggX6_fieldItem_X6_needs : GoodIn wsX6_fieldItem wsX6_needs := goodIn_r _ [7, 2, 8, 9, 10, 6, 11, 12, 13, 14, 15, 16, 17, 18, 19, 20, 21, 22, 23, 24, 25, 26, 27, 28, 29, 30, 31, 32, 58, 59, 60, 61, 62, 63, 64, 65, 66, 67, 68, 69, 70, 71, 72, 73, 74, 75, 76, 77, 78, 79, 80, 81, 82, 83, 84, 85, 86, 87, 88, 89, 90] (by decide +kernel) (by decide +kernel)
set_option maxRecDepth 20000 in
theorem gX6_fieldItem_X6_needs : GoodIn wsX6_fieldItem (wsV RX6 261 RX6 yX6_needs wsX6_needs) := goodIn_app (goodIn_of _ (by decide +kernel)) ggX6_fieldItem_X6_needs
set_option maxRecDepth 20000 in
theorem ggX6_fieldItem_X6_isWord : GoodIn wsX6_fieldItem wsX6_isWord := goodIn_r _ [36, 2, 12, 13, 37, 38, 39, 6, 40, 15, 16, 17, 18, 14, 19, 58, 59, 60, 61, 62, 63, 64, 65, 66, 67, 68, 69, 70, 71, 72, 73, 74, 75, 76, 77, 78, 79, 80, 81, 82, 83, 84, 85, 86, 87, 88, 89, 90] (by decide +kernel) (by decide +kernel)
set_option maxRecDepth 20000 in
theorem gX6_fieldItem_X6_isWord : GoodIn wsX6_fieldItem (wsV RX6 265 RX6 yX6_isWord wsX6_isWord) := goodIn_app (goodIn_of _ (by decide +kernel)) ggX6_fieldItem_X6_isWord
set_option maxRecDepth 20000 in
theorem ggX6_fieldItem_X6_cells : GoodIn wsX6_fieldItem wsX6_cells := goodIn_r _ [44, 2, 45, 13, 3, 4, 5, 6, 7, 8, 9, 10, 11, 12, 14, 15, 16, 17, 18, 19, 20, 21, 22, 23, 24, 25, 26, 27, 28, 29, 30, 31, 32, 46, 47, 48, 49, 58, 59, 60, 61, 62, 63, 64, 65, 66, 67, 68, 69, 70, 71, 72, 73, 74, 75, 76, 77, 78, 79, 80, 81, 82, 83, 84, 85, 86, 87, 88, 89, 90] (by decide +kernel) (by decide +kernel)
set_option maxRecDepth 20000 in
theorem gX6_fieldItem_X6_cells : GoodIn wsX6_fieldItem (wsV RX6 271 RX6 yX6_cells wsX6_cells) := goodIn_app (goodIn_of _ (by decide +kernel)) ggX6_fieldItem_X6_cells
set_option maxRecDepth 20000 in
theorem ggX6_fieldItem_X6_perhaps : GoodIn wsX6_fieldItem wsX6_perhaps := goodIn_r _ [53, 2, 45, 3, 4, 5, 6, 7, 8, 9, 10, 11, 12, 13, 14, 15, 16, 17, 18, 19, 20, 21, 22, 23, 24, 25, 26, 27, 28, 29, 30, 31, 32, 46, 47, 48, 49, 58, 59, 60, 61, 62, 63, 64, 65, 66, 67, 68, 69, 70, 71, 72, 73, 74, 75, 76, 77, 78, 79, 80, 81, 82, 83, 84, 85, 86, 87, 88, 89, 90] (by decide +kernel) (by decide +kernel)
set_option maxRecDepth 20000 in
theorem gX6_fieldItem_X6_perhaps : GoodIn wsX6_fieldItem (wsV RX6 274 RX6 yX6_perhaps wsX6_perhaps) := goodIn_app (goodIn_of _ (by decide +kernel)) ggX6_fieldItem_X6_perhaps
set_option maxRecDepth 20000 in
theorem ggX6_fieldItem_X6_newField : GoodIn wsX6_fieldItem wsX6_newField := goodIn_r _ [57, 1, 58, 59, 60, 61, 62, 63, 64, 65, 66, 67, 68, 69, 70, 71, 72, 73, 74, 75, 76, 77, 78, 79, 80, 81, 82, 83, 84, 85, 86, 87, 88, 89, 90] (by decide +kernel) (by decide +kernel)
set_option maxRecDepth 20000 in
theorem gX6_fieldItem_X6_newField : GoodIn wsX6_fieldItem (wsV RX6 83 RX6 yX6_newField wsX6_newField) := goodIn_app (goodIn_of _ (by decide +kernel)) ggX6_fieldItem_X6_newField
theorem dX6_fieldItem_0 : decode cX6_fieldItem 0 = .ok (.aload_n 0, 1) := by decide +kernel
theorem dX6_fieldItem_1 : decode cX6_fieldItem 1 = .ok (.aload_n 0, 1) := by decide +kernel
theorem dX6_fieldItem_2 : decode cX6_fieldItem 2 = .ok (.getfield 7, 3) := by decide +kernel
theorem dX6_fieldItem_5 : decode cX6_fieldItem 5 = .ok (.iconst 0, 1) := by decide +kernel
theorem dX6_fieldItem_6 : decode cX6_fieldItem 6 = .ok (.iaload, 1) := by decide +kernel
theorem dX6_fieldItem_7 : decode cX6_fieldItem 7 = .ok (.bipush 6, 2) := by decide +kernel
theorem dX6_fieldItem_9 : decode cX6_fieldItem 9 = .ok (.if_icmp .ge 7, 3) := by decide +kernel
theorem dX6_fieldItem_12 : decode cX6_fieldItem 12 = .ok (.iconst 1, 1) := by decide +kernel
theorem dX6_fieldItem_13 : decode cX6_fieldItem 13 = .ok (.goto 4, 3) := by decide +kernel
theorem dX6_fieldItem_16 : decode cX6_fieldItem 16 = .ok (.iconst 0, 1) := by decide +kernel
theorem dX6_fieldItem_17 : decode cX6_fieldItem 17 = .ok (.invokevirtual 261, 3) := by decide +kernel
theorem dX6_fieldItem_20 : decode cX6_fieldItem 20 = .ok (.aload_n 0, 1) := by decide +kernel
theorem dX6_fieldItem_21 : decode cX6_fieldItem 21 = .ok (.bipush 115, 2) := by decide +kernel
theorem dX6_fieldItem_23 : decode cX6_fieldItem 23 = .ok (.bipush 116, 2) := by decide +kernel
theorem dX6_fieldItem_25 : decode cX6_fieldItem 25 = .ok (.bipush 111, 2) := by decide +kernel
theorem dX6_fieldItem_27 : decode cX6_fieldItem 27 = .ok (.bipush 110, 2) := by decide +kernel
theorem dX6_fieldItem_29 : decode cX6_fieldItem 29 = .ok (.bipush 101, 2) := by decide +kernel
theorem dX6_fieldItem_31 : decode cX6_fieldItem 31 = .ok (.bipush 115, 2) := by decide +kernel
theorem dX6_fieldItem_33 : decode cX6_fieldItem 33 = .ok (.iconst 0, 1) := by decide +kernel
theorem dX6_fieldItem_34 : decode cX6_fieldItem 34 = .ok (.invokevirtual 265, 3) := by decide +kernel
theorem dX6_fieldItem_37 : decode cX6_fieldItem 37 = .ok (.ifCond .eq 10, 3) := by decide +kernel
theorem dX6_fieldItem_40 : decode cX6_fieldItem 40 = .ok (.aload_n 0, 1) := by decide +kernel
theorem dX6_fieldItem_41 : decode cX6_fieldItem 41 = .ok (.invokevirtual 271, 3) := by decide +kernel
theorem dX6_fieldItem_44 : decode cX6_fieldItem 44 = .ok (.goto 4, 3) := by decide +kernel
theorem dX6_fieldItem_47 : decode cX6_fieldItem 47 = .ok (.iconst 0, 1) := by decide +kernel
theorem dX6_fieldItem_48 : decode cX6_fieldItem 48 = .ok (.istore_n 1, 1) := by decide +kernel
theorem dX6_fieldItem_49 : decode cX6_fieldItem 49 = .ok (.aload_n 0, 1) := by decide +kernel
theorem dX6_fieldItem_50 : decode cX6_fieldItem 50 = .ok (.bipush 116, 2) := by decide +kernel
theorem dX6_fieldItem_52 : decode cX6_fieldItem 52 = .ok (.bipush 114, 2) := by decide +kernel
theorem dX6_fieldItem_54 : decode cX6_fieldItem 54 = .ok (.bipush 101, 2) := by decide +kernel
theorem dX6_fieldItem_56 : decode cX6_fieldItem 56 = .ok (.bipush 101, 2) := by decide +kernel
theorem dX6_fieldItem_58 : decode cX6_fieldItem 58 = .ok (.bipush 115, 2) := by decide +kernel
theorem dX6_fieldItem_60 : decode cX6_fieldItem 60 = .ok (.iconst 0, 1) := by decide +kernel
theorem dX6_fieldItem_61 : decode cX6_fieldItem 61 = .ok (.iconst 0, 1) := by decide +kernel
theorem dX6_fieldItem_62 : decode cX6_fieldItem 62 = .ok (.invokevirtual 265, 3) := by decide +kernel
theorem dX6_fieldItem_65 : decode cX6_fieldItem 65 = .ok (.ifCond .eq 10, 3) := by decide +kernel
theorem dX6_fieldItem_68 : decode cX6_fieldItem 68 = .ok (.aload_n 0, 1) := by decide +kernel
theorem dX6_fieldItem_69 : decode cX6_fieldItem 69 = .ok (.invokevirtual 271, 3) := by decide +kernel
theorem dX6_fieldItem_72 : decode cX6_fieldItem 72 = .ok (.goto 4, 3) := by decide +kernel
theorem dX6_fieldItem_75 : decode cX6_fieldItem 75 = .ok (.iconst 0, 1) := by decide +kernel
theorem dX6_fieldItem_76 : decode cX6_fieldItem 76 = .ok (.istore_n 2, 1) := by decide +kernel
theorem dX6_fieldItem_77 : decode cX6_fieldItem 77 = .ok (.aload_n 0, 1) := by decide +kernel
theorem dX6_fieldItem_78 : decode cX6_fieldItem 78 = .ok (.aload_n 0, 1) := by decide +kernel
theorem dX6_fieldItem_79 : decode cX6_fieldItem 79 = .ok (.bipush 105, 2) := by decide +kernel
theorem dX6_fieldItem_81 : decode cX6_fieldItem 81 = .ok (.bipush 110, 2) := by decide +kernel
theorem dX6_fieldItem_83 : decode cX6_fieldItem 83 = .ok (.iconst 0, 1) := by decide +kernel
theorem dX6_fieldItem_84 : decode cX6_fieldItem 84 = .ok (.iconst 0, 1) := by decide +kernel
theorem dX6_fieldItem_85 : decode cX6_fieldItem 85 = .ok (.iconst 0, 1) := by decide +kernel
theorem dX6_fieldItem_86 : decode cX6_fieldItem 86 = .ok (.iconst 0, 1) := by decide +kernel
theorem dX6_fieldItem_87 : decode cX6_fieldItem 87 = .ok (.iconst 0, 1) := by decide +kernel
theorem dX6_fieldItem_88 : decode cX6_fieldItem 88 = .ok (.invokevirtual 265, 3) := by decide +kernel
theorem dX6_fieldItem_91 : decode cX6_fieldItem 91 = .ok (.bipush 15, 2) := by decide +kernel
theorem dX6_fieldItem_93 : decode cX6_fieldItem 93 = .ok (.iconst (-1), 1) := by decide +kernel
theorem dX6_fieldItem_94 : decode cX6_fieldItem 94 = .ok (.invokevirtual 274, 3) := by decide +kernel
theorem dX6_fieldItem_97 : decode cX6_fieldItem 97 = .ok (.istore_n 3, 1) := by decide +kernel
theorem dX6_fieldItem_98 : decode cX6_fieldItem 98 = .ok (.aload_n 0, 1) := by decide +kernel
theorem dX6_fieldItem_99 : decode cX6_fieldItem 99 = .ok (.aload_n 0, 1) := by decide +kernel
theorem dX6_fieldItem_100 : decode cX6_fieldItem 100 = .ok (.bipush 111, 2) := by decide +kernel
theorem dX6_fieldItem_102 : decode cX6_fieldItem 102 = .ok (.bipush 117, 2) := by decide +kernel
theorem dX6_fieldItem_104 : decode cX6_fieldItem 104 = .ok (.bipush 116, 2) := by decide +kernel
theorem dX6_fieldItem_106 : decode cX6_fieldItem 106 = .ok (.iconst 0, 1) := by decide +kernel
theorem dX6_fieldItem_107 : decode cX6_fieldItem 107 = .ok (.iconst 0, 1) := by decide +kernel
theorem dX6_fieldItem_108 : decode cX6_fieldItem 108 = .ok (.iconst 0, 1) := by decide +kernel
theorem dX6_fieldItem_109 : decode cX6_fieldItem 109 = .ok (.iconst 0, 1) := by decide +kernel
theorem dX6_fieldItem_110 : decode cX6_fieldItem 110 = .ok (.invokevirtual 265, 3) := by decide +kernel
theorem dX6_fieldItem_113 : decode cX6_fieldItem 113 = .ok (.bipush 15, 2) := by decide +kernel
theorem dX6_fieldItem_115 : decode cX6_fieldItem 115 = .ok (.iconst (-1), 1) := by decide +kernel
theorem dX6_fieldItem_116 : decode cX6_fieldItem 116 = .ok (.invokevirtual 274, 3) := by decide +kernel
theorem dX6_fieldItem_119 : decode cX6_fieldItem 119 = .ok (.istore 4, 2) := by decide +kernel
theorem dX6_fieldItem_121 : decode cX6_fieldItem 121 = .ok (.aload_n 0, 1) := by decide +kernel
theorem dX6_fieldItem_122 : decode cX6_fieldItem 122 = .ok (.aload_n 0, 1) := by decide +kernel
theorem dX6_fieldItem_123 : decode cX6_fieldItem 123 = .ok (.bipush 119, 2) := by decide +kernel
theorem dX6_fieldItem_125 : decode cX6_fieldItem 125 = .ok (.bipush 101, 2) := by decide +kernel
theorem dX6_fieldItem_127 : decode cX6_fieldItem 127 = .ok (.bipush 116, 2) := by decide +kernel
theorem dX6_fieldItem_129 : decode cX6_fieldItem 129 = .ok (.iconst 0, 1) := by decide +kernel
theorem dX6_fieldItem_130 : decode cX6_fieldItem 130 = .ok (.iconst 0, 1) := by decide +kernel
theorem dX6_fieldItem_131 : decode cX6_fieldItem 131 = .ok (.iconst 0, 1) := by decide +kernel
theorem dX6_fieldItem_132 : decode cX6_fieldItem 132 = .ok (.iconst 0, 1) := by decide +kernel
theorem dX6_fieldItem_133 : decode cX6_fieldItem 133 = .ok (.invokevirtual 265, 3) := by decide +kernel
theorem dX6_fieldItem_136 : decode cX6_fieldItem 136 = .ok (.bipush 99, 2) := by decide +kernel
theorem dX6_fieldItem_138 : decode cX6_fieldItem 138 = .ok (.iconst 0, 1) := by decide +kernel
theorem dX6_fieldItem_139 : decode cX6_fieldItem 139 = .ok (.invokevirtual 274, 3) := by decide +kernel
theorem dX6_fieldItem_142 : decode cX6_fieldItem 142 = .ok (.istore 5, 2) := by decide +kernel
theorem dX6_fieldItem_144 : decode cX6_fieldItem 144 = .ok (.aload_n 0, 1) := by decide +kernel
theorem dX6_fieldItem_145 : decode cX6_fieldItem 145 = .ok (.getfield 248, 3) := by decide +kernel
theorem dX6_fieldItem_148 : decode cX6_fieldItem 148 = .ok (.ifCond .ne 66, 3) := by decide +kernel
theorem dX6_fieldItem_151 : decode cX6_fieldItem 151 = .ok (.iconst 2, 1) := by decide +kernel
theorem dX6_fieldItem_152 : decode cX6_fieldItem 152 = .ok (.bipush 6, 2) := by decide +kernel
theorem dX6_fieldItem_154 : decode cX6_fieldItem 154 = .ok (.aload_n 0, 1) := by decide +kernel
theorem dX6_fieldItem_155 : decode cX6_fieldItem 155 = .ok (.invokevirtual 83, 3) := by decide +kernel
theorem dX6_fieldItem_158 : decode cX6_fieldItem 158 = .ok (.imul, 1) := by decide +kernel
theorem dX6_fieldItem_159 : decode cX6_fieldItem 159 = .ok (.iadd, 1) := by decide +kernel
theorem dX6_fieldItem_160 : decode cX6_fieldItem 160 = .ok (.istore 6, 2) := by decide +kernel
theorem dX6_fieldItem_162 : decode cX6_fieldItem 162 = .ok (.aload_n 0, 1) := by decide +kernel
theorem dX6_fieldItem_163 : decode cX6_fieldItem 163 = .ok (.getfield 7, 3) := by decide +kernel
theorem dX6_fieldItem_166 : decode cX6_fieldItem 166 = .ok (.iload 6, 2) := by decide +kernel
theorem dX6_fieldItem_168 : decode cX6_fieldItem 168 = .ok (.iconst 0, 1) := by decide +kernel
theorem dX6_fieldItem_169 : decode cX6_fieldItem 169 = .ok (.iadd, 1) := by decide +kernel
theorem dX6_fieldItem_170 : decode cX6_fieldItem 170 = .ok (.iload_n 1, 1) := by decide +kernel
theorem dX6_fieldItem_171 : decode cX6_fieldItem 171 = .ok (.iastore, 1) := by decide +kernel
theorem dX6_fieldItem_172 : decode cX6_fieldItem 172 = .ok (.aload_n 0, 1) := by decide +kernel
theorem dX6_fieldItem_173 : decode cX6_fieldItem 173 = .ok (.getfield 7, 3) := by decide +kernel
theorem dX6_fieldItem_176 : decode cX6_fieldItem 176 = .ok (.iload 6, 2) := by decide +kernel
theorem dX6_fieldItem_178 : decode cX6_fieldItem 178 = .ok (.iconst 1, 1) := by decide +kernel
theorem dX6_fieldItem_179 : decode cX6_fieldItem 179 = .ok (.iadd, 1) := by decide +kernel
theorem dX6_fieldItem_180 : decode cX6_fieldItem 180 = .ok (.iload_n 2, 1) := by decide +kernel
theorem dX6_fieldItem_181 : decode cX6_fieldItem 181 = .ok (.iastore, 1) := by decide +kernel
theorem dX6_fieldItem_182 : decode cX6_fieldItem 182 = .ok (.aload_n 0, 1) := by decide +kernel
theorem dX6_fieldItem_183 : decode cX6_fieldItem 183 = .ok (.getfield 7, 3) := by decide +kernel
theorem dX6_fieldItem_186 : decode cX6_fieldItem 186 = .ok (.iload 6, 2) := by decide +kernel
theorem dX6_fieldItem_188 : decode cX6_fieldItem 188 = .ok (.iconst 2, 1) := by decide +kernel
theorem dX6_fieldItem_189 : decode cX6_fieldItem 189 = .ok (.iadd, 1) := by decide +kernel
theorem dX6_fieldItem_190 : decode cX6_fieldItem 190 = .ok (.iload_n 3, 1) := by decide +kernel
theorem dX6_fieldItem_191 : decode cX6_fieldItem 191 = .ok (.iastore, 1) := by decide +kernel
theorem dX6_fieldItem_192 : decode cX6_fieldItem 192 = .ok (.aload_n 0, 1) := by decide +kernel
theorem dX6_fieldItem_193 : decode cX6_fieldItem 193 = .ok (.getfield 7, 3) := by decide +kernel
theorem dX6_fieldItem_196 : decode cX6_fieldItem 196 = .ok (.iload 6, 2) := by decide +kernel
theorem dX6_fieldItem_198 : decode cX6_fieldItem 198 = .ok (.iconst 3, 1) := by decide +kernel
theorem dX6_fieldItem_199 : decode cX6_fieldItem 199 = .ok (.iadd, 1) := by decide +kernel
theorem dX6_fieldItem_200 : decode cX6_fieldItem 200 = .ok (.iload 4, 2) := by decide +kernel
theorem dX6_fieldItem_202 : decode cX6_fieldItem 202 = .ok (.iastore, 1) := by decide +kernel
theorem dX6_fieldItem_203 : decode cX6_fieldItem 203 = .ok (.aload_n 0, 1) := by decide +kernel
theorem dX6_fieldItem_204 : decode cX6_fieldItem 204 = .ok (.getfield 7, 3) := by decide +kernel
theorem dX6_fieldItem_207 : decode cX6_fieldItem 207 = .ok (.iload 6, 2) := by decide +kernel
theorem dX6_fieldItem_209 : decode cX6_fieldItem 209 = .ok (.iconst 4, 1) := by decide +kernel
theorem dX6_fieldItem_210 : decode cX6_fieldItem 210 = .ok (.iadd, 1) := by decide +kernel
theorem dX6_fieldItem_211 : decode cX6_fieldItem 211 = .ok (.iload 5, 2) := by decide +kernel
theorem dX6_fieldItem_213 : decode cX6_fieldItem 213 = .ok (.iastore, 1) := by decide +kernel
theorem dX6_fieldItem_214 : decode cX6_fieldItem 214 = .ok (.return_, 1) := by decide +kernel
set_option maxRecDepth 20000 in
theorem ggX6_numberHere_X6_byteAt : GoodIn wsX6_numberHere wsX6_byteAt := goodIn_r _ [9, 10, 3, 19, 20, 21, 22, 23, 24, 25, 26, 27, 28, 29, 30, 31, 32, 33, 34, 35, 36, 37, 38, 39, 40, 41, 42, 43, 44, 45, 46, 47, 48, 49, 50, 51] (by decide +kernel) (by decide +kernel)
set_option maxRecDepth 20000 in
theorem gX6_numberHere_X6_byteAt : GoodIn wsX6_numberHere (wsV RX6 239 RX6 yX6_byteAt wsX6_byteAt) := goodIn_app (goodIn_of _ (by decide +kernel)) ggX6_numberHere_X6_byteAt
set_option maxRecDepth 20000 in
theorem ggX6_numberHere_X6_isDigit : GoodIn wsX6_numberHere wsX6_isDigit := goodIn_r _ [13, 14, 15, 16, 17, 8, 18] (by decide +kernel) (by decide +kernel)
set_option maxRecDepth 20000 in
theorem gX6_numberHere_X6_isDigit : GoodIn wsX6_numberHere (va_wsS RX6 245 yX6_isDigit wsX6_isDigit) := goodIn_app (goodIn_of _ (by decide +kernel)) ggX6_numberHere_X6_isDigit
theorem dX6_numberHere_0 : decode cX6_numberHere 0 = .ok (.iconst 0, 1) := by decide +kernel
theorem dX6_numberHere_1 : decode cX6_numberHere 1 = .ok (.istore_n 1, 1) := by decide +kernel
theorem dX6_numberHere_2 : decode cX6_numberHere 2 = .ok (.aload_n 0, 1) := by decide +kernel
theorem dX6_numberHere_3 : decode cX6_numberHere 3 = .ok (.getfield 236, 3) := by decide +kernel
theorem dX6_numberHere_6 : decode cX6_numberHere 6 = .ok (.istore_n 2, 1) := by decide +kernel
theorem dX6_numberHere_7 : decode cX6_numberHere 7 = .ok (.iload_n 2, 1) := by decide +kernel
theorem dX6_numberHere_8 : decode cX6_numberHere 8 = .ok (.aload_n 0, 1) := by decide +kernel
theorem dX6_numberHere_9 : decode cX6_numberHere 9 = .ok (.getfield 233, 3) := by decide +kernel
theorem dX6_numberHere_12 : decode cX6_numberHere 12 = .ok (.if_icmp .ge 35, 3) := by decide +kernel
theorem dX6_numberHere_15 : decode cX6_numberHere 15 = .ok (.iload_n 1, 1) := by decide +kernel
theorem dX6_numberHere_16 : decode cX6_numberHere 16 = .ok (.sipush 999, 3) := by decide +kernel
theorem dX6_numberHere_19 : decode cX6_numberHere 19 = .ok (.if_icmp .le 7, 3) := by decide +kernel
theorem dX6_numberHere_22 : decode cX6_numberHere 22 = .ok (.iload_n 1, 1) := by decide +kernel
theorem dX6_numberHere_23 : decode cX6_numberHere 23 = .ok (.goto 17, 3) := by decide +kernel
theorem dX6_numberHere_26 : decode cX6_numberHere 26 = .ok (.bipush 10, 2) := by decide +kernel
theorem dX6_numberHere_28 : decode cX6_numberHere 28 = .ok (.iload_n 1, 1) := by decide +kernel
theorem dX6_numberHere_29 : decode cX6_numberHere 29 = .ok (.imul, 1) := by decide +kernel
theorem dX6_numberHere_30 : decode cX6_numberHere 30 = .ok (.aload_n 0, 1) := by decide +kernel
theorem dX6_numberHere_31 : decode cX6_numberHere 31 = .ok (.getfield 52, 3) := by decide +kernel
theorem dX6_numberHere_34 : decode cX6_numberHere 34 = .ok (.iload_n 2, 1) := by decide +kernel
theorem dX6_numberHere_35 : decode cX6_numberHere 35 = .ok (.iaload, 1) := by decide +kernel
theorem dX6_numberHere_36 : decode cX6_numberHere 36 = .ok (.iadd, 1) := by decide +kernel
theorem dX6_numberHere_37 : decode cX6_numberHere 37 = .ok (.bipush 48, 2) := by decide +kernel
theorem dX6_numberHere_39 : decode cX6_numberHere 39 = .ok (.isub, 1) := by decide +kernel
theorem dX6_numberHere_40 : decode cX6_numberHere 40 = .ok (.istore_n 1, 1) := by decide +kernel
theorem dX6_numberHere_41 : decode cX6_numberHere 41 = .ok (.iinc 2 1, 3) := by decide +kernel
theorem dX6_numberHere_44 : decode cX6_numberHere 44 = .ok (.goto (-37), 3) := by decide +kernel
theorem dX6_numberHere_47 : decode cX6_numberHere 47 = .ok (.aload_n 0, 1) := by decide +kernel
theorem dX6_numberHere_48 : decode cX6_numberHere 48 = .ok (.getfield 248, 3) := by decide +kernel
theorem dX6_numberHere_51 : decode cX6_numberHere 51 = .ok (.ifCond .ne 21, 3) := by decide +kernel
theorem dX6_numberHere_54 : decode cX6_numberHere 54 = .ok (.aload_n 0, 1) := by decide +kernel
theorem dX6_numberHere_55 : decode cX6_numberHere 55 = .ok (.aload_n 0, 1) := by decide +kernel
theorem dX6_numberHere_56 : decode cX6_numberHere 56 = .ok (.getfield 236, 3) := by decide +kernel
theorem dX6_numberHere_59 : decode cX6_numberHere 59 = .ok (.invokevirtual 239, 3) := by decide +kernel
theorem dX6_numberHere_62 : decode cX6_numberHere 62 = .ok (.invokestatic 245, 3) := by decide +kernel
theorem dX6_numberHere_65 : decode cX6_numberHere 65 = .ok (.ifCond .eq 7, 3) := by decide +kernel
theorem dX6_numberHere_68 : decode cX6_numberHere 68 = .ok (.iload_n 1, 1) := by decide +kernel
theorem dX6_numberHere_69 : decode cX6_numberHere 69 = .ok (.goto 4, 3) := by decide +kernel
theorem dX6_numberHere_72 : decode cX6_numberHere 72 = .ok (.iconst (-1), 1) := by decide +kernel
theorem dX6_numberHere_73 : decode cX6_numberHere 73 = .ok (.ireturn, 1) := by decide +kernel
set_option maxRecDepth 20000 in
theorem ggX6_item_X6_kindHere : GoodIn wsX6_item wsX6_kindHere := goodIn_r _ [8, 9, 10, 11, 7, 12, 3, 13, 14, 15, 16, 17, 18, 19, 20, 21, 22, 23, 24, 78, 79, 80, 81, 82, 83, 84, 85, 86, 87, 88, 89, 90, 91, 92, 93, 94, 95, 96, 97, 98, 99, 100, 101, 102, 103, 104, 105, 106, 107, 108, 109, 110] (by decide +kernel) (by decide +kernel)
set_option maxRecDepth 20000 in
theorem gX6_item_X6_kindHere : GoodIn wsX6_item (wsV RX6 278 RX6 yX6_kindHere wsX6_kindHere) := goodIn_app (goodIn_of _ (by decide +kernel)) ggX6_item_X6_kindHere
set_option maxRecDepth 20000 in
theorem ggX6_item_X6_needs : GoodIn wsX6_item wsX6_needs := goodIn_r _ [28, 3, 29, 30, 31, 7, 32, 13, 14, 23, 19, 20, 21, 22, 24, 33, 34, 35, 36, 37, 38, 39, 40, 41, 42, 43, 44, 45, 78, 79, 80, 81, 82, 83, 84, 85, 86, 87, 88, 89, 90, 91, 92, 93, 94, 95, 96, 97, 98, 99, 100, 101, 102, 103, 104, 105, 106, 107, 108, 109, 110] (by decide +kernel) (by decide +kernel)
set_option maxRecDepth 20000 in
theorem gX6_item_X6_needs : GoodIn wsX6_item (wsV RX6 261 RX6 yX6_needs wsX6_needs) := goodIn_app (goodIn_of _ (by decide +kernel)) ggX6_item_X6_needs
set_option maxRecDepth 20000 in
theorem ggX6_item_X6_isWord : GoodIn wsX6_item wsX6_isWord := goodIn_r _ [12, 3, 13, 14, 15, 16, 17, 7, 18, 19, 20, 21, 22, 23, 24, 78, 79, 80, 81, 82, 83, 84, 85, 86, 87, 88, 89, 90, 91, 92, 93, 94, 95, 96, 97, 98, 99, 100, 101, 102, 103, 104, 105, 106, 107, 108, 109, 110] (by decide +kernel) (by decide +kernel)
set_option maxRecDepth 20000 in
theorem gX6_item_X6_isWord : GoodIn wsX6_item (wsV RX6 265 RX6 yX6_isWord wsX6_isWord) := goodIn_app (goodIn_of _ (by decide +kernel)) ggX6_item_X6_isWord
set_option maxRecDepth 20000 in
theorem ggX6_item_X6_number : GoodIn wsX6_item wsX6_number := goodIn_r _ [49, 3, 14, 13, 24, 2, 19, 20, 21, 7, 22, 23, 41, 42, 43, 44, 45, 38, 39, 40, 25, 26, 27, 28, 29, 30, 31, 32, 33, 34, 35, 36, 37, 78, 79, 80, 81, 82, 83, 84, 85, 86, 87, 88, 89, 90, 91, 92, 93, 94, 95, 96, 97, 98, 99, 100, 101, 102, 103, 104, 105, 106, 107, 108, 109, 110] (by decide +kernel) (by decide +kernel)
set_option maxRecDepth 20000 in
theorem gX6_item_X6_number : GoodIn wsX6_item (wsV RX6 269 RX6 yX6_number wsX6_number) := goodIn_app (goodIn_of _ (by decide +kernel)) ggX6_item_X6_number
set_option maxRecDepth 20000 in
theorem ggX6_item_X6_newTeam : GoodIn wsX6_item wsX6_newTeam := goodIn_r _ [53, 1, 78, 79, 80, 81, 82, 83, 84, 85, 86, 87, 88, 89, 90, 91, 92, 93, 94, 95, 96, 97, 98, 99, 100, 101, 102, 103, 104, 105, 106, 107, 108, 109, 110] (by decide +kernel) (by decide +kernel)
set_option maxRecDepth 20000 in
theorem gX6_item_X6_newTeam : GoodIn wsX6_item (wsV RX6 116 RX6 yX6_newTeam wsX6_newTeam) := goodIn_app (goodIn_of _ (by decide +kernel)) ggX6_item_X6_newTeam
set_option maxRecDepth 20000 in
theorem ggX6_item_X6_fieldItem : GoodIn wsX6_item wsX6_fieldItem := goodIn_r _ [57, 1, 3, 25, 26, 27, 7, 28, 29, 30, 31, 32, 13, 14, 23, 19, 20, 21, 22, 24, 33, 34, 35, 36, 37, 38, 39, 40, 41, 42, 43, 44, 45, 9, 10, 11, 12, 15, 16, 17, 18, 58, 59, 60, 61, 2, 46, 47, 48, 49, 62, 63, 64, 65, 66, 67, 68, 69, 78, 79, 80, 81, 82, 83, 84, 85, 86, 87, 88, 89, 90, 91, 92, 93, 94, 95, 96, 97, 98, 99, 100, 101, 102, 103, 104, 105, 106, 107, 108, 109, 110] (by decide +kernel) (by decide +kernel)
set_option maxRecDepth 20000 in
theorem gX6_item_X6_fieldItem : GoodIn wsX6_item (wsV RX6 281 RX6 yX6_fieldItem wsX6_fieldItem) := goodIn_app (goodIn_of _ (by decide +kernel)) ggX6_item_X6_fieldItem
set_option maxRecDepth 20000 in
theorem ggX6_item_X6_numberHere : GoodIn wsX6_item wsX6_numberHere := goodIn_r _ [73, 14, 13, 24, 3, 19, 20, 21, 7, 22, 23, 41, 42, 43, 44, 45, 38, 39, 40, 78, 79, 80, 81, 82, 83, 84, 85, 86, 87, 88, 89, 90, 91, 92, 93, 94, 95, 96, 97, 98, 99, 100, 101, 102, 103, 104, 105, 106, 107, 108, 109, 110] (by decide +kernel) (by decide +kernel)
set_option maxRecDepth 20000 in
theorem gX6_item_X6_numberHere : GoodIn wsX6_item (wsV RX6 284 RX6 yX6_numberHere wsX6_numberHere) := goodIn_app (goodIn_of _ (by decide +kernel)) ggX6_item_X6_numberHere
set_option maxRecDepth 20000 in
theorem ggX6_item_X6_isField : GoodIn wsX6_item wsX6_isField := goodIn_r _ [77, 1, 38, 39, 7, 40, 78, 79, 80, 81, 82, 83, 84, 85, 86, 87, 88, 89, 90, 91, 92, 93, 94, 95, 96, 97, 98, 99, 100, 101, 102, 103, 104, 105, 106, 107, 108, 109, 110] (by decide +kernel) (by decide +kernel)
set_option maxRecDepth 20000 in
theorem gX6_item_X6_isField : GoodIn wsX6_item (wsV RX6 98 RX6 yX6_isField wsX6_isField) := goodIn_app (goodIn_of _ (by decide +kernel)) ggX6_item_X6_isField
theorem dX6_item_0 : decode cX6_item 0 = .ok (.aload_n 0, 1) := by decide +kernel
theorem dX6_item_1 : decode cX6_item 1 = .ok (.invokevirtual 278, 3) := by decide +kernel
theorem dX6_item_4 : decode cX6_item 4 = .ok (.istore_n 1, 1) := by decide +kernel
theorem dX6_item_5 : decode cX6_item 5 = .ok (.iload_n 1, 1) := by decide +kernel
theorem dX6_item_6 : decode cX6_item 6 = .ok (.ifCond .lt 77, 3) := by decide +kernel
theorem dX6_item_9 : decode cX6_item 9 = .ok (.aload_n 0, 1) := by decide +kernel
theorem dX6_item_10 : decode cX6_item 10 = .ok (.aload_n 0, 1) := by decide +kernel
theorem dX6_item_11 : decode cX6_item 11 = .ok (.getfield 7, 3) := by decide +kernel
theorem dX6_item_14 : decode cX6_item 14 = .ok (.iconst 1, 1) := by decide +kernel
theorem dX6_item_15 : decode cX6_item 15 = .ok (.iaload, 1) := by decide +kernel
theorem dX6_item_16 : decode cX6_item 16 = .ok (.bipush 6, 2) := by decide +kernel
theorem dX6_item_18 : decode cX6_item 18 = .ok (.if_icmp .ge 7, 3) := by decide +kernel
theorem dX6_item_21 : decode cX6_item 21 = .ok (.iconst 1, 1) := by decide +kernel
theorem dX6_item_22 : decode cX6_item 22 = .ok (.goto 4, 3) := by decide +kernel
theorem dX6_item_25 : decode cX6_item 25 = .ok (.iconst 0, 1) := by decide +kernel
theorem dX6_item_26 : decode cX6_item 26 = .ok (.invokevirtual 261, 3) := by decide +kernel
theorem dX6_item_29 : decode cX6_item 29 = .ok (.iconst 1, 1) := by decide +kernel
theorem dX6_item_30 : decode cX6_item 30 = .ok (.istore_n 2, 1) := by decide +kernel
theorem dX6_item_31 : decode cX6_item 31 = .ok (.aload_n 0, 1) := by decide +kernel
theorem dX6_item_32 : decode cX6_item 32 = .ok (.bipush 112, 2) := by decide +kernel
theorem dX6_item_34 : decode cX6_item 34 = .ok (.bipush 97, 2) := by decide +kernel
theorem dX6_item_36 : decode cX6_item 36 = .ok (.bipush 99, 2) := by decide +kernel
theorem dX6_item_38 : decode cX6_item 38 = .ok (.bipush 101, 2) := by decide +kernel
theorem dX6_item_40 : decode cX6_item 40 = .ok (.iconst 0, 1) := by decide +kernel
theorem dX6_item_41 : decode cX6_item 41 = .ok (.iconst 0, 1) := by decide +kernel
theorem dX6_item_42 : decode cX6_item 42 = .ok (.iconst 0, 1) := by decide +kernel
theorem dX6_item_43 : decode cX6_item 43 = .ok (.invokevirtual 265, 3) := by decide +kernel
theorem dX6_item_46 : decode cX6_item 46 = .ok (.ifCond .eq 20, 3) := by decide +kernel
theorem dX6_item_49 : decode cX6_item 49 = .ok (.aload_n 0, 1) := by decide +kernel
theorem dX6_item_50 : decode cX6_item 50 = .ok (.iconst 1, 1) := by decide +kernel
theorem dX6_item_51 : decode cX6_item 51 = .ok (.invokevirtual 261, 3) := by decide +kernel
theorem dX6_item_54 : decode cX6_item 54 = .ok (.aload_n 0, 1) := by decide +kernel
theorem dX6_item_55 : decode cX6_item 55 = .ok (.iconst 1, 1) := by decide +kernel
theorem dX6_item_56 : decode cX6_item 56 = .ok (.bipush 9, 2) := by decide +kernel
theorem dX6_item_58 : decode cX6_item 58 = .ok (.invokevirtual 269, 3) := by decide +kernel
theorem dX6_item_61 : decode cX6_item 61 = .ok (.aload_n 0, 1) := by decide +kernel
theorem dX6_item_62 : decode cX6_item 62 = .ok (.getfield 258, 3) := by decide +kernel
theorem dX6_item_65 : decode cX6_item 65 = .ok (.istore_n 2, 1) := by decide +kernel
theorem dX6_item_66 : decode cX6_item 66 = .ok (.aload_n 0, 1) := by decide +kernel
theorem dX6_item_67 : decode cX6_item 67 = .ok (.getfield 248, 3) := by decide +kernel
theorem dX6_item_70 : decode cX6_item 70 = .ok (.ifCond .ne 10, 3) := by decide +kernel
theorem dX6_item_73 : decode cX6_item 73 = .ok (.aload_n 0, 1) := by decide +kernel
theorem dX6_item_74 : decode cX6_item 74 = .ok (.iload_n 1, 1) := by decide +kernel
theorem dX6_item_75 : decode cX6_item 75 = .ok (.iload_n 2, 1) := by decide +kernel
theorem dX6_item_76 : decode cX6_item 76 = .ok (.invokevirtual 116, 3) := by decide +kernel
theorem dX6_item_79 : decode cX6_item 79 = .ok (.istore_n 3, 1) := by decide +kernel
theorem dX6_item_80 : decode cX6_item 80 = .ok (.goto 115, 3) := by decide +kernel
theorem dX6_item_83 : decode cX6_item 83 = .ok (.aload_n 0, 1) := by decide +kernel
theorem dX6_item_84 : decode cX6_item 84 = .ok (.bipush 102, 2) := by decide +kernel
theorem dX6_item_86 : decode cX6_item 86 = .ok (.bipush 105, 2) := by decide +kernel
theorem dX6_item_88 : decode cX6_item 88 = .ok (.bipush 101, 2) := by decide +kernel
theorem dX6_item_90 : decode cX6_item 90 = .ok (.bipush 108, 2) := by decide +kernel
theorem dX6_item_92 : decode cX6_item 92 = .ok (.bipush 100, 2) := by decide +kernel
theorem dX6_item_94 : decode cX6_item 94 = .ok (.iconst 0, 1) := by decide +kernel
theorem dX6_item_95 : decode cX6_item 95 = .ok (.iconst 0, 1) := by decide +kernel
theorem dX6_item_96 : decode cX6_item 96 = .ok (.invokevirtual 265, 3) := by decide +kernel
theorem dX6_item_99 : decode cX6_item 99 = .ok (.ifCond .eq 10, 3) := by decide +kernel
theorem dX6_item_102 : decode cX6_item 102 = .ok (.aload_n 0, 1) := by decide +kernel
theorem dX6_item_103 : decode cX6_item 103 = .ok (.invokevirtual 281, 3) := by decide +kernel
theorem dX6_item_106 : decode cX6_item 106 = .ok (.goto 89, 3) := by decide +kernel
theorem dX6_item_109 : decode cX6_item 109 = .ok (.aload_n 0, 1) := by decide +kernel
theorem dX6_item_110 : decode cX6_item 110 = .ok (.aload_n 0, 1) := by decide +kernel
theorem dX6_item_111 : decode cX6_item 111 = .ok (.bipush 106, 2) := by decide +kernel
theorem dX6_item_113 : decode cX6_item 113 = .ok (.bipush 111, 2) := by decide +kernel
theorem dX6_item_115 : decode cX6_item 115 = .ok (.bipush 105, 2) := by decide +kernel
theorem dX6_item_117 : decode cX6_item 117 = .ok (.bipush 110, 2) := by decide +kernel
theorem dX6_item_119 : decode cX6_item 119 = .ok (.iconst 0, 1) := by decide +kernel
theorem dX6_item_120 : decode cX6_item 120 = .ok (.iconst 0, 1) := by decide +kernel
theorem dX6_item_121 : decode cX6_item 121 = .ok (.iconst 0, 1) := by decide +kernel
theorem dX6_item_122 : decode cX6_item 122 = .ok (.invokevirtual 265, 3) := by decide +kernel
theorem dX6_item_125 : decode cX6_item 125 = .ok (.invokevirtual 261, 3) := by decide +kernel
theorem dX6_item_128 : decode cX6_item 128 = .ok (.aload_n 0, 1) := by decide +kernel
theorem dX6_item_129 : decode cX6_item 129 = .ok (.iconst 0, 1) := by decide +kernel
theorem dX6_item_130 : decode cX6_item 130 = .ok (.aload_n 0, 1) := by decide +kernel
theorem dX6_item_131 : decode cX6_item 131 = .ok (.getfield 7, 3) := by decide +kernel
theorem dX6_item_134 : decode cX6_item 134 = .ok (.iconst 0, 1) := by decide +kernel
theorem dX6_item_135 : decode cX6_item 135 = .ok (.iaload, 1) := by decide +kernel
theorem dX6_item_136 : decode cX6_item 136 = .ok (.iconst 1, 1) := by decide +kernel
theorem dX6_item_137 : decode cX6_item 137 = .ok (.isub, 1) := by decide +kernel
theorem dX6_item_138 : decode cX6_item 138 = .ok (.invokevirtual 269, 3) := by decide +kernel
theorem dX6_item_141 : decode cX6_item 141 = .ok (.aload_n 0, 1) := by decide +kernel
theorem dX6_item_142 : decode cX6_item 142 = .ok (.getfield 258, 3) := by decide +kernel
theorem dX6_item_145 : decode cX6_item 145 = .ok (.istore_n 2, 1) := by decide +kernel
theorem dX6_item_146 : decode cX6_item 146 = .ok (.aload_n 0, 1) := by decide +kernel
theorem dX6_item_147 : decode cX6_item 147 = .ok (.invokevirtual 284, 3) := by decide +kernel
theorem dX6_item_150 : decode cX6_item 150 = .ok (.istore_n 3, 1) := by decide +kernel
theorem dX6_item_151 : decode cX6_item 151 = .ok (.aload_n 0, 1) := by decide +kernel
theorem dX6_item_152 : decode cX6_item 152 = .ok (.aload_n 0, 1) := by decide +kernel
theorem dX6_item_153 : decode cX6_item 153 = .ok (.iload_n 3, 1) := by decide +kernel
theorem dX6_item_154 : decode cX6_item 154 = .ok (.invokevirtual 98, 3) := by decide +kernel
theorem dX6_item_157 : decode cX6_item 157 = .ok (.ifCond .eq 12, 3) := by decide +kernel
theorem dX6_item_160 : decode cX6_item 160 = .ok (.iload_n 3, 1) := by decide +kernel
theorem dX6_item_161 : decode cX6_item 161 = .ok (.iload_n 2, 1) := by decide +kernel
theorem dX6_item_162 : decode cX6_item 162 = .ok (.if_icmp .eq 7, 3) := by decide +kernel
theorem dX6_item_165 : decode cX6_item 165 = .ok (.iconst 1, 1) := by decide +kernel
theorem dX6_item_166 : decode cX6_item 166 = .ok (.goto 4, 3) := by decide +kernel
theorem dX6_item_169 : decode cX6_item 169 = .ok (.iconst 0, 1) := by decide +kernel
theorem dX6_item_170 : decode cX6_item 170 = .ok (.invokevirtual 261, 3) := by decide +kernel
theorem dX6_item_173 : decode cX6_item 173 = .ok (.aload_n 0, 1) := by decide +kernel
theorem dX6_item_174 : decode cX6_item 174 = .ok (.getfield 248, 3) := by decide +kernel
theorem dX6_item_177 : decode cX6_item 177 = .ok (.ifCond .ne 18, 3) := by decide +kernel
theorem dX6_item_180 : decode cX6_item 180 = .ok (.aload_n 0, 1) := by decide +kernel
theorem dX6_item_181 : decode cX6_item 181 = .ok (.getfield 7, 3) := by decide +kernel
theorem dX6_item_184 : decode cX6_item 184 = .ok (.bipush 38, 2) := by decide +kernel
theorem dX6_item_186 : decode cX6_item 186 = .ok (.iload_n 2, 1) := by decide +kernel
theorem dX6_item_187 : decode cX6_item 187 = .ok (.iadd, 1) := by decide +kernel
theorem dX6_item_188 : decode cX6_item 188 = .ok (.dup2, 1) := by decide +kernel
theorem dX6_item_189 : decode cX6_item 189 = .ok (.iaload, 1) := by decide +kernel
theorem dX6_item_190 : decode cX6_item 190 = .ok (.iconst 1, 1) := by decide +kernel
theorem dX6_item_191 : decode cX6_item 191 = .ok (.iload_n 3, 1) := by decide +kernel
theorem dX6_item_192 : decode cX6_item 192 = .ok (.ishl, 1) := by decide +kernel
theorem dX6_item_193 : decode cX6_item 193 = .ok (.ior, 1) := by decide +kernel
theorem dX6_item_194 : decode cX6_item 194 = .ok (.iastore, 1) := by decide +kernel
theorem dX6_item_195 : decode cX6_item 195 = .ok (.return_, 1) := by decide +kernel
set_option maxRecDepth 20000 in
theorem ggX6_parish_X6_token : GoodIn wsX6_parish wsX6_token := goodIn_r _ [11, 3, 5, 6, 12, 13, 14, 10, 15, 16, 17, 18, 19, 20, 21, 22, 23, 24, 25, 26, 27, 28, 29, 83, 84, 85, 86, 87, 88, 89, 90, 91, 92, 93, 94, 95, 96, 97, 98, 99, 100, 101, 102, 103, 104, 105, 106, 107, 108, 109, 110, 111, 112, 113, 114, 115] (by decide +kernel) (by decide +kernel)
set_option maxRecDepth 20000 in
theorem gX6_parish_X6_token : GoodIn wsX6_parish (wsV RX6 252 RX6 yX6_token wsX6_token) := goodIn_app (goodIn_of _ (by decide +kernel)) ggX6_parish_X6_token
set_option maxRecDepth 20000 in
theorem ggX6_parish_X6_item : GoodIn wsX6_parish wsX6_item := goodIn_r _ [33, 2, 34, 4, 35, 36, 37, 10, 38, 39, 40, 41, 42, 3, 5, 43, 44, 45, 46, 12, 13, 14, 15, 6, 16, 47, 48, 49, 50, 7, 8, 9, 11, 17, 18, 19, 20, 21, 22, 23, 24, 25, 26, 27, 28, 29, 51, 52, 53, 54, 55, 56, 57, 58, 59, 60, 61, 62, 63, 64, 65, 66, 67, 68, 69, 70, 71, 72, 73, 74, 75, 76, 77, 78, 79, 80, 81, 82, 83, 84, 85, 86, 87, 88, 89, 90, 91, 92, 93, 94, 95, 96, 97, 98, 99, 100, 101, 102, 103, 104, 105, 106, 107, 108, 109, 110, 111, 112, 113, 114, 115] (by decide +kernel) (by decide +kernel)
set_option maxRecDepth 20000 in
theorem gX6_parish_X6_item : GoodIn wsX6_parish (wsV RX6 287 RX6 yX6_item wsX6_item) := goodIn_app (goodIn_of _ (by decide +kernel)) ggX6_parish_X6_item
set_option maxRecDepth 20000 in
theorem ggX6_parish_X6_byteAt : GoodIn wsX6_parish wsX6_byteAt := goodIn_r _ [15, 6, 16, 83, 84, 85, 86, 87, 88, 89, 90, 91, 92, 93, 94, 95, 96, 97, 98, 99, 100, 101, 102, 103, 104, 105, 106, 107, 108, 109, 110, 111, 112, 113, 114, 115] (by decide +kernel) (by decide +kernel)
set_option maxRecDepth 20000 in
theorem gX6_parish_X6_byteAt : GoodIn wsX6_parish (wsV RX6 239 RX6 yX6_byteAt wsX6_byteAt) := goodIn_app (goodIn_of _ (by decide +kernel)) ggX6_parish_X6_byteAt
set_option maxRecDepth 20000 in
theorem ggX6_parish_X6_needs : GoodIn wsX6_parish wsX6_needs := goodIn_r _ [50, 4, 7, 8, 9, 10, 11, 3, 5, 6, 12, 13, 14, 15, 16, 17, 18, 19, 20, 21, 22, 23, 24, 25, 26, 27, 28, 29, 83, 84, 85, 86, 87, 88, 89, 90, 91, 92, 93, 94, 95, 96, 97, 98, 99, 100, 101, 102, 103, 104, 105, 106, 107, 108, 109, 110, 111, 112, 113, 114, 115] (by decide +kernel) (by decide +kernel)
set_option maxRecDepth 20000 in
theorem gX6_parish_X6_needs : GoodIn wsX6_parish (wsV RX6 261 RX6 yX6_needs wsX6_needs) := goodIn_app (goodIn_of _ (by decide +kernel)) ggX6_parish_X6_needs
theorem dX6_parish_0 : decode cX6_parish 0 = .ok (.iconst 0, 1) := by decide +kernel
theorem dX6_parish_1 : decode cX6_parish 1 = .ok (.istore_n 1, 1) := by decide +kernel
theorem dX6_parish_2 : decode cX6_parish 2 = .ok (.iload_n 1, 1) := by decide +kernel
theorem dX6_parish_3 : decode cX6_parish 3 = .ok (.bipush 56, 2) := by decide +kernel
theorem dX6_parish_5 : decode cX6_parish 5 = .ok (.if_icmp .ge 21, 3) := by decide +kernel
theorem dX6_parish_8 : decode cX6_parish 8 = .ok (.aload_n 0, 1) := by decide +kernel
theorem dX6_parish_9 : decode cX6_parish 9 = .ok (.getfield 16, 3) := by decide +kernel
theorem dX6_parish_12 : decode cX6_parish 12 = .ok (.iload_n 1, 1) := by decide +kernel
theorem dX6_parish_13 : decode cX6_parish 13 = .ok (.aload_n 0, 1) := by decide +kernel
theorem dX6_parish_14 : decode cX6_parish 14 = .ok (.getfield 7, 3) := by decide +kernel
theorem dX6_parish_17 : decode cX6_parish 17 = .ok (.iload_n 1, 1) := by decide +kernel
theorem dX6_parish_18 : decode cX6_parish 18 = .ok (.iaload, 1) := by decide +kernel
theorem dX6_parish_19 : decode cX6_parish 19 = .ok (.iastore, 1) := by decide +kernel
theorem dX6_parish_20 : decode cX6_parish 20 = .ok (.iinc 1 1, 3) := by decide +kernel
theorem dX6_parish_23 : decode cX6_parish 23 = .ok (.goto (-21), 3) := by decide +kernel
theorem dX6_parish_26 : decode cX6_parish 26 = .ok (.aload_n 0, 1) := by decide +kernel
theorem dX6_parish_27 : decode cX6_parish 27 = .ok (.iconst 0, 1) := by decide +kernel
theorem dX6_parish_28 : decode cX6_parish 28 = .ok (.putfield 233, 3) := by decide +kernel
theorem dX6_parish_31 : decode cX6_parish 31 = .ok (.aload_n 0, 1) := by decide +kernel
theorem dX6_parish_32 : decode cX6_parish 32 = .ok (.iconst 0, 1) := by decide +kernel
theorem dX6_parish_33 : decode cX6_parish 33 = .ok (.putfield 248, 3) := by decide +kernel
theorem dX6_parish_36 : decode cX6_parish 36 = .ok (.aload_n 0, 1) := by decide +kernel
theorem dX6_parish_37 : decode cX6_parish 37 = .ok (.invokevirtual 252, 3) := by decide +kernel
theorem dX6_parish_40 : decode cX6_parish 40 = .ok (.iconst 1, 1) := by decide +kernel
theorem dX6_parish_41 : decode cX6_parish 41 = .ok (.istore_n 1, 1) := by decide +kernel
theorem dX6_parish_42 : decode cX6_parish 42 = .ok (.aload_n 0, 1) := by decide +kernel
theorem dX6_parish_43 : decode cX6_parish 43 = .ok (.invokevirtual 287, 3) := by decide +kernel
theorem dX6_parish_46 : decode cX6_parish 46 = .ok (.aload_n 0, 1) := by decide +kernel
theorem dX6_parish_47 : decode cX6_parish 47 = .ok (.getfield 248, 3) := by decide +kernel
theorem dX6_parish_50 : decode cX6_parish 50 = .ok (.ifCond .ne 46, 3) := by decide +kernel
theorem dX6_parish_53 : decode cX6_parish 53 = .ok (.aload_n 0, 1) := by decide +kernel
theorem dX6_parish_54 : decode cX6_parish 54 = .ok (.getfield 236, 3) := by decide +kernel
theorem dX6_parish_57 : decode cX6_parish 57 = .ok (.aload_n 0, 1) := by decide +kernel
theorem dX6_parish_58 : decode cX6_parish 58 = .ok (.getfield 222, 3) := by decide +kernel
theorem dX6_parish_61 : decode cX6_parish 61 = .ok (.if_icmp .ge 35, 3) := by decide +kernel
theorem dX6_parish_64 : decode cX6_parish 64 = .ok (.aload_n 0, 1) := by decide +kernel
theorem dX6_parish_65 : decode cX6_parish 65 = .ok (.aload_n 0, 1) := by decide +kernel
theorem dX6_parish_66 : decode cX6_parish 66 = .ok (.aload_n 0, 1) := by decide +kernel
theorem dX6_parish_67 : decode cX6_parish 67 = .ok (.getfield 236, 3) := by decide +kernel
theorem dX6_parish_70 : decode cX6_parish 70 = .ok (.invokevirtual 239, 3) := by decide +kernel
theorem dX6_parish_73 : decode cX6_parish 73 = .ok (.bipush 59, 2) := by decide +kernel
theorem dX6_parish_75 : decode cX6_parish 75 = .ok (.if_icmp .ne 7, 3) := by decide +kernel
theorem dX6_parish_78 : decode cX6_parish 78 = .ok (.iconst 1, 1) := by decide +kernel
theorem dX6_parish_79 : decode cX6_parish 79 = .ok (.goto 4, 3) := by decide +kernel
theorem dX6_parish_82 : decode cX6_parish 82 = .ok (.iconst 0, 1) := by decide +kernel
theorem dX6_parish_83 : decode cX6_parish 83 = .ok (.invokevirtual 261, 3) := by decide +kernel
theorem dX6_parish_86 : decode cX6_parish 86 = .ok (.aload_n 0, 1) := by decide +kernel
theorem dX6_parish_87 : decode cX6_parish 87 = .ok (.invokevirtual 287, 3) := by decide +kernel
theorem dX6_parish_90 : decode cX6_parish 90 = .ok (.iinc 1 1, 3) := by decide +kernel
theorem dX6_parish_93 : decode cX6_parish 93 = .ok (.goto (-47), 3) := by decide +kernel
theorem dX6_parish_96 : decode cX6_parish 96 = .ok (.aload_n 0, 1) := by decide +kernel
theorem dX6_parish_97 : decode cX6_parish 97 = .ok (.iconst 0, 1) := by decide +kernel
theorem dX6_parish_98 : decode cX6_parish 98 = .ok (.putfield 222, 3) := by decide +kernel
theorem dX6_parish_101 : decode cX6_parish 101 = .ok (.aload_n 0, 1) := by decide +kernel
theorem dX6_parish_102 : decode cX6_parish 102 = .ok (.getfield 248, 3) := by decide +kernel
theorem dX6_parish_105 : decode cX6_parish 105 = .ok (.ifCond .eq 36, 3) := by decide +kernel
theorem dX6_parish_108 : decode cX6_parish 108 = .ok (.iconst 0, 1) := by decide +kernel
theorem dX6_parish_109 : decode cX6_parish 109 = .ok (.istore_n 2, 1) := by decide +kernel
theorem dX6_parish_110 : decode cX6_parish 110 = .ok (.iload_n 2, 1) := by decide +kernel
theorem dX6_parish_111 : decode cX6_parish 111 = .ok (.bipush 56, 2) := by decide +kernel
theorem dX6_parish_113 : decode cX6_parish 113 = .ok (.if_icmp .ge 21, 3) := by decide +kernel
theorem dX6_parish_116 : decode cX6_parish 116 = .ok (.aload_n 0, 1) := by decide +kernel
theorem dX6_parish_117 : decode cX6_parish 117 = .ok (.getfield 7, 3) := by decide +kernel
theorem dX6_parish_120 : decode cX6_parish 120 = .ok (.iload_n 2, 1) := by decide +kernel
theorem dX6_parish_121 : decode cX6_parish 121 = .ok (.aload_n 0, 1) := by decide +kernel
theorem dX6_parish_122 : decode cX6_parish 122 = .ok (.getfield 16, 3) := by decide +kernel
theorem dX6_parish_125 : decode cX6_parish 125 = .ok (.iload_n 2, 1) := by decide +kernel
theorem dX6_parish_126 : decode cX6_parish 126 = .ok (.iaload, 1) := by decide +kernel
theorem dX6_parish_127 : decode cX6_parish 127 = .ok (.iastore, 1) := by decide +kernel
theorem dX6_parish_128 : decode cX6_parish 128 = .ok (.iinc 2 1, 3) := by decide +kernel
theorem dX6_parish_131 : decode cX6_parish 131 = .ok (.goto (-21), 3) := by decide +kernel
theorem dX6_parish_134 : decode cX6_parish 134 = .ok (.iconst (-1), 1) := by decide +kernel
theorem dX6_parish_135 : decode cX6_parish 135 = .ok (.aload_n 0, 1) := by decide +kernel
theorem dX6_parish_136 : decode cX6_parish 136 = .ok (.getfield 236, 3) := by decide +kernel
theorem dX6_parish_139 : decode cX6_parish 139 = .ok (.isub, 1) := by decide +kernel
theorem dX6_parish_140 : decode cX6_parish 140 = .ok (.ireturn, 1) := by decide +kernel
theorem dX6_parish_141 : decode cX6_parish 141 = .ok (.iload_n 1, 1) := by decide +kernel
theorem dX6_parish_142 : decode cX6_parish 142 = .ok (.ireturn, 1) := by decide +kernel
set_option maxRecDepth 20000 in
theorem ggX6_isOne_X6_in : GoodIn wsX6_isOne wsX6_in := goodIn_r _ [5] (by decide +kernel) (by decide +kernel)
set_option maxRecDepth 20000 in
theorem gX6_isOne_X6_in : GoodIn wsX6_isOne (va_wsS RX6 69 yX6_in wsX6_in) := goodIn_app (goodIn_of _ (by decide +kernel)) ggX6_isOne_X6_in
theorem dX6_isOne_0 : decode cX6_isOne 0 = .ok (.iload_n 0, 1) := by decide +kernel
theorem dX6_isOne_1 : decode cX6_isOne 1 = .ok (.i2l, 1) := by decide +kernel
theorem dX6_isOne_2 : decode cX6_isOne 2 = .ok (.lconst 0, 1) := by decide +kernel
theorem dX6_isOne_3 : decode cX6_isOne 3 = .ok (.ldc2_w 144, 3) := by decide +kernel
theorem dX6_isOne_6 : decode cX6_isOne 6 = .ok (.invokestatic 69, 3) := by decide +kernel
theorem dX6_isOne_9 : decode cX6_isOne 9 = .ok (.ireturn, 1) := by decide +kernel
set_option maxRecDepth 20000 in
theorem ggX6_sheet_X6_isOne : GoodIn wsX6_sheet wsX6_isOne := goodIn_r _ [9, 10, 11, 12, 8, 13] (by decide +kernel) (by decide +kernel)
set_option maxRecDepth 20000 in
theorem gX6_sheet_X6_isOne : GoodIn wsX6_sheet (va_wsS RX6 290 yX6_isOne wsX6_isOne) := goodIn_app (goodIn_of _ (by decide +kernel)) ggX6_sheet_X6_isOne
set_option maxRecDepth 20000 in
theorem ggX6_sheet_X6_finds : GoodIn wsX6_sheet wsX6_finds := goodIn_r _ [17, 18, 1, 19, 20, 21, 22, 23, 24, 25, 26, 27, 28, 29, 30, 31, 32, 33, 34, 35, 36, 37, 38, 39, 40, 41, 42, 43, 44, 45, 46, 47, 48, 49, 50, 51] (by decide +kernel) (by decide +kernel)
set_option maxRecDepth 20000 in
theorem gX6_sheet_X6_finds : GoodIn wsX6_sheet (wsV RX6 79 RX6 yX6_finds wsX6_finds) := goodIn_app (goodIn_of _ (by decide +kernel)) ggX6_sheet_X6_finds
theorem dX6_sheet_0 : decode cX6_sheet 0 = .ok (.iload_n 1, 1) := by decide +kernel
theorem dX6_sheet_1 : decode cX6_sheet 1 = .ok (.invokestatic 290, 3) := by decide +kernel
theorem dX6_sheet_4 : decode cX6_sheet 4 = .ok (.ifCond .eq 25, 3) := by decide +kernel
theorem dX6_sheet_7 : decode cX6_sheet 7 = .ok (.iload_n 2, 1) := by decide +kernel
theorem dX6_sheet_8 : decode cX6_sheet 8 = .ok (.ifCond .eq 28, 3) := by decide +kernel
theorem dX6_sheet_11 : decode cX6_sheet 11 = .ok (.iload_n 2, 1) := by decide +kernel
theorem dX6_sheet_12 : decode cX6_sheet 12 = .ok (.bipush 8, 2) := by decide +kernel
theorem dX6_sheet_14 : decode cX6_sheet 14 = .ok (.if_icmp .eq 22, 3) := by decide +kernel
theorem dX6_sheet_17 : decode cX6_sheet 17 = .ok (.iload_n 2, 1) := by decide +kernel
theorem dX6_sheet_18 : decode cX6_sheet 18 = .ok (.bipush 16, 2) := by decide +kernel
theorem dX6_sheet_20 : decode cX6_sheet 20 = .ok (.if_icmp .eq 16, 3) := by decide +kernel
theorem dX6_sheet_23 : decode cX6_sheet 23 = .ok (.iload_n 2, 1) := by decide +kernel
theorem dX6_sheet_24 : decode cX6_sheet 24 = .ok (.bipush 64, 2) := by decide +kernel
theorem dX6_sheet_26 : decode cX6_sheet 26 = .ok (.if_icmp .eq 10, 3) := by decide +kernel
theorem dX6_sheet_29 : decode cX6_sheet 29 = .ok (.aload_n 0, 1) := by decide +kernel
theorem dX6_sheet_30 : decode cX6_sheet 30 = .ok (.ldc 68, 2) := by decide +kernel
theorem dX6_sheet_32 : decode cX6_sheet 32 = .ok (.invokevirtual 79, 3) := by decide +kernel
theorem dX6_sheet_35 : decode cX6_sheet 35 = .ok (.ireturn, 1) := by decide +kernel
theorem dX6_sheet_36 : decode cX6_sheet 36 = .ok (.iload_n 3, 1) := by decide +kernel
theorem dX6_sheet_37 : decode cX6_sheet 37 = .ok (.ifCond .ge 11, 3) := by decide +kernel
theorem dX6_sheet_40 : decode cX6_sheet 40 = .ok (.aload_n 0, 1) := by decide +kernel
theorem dX6_sheet_41 : decode cX6_sheet 41 = .ok (.ldc_w 293, 3) := by decide +kernel
theorem dX6_sheet_44 : decode cX6_sheet 44 = .ok (.invokevirtual 79, 3) := by decide +kernel
theorem dX6_sheet_47 : decode cX6_sheet 47 = .ok (.ireturn, 1) := by decide +kernel
theorem dX6_sheet_48 : decode cX6_sheet 48 = .ok (.iload_n 3, 1) := by decide +kernel
theorem dX6_sheet_49 : decode cX6_sheet 49 = .ok (.bipush 40, 2) := by decide +kernel
theorem dX6_sheet_51 : decode cX6_sheet 51 = .ok (.if_icmp .le 10, 3) := by decide +kernel
theorem dX6_sheet_54 : decode cX6_sheet 54 = .ok (.aload_n 0, 1) := by decide +kernel
theorem dX6_sheet_55 : decode cX6_sheet 55 = .ok (.ldc 68, 2) := by decide +kernel
theorem dX6_sheet_57 : decode cX6_sheet 57 = .ok (.invokevirtual 79, 3) := by decide +kernel
theorem dX6_sheet_60 : decode cX6_sheet 60 = .ok (.ireturn, 1) := by decide +kernel
theorem dX6_sheet_61 : decode cX6_sheet 61 = .ok (.aload_n 0, 1) := by decide +kernel
theorem dX6_sheet_62 : decode cX6_sheet 62 = .ok (.getfield 55, 3) := by decide +kernel
theorem dX6_sheet_65 : decode cX6_sheet 65 = .ok (.iload_n 1, 1) := by decide +kernel
theorem dX6_sheet_66 : decode cX6_sheet 66 = .ok (.iload_n 2, 1) := by decide +kernel
theorem dX6_sheet_67 : decode cX6_sheet 67 = .ok (.iastore, 1) := by decide +kernel
theorem dX6_sheet_68 : decode cX6_sheet 68 = .ok (.aload_n 0, 1) := by decide +kernel
theorem dX6_sheet_69 : decode cX6_sheet 69 = .ok (.getfield 58, 3) := by decide +kernel
theorem dX6_sheet_72 : decode cX6_sheet 72 = .ok (.iload_n 1, 1) := by decide +kernel
theorem dX6_sheet_73 : decode cX6_sheet 73 = .ok (.iload_n 2, 1) := by decide +kernel
theorem dX6_sheet_74 : decode cX6_sheet 74 = .ok (.ifCond .ne 7, 3) := by decide +kernel
theorem dX6_sheet_77 : decode cX6_sheet 77 = .ok (.iconst 0, 1) := by decide +kernel
theorem dX6_sheet_78 : decode cX6_sheet 78 = .ok (.goto 4, 3) := by decide +kernel
theorem dX6_sheet_81 : decode cX6_sheet 81 = .ok (.iload_n 3, 1) := by decide +kernel
theorem dX6_sheet_82 : decode cX6_sheet 82 = .ok (.iastore, 1) := by decide +kernel
theorem dX6_sheet_83 : decode cX6_sheet 83 = .ok (.iconst 0, 1) := by decide +kernel
theorem dX6_sheet_84 : decode cX6_sheet 84 = .ok (.istore 4, 2) := by decide +kernel
theorem dX6_sheet_86 : decode cX6_sheet 86 = .ok (.iload 4, 2) := by decide +kernel
theorem dX6_sheet_88 : decode cX6_sheet 88 = .ok (.bipush 40, 2) := by decide +kernel
theorem dX6_sheet_90 : decode cX6_sheet 90 = .ok (.if_icmp .ge 22, 3) := by decide +kernel
theorem dX6_sheet_93 : decode cX6_sheet 93 = .ok (.aload_n 0, 1) := by decide +kernel
theorem dX6_sheet_94 : decode cX6_sheet 94 = .ok (.getfield 61, 3) := by decide +kernel
theorem dX6_sheet_97 : decode cX6_sheet 97 = .ok (.bipush 40, 2) := by decide +kernel
theorem dX6_sheet_99 : decode cX6_sheet 99 = .ok (.iload_n 1, 1) := by decide +kernel
theorem dX6_sheet_100 : decode cX6_sheet 100 = .ok (.imul, 1) := by decide +kernel
theorem dX6_sheet_101 : decode cX6_sheet 101 = .ok (.iload 4, 2) := by decide +kernel
theorem dX6_sheet_103 : decode cX6_sheet 103 = .ok (.iadd, 1) := by decide +kernel
theorem dX6_sheet_104 : decode cX6_sheet 104 = .ok (.lconst 0, 1) := by decide +kernel
theorem dX6_sheet_105 : decode cX6_sheet 105 = .ok (.lastore, 1) := by decide +kernel
theorem dX6_sheet_106 : decode cX6_sheet 106 = .ok (.iinc 4 1, 3) := by decide +kernel
theorem dX6_sheet_109 : decode cX6_sheet 109 = .ok (.goto (-23), 3) := by decide +kernel
theorem dX6_sheet_112 : decode cX6_sheet 112 = .ok (.aload_n 0, 1) := by decide +kernel
theorem dX6_sheet_113 : decode cX6_sheet 113 = .ok (.getfield 58, 3) := by decide +kernel
theorem dX6_sheet_116 : decode cX6_sheet 116 = .ok (.iload_n 1, 1) := by decide +kernel
theorem dX6_sheet_117 : decode cX6_sheet 117 = .ok (.iaload, 1) := by decide +kernel
theorem dX6_sheet_118 : decode cX6_sheet 118 = .ok (.ireturn, 1) := by decide +kernel
theorem dX6_narrowed_0 : decode cX6_narrowed 0 = .ok (.iload_n 0, 1) := by decide +kernel
theorem dX6_narrowed_1 : decode cX6_narrowed 1 = .ok (.bipush 8, 2) := by decide +kernel
theorem dX6_narrowed_3 : decode cX6_narrowed 3 = .ok (.if_icmp .ne 10, 3) := by decide +kernel
theorem dX6_narrowed_6 : decode cX6_narrowed 6 = .ok (.lload_n 1, 1) := by decide +kernel
theorem dX6_narrowed_7 : decode cX6_narrowed 7 = .ok (.l2i, 1) := by decide +kernel
theorem dX6_narrowed_8 : decode cX6_narrowed 8 = .ok (.i2b, 1) := by decide +kernel
theorem dX6_narrowed_9 : decode cX6_narrowed 9 = .ok (.i2l, 1) := by decide +kernel
theorem dX6_narrowed_10 : decode cX6_narrowed 10 = .ok (.goto 17, 3) := by decide +kernel
theorem dX6_narrowed_13 : decode cX6_narrowed 13 = .ok (.iload_n 0, 1) := by decide +kernel
theorem dX6_narrowed_14 : decode cX6_narrowed 14 = .ok (.bipush 16, 2) := by decide +kernel
theorem dX6_narrowed_16 : decode cX6_narrowed 16 = .ok (.if_icmp .ne 10, 3) := by decide +kernel
theorem dX6_narrowed_19 : decode cX6_narrowed 19 = .ok (.lload_n 1, 1) := by decide +kernel
theorem dX6_narrowed_20 : decode cX6_narrowed 20 = .ok (.l2i, 1) := by decide +kernel
theorem dX6_narrowed_21 : decode cX6_narrowed 21 = .ok (.i2s, 1) := by decide +kernel
theorem dX6_narrowed_22 : decode cX6_narrowed 22 = .ok (.i2l, 1) := by decide +kernel
theorem dX6_narrowed_23 : decode cX6_narrowed 23 = .ok (.goto 4, 3) := by decide +kernel
theorem dX6_narrowed_26 : decode cX6_narrowed 26 = .ok (.lload_n 1, 1) := by decide +kernel
theorem dX6_narrowed_27 : decode cX6_narrowed 27 = .ok (.lreturn, 1) := by decide +kernel
set_option maxRecDepth 20000 in
theorem ggX6_wrong_X6_isOne : GoodIn wsX6_wrong wsX6_isOne := goodIn_r _ [7, 8, 9, 10, 6, 11] (by decide +kernel) (by decide +kernel)
set_option maxRecDepth 20000 in
theorem gX6_wrong_X6_isOne : GoodIn wsX6_wrong (va_wsS RX6 290 yX6_isOne wsX6_isOne) := goodIn_app (goodIn_of _ (by decide +kernel)) ggX6_wrong_X6_isOne
theorem dX6_wrong_0 : decode cX6_wrong 0 = .ok (.iload_n 1, 1) := by decide +kernel
theorem dX6_wrong_1 : decode cX6_wrong 1 = .ok (.invokestatic 290, 3) := by decide +kernel
theorem dX6_wrong_4 : decode cX6_wrong 4 = .ok (.ifCond .ne 8, 3) := by decide +kernel
theorem dX6_wrong_7 : decode cX6_wrong 7 = .ok (.ldc 68, 2) := by decide +kernel
theorem dX6_wrong_9 : decode cX6_wrong 9 = .ok (.goto 19, 3) := by decide +kernel
theorem dX6_wrong_12 : decode cX6_wrong 12 = .ok (.aload_n 0, 1) := by decide +kernel
theorem dX6_wrong_13 : decode cX6_wrong 13 = .ok (.getfield 55, 3) := by decide +kernel
theorem dX6_wrong_16 : decode cX6_wrong 16 = .ok (.iload_n 1, 1) := by decide +kernel
theorem dX6_wrong_17 : decode cX6_wrong 17 = .ok (.iaload, 1) := by decide +kernel
theorem dX6_wrong_18 : decode cX6_wrong 18 = .ok (.ifCond .ne 9, 3) := by decide +kernel
theorem dX6_wrong_21 : decode cX6_wrong 21 = .ok (.ldc_w 294, 3) := by decide +kernel
theorem dX6_wrong_24 : decode cX6_wrong 24 = .ok (.goto 4, 3) := by decide +kernel
theorem dX6_wrong_27 : decode cX6_wrong 27 = .ok (.iconst 0, 1) := by decide +kernel
theorem dX6_wrong_28 : decode cX6_wrong 28 = .ok (.ireturn, 1) := by decide +kernel
set_option maxRecDepth 20000 in
theorem ggX6_write_X6_wrong : GoodIn wsX6_write wsX6_wrong := goodIn_r _ [9, 2, 4, 10, 11, 12, 8, 13, 14, 15, 16, 17, 26, 27, 28, 29, 30, 31, 32, 33, 34, 35, 36, 37, 38, 39, 40, 41, 42, 43, 44, 45, 46, 47, 48, 49, 50, 51, 52, 53, 54, 55, 56, 57, 58] (by decide +kernel) (by decide +kernel)
set_option maxRecDepth 20000 in
theorem gX6_write_X6_wrong : GoodIn wsX6_write (wsV RX6 295 RX6 yX6_wrong wsX6_wrong) := goodIn_app (goodIn_of _ (by decide +kernel)) ggX6_write_X6_wrong
set_option maxRecDepth 20000 in
theorem ggX6_write_X6_finds : GoodIn wsX6_write wsX6_finds := goodIn_r _ [21, 22, 2, 26, 27, 28, 29, 30, 31, 32, 33, 34, 35, 36, 37, 38, 39, 40, 41, 42, 43, 44, 45, 46, 47, 48, 49, 50, 51, 52, 53, 54, 55, 56, 57, 58] (by decide +kernel) (by decide +kernel)
set_option maxRecDepth 20000 in
theorem gX6_write_X6_finds : GoodIn wsX6_write (wsV RX6 79 RX6 yX6_finds wsX6_finds) := goodIn_app (goodIn_of _ (by decide +kernel)) ggX6_write_X6_finds
set_option maxRecDepth 20000 in
theorem ggX6_write_X6_in : GoodIn wsX6_write wsX6_in := goodIn_r _ [17] (by decide +kernel) (by decide +kernel)
set_option maxRecDepth 20000 in
theorem gX6_write_X6_in : GoodIn wsX6_write (va_wsS RX6 69 yX6_in wsX6_in) := goodIn_app (goodIn_of _ (by decide +kernel)) ggX6_write_X6_in
set_option maxRecDepth 20000 in
theorem ggX6_write_X6_narrowed : GoodIn wsX6_write wsX6_narrowed := goodIn_r _ [25] (by decide +kernel) (by decide +kernel)
set_option maxRecDepth 20000 in
theorem gX6_write_X6_narrowed : GoodIn wsX6_write (va_wsS RX6 298 yX6_narrowed wsX6_narrowed) := goodIn_app (goodIn_of _ (by decide +kernel)) ggX6_write_X6_narrowed
theorem dX6_write_0 : decode cX6_write 0 = .ok (.aload_n 0, 1) := by decide +kernel
theorem dX6_write_1 : decode cX6_write 1 = .ok (.iload_n 1, 1) := by decide +kernel
theorem dX6_write_2 : decode cX6_write 2 = .ok (.invokevirtual 295, 3) := by decide +kernel
theorem dX6_write_5 : decode cX6_write 5 = .ok (.istore 5, 2) := by decide +kernel
theorem dX6_write_7 : decode cX6_write 7 = .ok (.iload 5, 2) := by decide +kernel
theorem dX6_write_9 : decode cX6_write 9 = .ok (.ifCond .eq 11, 3) := by decide +kernel
theorem dX6_write_12 : decode cX6_write 12 = .ok (.aload_n 0, 1) := by decide +kernel
theorem dX6_write_13 : decode cX6_write 13 = .ok (.iload 5, 2) := by decide +kernel
theorem dX6_write_15 : decode cX6_write 15 = .ok (.invokevirtual 79, 3) := by decide +kernel
theorem dX6_write_18 : decode cX6_write 18 = .ok (.i2l, 1) := by decide +kernel
theorem dX6_write_19 : decode cX6_write 19 = .ok (.lreturn, 1) := by decide +kernel
theorem dX6_write_20 : decode cX6_write 20 = .ok (.iload_n 2, 1) := by decide +kernel
theorem dX6_write_21 : decode cX6_write 21 = .ok (.i2l, 1) := by decide +kernel
theorem dX6_write_22 : decode cX6_write 22 = .ok (.lconst 0, 1) := by decide +kernel
theorem dX6_write_23 : decode cX6_write 23 = .ok (.aload_n 0, 1) := by decide +kernel
theorem dX6_write_24 : decode cX6_write 24 = .ok (.getfield 58, 3) := by decide +kernel
theorem dX6_write_27 : decode cX6_write 27 = .ok (.iload_n 1, 1) := by decide +kernel
theorem dX6_write_28 : decode cX6_write 28 = .ok (.iaload, 1) := by decide +kernel
theorem dX6_write_29 : decode cX6_write 29 = .ok (.iconst 1, 1) := by decide +kernel
theorem dX6_write_30 : decode cX6_write 30 = .ok (.isub, 1) := by decide +kernel
theorem dX6_write_31 : decode cX6_write 31 = .ok (.i2l, 1) := by decide +kernel
theorem dX6_write_32 : decode cX6_write 32 = .ok (.invokestatic 69, 3) := by decide +kernel
theorem dX6_write_35 : decode cX6_write 35 = .ok (.ifCond .ne 11, 3) := by decide +kernel
theorem dX6_write_38 : decode cX6_write 38 = .ok (.aload_n 0, 1) := by decide +kernel
theorem dX6_write_39 : decode cX6_write 39 = .ok (.ldc 68, 2) := by decide +kernel
theorem dX6_write_41 : decode cX6_write 41 = .ok (.invokevirtual 79, 3) := by decide +kernel
theorem dX6_write_44 : decode cX6_write 44 = .ok (.i2l, 1) := by decide +kernel
theorem dX6_write_45 : decode cX6_write 45 = .ok (.lreturn, 1) := by decide +kernel
theorem dX6_write_46 : decode cX6_write 46 = .ok (.aload_n 0, 1) := by decide +kernel
theorem dX6_write_47 : decode cX6_write 47 = .ok (.getfield 61, 3) := by decide +kernel
theorem dX6_write_50 : decode cX6_write 50 = .ok (.bipush 40, 2) := by decide +kernel
theorem dX6_write_52 : decode cX6_write 52 = .ok (.iload_n 1, 1) := by decide +kernel
theorem dX6_write_53 : decode cX6_write 53 = .ok (.imul, 1) := by decide +kernel
theorem dX6_write_54 : decode cX6_write 54 = .ok (.iload_n 2, 1) := by decide +kernel
theorem dX6_write_55 : decode cX6_write 55 = .ok (.iadd, 1) := by decide +kernel
theorem dX6_write_56 : decode cX6_write 56 = .ok (.laload, 1) := by decide +kernel
theorem dX6_write_57 : decode cX6_write 57 = .ok (.lstore 6, 2) := by decide +kernel
theorem dX6_write_59 : decode cX6_write 59 = .ok (.aload_n 0, 1) := by decide +kernel
theorem dX6_write_60 : decode cX6_write 60 = .ok (.getfield 61, 3) := by decide +kernel
theorem dX6_write_63 : decode cX6_write 63 = .ok (.bipush 40, 2) := by decide +kernel
theorem dX6_write_65 : decode cX6_write 65 = .ok (.iload_n 1, 1) := by decide +kernel
theorem dX6_write_66 : decode cX6_write 66 = .ok (.imul, 1) := by decide +kernel
theorem dX6_write_67 : decode cX6_write 67 = .ok (.iload_n 2, 1) := by decide +kernel
theorem dX6_write_68 : decode cX6_write 68 = .ok (.iadd, 1) := by decide +kernel
theorem dX6_write_69 : decode cX6_write 69 = .ok (.aload_n 0, 1) := by decide +kernel
theorem dX6_write_70 : decode cX6_write 70 = .ok (.getfield 55, 3) := by decide +kernel
theorem dX6_write_73 : decode cX6_write 73 = .ok (.iload_n 1, 1) := by decide +kernel
theorem dX6_write_74 : decode cX6_write 74 = .ok (.iaload, 1) := by decide +kernel
theorem dX6_write_75 : decode cX6_write 75 = .ok (.lload_n 3, 1) := by decide +kernel
theorem dX6_write_76 : decode cX6_write 76 = .ok (.invokestatic 298, 3) := by decide +kernel
theorem dX6_write_79 : decode cX6_write 79 = .ok (.lastore, 1) := by decide +kernel
theorem dX6_write_80 : decode cX6_write 80 = .ok (.lload 6, 2) := by decide +kernel
theorem dX6_write_82 : decode cX6_write 82 = .ok (.lreturn, 1) := by decide +kernel
set_option maxRecDepth 20000 in
theorem ggX6_copy_X6_isOne : GoodIn wsX6_copy wsX6_isOne := goodIn_r _ [11, 12, 13, 14, 10, 15] (by decide +kernel) (by decide +kernel)
set_option maxRecDepth 20000 in
theorem gX6_copy_X6_isOne : GoodIn wsX6_copy (va_wsS RX6 290 yX6_isOne wsX6_isOne) := goodIn_app (goodIn_of _ (by decide +kernel)) ggX6_copy_X6_isOne
set_option maxRecDepth 20000 in
theorem ggX6_copy_X6_finds : GoodIn wsX6_copy wsX6_finds := goodIn_r _ [19, 20, 1, 21, 22, 23, 24, 25, 26, 27, 28, 29, 30, 31, 32, 33, 34, 35, 36, 37, 38, 39, 40, 41, 42, 43, 44, 45, 46, 47, 48, 49, 50, 51, 52, 53] (by decide +kernel) (by decide +kernel)
set_option maxRecDepth 20000 in
theorem gX6_copy_X6_finds : GoodIn wsX6_copy (wsV RX6 79 RX6 yX6_finds wsX6_finds) := goodIn_app (goodIn_of _ (by decide +kernel)) ggX6_copy_X6_finds
theorem dX6_copy_0 : decode cX6_copy 0 = .ok (.iload_n 1, 1) := by decide +kernel
theorem dX6_copy_1 : decode cX6_copy 1 = .ok (.invokestatic 290, 3) := by decide +kernel
theorem dX6_copy_4 : decode cX6_copy 4 = .ok (.ifCond .eq 10, 3) := by decide +kernel
theorem dX6_copy_7 : decode cX6_copy 7 = .ok (.iload_n 3, 1) := by decide +kernel
theorem dX6_copy_8 : decode cX6_copy 8 = .ok (.invokestatic 290, 3) := by decide +kernel
theorem dX6_copy_11 : decode cX6_copy 11 = .ok (.ifCond .ne 10, 3) := by decide +kernel
theorem dX6_copy_14 : decode cX6_copy 14 = .ok (.aload_n 0, 1) := by decide +kernel
theorem dX6_copy_15 : decode cX6_copy 15 = .ok (.ldc 68, 2) := by decide +kernel
theorem dX6_copy_17 : decode cX6_copy 17 = .ok (.invokevirtual 79, 3) := by decide +kernel
theorem dX6_copy_20 : decode cX6_copy 20 = .ok (.ireturn, 1) := by decide +kernel
theorem dX6_copy_21 : decode cX6_copy 21 = .ok (.aload_n 0, 1) := by decide +kernel
theorem dX6_copy_22 : decode cX6_copy 22 = .ok (.getfield 55, 3) := by decide +kernel
theorem dX6_copy_25 : decode cX6_copy 25 = .ok (.iload_n 1, 1) := by decide +kernel
theorem dX6_copy_26 : decode cX6_copy 26 = .ok (.iaload, 1) := by decide +kernel
theorem dX6_copy_27 : decode cX6_copy 27 = .ok (.ifCond .eq 12, 3) := by decide +kernel
theorem dX6_copy_30 : decode cX6_copy 30 = .ok (.aload_n 0, 1) := by decide +kernel
theorem dX6_copy_31 : decode cX6_copy 31 = .ok (.getfield 55, 3) := by decide +kernel
theorem dX6_copy_34 : decode cX6_copy 34 = .ok (.iload_n 3, 1) := by decide +kernel
theorem dX6_copy_35 : decode cX6_copy 35 = .ok (.iaload, 1) := by decide +kernel
theorem dX6_copy_36 : decode cX6_copy 36 = .ok (.ifCond .ne 11, 3) := by decide +kernel
theorem dX6_copy_39 : decode cX6_copy 39 = .ok (.aload_n 0, 1) := by decide +kernel
theorem dX6_copy_40 : decode cX6_copy 40 = .ok (.ldc_w 294, 3) := by decide +kernel
theorem dX6_copy_43 : decode cX6_copy 43 = .ok (.invokevirtual 79, 3) := by decide +kernel
theorem dX6_copy_46 : decode cX6_copy 46 = .ok (.ireturn, 1) := by decide +kernel
theorem dX6_copy_47 : decode cX6_copy 47 = .ok (.aload_n 0, 1) := by decide +kernel
theorem dX6_copy_48 : decode cX6_copy 48 = .ok (.getfield 55, 3) := by decide +kernel
theorem dX6_copy_51 : decode cX6_copy 51 = .ok (.iload_n 1, 1) := by decide +kernel
theorem dX6_copy_52 : decode cX6_copy 52 = .ok (.iaload, 1) := by decide +kernel
theorem dX6_copy_53 : decode cX6_copy 53 = .ok (.aload_n 0, 1) := by decide +kernel
theorem dX6_copy_54 : decode cX6_copy 54 = .ok (.getfield 55, 3) := by decide +kernel
theorem dX6_copy_57 : decode cX6_copy 57 = .ok (.iload_n 3, 1) := by decide +kernel
theorem dX6_copy_58 : decode cX6_copy 58 = .ok (.iaload, 1) := by decide +kernel
theorem dX6_copy_59 : decode cX6_copy 59 = .ok (.if_icmp .eq 10, 3) := by decide +kernel
theorem dX6_copy_62 : decode cX6_copy 62 = .ok (.aload_n 0, 1) := by decide +kernel
theorem dX6_copy_63 : decode cX6_copy 63 = .ok (.ldc 133, 2) := by decide +kernel
theorem dX6_copy_65 : decode cX6_copy 65 = .ok (.invokevirtual 79, 3) := by decide +kernel
theorem dX6_copy_68 : decode cX6_copy 68 = .ok (.ireturn, 1) := by decide +kernel
theorem dX6_copy_69 : decode cX6_copy 69 = .ok (.iload_n 2, 1) := by decide +kernel
theorem dX6_copy_70 : decode cX6_copy 70 = .ok (.ifCond .lt 40, 3) := by decide +kernel
theorem dX6_copy_73 : decode cX6_copy 73 = .ok (.iload 4, 2) := by decide +kernel
theorem dX6_copy_75 : decode cX6_copy 75 = .ok (.ifCond .lt 35, 3) := by decide +kernel
theorem dX6_copy_78 : decode cX6_copy 78 = .ok (.iload 5, 2) := by decide +kernel
theorem dX6_copy_80 : decode cX6_copy 80 = .ok (.ifCond .lt 30, 3) := by decide +kernel
theorem dX6_copy_83 : decode cX6_copy 83 = .ok (.iload 5, 2) := by decide +kernel
theorem dX6_copy_85 : decode cX6_copy 85 = .ok (.aload_n 0, 1) := by decide +kernel
theorem dX6_copy_86 : decode cX6_copy 86 = .ok (.getfield 58, 3) := by decide +kernel
theorem dX6_copy_89 : decode cX6_copy 89 = .ok (.iload_n 1, 1) := by decide +kernel
theorem dX6_copy_90 : decode cX6_copy 90 = .ok (.iaload, 1) := by decide +kernel
theorem dX6_copy_91 : decode cX6_copy 91 = .ok (.iload_n 2, 1) := by decide +kernel
theorem dX6_copy_92 : decode cX6_copy 92 = .ok (.isub, 1) := by decide +kernel
theorem dX6_copy_93 : decode cX6_copy 93 = .ok (.if_icmp .gt 17, 3) := by decide +kernel
theorem dX6_copy_96 : decode cX6_copy 96 = .ok (.iload 5, 2) := by decide +kernel
theorem dX6_copy_98 : decode cX6_copy 98 = .ok (.aload_n 0, 1) := by decide +kernel
theorem dX6_copy_99 : decode cX6_copy 99 = .ok (.getfield 58, 3) := by decide +kernel
theorem dX6_copy_102 : decode cX6_copy 102 = .ok (.iload_n 3, 1) := by decide +kernel
theorem dX6_copy_103 : decode cX6_copy 103 = .ok (.iaload, 1) := by decide +kernel
theorem dX6_copy_104 : decode cX6_copy 104 = .ok (.iload 4, 2) := by decide +kernel
theorem dX6_copy_106 : decode cX6_copy 106 = .ok (.isub, 1) := by decide +kernel
theorem dX6_copy_107 : decode cX6_copy 107 = .ok (.if_icmp .le 10, 3) := by decide +kernel
theorem dX6_copy_110 : decode cX6_copy 110 = .ok (.aload_n 0, 1) := by decide +kernel
theorem dX6_copy_111 : decode cX6_copy 111 = .ok (.ldc 68, 2) := by decide +kernel
theorem dX6_copy_113 : decode cX6_copy 113 = .ok (.invokevirtual 79, 3) := by decide +kernel
theorem dX6_copy_116 : decode cX6_copy 116 = .ok (.ireturn, 1) := by decide +kernel
theorem dX6_copy_117 : decode cX6_copy 117 = .ok (.iconst 0, 1) := by decide +kernel
theorem dX6_copy_118 : decode cX6_copy 118 = .ok (.istore 6, 2) := by decide +kernel
theorem dX6_copy_120 : decode cX6_copy 120 = .ok (.iload 6, 2) := by decide +kernel
theorem dX6_copy_122 : decode cX6_copy 122 = .ok (.iload 5, 2) := by decide +kernel
theorem dX6_copy_124 : decode cX6_copy 124 = .ok (.if_icmp .ge 30, 3) := by decide +kernel
theorem dX6_copy_127 : decode cX6_copy 127 = .ok (.aload_n 0, 1) := by decide +kernel
theorem dX6_copy_128 : decode cX6_copy 128 = .ok (.getfield 65, 3) := by decide +kernel
theorem dX6_copy_131 : decode cX6_copy 131 = .ok (.iload 6, 2) := by decide +kernel
theorem dX6_copy_133 : decode cX6_copy 133 = .ok (.aload_n 0, 1) := by decide +kernel
theorem dX6_copy_134 : decode cX6_copy 134 = .ok (.getfield 61, 3) := by decide +kernel
theorem dX6_copy_137 : decode cX6_copy 137 = .ok (.bipush 40, 2) := by decide +kernel
theorem dX6_copy_139 : decode cX6_copy 139 = .ok (.iload_n 1, 1) := by decide +kernel
theorem dX6_copy_140 : decode cX6_copy 140 = .ok (.imul, 1) := by decide +kernel
theorem dX6_copy_141 : decode cX6_copy 141 = .ok (.iload_n 2, 1) := by decide +kernel
theorem dX6_copy_142 : decode cX6_copy 142 = .ok (.iadd, 1) := by decide +kernel
theorem dX6_copy_143 : decode cX6_copy 143 = .ok (.iload 6, 2) := by decide +kernel
theorem dX6_copy_145 : decode cX6_copy 145 = .ok (.iadd, 1) := by decide +kernel
theorem dX6_copy_146 : decode cX6_copy 146 = .ok (.laload, 1) := by decide +kernel
theorem dX6_copy_147 : decode cX6_copy 147 = .ok (.lastore, 1) := by decide +kernel
theorem dX6_copy_148 : decode cX6_copy 148 = .ok (.iinc 6 1, 3) := by decide +kernel
theorem dX6_copy_151 : decode cX6_copy 151 = .ok (.goto (-31), 3) := by decide +kernel
theorem dX6_copy_154 : decode cX6_copy 154 = .ok (.iconst 0, 1) := by decide +kernel
theorem dX6_copy_155 : decode cX6_copy 155 = .ok (.istore 6, 2) := by decide +kernel
theorem dX6_copy_157 : decode cX6_copy 157 = .ok (.iload 6, 2) := by decide +kernel
theorem dX6_copy_159 : decode cX6_copy 159 = .ok (.iload 5, 2) := by decide +kernel
theorem dX6_copy_161 : decode cX6_copy 161 = .ok (.if_icmp .ge 31, 3) := by decide +kernel
theorem dX6_copy_164 : decode cX6_copy 164 = .ok (.aload_n 0, 1) := by decide +kernel
theorem dX6_copy_165 : decode cX6_copy 165 = .ok (.getfield 61, 3) := by decide +kernel
theorem dX6_copy_168 : decode cX6_copy 168 = .ok (.bipush 40, 2) := by decide +kernel
theorem dX6_copy_170 : decode cX6_copy 170 = .ok (.iload_n 3, 1) := by decide +kernel
theorem dX6_copy_171 : decode cX6_copy 171 = .ok (.imul, 1) := by decide +kernel
theorem dX6_copy_172 : decode cX6_copy 172 = .ok (.iload 4, 2) := by decide +kernel
theorem dX6_copy_174 : decode cX6_copy 174 = .ok (.iadd, 1) := by decide +kernel
theorem dX6_copy_175 : decode cX6_copy 175 = .ok (.iload 6, 2) := by decide +kernel
theorem dX6_copy_177 : decode cX6_copy 177 = .ok (.iadd, 1) := by decide +kernel
theorem dX6_copy_178 : decode cX6_copy 178 = .ok (.aload_n 0, 1) := by decide +kernel
theorem dX6_copy_179 : decode cX6_copy 179 = .ok (.getfield 65, 3) := by decide +kernel
theorem dX6_copy_182 : decode cX6_copy 182 = .ok (.iload 6, 2) := by decide +kernel
theorem dX6_copy_184 : decode cX6_copy 184 = .ok (.laload, 1) := by decide +kernel
theorem dX6_copy_185 : decode cX6_copy 185 = .ok (.lastore, 1) := by decide +kernel
theorem dX6_copy_186 : decode cX6_copy 186 = .ok (.iinc 6 1, 3) := by decide +kernel
theorem dX6_copy_189 : decode cX6_copy 189 = .ok (.goto (-32), 3) := by decide +kernel
theorem dX6_copy_192 : decode cX6_copy 192 = .ok (.iload 5, 2) := by decide +kernel
theorem dX6_copy_194 : decode cX6_copy 194 = .ok (.ireturn, 1) := by decide +kernel
set_option maxRecDepth 20000 in
theorem ggX6_lays_X6_wrong : GoodIn wsX6_lays wsX6_wrong := goodIn_r _ [10, 1, 11, 12, 13, 14, 9, 15, 16, 17, 18, 19, 29, 30, 31, 32, 33, 34, 35, 36, 37, 38, 39, 40, 41, 42, 43, 44, 45, 46, 47, 48, 49, 50, 51, 52, 53, 54, 55, 56, 57, 58, 59, 60, 61] (by decide +kernel) (by decide +kernel)
set_option maxRecDepth 20000 in
theorem gX6_lays_X6_wrong : GoodIn wsX6_lays (wsV RX6 295 RX6 yX6_wrong wsX6_wrong) := goodIn_app (goodIn_of _ (by decide +kernel)) ggX6_lays_X6_wrong
set_option maxRecDepth 20000 in
theorem ggX6_lays_X6_finds : GoodIn wsX6_lays wsX6_finds := goodIn_r _ [23, 24, 1, 29, 30, 31, 32, 33, 34, 35, 36, 37, 38, 39, 40, 41, 42, 43, 44, 45, 46, 47, 48, 49, 50, 51, 52, 53, 54, 55, 56, 57, 58, 59, 60, 61] (by decide +kernel) (by decide +kernel)
set_option maxRecDepth 20000 in
theorem gX6_lays_X6_finds : GoodIn wsX6_lays (wsV RX6 79 RX6 yX6_finds wsX6_finds) := goodIn_app (goodIn_of _ (by decide +kernel)) ggX6_lays_X6_finds
set_option maxRecDepth 20000 in
theorem ggX6_lays_X6_isField : GoodIn wsX6_lays wsX6_isField := goodIn_r _ [28, 5, 17, 18, 9, 19, 29, 30, 31, 32, 33, 34, 35, 36, 37, 38, 39, 40, 41, 42, 43, 44, 45, 46, 47, 48, 49, 50, 51, 52, 53, 54, 55, 56, 57, 58, 59, 60, 61] (by decide +kernel) (by decide +kernel)
set_option maxRecDepth 20000 in
theorem gX6_lays_X6_isField : GoodIn wsX6_lays (wsV RX6 98 RX6 yX6_isField wsX6_isField) := goodIn_app (goodIn_of _ (by decide +kernel)) ggX6_lays_X6_isField
set_option maxRecDepth 20000 in
theorem ggX6_lays_X6_in : GoodIn wsX6_lays wsX6_in := goodIn_r _ [19] (by decide +kernel) (by decide +kernel)
set_option maxRecDepth 20000 in
theorem gX6_lays_X6_in : GoodIn wsX6_lays (va_wsS RX6 69 yX6_in wsX6_in) := goodIn_app (goodIn_of _ (by decide +kernel)) ggX6_lays_X6_in
theorem dX6_lays_0 : decode cX6_lays 0 = .ok (.aload_n 0, 1) := by decide +kernel
theorem dX6_lays_1 : decode cX6_lays 1 = .ok (.iload_n 1, 1) := by decide +kernel
theorem dX6_lays_2 : decode cX6_lays 2 = .ok (.invokevirtual 295, 3) := by decide +kernel
theorem dX6_lays_5 : decode cX6_lays 5 = .ok (.istore_n 3, 1) := by decide +kernel
theorem dX6_lays_6 : decode cX6_lays 6 = .ok (.iload_n 3, 1) := by decide +kernel
theorem dX6_lays_7 : decode cX6_lays 7 = .ok (.ifCond .eq 9, 3) := by decide +kernel
theorem dX6_lays_10 : decode cX6_lays 10 = .ok (.aload_n 0, 1) := by decide +kernel
theorem dX6_lays_11 : decode cX6_lays 11 = .ok (.iload_n 3, 1) := by decide +kernel
theorem dX6_lays_12 : decode cX6_lays 12 = .ok (.invokevirtual 79, 3) := by decide +kernel
theorem dX6_lays_15 : decode cX6_lays 15 = .ok (.ireturn, 1) := by decide +kernel
theorem dX6_lays_16 : decode cX6_lays 16 = .ok (.aload_n 0, 1) := by decide +kernel
theorem dX6_lays_17 : decode cX6_lays 17 = .ok (.iload_n 2, 1) := by decide +kernel
theorem dX6_lays_18 : decode cX6_lays 18 = .ok (.invokevirtual 98, 3) := by decide +kernel
theorem dX6_lays_21 : decode cX6_lays 21 = .ok (.ifCond .ne 10, 3) := by decide +kernel
theorem dX6_lays_24 : decode cX6_lays 24 = .ok (.aload_n 0, 1) := by decide +kernel
theorem dX6_lays_25 : decode cX6_lays 25 = .ok (.ldc 68, 2) := by decide +kernel
theorem dX6_lays_27 : decode cX6_lays 27 = .ok (.invokevirtual 79, 3) := by decide +kernel
theorem dX6_lays_30 : decode cX6_lays 30 = .ok (.ireturn, 1) := by decide +kernel
theorem dX6_lays_31 : decode cX6_lays 31 = .ok (.iconst 0, 1) := by decide +kernel
theorem dX6_lays_32 : decode cX6_lays 32 = .ok (.istore 4, 2) := by decide +kernel
theorem dX6_lays_34 : decode cX6_lays 34 = .ok (.iconst 2, 1) := by decide +kernel
theorem dX6_lays_35 : decode cX6_lays 35 = .ok (.bipush 6, 2) := by decide +kernel
theorem dX6_lays_37 : decode cX6_lays 37 = .ok (.iload_n 2, 1) := by decide +kernel
theorem dX6_lays_38 : decode cX6_lays 38 = .ok (.imul, 1) := by decide +kernel
theorem dX6_lays_39 : decode cX6_lays 39 = .ok (.iadd, 1) := by decide +kernel
theorem dX6_lays_40 : decode cX6_lays 40 = .ok (.istore 5, 2) := by decide +kernel
theorem dX6_lays_42 : decode cX6_lays 42 = .ok (.iconst 0, 1) := by decide +kernel
theorem dX6_lays_43 : decode cX6_lays 43 = .ok (.istore 6, 2) := by decide +kernel
theorem dX6_lays_45 : decode cX6_lays 45 = .ok (.iload 6, 2) := by decide +kernel
theorem dX6_lays_47 : decode cX6_lays 47 = .ok (.aload_n 0, 1) := by decide +kernel
theorem dX6_lays_48 : decode cX6_lays 48 = .ok (.getfield 58, 3) := by decide +kernel
theorem dX6_lays_51 : decode cX6_lays 51 = .ok (.iload_n 1, 1) := by decide +kernel
theorem dX6_lays_52 : decode cX6_lays 52 = .ok (.iaload, 1) := by decide +kernel
theorem dX6_lays_53 : decode cX6_lays 53 = .ok (.if_icmp .ge 145, 3) := by decide +kernel
theorem dX6_lays_56 : decode cX6_lays 56 = .ok (.iload 6, 2) := by decide +kernel
theorem dX6_lays_58 : decode cX6_lays 58 = .ok (.bipush 16, 2) := by decide +kernel
theorem dX6_lays_60 : decode cX6_lays 60 = .ok (.if_icmp .ge 138, 3) := by decide +kernel
theorem dX6_lays_63 : decode cX6_lays 63 = .ok (.aload_n 0, 1) := by decide +kernel
theorem dX6_lays_64 : decode cX6_lays 64 = .ok (.getfield 61, 3) := by decide +kernel
theorem dX6_lays_67 : decode cX6_lays 67 = .ok (.bipush 40, 2) := by decide +kernel
theorem dX6_lays_69 : decode cX6_lays 69 = .ok (.iload_n 1, 1) := by decide +kernel
theorem dX6_lays_70 : decode cX6_lays 70 = .ok (.imul, 1) := by decide +kernel
theorem dX6_lays_71 : decode cX6_lays 71 = .ok (.iload 6, 2) := by decide +kernel
theorem dX6_lays_73 : decode cX6_lays 73 = .ok (.iadd, 1) := by decide +kernel
theorem dX6_lays_74 : decode cX6_lays 74 = .ok (.laload, 1) := by decide +kernel
theorem dX6_lays_75 : decode cX6_lays 75 = .ok (.lstore 7, 2) := by decide +kernel
theorem dX6_lays_77 : decode cX6_lays 77 = .ok (.lload 7, 2) := by decide +kernel
theorem dX6_lays_79 : decode cX6_lays 79 = .ok (.lconst 0, 1) := by decide +kernel
theorem dX6_lays_80 : decode cX6_lays 80 = .ok (.ldc2_w 125, 3) := by decide +kernel
theorem dX6_lays_83 : decode cX6_lays 83 = .ok (.invokestatic 69, 3) := by decide +kernel
theorem dX6_lays_86 : decode cX6_lays 86 = .ok (.ifCond .eq 106, 3) := by decide +kernel
theorem dX6_lays_89 : decode cX6_lays 89 = .ok (.aload_n 0, 1) := by decide +kernel
theorem dX6_lays_90 : decode cX6_lays 90 = .ok (.getfield 7, 3) := by decide +kernel
theorem dX6_lays_93 : decode cX6_lays 93 = .ok (.iload 5, 2) := by decide +kernel
theorem dX6_lays_95 : decode cX6_lays 95 = .ok (.iconst 0, 1) := by decide +kernel
theorem dX6_lays_96 : decode cX6_lays 96 = .ok (.iadd, 1) := by decide +kernel
theorem dX6_lays_97 : decode cX6_lays 97 = .ok (.lload 7, 2) := by decide +kernel
theorem dX6_lays_99 : decode cX6_lays 99 = .ok (.lconst 1, 1) := by decide +kernel
theorem dX6_lays_100 : decode cX6_lays 100 = .ok (.lcmp, 1) := by decide +kernel
theorem dX6_lays_101 : decode cX6_lays 101 = .ok (.ifCond .ne 20, 3) := by decide +kernel
theorem dX6_lays_104 : decode cX6_lays 104 = .ok (.aload_n 0, 1) := by decide +kernel
theorem dX6_lays_105 : decode cX6_lays 105 = .ok (.getfield 7, 3) := by decide +kernel
theorem dX6_lays_108 : decode cX6_lays 108 = .ok (.iload 5, 2) := by decide +kernel
theorem dX6_lays_110 : decode cX6_lays 110 = .ok (.iconst 0, 1) := by decide +kernel
theorem dX6_lays_111 : decode cX6_lays 111 = .ok (.iadd, 1) := by decide +kernel
theorem dX6_lays_112 : decode cX6_lays 112 = .ok (.iaload, 1) := by decide +kernel
theorem dX6_lays_113 : decode cX6_lays 113 = .ok (.iconst 1, 1) := by decide +kernel
theorem dX6_lays_114 : decode cX6_lays 114 = .ok (.iload 6, 2) := by decide +kernel
theorem dX6_lays_116 : decode cX6_lays 116 = .ok (.ishl, 1) := by decide +kernel
theorem dX6_lays_117 : decode cX6_lays 117 = .ok (.ior, 1) := by decide +kernel
theorem dX6_lays_118 : decode cX6_lays 118 = .ok (.goto 19, 3) := by decide +kernel
theorem dX6_lays_121 : decode cX6_lays 121 = .ok (.aload_n 0, 1) := by decide +kernel
theorem dX6_lays_122 : decode cX6_lays 122 = .ok (.getfield 7, 3) := by decide +kernel
theorem dX6_lays_125 : decode cX6_lays 125 = .ok (.iload 5, 2) := by decide +kernel
theorem dX6_lays_127 : decode cX6_lays 127 = .ok (.iconst 0, 1) := by decide +kernel
theorem dX6_lays_128 : decode cX6_lays 128 = .ok (.iadd, 1) := by decide +kernel
theorem dX6_lays_129 : decode cX6_lays 129 = .ok (.iaload, 1) := by decide +kernel
theorem dX6_lays_130 : decode cX6_lays 130 = .ok (.iconst 1, 1) := by decide +kernel
theorem dX6_lays_131 : decode cX6_lays 131 = .ok (.iload 6, 2) := by decide +kernel
theorem dX6_lays_133 : decode cX6_lays 133 = .ok (.ishl, 1) := by decide +kernel
theorem dX6_lays_134 : decode cX6_lays 134 = .ok (.iconst (-1), 1) := by decide +kernel
theorem dX6_lays_135 : decode cX6_lays 135 = .ok (.ixor, 1) := by decide +kernel
theorem dX6_lays_136 : decode cX6_lays 136 = .ok (.iand, 1) := by decide +kernel
theorem dX6_lays_137 : decode cX6_lays 137 = .ok (.iastore, 1) := by decide +kernel
theorem dX6_lays_138 : decode cX6_lays 138 = .ok (.aload_n 0, 1) := by decide +kernel
theorem dX6_lays_139 : decode cX6_lays 139 = .ok (.getfield 7, 3) := by decide +kernel
theorem dX6_lays_142 : decode cX6_lays 142 = .ok (.iload 5, 2) := by decide +kernel
theorem dX6_lays_144 : decode cX6_lays 144 = .ok (.iconst 1, 1) := by decide +kernel
theorem dX6_lays_145 : decode cX6_lays 145 = .ok (.iadd, 1) := by decide +kernel
theorem dX6_lays_146 : decode cX6_lays 146 = .ok (.lload 7, 2) := by decide +kernel
theorem dX6_lays_148 : decode cX6_lays 148 = .ok (.ldc2_w 125, 3) := by decide +kernel
theorem dX6_lays_151 : decode cX6_lays 151 = .ok (.lcmp, 1) := by decide +kernel
theorem dX6_lays_152 : decode cX6_lays 152 = .ok (.ifCond .ne 20, 3) := by decide +kernel
theorem dX6_lays_155 : decode cX6_lays 155 = .ok (.aload_n 0, 1) := by decide +kernel
theorem dX6_lays_156 : decode cX6_lays 156 = .ok (.getfield 7, 3) := by decide +kernel
theorem dX6_lays_159 : decode cX6_lays 159 = .ok (.iload 5, 2) := by decide +kernel
theorem dX6_lays_161 : decode cX6_lays 161 = .ok (.iconst 1, 1) := by decide +kernel
theorem dX6_lays_162 : decode cX6_lays 162 = .ok (.iadd, 1) := by decide +kernel
theorem dX6_lays_163 : decode cX6_lays 163 = .ok (.iaload, 1) := by decide +kernel
theorem dX6_lays_164 : decode cX6_lays 164 = .ok (.iconst 1, 1) := by decide +kernel
theorem dX6_lays_165 : decode cX6_lays 165 = .ok (.iload 6, 2) := by decide +kernel
theorem dX6_lays_167 : decode cX6_lays 167 = .ok (.ishl, 1) := by decide +kernel
theorem dX6_lays_168 : decode cX6_lays 168 = .ok (.ior, 1) := by decide +kernel
theorem dX6_lays_169 : decode cX6_lays 169 = .ok (.goto 19, 3) := by decide +kernel
theorem dX6_lays_172 : decode cX6_lays 172 = .ok (.aload_n 0, 1) := by decide +kernel
theorem dX6_lays_173 : decode cX6_lays 173 = .ok (.getfield 7, 3) := by decide +kernel
theorem dX6_lays_176 : decode cX6_lays 176 = .ok (.iload 5, 2) := by decide +kernel
theorem dX6_lays_178 : decode cX6_lays 178 = .ok (.iconst 1, 1) := by decide +kernel
theorem dX6_lays_179 : decode cX6_lays 179 = .ok (.iadd, 1) := by decide +kernel
theorem dX6_lays_180 : decode cX6_lays 180 = .ok (.iaload, 1) := by decide +kernel
theorem dX6_lays_181 : decode cX6_lays 181 = .ok (.iconst 1, 1) := by decide +kernel
theorem dX6_lays_182 : decode cX6_lays 182 = .ok (.iload 6, 2) := by decide +kernel
theorem dX6_lays_184 : decode cX6_lays 184 = .ok (.ishl, 1) := by decide +kernel
theorem dX6_lays_185 : decode cX6_lays 185 = .ok (.iconst (-1), 1) := by decide +kernel
theorem dX6_lays_186 : decode cX6_lays 186 = .ok (.ixor, 1) := by decide +kernel
theorem dX6_lays_187 : decode cX6_lays 187 = .ok (.iand, 1) := by decide +kernel
theorem dX6_lays_188 : decode cX6_lays 188 = .ok (.iastore, 1) := by decide +kernel
theorem dX6_lays_189 : decode cX6_lays 189 = .ok (.iinc 4 1, 3) := by decide +kernel
theorem dX6_lays_192 : decode cX6_lays 192 = .ok (.iinc 6 1, 3) := by decide +kernel
theorem dX6_lays_195 : decode cX6_lays 195 = .ok (.goto (-150), 3) := by decide +kernel
theorem dX6_lays_198 : decode cX6_lays 198 = .ok (.iload 4, 2) := by decide +kernel
theorem dX6_lays_200 : decode cX6_lays 200 = .ok (.ireturn, 1) := by decide +kernel
set_option maxRecDepth 20000 in
theorem ggX6_draw_X6_wrong : GoodIn wsX6_draw wsX6_wrong := goodIn_r _ [11, 1, 12, 13, 14, 15, 10, 16, 17, 18, 19, 20, 103, 104, 105, 106, 107, 108, 109, 110, 111, 112, 113, 114, 115, 116, 117, 118, 119, 120, 121, 122, 123, 124, 125, 126, 127, 128, 129, 130, 131, 132, 133, 134, 135] (by decide +kernel) (by decide +kernel)
set_option maxRecDepth 20000 in
theorem gX6_draw_X6_wrong : GoodIn wsX6_draw (wsV RX6 295 RX6 yX6_wrong wsX6_wrong) := goodIn_app (goodIn_of _ (by decide +kernel)) ggX6_draw_X6_wrong
set_option maxRecDepth 20000 in
theorem ggX6_draw_X6_finds : GoodIn wsX6_draw wsX6_finds := goodIn_r _ [24, 25, 1, 103, 104, 105, 106, 107, 108, 109, 110, 111, 112, 113, 114, 115, 116, 117, 118, 119, 120, 121, 122, 123, 124, 125, 126, 127, 128, 129, 130, 131, 132, 133, 134, 135] (by decide +kernel) (by decide +kernel)
set_option maxRecDepth 20000 in
theorem gX6_draw_X6_finds : GoodIn wsX6_draw (wsV RX6 79 RX6 yX6_finds wsX6_finds) := goodIn_app (goodIn_of _ (by decide +kernel)) ggX6_draw_X6_finds
set_option maxRecDepth 20000 in
theorem ggX6_draw_X6_isTeam : GoodIn wsX6_draw wsX6_isTeam := goodIn_r _ [29, 30, 18, 19, 10, 20, 103, 104, 105, 106, 107, 108, 109, 110, 111, 112, 113, 114, 115, 116, 117, 118, 119, 120, 121, 122, 123, 124, 125, 126, 127, 128, 129, 130, 131, 132, 133, 134, 135] (by decide +kernel) (by decide +kernel)
set_option maxRecDepth 20000 in
theorem gX6_draw_X6_isTeam : GoodIn wsX6_draw (wsV RX6 122 RX6 yX6_isTeam wsX6_isTeam) := goodIn_app (goodIn_of _ (by decide +kernel)) ggX6_draw_X6_isTeam
set_option maxRecDepth 20000 in
theorem ggX6_draw_X6_isField : GoodIn wsX6_draw wsX6_isField := goodIn_r _ [34, 30, 18, 19, 10, 20, 103, 104, 105, 106, 107, 108, 109, 110, 111, 112, 113, 114, 115, 116, 117, 118, 119, 120, 121, 122, 123, 124, 125, 126, 127, 128, 129, 130, 131, 132, 133, 134, 135] (by decide +kernel) (by decide +kernel)
set_option maxRecDepth 20000 in
theorem gX6_draw_X6_isField : GoodIn wsX6_draw (wsV RX6 98 RX6 yX6_isField wsX6_isField) := goodIn_app (goodIn_of _ (by decide +kernel)) ggX6_draw_X6_isField
set_option maxRecDepth 20000 in
theorem ggX6_draw_X6_costOf : GoodIn wsX6_draw wsX6_costOf := goodIn_r _ [38, 39, 3, 40, 41, 42, 10, 43, 44, 45, 46, 47, 48, 49, 50, 51, 52, 53, 30, 54, 55, 56, 57, 58, 59, 60, 61, 62, 63, 64, 65, 66, 67, 68, 69, 70, 71, 72, 73, 6, 74, 75, 76, 77, 78, 79, 80, 81, 82, 83, 84, 85, 86, 87, 88, 89, 90, 91, 92, 93, 94, 95, 96, 97, 98, 99, 100, 101, 102, 103, 104, 105, 106, 107, 108, 109, 110, 111, 112, 113, 114, 115, 116, 117, 118, 119, 120, 121, 122, 123, 124, 125, 126, 127, 128, 129, 130, 131, 132, 133, 134, 135] (by decide +kernel) (by decide +kernel)
set_option maxRecDepth 20000 in
theorem gX6_draw_X6_costOf : GoodIn wsX6_draw (wsV RX6 185 RX6 yX6_costOf wsX6_costOf) := goodIn_app (goodIn_of _ (by decide +kernel)) ggX6_draw_X6_costOf
theorem dX6_draw_0 : decode cX6_draw 0 = .ok (.aload_n 0, 1) := by decide +kernel
theorem dX6_draw_1 : decode cX6_draw 1 = .ok (.iload_n 1, 1) := by decide +kernel
theorem dX6_draw_2 : decode cX6_draw 2 = .ok (.invokevirtual 295, 3) := by decide +kernel
theorem dX6_draw_5 : decode cX6_draw 5 = .ok (.istore 4, 2) := by decide +kernel
theorem dX6_draw_7 : decode cX6_draw 7 = .ok (.iload 4, 2) := by decide +kernel
theorem dX6_draw_9 : decode cX6_draw 9 = .ok (.ifCond .eq 10, 3) := by decide +kernel
theorem dX6_draw_12 : decode cX6_draw 12 = .ok (.aload_n 0, 1) := by decide +kernel
theorem dX6_draw_13 : decode cX6_draw 13 = .ok (.iload 4, 2) := by decide +kernel
theorem dX6_draw_15 : decode cX6_draw 15 = .ok (.invokevirtual 79, 3) := by decide +kernel
theorem dX6_draw_18 : decode cX6_draw 18 = .ok (.ireturn, 1) := by decide +kernel
theorem dX6_draw_19 : decode cX6_draw 19 = .ok (.aload_n 0, 1) := by decide +kernel
theorem dX6_draw_20 : decode cX6_draw 20 = .ok (.iload_n 2, 1) := by decide +kernel
theorem dX6_draw_21 : decode cX6_draw 21 = .ok (.invokevirtual 122, 3) := by decide +kernel
theorem dX6_draw_24 : decode cX6_draw 24 = .ok (.ifCond .eq 11, 3) := by decide +kernel
theorem dX6_draw_27 : decode cX6_draw 27 = .ok (.aload_n 0, 1) := by decide +kernel
theorem dX6_draw_28 : decode cX6_draw 28 = .ok (.iload_n 3, 1) := by decide +kernel
theorem dX6_draw_29 : decode cX6_draw 29 = .ok (.invokevirtual 98, 3) := by decide +kernel
theorem dX6_draw_32 : decode cX6_draw 32 = .ok (.ifCond .ne 10, 3) := by decide +kernel
theorem dX6_draw_35 : decode cX6_draw 35 = .ok (.aload_n 0, 1) := by decide +kernel
theorem dX6_draw_36 : decode cX6_draw 36 = .ok (.ldc 68, 2) := by decide +kernel
theorem dX6_draw_38 : decode cX6_draw 38 = .ok (.invokevirtual 79, 3) := by decide +kernel
theorem dX6_draw_41 : decode cX6_draw 41 = .ok (.ireturn, 1) := by decide +kernel
theorem dX6_draw_42 : decode cX6_draw 42 = .ok (.aload_n 0, 1) := by decide +kernel
theorem dX6_draw_43 : decode cX6_draw 43 = .ok (.iload_n 2, 1) := by decide +kernel
theorem dX6_draw_44 : decode cX6_draw 44 = .ok (.iload_n 3, 1) := by decide +kernel
theorem dX6_draw_45 : decode cX6_draw 45 = .ok (.invokevirtual 185, 3) := by decide +kernel
theorem dX6_draw_48 : decode cX6_draw 48 = .ok (.ifCond .ge 10, 3) := by decide +kernel
theorem dX6_draw_51 : decode cX6_draw 51 = .ok (.aload_n 0, 1) := by decide +kernel
theorem dX6_draw_52 : decode cX6_draw 52 = .ok (.ldc 188, 2) := by decide +kernel
theorem dX6_draw_54 : decode cX6_draw 54 = .ok (.invokevirtual 79, 3) := by decide +kernel
theorem dX6_draw_57 : decode cX6_draw 57 = .ok (.ireturn, 1) := by decide +kernel
theorem dX6_draw_58 : decode cX6_draw 58 = .ok (.aload_n 0, 1) := by decide +kernel
theorem dX6_draw_59 : decode cX6_draw 59 = .ok (.getfield 163, 3) := by decide +kernel
theorem dX6_draw_62 : decode cX6_draw 62 = .ok (.aload_n 0, 1) := by decide +kernel
theorem dX6_draw_63 : decode cX6_draw 63 = .ok (.getfield 58, 3) := by decide +kernel
theorem dX6_draw_66 : decode cX6_draw 66 = .ok (.iload_n 1, 1) := by decide +kernel
theorem dX6_draw_67 : decode cX6_draw 67 = .ok (.iaload, 1) := by decide +kernel
theorem dX6_draw_68 : decode cX6_draw 68 = .ok (.if_icmp .ge 10, 3) := by decide +kernel
theorem dX6_draw_71 : decode cX6_draw 71 = .ok (.aload_n 0, 1) := by decide +kernel
theorem dX6_draw_72 : decode cX6_draw 72 = .ok (.getfield 163, 3) := by decide +kernel
theorem dX6_draw_75 : decode cX6_draw 75 = .ok (.goto 9, 3) := by decide +kernel
theorem dX6_draw_78 : decode cX6_draw 78 = .ok (.aload_n 0, 1) := by decide +kernel
theorem dX6_draw_79 : decode cX6_draw 79 = .ok (.getfield 58, 3) := by decide +kernel
theorem dX6_draw_82 : decode cX6_draw 82 = .ok (.iload_n 1, 1) := by decide +kernel
theorem dX6_draw_83 : decode cX6_draw 83 = .ok (.iaload, 1) := by decide +kernel
theorem dX6_draw_84 : decode cX6_draw 84 = .ok (.istore 5, 2) := by decide +kernel
theorem dX6_draw_86 : decode cX6_draw 86 = .ok (.iconst 0, 1) := by decide +kernel
theorem dX6_draw_87 : decode cX6_draw 87 = .ok (.istore 6, 2) := by decide +kernel
theorem dX6_draw_89 : decode cX6_draw 89 = .ok (.iload 6, 2) := by decide +kernel
theorem dX6_draw_91 : decode cX6_draw 91 = .ok (.iload 5, 2) := by decide +kernel
theorem dX6_draw_93 : decode cX6_draw 93 = .ok (.if_icmp .ge 29, 3) := by decide +kernel
theorem dX6_draw_96 : decode cX6_draw 96 = .ok (.aload_n 0, 1) := by decide +kernel
theorem dX6_draw_97 : decode cX6_draw 97 = .ok (.getfield 61, 3) := by decide +kernel
theorem dX6_draw_100 : decode cX6_draw 100 = .ok (.bipush 40, 2) := by decide +kernel
theorem dX6_draw_102 : decode cX6_draw 102 = .ok (.iload_n 1, 1) := by decide +kernel
theorem dX6_draw_103 : decode cX6_draw 103 = .ok (.imul, 1) := by decide +kernel
theorem dX6_draw_104 : decode cX6_draw 104 = .ok (.iload 6, 2) := by decide +kernel
theorem dX6_draw_106 : decode cX6_draw 106 = .ok (.iadd, 1) := by decide +kernel
theorem dX6_draw_107 : decode cX6_draw 107 = .ok (.aload_n 0, 1) := by decide +kernel
theorem dX6_draw_108 : decode cX6_draw 108 = .ok (.getfield 34, 3) := by decide +kernel
theorem dX6_draw_111 : decode cX6_draw 111 = .ok (.iload 6, 2) := by decide +kernel
theorem dX6_draw_113 : decode cX6_draw 113 = .ok (.iaload, 1) := by decide +kernel
theorem dX6_draw_114 : decode cX6_draw 114 = .ok (.i2l, 1) := by decide +kernel
theorem dX6_draw_115 : decode cX6_draw 115 = .ok (.lastore, 1) := by decide +kernel
theorem dX6_draw_116 : decode cX6_draw 116 = .ok (.iinc 6 1, 3) := by decide +kernel
theorem dX6_draw_119 : decode cX6_draw 119 = .ok (.goto (-30), 3) := by decide +kernel
theorem dX6_draw_122 : decode cX6_draw 122 = .ok (.iload 5, 2) := by decide +kernel
theorem dX6_draw_124 : decode cX6_draw 124 = .ok (.ireturn, 1) := by decide +kernel
set_option maxRecDepth 20000 in
theorem ggX6_towards_X6_beside : GoodIn wsX6_towards wsX6_beside := goodIn_r _ [4] (by decide +kernel) (by decide +kernel)
set_option maxRecDepth 20000 in
theorem gX6_towards_X6_beside : GoodIn wsX6_towards (va_wsS RX6 134 yX6_beside wsX6_beside) := goodIn_app (goodIn_of _ (by decide +kernel)) ggX6_towards_X6_beside
theorem dX6_towards_0 : decode cX6_towards 0 = .ok (.iconst (-1), 1) := by decide +kernel
theorem dX6_towards_1 : decode cX6_towards 1 = .ok (.istore_n 2, 1) := by decide +kernel
theorem dX6_towards_2 : decode cX6_towards 2 = .ok (.iconst 0, 1) := by decide +kernel
theorem dX6_towards_3 : decode cX6_towards 3 = .ok (.istore_n 3, 1) := by decide +kernel
theorem dX6_towards_4 : decode cX6_towards 4 = .ok (.iload_n 3, 1) := by decide +kernel
theorem dX6_towards_5 : decode cX6_towards 5 = .ok (.iconst 4, 1) := by decide +kernel
theorem dX6_towards_6 : decode cX6_towards 6 = .ok (.if_icmp .ge 24, 3) := by decide +kernel
theorem dX6_towards_9 : decode cX6_towards 9 = .ok (.iload_n 0, 1) := by decide +kernel
theorem dX6_towards_10 : decode cX6_towards 10 = .ok (.iload_n 3, 1) := by decide +kernel
theorem dX6_towards_11 : decode cX6_towards 11 = .ok (.invokestatic 134, 3) := by decide +kernel
theorem dX6_towards_14 : decode cX6_towards 14 = .ok (.iload_n 1, 1) := by decide +kernel
theorem dX6_towards_15 : decode cX6_towards 15 = .ok (.if_icmp .ne 7, 3) := by decide +kernel
theorem dX6_towards_18 : decode cX6_towards 18 = .ok (.iload_n 3, 1) := by decide +kernel
theorem dX6_towards_19 : decode cX6_towards 19 = .ok (.goto 4, 3) := by decide +kernel
theorem dX6_towards_22 : decode cX6_towards 22 = .ok (.iload_n 2, 1) := by decide +kernel
theorem dX6_towards_23 : decode cX6_towards 23 = .ok (.istore_n 2, 1) := by decide +kernel
theorem dX6_towards_24 : decode cX6_towards 24 = .ok (.iinc 3 1, 3) := by decide +kernel
theorem dX6_towards_27 : decode cX6_towards 27 = .ok (.goto (-23), 3) := by decide +kernel
theorem dX6_towards_30 : decode cX6_towards 30 = .ok (.iload_n 2, 1) := by decide +kernel
theorem dX6_towards_31 : decode cX6_towards 31 = .ok (.ireturn, 1) := by decide +kernel
set_option maxRecDepth 20000 in
theorem ggX6_read_X6_wrong : GoodIn wsX6_read wsX6_wrong := goodIn_r _ [9, 1, 10, 11, 12, 13, 8, 14, 15, 16, 17, 18, 63, 64, 65, 66, 67, 68, 69, 70, 71, 72, 73, 74, 75, 76, 77, 78, 79, 80, 81, 82, 83, 84, 85, 86, 87, 88, 89, 90, 91, 92, 93, 94, 95] (by decide +kernel) (by decide +kernel)
set_option maxRecDepth 20000 in
theorem gX6_read_X6_wrong : GoodIn wsX6_read (wsV RX6 295 RX6 yX6_wrong wsX6_wrong) := goodIn_app (goodIn_of _ (by decide +kernel)) ggX6_read_X6_wrong
set_option maxRecDepth 20000 in
theorem ggX6_read_X6_finds : GoodIn wsX6_read wsX6_finds := goodIn_r _ [22, 23, 1, 63, 64, 65, 66, 67, 68, 69, 70, 71, 72, 73, 74, 75, 76, 77, 78, 79, 80, 81, 82, 83, 84, 85, 86, 87, 88, 89, 90, 91, 92, 93, 94, 95] (by decide +kernel) (by decide +kernel)
set_option maxRecDepth 20000 in
theorem gX6_read_X6_finds : GoodIn wsX6_read (wsV RX6 79 RX6 yX6_finds wsX6_finds) := goodIn_app (goodIn_of _ (by decide +kernel)) ggX6_read_X6_finds
set_option maxRecDepth 20000 in
theorem ggX6_read_X6_isTeam : GoodIn wsX6_read wsX6_isTeam := goodIn_r _ [27, 28, 16, 17, 8, 18, 63, 64, 65, 66, 67, 68, 69, 70, 71, 72, 73, 74, 75, 76, 77, 78, 79, 80, 81, 82, 83, 84, 85, 86, 87, 88, 89, 90, 91, 92, 93, 94, 95] (by decide +kernel) (by decide +kernel)
set_option maxRecDepth 20000 in
theorem gX6_read_X6_isTeam : GoodIn wsX6_read (wsV RX6 122 RX6 yX6_isTeam wsX6_isTeam) := goodIn_app (goodIn_of _ (by decide +kernel)) ggX6_read_X6_isTeam
set_option maxRecDepth 20000 in
theorem ggX6_read_X6_isField : GoodIn wsX6_read wsX6_isField := goodIn_r _ [32, 28, 16, 17, 8, 18, 63, 64, 65, 66, 67, 68, 69, 70, 71, 72, 73, 74, 75, 76, 77, 78, 79, 80, 81, 82, 83, 84, 85, 86, 87, 88, 89, 90, 91, 92, 93, 94, 95] (by decide +kernel) (by decide +kernel)
set_option maxRecDepth 20000 in
theorem gX6_read_X6_isField : GoodIn wsX6_read (wsV RX6 98 RX6 yX6_isField wsX6_isField) := goodIn_app (goodIn_of _ (by decide +kernel)) ggX6_read_X6_isField
set_option maxRecDepth 20000 in
theorem ggX6_read_X6_earth : GoodIn wsX6_read wsX6_earth := goodIn_r _ [36, 37, 38, 39, 40, 8, 41, 28, 63, 64, 65, 66, 67, 68, 69, 70, 71, 72, 73, 74, 75, 76, 77, 78, 79, 80, 81, 82, 83, 84, 85, 86, 87, 88, 89, 90, 91, 92, 93, 94, 95] (by decide +kernel) (by decide +kernel)
set_option maxRecDepth 20000 in
theorem gX6_read_X6_earth : GoodIn wsX6_read (wsV RX6 87 RX6 yX6_earth wsX6_earth) := goodIn_app (goodIn_of _ (by decide +kernel)) ggX6_read_X6_earth
set_option maxRecDepth 20000 in
theorem ggX6_read_X6_in : GoodIn wsX6_read wsX6_in := goodIn_r _ [18] (by decide +kernel) (by decide +kernel)
set_option maxRecDepth 20000 in
theorem gX6_read_X6_in : GoodIn wsX6_read (va_wsS RX6 69 yX6_in wsX6_in) := goodIn_app (goodIn_of _ (by decide +kernel)) ggX6_read_X6_in
set_option maxRecDepth 20000 in
theorem ggX6_read_X6_has : GoodIn wsX6_read wsX6_has := goodIn_r _ [44] (by decide +kernel) (by decide +kernel)
set_option maxRecDepth 20000 in
theorem gX6_read_X6_has : GoodIn wsX6_read (va_wsS RX6 90 yX6_has wsX6_has) := goodIn_app (goodIn_of _ (by decide +kernel)) ggX6_read_X6_has
set_option maxRecDepth 20000 in
theorem ggX6_read_X6_towards : GoodIn wsX6_read wsX6_towards := goodIn_r _ [47, 48, 49, 8, 50] (by decide +kernel) (by decide +kernel)
set_option maxRecDepth 20000 in
theorem gX6_read_X6_towards : GoodIn wsX6_read (va_wsS RX6 302 yX6_towards wsX6_towards) := goodIn_app (goodIn_of _ (by decide +kernel)) ggX6_read_X6_towards
set_option maxRecDepth 20000 in
theorem ggX6_read_X6_its : GoodIn wsX6_read wsX6_its := goodIn_r _ [41, 28, 63, 64, 65, 66, 67, 68, 69, 70, 71, 72, 73, 74, 75, 76, 77, 78, 79, 80, 81, 82, 83, 84, 85, 86, 87, 88, 89, 90, 91, 92, 93, 94, 95] (by decide +kernel) (by decide +kernel)
set_option maxRecDepth 20000 in
theorem gX6_read_X6_its : GoodIn wsX6_read (wsV RX6 74 RX6 yX6_its wsX6_its) := goodIn_app (goodIn_of _ (by decide +kernel)) ggX6_read_X6_its
set_option maxRecDepth 20000 in
theorem ggX6_read_X6_mayGo : GoodIn wsX6_read wsX6_mayGo := goodIn_r _ [54, 55, 56, 57, 8, 58, 28, 59, 60, 61, 62, 48, 49, 50, 38, 39, 40, 41, 42, 43, 44, 63, 64, 65, 66, 67, 68, 69, 70, 71, 72, 73, 74, 75, 76, 77, 78, 79, 80, 81, 82, 83, 84, 85, 86, 87, 88, 89, 90, 91, 92, 93, 94, 95] (by decide +kernel) (by decide +kernel)
set_option maxRecDepth 20000 in
theorem gX6_read_X6_mayGo : GoodIn wsX6_read (wsV RX6 146 RX6 yX6_mayGo wsX6_mayGo) := goodIn_app (goodIn_of _ (by decide +kernel)) ggX6_read_X6_mayGo
theorem dX6_read_0 : decode cX6_read 0 = .ok (.aload_n 0, 1) := by decide +kernel
theorem dX6_read_1 : decode cX6_read 1 = .ok (.iload_n 1, 1) := by decide +kernel
theorem dX6_read_2 : decode cX6_read 2 = .ok (.invokevirtual 295, 3) := by decide +kernel
theorem dX6_read_5 : decode cX6_read 5 = .ok (.istore 4, 2) := by decide +kernel
theorem dX6_read_7 : decode cX6_read 7 = .ok (.iload 4, 2) := by decide +kernel
theorem dX6_read_9 : decode cX6_read 9 = .ok (.ifCond .eq 10, 3) := by decide +kernel
theorem dX6_read_12 : decode cX6_read 12 = .ok (.aload_n 0, 1) := by decide +kernel
theorem dX6_read_13 : decode cX6_read 13 = .ok (.iload 4, 2) := by decide +kernel
theorem dX6_read_15 : decode cX6_read 15 = .ok (.invokevirtual 79, 3) := by decide +kernel
theorem dX6_read_18 : decode cX6_read 18 = .ok (.ireturn, 1) := by decide +kernel
theorem dX6_read_19 : decode cX6_read 19 = .ok (.aload_n 0, 1) := by decide +kernel
theorem dX6_read_20 : decode cX6_read 20 = .ok (.iload_n 2, 1) := by decide +kernel
theorem dX6_read_21 : decode cX6_read 21 = .ok (.invokevirtual 122, 3) := by decide +kernel
theorem dX6_read_24 : decode cX6_read 24 = .ok (.ifCond .eq 11, 3) := by decide +kernel
theorem dX6_read_27 : decode cX6_read 27 = .ok (.aload_n 0, 1) := by decide +kernel
theorem dX6_read_28 : decode cX6_read 28 = .ok (.iload_n 3, 1) := by decide +kernel
theorem dX6_read_29 : decode cX6_read 29 = .ok (.invokevirtual 98, 3) := by decide +kernel
theorem dX6_read_32 : decode cX6_read 32 = .ok (.ifCond .ne 10, 3) := by decide +kernel
theorem dX6_read_35 : decode cX6_read 35 = .ok (.aload_n 0, 1) := by decide +kernel
theorem dX6_read_36 : decode cX6_read 36 = .ok (.ldc 68, 2) := by decide +kernel
theorem dX6_read_38 : decode cX6_read 38 = .ok (.invokevirtual 79, 3) := by decide +kernel
theorem dX6_read_41 : decode cX6_read 41 = .ok (.ireturn, 1) := by decide +kernel
theorem dX6_read_42 : decode cX6_read 42 = .ok (.aload_n 0, 1) := by decide +kernel
theorem dX6_read_43 : decode cX6_read 43 = .ok (.iload_n 3, 1) := by decide +kernel
theorem dX6_read_44 : decode cX6_read 44 = .ok (.invokevirtual 87, 3) := by decide +kernel
theorem dX6_read_47 : decode cX6_read 47 = .ok (.istore 5, 2) := by decide +kernel
theorem dX6_read_49 : decode cX6_read 49 = .ok (.iconst (-1), 1) := by decide +kernel
theorem dX6_read_50 : decode cX6_read 50 = .ok (.istore 6, 2) := by decide +kernel
theorem dX6_read_52 : decode cX6_read 52 = .ok (.iconst 0, 1) := by decide +kernel
theorem dX6_read_53 : decode cX6_read 53 = .ok (.istore 7, 2) := by decide +kernel
theorem dX6_read_55 : decode cX6_read 55 = .ok (.iconst (-1), 1) := by decide +kernel
theorem dX6_read_56 : decode cX6_read 56 = .ok (.istore 8, 2) := by decide +kernel
theorem dX6_read_58 : decode cX6_read 58 = .ok (.iconst 0, 1) := by decide +kernel
theorem dX6_read_59 : decode cX6_read 59 = .ok (.istore 9, 2) := by decide +kernel
theorem dX6_read_61 : decode cX6_read 61 = .ok (.iload 9, 2) := by decide +kernel
theorem dX6_read_63 : decode cX6_read 63 = .ok (.aload_n 0, 1) := by decide +kernel
theorem dX6_read_64 : decode cX6_read 64 = .ok (.getfield 58, 3) := by decide +kernel
theorem dX6_read_67 : decode cX6_read 67 = .ok (.iload_n 1, 1) := by decide +kernel
theorem dX6_read_68 : decode cX6_read 68 = .ok (.iaload, 1) := by decide +kernel
theorem dX6_read_69 : decode cX6_read 69 = .ok (.if_icmp .ge 184, 3) := by decide +kernel
theorem dX6_read_72 : decode cX6_read 72 = .ok (.aload_n 0, 1) := by decide +kernel
theorem dX6_read_73 : decode cX6_read 73 = .ok (.getfield 61, 3) := by decide +kernel
theorem dX6_read_76 : decode cX6_read 76 = .ok (.bipush 40, 2) := by decide +kernel
theorem dX6_read_78 : decode cX6_read 78 = .ok (.iload_n 1, 1) := by decide +kernel
theorem dX6_read_79 : decode cX6_read 79 = .ok (.imul, 1) := by decide +kernel
theorem dX6_read_80 : decode cX6_read 80 = .ok (.iload 9, 2) := by decide +kernel
theorem dX6_read_82 : decode cX6_read 82 = .ok (.iadd, 1) := by decide +kernel
theorem dX6_read_83 : decode cX6_read 83 = .ok (.laload, 1) := by decide +kernel
theorem dX6_read_84 : decode cX6_read 84 = .ok (.lstore 10, 2) := by decide +kernel
theorem dX6_read_86 : decode cX6_read 86 = .ok (.lload 10, 2) := by decide +kernel
theorem dX6_read_88 : decode cX6_read 88 = .ok (.lconst 0, 1) := by decide +kernel
theorem dX6_read_89 : decode cX6_read 89 = .ok (.ldc2_w 140, 3) := by decide +kernel
theorem dX6_read_92 : decode cX6_read 92 = .ok (.invokestatic 69, 3) := by decide +kernel
theorem dX6_read_95 : decode cX6_read 95 = .ok (.ifCond .eq 14, 3) := by decide +kernel
theorem dX6_read_98 : decode cX6_read 98 = .ok (.iload 5, 2) := by decide +kernel
theorem dX6_read_100 : decode cX6_read 100 = .ok (.lload 10, 2) := by decide +kernel
theorem dX6_read_102 : decode cX6_read 102 = .ok (.l2i, 1) := by decide +kernel
theorem dX6_read_103 : decode cX6_read 103 = .ok (.invokestatic 90, 3) := by decide +kernel
theorem dX6_read_106 : decode cX6_read 106 = .ok (.ifCond .ne 8, 3) := by decide +kernel
theorem dX6_read_109 : decode cX6_read 109 = .ok (.iload 9, 2) := by decide +kernel
theorem dX6_read_111 : decode cX6_read 111 = .ok (.iconst 1, 1) := by decide +kernel
theorem dX6_read_112 : decode cX6_read 112 = .ok (.iadd, 1) := by decide +kernel
theorem dX6_read_113 : decode cX6_read 113 = .ok (.ireturn, 1) := by decide +kernel
theorem dX6_read_114 : decode cX6_read 114 = .ok (.lload 10, 2) := by decide +kernel
theorem dX6_read_116 : decode cX6_read 116 = .ok (.l2i, 1) := by decide +kernel
theorem dX6_read_117 : decode cX6_read 117 = .ok (.istore 12, 2) := by decide +kernel
theorem dX6_read_119 : decode cX6_read 119 = .ok (.iload 9, 2) := by decide +kernel
theorem dX6_read_121 : decode cX6_read 121 = .ok (.ifCond .ne 7, 3) := by decide +kernel
theorem dX6_read_124 : decode cX6_read 124 = .ok (.iconst (-1), 1) := by decide +kernel
theorem dX6_read_125 : decode cX6_read 125 = .ok (.goto 10, 3) := by decide +kernel
theorem dX6_read_128 : decode cX6_read 128 = .ok (.iload 8, 2) := by decide +kernel
theorem dX6_read_130 : decode cX6_read 130 = .ok (.iload 12, 2) := by decide +kernel
theorem dX6_read_132 : decode cX6_read 132 = .ok (.invokestatic 302, 3) := by decide +kernel
theorem dX6_read_135 : decode cX6_read 135 = .ok (.istore 13, 2) := by decide +kernel
theorem dX6_read_137 : decode cX6_read 137 = .ok (.iload 9, 2) := by decide +kernel
theorem dX6_read_139 : decode cX6_read 139 = .ok (.ifCond .ne 31, 3) := by decide +kernel
theorem dX6_read_142 : decode cX6_read 142 = .ok (.aload_n 0, 1) := by decide +kernel
theorem dX6_read_143 : decode cX6_read 143 = .ok (.iload_n 3, 1) := by decide +kernel
theorem dX6_read_144 : decode cX6_read 144 = .ok (.iconst 2, 1) := by decide +kernel
theorem dX6_read_145 : decode cX6_read 145 = .ok (.invokevirtual 74, 3) := by decide +kernel
theorem dX6_read_148 : decode cX6_read 148 = .ok (.ifCond .lt 14, 3) := by decide +kernel
theorem dX6_read_151 : decode cX6_read 151 = .ok (.aload_n 0, 1) := by decide +kernel
theorem dX6_read_152 : decode cX6_read 152 = .ok (.iload_n 3, 1) := by decide +kernel
theorem dX6_read_153 : decode cX6_read 153 = .ok (.iconst 2, 1) := by decide +kernel
theorem dX6_read_154 : decode cX6_read 154 = .ok (.invokevirtual 74, 3) := by decide +kernel
theorem dX6_read_157 : decode cX6_read 157 = .ok (.iload 12, 2) := by decide +kernel
theorem dX6_read_159 : decode cX6_read 159 = .ok (.if_icmp .ne 7, 3) := by decide +kernel
theorem dX6_read_162 : decode cX6_read 162 = .ok (.iconst 1, 1) := by decide +kernel
theorem dX6_read_163 : decode cX6_read 163 = .ok (.goto 34, 3) := by decide +kernel
theorem dX6_read_166 : decode cX6_read 166 = .ok (.iconst 0, 1) := by decide +kernel
theorem dX6_read_167 : decode cX6_read 167 = .ok (.goto 30, 3) := by decide +kernel
theorem dX6_read_170 : decode cX6_read 170 = .ok (.iload 13, 2) := by decide +kernel
theorem dX6_read_172 : decode cX6_read 172 = .ok (.ifCond .lt 24, 3) := by decide +kernel
theorem dX6_read_175 : decode cX6_read 175 = .ok (.aload_n 0, 1) := by decide +kernel
theorem dX6_read_176 : decode cX6_read 176 = .ok (.iload_n 2, 1) := by decide +kernel
theorem dX6_read_177 : decode cX6_read 177 = .ok (.iload_n 3, 1) := by decide +kernel
theorem dX6_read_178 : decode cX6_read 178 = .ok (.iload 12, 2) := by decide +kernel
theorem dX6_read_180 : decode cX6_read 180 = .ok (.iload 6, 2) := by decide +kernel
theorem dX6_read_182 : decode cX6_read 182 = .ok (.iload 13, 2) := by decide +kernel
theorem dX6_read_184 : decode cX6_read 184 = .ok (.iload 7, 2) := by decide +kernel
theorem dX6_read_186 : decode cX6_read 186 = .ok (.invokevirtual 146, 3) := by decide +kernel
theorem dX6_read_189 : decode cX6_read 189 = .ok (.ifCond .eq 7, 3) := by decide +kernel
theorem dX6_read_192 : decode cX6_read 192 = .ok (.iconst 1, 1) := by decide +kernel
theorem dX6_read_193 : decode cX6_read 193 = .ok (.goto 4, 3) := by decide +kernel
theorem dX6_read_196 : decode cX6_read 196 = .ok (.iconst 0, 1) := by decide +kernel
theorem dX6_read_197 : decode cX6_read 197 = .ok (.istore 14, 2) := by decide +kernel
theorem dX6_read_199 : decode cX6_read 199 = .ok (.iload 14, 2) := by decide +kernel
theorem dX6_read_201 : decode cX6_read 201 = .ok (.ifCond .ne 8, 3) := by decide +kernel
theorem dX6_read_204 : decode cX6_read 204 = .ok (.iload 9, 2) := by decide +kernel
theorem dX6_read_206 : decode cX6_read 206 = .ok (.iconst 1, 1) := by decide +kernel
theorem dX6_read_207 : decode cX6_read 207 = .ok (.iadd, 1) := by decide +kernel
theorem dX6_read_208 : decode cX6_read 208 = .ok (.ireturn, 1) := by decide +kernel
theorem dX6_read_209 : decode cX6_read 209 = .ok (.iload 6, 2) := by decide +kernel
theorem dX6_read_211 : decode cX6_read 211 = .ok (.ifCond .lt 14, 3) := by decide +kernel
theorem dX6_read_214 : decode cX6_read 214 = .ok (.iload 6, 2) := by decide +kernel
theorem dX6_read_216 : decode cX6_read 216 = .ok (.iload 13, 2) := by decide +kernel
theorem dX6_read_218 : decode cX6_read 218 = .ok (.if_icmp .eq 7, 3) := by decide +kernel
theorem dX6_read_221 : decode cX6_read 221 = .ok (.iconst 1, 1) := by decide +kernel
theorem dX6_read_222 : decode cX6_read 222 = .ok (.goto 4, 3) := by decide +kernel
theorem dX6_read_225 : decode cX6_read 225 = .ok (.iconst 0, 1) := by decide +kernel
theorem dX6_read_226 : decode cX6_read 226 = .ok (.istore 7, 2) := by decide +kernel
theorem dX6_read_228 : decode cX6_read 228 = .ok (.iload 13, 2) := by decide +kernel
theorem dX6_read_230 : decode cX6_read 230 = .ok (.istore 6, 2) := by decide +kernel
theorem dX6_read_232 : decode cX6_read 232 = .ok (.iload 5, 2) := by decide +kernel
theorem dX6_read_234 : decode cX6_read 234 = .ok (.iconst 1, 1) := by decide +kernel
theorem dX6_read_235 : decode cX6_read 235 = .ok (.iload 12, 2) := by decide +kernel
theorem dX6_read_237 : decode cX6_read 237 = .ok (.ishl, 1) := by decide +kernel
theorem dX6_read_238 : decode cX6_read 238 = .ok (.iconst (-1), 1) := by decide +kernel
theorem dX6_read_239 : decode cX6_read 239 = .ok (.ixor, 1) := by decide +kernel
theorem dX6_read_240 : decode cX6_read 240 = .ok (.iand, 1) := by decide +kernel
theorem dX6_read_241 : decode cX6_read 241 = .ok (.istore 5, 2) := by decide +kernel
theorem dX6_read_243 : decode cX6_read 243 = .ok (.iload 12, 2) := by decide +kernel
theorem dX6_read_245 : decode cX6_read 245 = .ok (.istore 8, 2) := by decide +kernel
theorem dX6_read_247 : decode cX6_read 247 = .ok (.iinc 9 1, 3) := by decide +kernel
theorem dX6_read_250 : decode cX6_read 250 = .ok (.goto (-189), 3) := by decide +kernel
theorem dX6_read_253 : decode cX6_read 253 = .ok (.aload_n 0, 1) := by decide +kernel
theorem dX6_read_254 : decode cX6_read 254 = .ok (.iload_n 3, 1) := by decide +kernel
theorem dX6_read_255 : decode cX6_read 255 = .ok (.iconst 3, 1) := by decide +kernel
theorem dX6_read_256 : decode cX6_read 256 = .ok (.invokevirtual 74, 3) := by decide +kernel
theorem dX6_read_259 : decode cX6_read 259 = .ok (.ifCond .lt 14, 3) := by decide +kernel
theorem dX6_read_262 : decode cX6_read 262 = .ok (.aload_n 0, 1) := by decide +kernel
theorem dX6_read_263 : decode cX6_read 263 = .ok (.iload_n 3, 1) := by decide +kernel
theorem dX6_read_264 : decode cX6_read 264 = .ok (.iconst 3, 1) := by decide +kernel
theorem dX6_read_265 : decode cX6_read 265 = .ok (.invokevirtual 74, 3) := by decide +kernel
theorem dX6_read_268 : decode cX6_read 268 = .ok (.iload 8, 2) := by decide +kernel
theorem dX6_read_270 : decode cX6_read 270 = .ok (.if_icmp .ne 7, 3) := by decide +kernel
theorem dX6_read_273 : decode cX6_read 273 = .ok (.iconst 1, 1) := by decide +kernel
theorem dX6_read_274 : decode cX6_read 274 = .ok (.goto 4, 3) := by decide +kernel
theorem dX6_read_277 : decode cX6_read 277 = .ok (.iconst 0, 1) := by decide +kernel
theorem dX6_read_278 : decode cX6_read 278 = .ok (.istore 9, 2) := by decide +kernel
theorem dX6_read_280 : decode cX6_read 280 = .ok (.iload 8, 2) := by decide +kernel
theorem dX6_read_282 : decode cX6_read 282 = .ok (.ifCond .lt 17, 3) := by decide +kernel
theorem dX6_read_285 : decode cX6_read 285 = .ok (.iload 5, 2) := by decide +kernel
theorem dX6_read_287 : decode cX6_read 287 = .ok (.ifCond .ne 12, 3) := by decide +kernel
theorem dX6_read_290 : decode cX6_read 290 = .ok (.iload 9, 2) := by decide +kernel
theorem dX6_read_292 : decode cX6_read 292 = .ok (.ifCond .eq 7, 3) := by decide +kernel
theorem dX6_read_295 : decode cX6_read 295 = .ok (.iconst 0, 1) := by decide +kernel
theorem dX6_read_296 : decode cX6_read 296 = .ok (.goto 5, 3) := by decide +kernel
theorem dX6_read_299 : decode cX6_read 299 = .ok (.bipush 100, 2) := by decide +kernel
theorem dX6_read_301 : decode cX6_read 301 = .ok (.ireturn, 1) := by decide +kernel
theorem dX6_image_0 : decode cX6_image 0 = .ok (.iconst 0, 1) := by decide +kernel
theorem dX6_image_1 : decode cX6_image 1 = .ok (.istore_n 1, 1) := by decide +kernel
theorem dX6_image_2 : decode cX6_image 2 = .ok (.iload_n 1, 1) := by decide +kernel
theorem dX6_image_3 : decode cX6_image 3 = .ok (.bipush 56, 2) := by decide +kernel
theorem dX6_image_5 : decode cX6_image 5 = .ok (.if_icmp .ge 21, 3) := by decide +kernel
theorem dX6_image_8 : decode cX6_image 8 = .ok (.aload_n 0, 1) := by decide +kernel
theorem dX6_image_9 : decode cX6_image 9 = .ok (.getfield 13, 3) := by decide +kernel
theorem dX6_image_12 : decode cX6_image 12 = .ok (.iload_n 1, 1) := by decide +kernel
theorem dX6_image_13 : decode cX6_image 13 = .ok (.aload_n 0, 1) := by decide +kernel
theorem dX6_image_14 : decode cX6_image 14 = .ok (.getfield 7, 3) := by decide +kernel
theorem dX6_image_17 : decode cX6_image 17 = .ok (.iload_n 1, 1) := by decide +kernel
theorem dX6_image_18 : decode cX6_image 18 = .ok (.iaload, 1) := by decide +kernel
theorem dX6_image_19 : decode cX6_image 19 = .ok (.iastore, 1) := by decide +kernel
theorem dX6_image_20 : decode cX6_image 20 = .ok (.iinc 1 1, 3) := by decide +kernel
theorem dX6_image_23 : decode cX6_image 23 = .ok (.goto (-21), 3) := by decide +kernel
theorem dX6_image_26 : decode cX6_image 26 = .ok (.aload_n 0, 1) := by decide +kernel
theorem dX6_image_27 : decode cX6_image 27 = .ok (.iconst 1, 1) := by decide +kernel
theorem dX6_image_28 : decode cX6_image 28 = .ok (.putfield 305, 3) := by decide +kernel
theorem dX6_image_31 : decode cX6_image 31 = .ok (.iconst 1, 1) := by decide +kernel
theorem dX6_image_32 : decode cX6_image 32 = .ok (.ireturn, 1) := by decide +kernel
set_option maxRecDepth 20000 in
theorem ggX6_undo_X6_finds : GoodIn wsX6_undo wsX6_finds := goodIn_r _ [9, 10, 11, 12, 13, 14, 15, 16, 17, 18, 19, 20, 21, 22, 23, 24, 25, 26, 27, 28, 29, 30, 31, 32, 33, 34, 35, 36, 37, 38, 39, 40, 41, 42, 43, 44] (by decide +kernel) (by decide +kernel)
set_option maxRecDepth 20000 in
theorem gX6_undo_X6_finds : GoodIn wsX6_undo (wsV RX6 79 RX6 yX6_finds wsX6_finds) := goodIn_app (goodIn_of _ (by decide +kernel)) ggX6_undo_X6_finds
theorem dX6_undo_0 : decode cX6_undo 0 = .ok (.aload_n 0, 1) := by decide +kernel
theorem dX6_undo_1 : decode cX6_undo 1 = .ok (.getfield 305, 3) := by decide +kernel
theorem dX6_undo_4 : decode cX6_undo 4 = .ok (.ifCond .ne 10, 3) := by decide +kernel
theorem dX6_undo_7 : decode cX6_undo 7 = .ok (.aload_n 0, 1) := by decide +kernel
theorem dX6_undo_8 : decode cX6_undo 8 = .ok (.ldc 188, 2) := by decide +kernel
theorem dX6_undo_10 : decode cX6_undo 10 = .ok (.invokevirtual 79, 3) := by decide +kernel
theorem dX6_undo_13 : decode cX6_undo 13 = .ok (.ireturn, 1) := by decide +kernel
theorem dX6_undo_14 : decode cX6_undo 14 = .ok (.iconst 0, 1) := by decide +kernel
theorem dX6_undo_15 : decode cX6_undo 15 = .ok (.istore_n 1, 1) := by decide +kernel
theorem dX6_undo_16 : decode cX6_undo 16 = .ok (.iload_n 1, 1) := by decide +kernel
theorem dX6_undo_17 : decode cX6_undo 17 = .ok (.bipush 56, 2) := by decide +kernel
theorem dX6_undo_19 : decode cX6_undo 19 = .ok (.if_icmp .ge 21, 3) := by decide +kernel
theorem dX6_undo_22 : decode cX6_undo 22 = .ok (.aload_n 0, 1) := by decide +kernel
theorem dX6_undo_23 : decode cX6_undo 23 = .ok (.getfield 7, 3) := by decide +kernel
theorem dX6_undo_26 : decode cX6_undo 26 = .ok (.iload_n 1, 1) := by decide +kernel
theorem dX6_undo_27 : decode cX6_undo 27 = .ok (.aload_n 0, 1) := by decide +kernel
theorem dX6_undo_28 : decode cX6_undo 28 = .ok (.getfield 13, 3) := by decide +kernel
theorem dX6_undo_31 : decode cX6_undo 31 = .ok (.iload_n 1, 1) := by decide +kernel
theorem dX6_undo_32 : decode cX6_undo 32 = .ok (.iaload, 1) := by decide +kernel
theorem dX6_undo_33 : decode cX6_undo 33 = .ok (.iastore, 1) := by decide +kernel
theorem dX6_undo_34 : decode cX6_undo 34 = .ok (.iinc 1 1, 3) := by decide +kernel
theorem dX6_undo_37 : decode cX6_undo 37 = .ok (.goto (-21), 3) := by decide +kernel
theorem dX6_undo_40 : decode cX6_undo 40 = .ok (.aload_n 0, 1) := by decide +kernel
theorem dX6_undo_41 : decode cX6_undo 41 = .ok (.getfield 7, 3) := by decide +kernel
theorem dX6_undo_44 : decode cX6_undo 44 = .ok (.iconst 0, 1) := by decide +kernel
theorem dX6_undo_45 : decode cX6_undo 45 = .ok (.iaload, 1) := by decide +kernel
theorem dX6_undo_46 : decode cX6_undo 46 = .ok (.ireturn, 1) := by decide +kernel
theorem dX6_tear_0 : decode cX6_tear 0 = .ok (.aload_n 0, 1) := by decide +kernel
theorem dX6_tear_1 : decode cX6_tear 1 = .ok (.getfield 305, 3) := by decide +kernel
theorem dX6_tear_4 : decode cX6_tear 4 = .ok (.ifCond .eq 7, 3) := by decide +kernel
theorem dX6_tear_7 : decode cX6_tear 7 = .ok (.iconst 1, 1) := by decide +kernel
theorem dX6_tear_8 : decode cX6_tear 8 = .ok (.goto 4, 3) := by decide +kernel
theorem dX6_tear_11 : decode cX6_tear 11 = .ok (.iconst 0, 1) := by decide +kernel
theorem dX6_tear_12 : decode cX6_tear 12 = .ok (.istore_n 1, 1) := by decide +kernel
theorem dX6_tear_13 : decode cX6_tear 13 = .ok (.aload_n 0, 1) := by decide +kernel
theorem dX6_tear_14 : decode cX6_tear 14 = .ok (.iconst 0, 1) := by decide +kernel
theorem dX6_tear_15 : decode cX6_tear 15 = .ok (.putfield 305, 3) := by decide +kernel
theorem dX6_tear_18 : decode cX6_tear 18 = .ok (.iload_n 1, 1) := by decide +kernel
theorem dX6_tear_19 : decode cX6_tear 19 = .ok (.ireturn, 1) := by decide +kernel
set_option maxRecDepth 20000 in
theorem ggX6_count_X6_earth : GoodIn wsX6_count wsX6_earth := goodIn_r _ [8, 9, 10, 11, 12, 7, 13, 1, 22, 23, 24, 25, 26, 27, 28, 29, 30, 31, 32, 33, 34, 35, 36, 37, 38, 39, 40, 41, 42, 43, 44, 45, 46, 47, 48, 49, 50, 51, 52, 53, 54] (by decide +kernel) (by decide +kernel)
set_option maxRecDepth 20000 in
theorem gX6_count_X6_earth : GoodIn wsX6_count (wsV RX6 87 RX6 yX6_earth wsX6_earth) := goodIn_app (goodIn_of _ (by decide +kernel)) ggX6_count_X6_earth
set_option maxRecDepth 20000 in
theorem ggX6_count_X6_ones : GoodIn wsX6_count wsX6_ones := goodIn_r _ [16] (by decide +kernel) (by decide +kernel)
set_option maxRecDepth 20000 in
theorem gX6_count_X6_ones : GoodIn wsX6_count (va_wsS RX6 154 yX6_ones wsX6_ones) := goodIn_app (goodIn_of _ (by decide +kernel)) ggX6_count_X6_ones
set_option maxRecDepth 20000 in
theorem ggX6_count_X6_finds : GoodIn wsX6_count wsX6_finds := goodIn_r _ [20, 21, 3, 22, 23, 24, 25, 26, 27, 28, 29, 30, 31, 32, 33, 34, 35, 36, 37, 38, 39, 40, 41, 42, 43, 44, 45, 46, 47, 48, 49, 50, 51, 52, 53, 54] (by decide +kernel) (by decide +kernel)
set_option maxRecDepth 20000 in
theorem gX6_count_X6_finds : GoodIn wsX6_count (wsV RX6 79 RX6 yX6_finds wsX6_finds) := goodIn_app (goodIn_of _ (by decide +kernel)) ggX6_count_X6_finds
theorem dX6_count_0 : decode cX6_count 0 = .ok (.iconst 0, 1) := by decide +kernel
theorem dX6_count_1 : decode cX6_count 1 = .ok (.istore_n 2, 1) := by decide +kernel
theorem dX6_count_2 : decode cX6_count 2 = .ok (.iload_n 1, 1) := by decide +kernel
theorem dX6_count_3 : decode cX6_count 3 = .ok (.tableswitch 118 0 4 #[33, 40, 47, 78, 113], 33) := by decide +kernel
theorem dX6_count_36 : decode cX6_count 36 = .ok (.aload_n 0, 1) := by decide +kernel
theorem dX6_count_37 : decode cX6_count 37 = .ok (.getfield 7, 3) := by decide +kernel
theorem dX6_count_40 : decode cX6_count 40 = .ok (.iconst 0, 1) := by decide +kernel
theorem dX6_count_41 : decode cX6_count 41 = .ok (.iaload, 1) := by decide +kernel
theorem dX6_count_42 : decode cX6_count 42 = .ok (.ireturn, 1) := by decide +kernel
theorem dX6_count_43 : decode cX6_count 43 = .ok (.aload_n 0, 1) := by decide +kernel
theorem dX6_count_44 : decode cX6_count 44 = .ok (.getfield 7, 3) := by decide +kernel
theorem dX6_count_47 : decode cX6_count 47 = .ok (.iconst 1, 1) := by decide +kernel
theorem dX6_count_48 : decode cX6_count 48 = .ok (.iaload, 1) := by decide +kernel
theorem dX6_count_49 : decode cX6_count 49 = .ok (.ireturn, 1) := by decide +kernel
theorem dX6_count_50 : decode cX6_count 50 = .ok (.iconst 0, 1) := by decide +kernel
theorem dX6_count_51 : decode cX6_count 51 = .ok (.istore_n 3, 1) := by decide +kernel
theorem dX6_count_52 : decode cX6_count 52 = .ok (.iload_n 3, 1) := by decide +kernel
theorem dX6_count_53 : decode cX6_count 53 = .ok (.aload_n 0, 1) := by decide +kernel
theorem dX6_count_54 : decode cX6_count 54 = .ok (.getfield 7, 3) := by decide +kernel
theorem dX6_count_57 : decode cX6_count 57 = .ok (.iconst 0, 1) := by decide +kernel
theorem dX6_count_58 : decode cX6_count 58 = .ok (.iaload, 1) := by decide +kernel
theorem dX6_count_59 : decode cX6_count 59 = .ok (.if_icmp .ge 20, 3) := by decide +kernel
theorem dX6_count_62 : decode cX6_count 62 = .ok (.iload_n 2, 1) := by decide +kernel
theorem dX6_count_63 : decode cX6_count 63 = .ok (.aload_n 0, 1) := by decide +kernel
theorem dX6_count_64 : decode cX6_count 64 = .ok (.iload_n 3, 1) := by decide +kernel
theorem dX6_count_65 : decode cX6_count 65 = .ok (.invokevirtual 87, 3) := by decide +kernel
theorem dX6_count_68 : decode cX6_count 68 = .ok (.invokestatic 154, 3) := by decide +kernel
theorem dX6_count_71 : decode cX6_count 71 = .ok (.iadd, 1) := by decide +kernel
theorem dX6_count_72 : decode cX6_count 72 = .ok (.istore_n 2, 1) := by decide +kernel
theorem dX6_count_73 : decode cX6_count 73 = .ok (.iinc 3 1, 3) := by decide +kernel
theorem dX6_count_76 : decode cX6_count 76 = .ok (.goto (-24), 3) := by decide +kernel
theorem dX6_count_79 : decode cX6_count 79 = .ok (.iload_n 2, 1) := by decide +kernel
theorem dX6_count_80 : decode cX6_count 80 = .ok (.ireturn, 1) := by decide +kernel
theorem dX6_count_81 : decode cX6_count 81 = .ok (.iconst 0, 1) := by decide +kernel
theorem dX6_count_82 : decode cX6_count 82 = .ok (.istore_n 3, 1) := by decide +kernel
theorem dX6_count_83 : decode cX6_count 83 = .ok (.iload_n 3, 1) := by decide +kernel
theorem dX6_count_84 : decode cX6_count 84 = .ok (.aload_n 0, 1) := by decide +kernel
theorem dX6_count_85 : decode cX6_count 85 = .ok (.getfield 7, 3) := by decide +kernel
theorem dX6_count_88 : decode cX6_count 88 = .ok (.iconst 0, 1) := by decide +kernel
theorem dX6_count_89 : decode cX6_count 89 = .ok (.iaload, 1) := by decide +kernel
theorem dX6_count_90 : decode cX6_count 90 = .ok (.if_icmp .ge 24, 3) := by decide +kernel
theorem dX6_count_93 : decode cX6_count 93 = .ok (.iload_n 2, 1) := by decide +kernel
theorem dX6_count_94 : decode cX6_count 94 = .ok (.aload_n 0, 1) := by decide +kernel
theorem dX6_count_95 : decode cX6_count 95 = .ok (.getfield 7, 3) := by decide +kernel
theorem dX6_count_98 : decode cX6_count 98 = .ok (.bipush 38, 2) := by decide +kernel
theorem dX6_count_100 : decode cX6_count 100 = .ok (.iload_n 3, 1) := by decide +kernel
theorem dX6_count_101 : decode cX6_count 101 = .ok (.iadd, 1) := by decide +kernel
theorem dX6_count_102 : decode cX6_count 102 = .ok (.iaload, 1) := by decide +kernel
theorem dX6_count_103 : decode cX6_count 103 = .ok (.invokestatic 154, 3) := by decide +kernel
theorem dX6_count_106 : decode cX6_count 106 = .ok (.iadd, 1) := by decide +kernel
theorem dX6_count_107 : decode cX6_count 107 = .ok (.istore_n 2, 1) := by decide +kernel
theorem dX6_count_108 : decode cX6_count 108 = .ok (.iinc 3 1, 3) := by decide +kernel
theorem dX6_count_111 : decode cX6_count 111 = .ok (.goto (-28), 3) := by decide +kernel
theorem dX6_count_114 : decode cX6_count 114 = .ok (.iload_n 2, 1) := by decide +kernel
theorem dX6_count_115 : decode cX6_count 115 = .ok (.ireturn, 1) := by decide +kernel
theorem dX6_count_116 : decode cX6_count 116 = .ok (.aload_n 0, 1) := by decide +kernel
theorem dX6_count_117 : decode cX6_count 117 = .ok (.getfield 222, 3) := by decide +kernel
theorem dX6_count_120 : decode cX6_count 120 = .ok (.ireturn, 1) := by decide +kernel
theorem dX6_count_121 : decode cX6_count 121 = .ok (.aload_n 0, 1) := by decide +kernel
theorem dX6_count_122 : decode cX6_count 122 = .ok (.ldc 68, 2) := by decide +kernel
theorem dX6_count_124 : decode cX6_count 124 = .ok (.invokevirtual 79, 3) := by decide +kernel
theorem dX6_count_127 : decode cX6_count 127 = .ok (.ireturn, 1) := by decide +kernel
set_option maxRecDepth 20000 in
theorem ggX6_status_X6_in : GoodIn wsX6_status wsX6_in := goodIn_r _ [8] (by decide +kernel) (by decide +kernel)
set_option maxRecDepth 20000 in
theorem gX6_status_X6_in : GoodIn wsX6_status (va_wsS RX6 69 yX6_in wsX6_in) := goodIn_app (goodIn_of _ (by decide +kernel)) ggX6_status_X6_in
set_option maxRecDepth 20000 in
theorem ggX6_status_X6_finds : GoodIn wsX6_status wsX6_finds := goodIn_r _ [12, 4, 3, 13, 14, 15, 16, 17, 18, 19, 20, 21, 22, 23, 24, 25, 26, 27, 28, 29, 30, 31, 32, 33, 34, 35, 36, 37, 38, 39, 40, 41, 42, 43, 44, 45] (by decide +kernel) (by decide +kernel)
set_option maxRecDepth 20000 in
theorem gX6_status_X6_finds : GoodIn wsX6_status (wsV RX6 79 RX6 yX6_finds wsX6_finds) := goodIn_app (goodIn_of _ (by decide +kernel)) ggX6_status_X6_finds
theorem dX6_status_0 : decode cX6_status 0 = .ok (.iload_n 1, 1) := by decide +kernel
theorem dX6_status_1 : decode cX6_status 1 = .ok (.i2l, 1) := by decide +kernel
theorem dX6_status_2 : decode cX6_status 2 = .ok (.ldc2_w 142, 3) := by decide +kernel
theorem dX6_status_5 : decode cX6_status 5 = .ok (.ldc2_w 218, 3) := by decide +kernel
theorem dX6_status_8 : decode cX6_status 8 = .ok (.invokestatic 69, 3) := by decide +kernel
theorem dX6_status_11 : decode cX6_status 11 = .ok (.ifCond .ne 10, 3) := by decide +kernel
theorem dX6_status_14 : decode cX6_status 14 = .ok (.aload_n 0, 1) := by decide +kernel
theorem dX6_status_15 : decode cX6_status 15 = .ok (.ldc 68, 2) := by decide +kernel
theorem dX6_status_17 : decode cX6_status 17 = .ok (.invokevirtual 79, 3) := by decide +kernel
theorem dX6_status_20 : decode cX6_status 20 = .ok (.ireturn, 1) := by decide +kernel
theorem dX6_status_21 : decode cX6_status 21 = .ok (.iconst 0, 1) := by decide +kernel
theorem dX6_status_22 : decode cX6_status 22 = .ok (.istore_n 2, 1) := by decide +kernel
theorem dX6_status_23 : decode cX6_status 23 = .ok (.iconst 0, 1) := by decide +kernel
theorem dX6_status_24 : decode cX6_status 24 = .ok (.istore_n 3, 1) := by decide +kernel
theorem dX6_status_25 : decode cX6_status 25 = .ok (.iload_n 3, 1) := by decide +kernel
theorem dX6_status_26 : decode cX6_status 26 = .ok (.bipush 7, 2) := by decide +kernel
theorem dX6_status_28 : decode cX6_status 28 = .ok (.if_icmp .ge 31, 3) := by decide +kernel
theorem dX6_status_31 : decode cX6_status 31 = .ok (.iload_n 2, 1) := by decide +kernel
theorem dX6_status_32 : decode cX6_status 32 = .ok (.iload_n 1, 1) := by decide +kernel
theorem dX6_status_33 : decode cX6_status 33 = .ok (.ifCond .lt 8, 3) := by decide +kernel
theorem dX6_status_36 : decode cX6_status 36 = .ok (.iload_n 3, 1) := by decide +kernel
theorem dX6_status_37 : decode cX6_status 37 = .ok (.iload_n 1, 1) := by decide +kernel
theorem dX6_status_38 : decode cX6_status 38 = .ok (.if_icmp .ne 12, 3) := by decide +kernel
theorem dX6_status_41 : decode cX6_status 41 = .ok (.aload_n 0, 1) := by decide +kernel
theorem dX6_status_42 : decode cX6_status 42 = .ok (.getfield 19, 3) := by decide +kernel
theorem dX6_status_45 : decode cX6_status 45 = .ok (.iload_n 3, 1) := by decide +kernel
theorem dX6_status_46 : decode cX6_status 46 = .ok (.iaload, 1) := by decide +kernel
theorem dX6_status_47 : decode cX6_status 47 = .ok (.goto 4, 3) := by decide +kernel
theorem dX6_status_50 : decode cX6_status 50 = .ok (.iconst 0, 1) := by decide +kernel
theorem dX6_status_51 : decode cX6_status 51 = .ok (.iadd, 1) := by decide +kernel
theorem dX6_status_52 : decode cX6_status 52 = .ok (.istore_n 2, 1) := by decide +kernel
theorem dX6_status_53 : decode cX6_status 53 = .ok (.iinc 3 1, 3) := by decide +kernel
theorem dX6_status_56 : decode cX6_status 56 = .ok (.goto (-31), 3) := by decide +kernel
theorem dX6_status_59 : decode cX6_status 59 = .ok (.iload_n 2, 1) := by decide +kernel
theorem dX6_status_60 : decode cX6_status 60 = .ok (.ireturn, 1) := by decide +kernel
