set_option maxRecDepth 20000 in
theorem ggX5_init_X1_init : GoodIn wsX5_init wsX1_init := goodIn_r _ [31, 32, 2, 3, 16, 33, 34, 35, 36, 65, 66, 67, 68, 69, 70] (by decide +kernel) (by decide +kernel)
set_option maxRecDepth 20000 in
theorem gX5_init_X1_init_n9 : GoodIn wsX5_init (wsX1_init) := ggX5_init_X1_init
set_option maxRecDepth 20000 in
theorem ggX5_init_X4_init : GoodIn wsX5_init wsX4_init := goodIn_r _ [38, 39, 2, 3, 16, 40, 82, 83, 84, 85, 86, 87] (by decide +kernel) (by decide +kernel)
set_option maxRecDepth 20000 in
theorem gX5_init_X4_init_n24 : GoodIn wsX5_init (wsX4_init) := ggX5_init_X4_init
set_option maxRecDepth 20000 in
theorem ggX5_init_X0_init : GoodIn wsX5_init wsX0_init := goodIn_r _ [42, 43, 2, 3, 44, 16, 45, 46, 47, 48, 88, 89, 90, 91, 92, 93, 94, 95, 96, 97, 98, 99, 100, 101] (by decide +kernel) (by decide +kernel)
set_option maxRecDepth 20000 in
theorem gX5_init_X0_init_n45 : GoodIn wsX5_init (wsX0_init) := ggX5_init_X0_init
set_option maxRecDepth 20000 in
theorem ggX5_init_X2_init : GoodIn wsX5_init wsX2_init := goodIn_r _ [50, 51, 2, 3, 16, 52, 53, 54, 55, 56, 57, 58, 59, 102, 103, 104, 105, 106, 107, 108, 109, 110, 111, 112, 113, 114] (by decide +kernel) (by decide +kernel)
set_option maxRecDepth 20000 in
theorem gX5_init_X2_init_n52 : GoodIn wsX5_init (wsX2_init) := ggX5_init_X2_init
set_option maxRecDepth 20000 in
theorem ggX5_init_X3_init : GoodIn wsX5_init wsX3_init := goodIn_r _ [61, 62, 2, 3, 63, 64, 115, 116, 117] (by decide +kernel) (by decide +kernel)
set_option maxRecDepth 20000 in
theorem gX5_init_X3_init_n60 : GoodIn wsX5_init (wsX3_init) := ggX5_init_X3_init
theorem dX5_init_0 : decode cX5_init 0 = .ok (.aload_n 0, 1) := by decide +kernel
theorem dX5_init_1 : decode cX5_init 1 = .ok (.invokespecial 1, 3) := by decide +kernel
theorem dX5_init_4 : decode cX5_init 4 = .ok (.aload_n 0, 1) := by decide +kernel
theorem dX5_init_5 : decode cX5_init 5 = .ok (.new 7, 3) := by decide +kernel
theorem dX5_init_8 : decode cX5_init 8 = .ok (.dup, 1) := by decide +kernel
theorem dX5_init_9 : decode cX5_init 9 = .ok (.invokespecial 9, 3) := by decide +kernel
theorem dX5_init_12 : decode cX5_init 12 = .ok (.putfield 10, 3) := by decide +kernel
theorem dX5_init_15 : decode cX5_init 15 = .ok (.aload_n 0, 1) := by decide +kernel
theorem dX5_init_16 : decode cX5_init 16 = .ok (.new 7, 3) := by decide +kernel
theorem dX5_init_19 : decode cX5_init 19 = .ok (.dup, 1) := by decide +kernel
theorem dX5_init_20 : decode cX5_init 20 = .ok (.invokespecial 9, 3) := by decide +kernel
theorem dX5_init_23 : decode cX5_init 23 = .ok (.putfield 16, 3) := by decide +kernel
theorem dX5_init_26 : decode cX5_init 26 = .ok (.aload_n 0, 1) := by decide +kernel
theorem dX5_init_27 : decode cX5_init 27 = .ok (.new 7, 3) := by decide +kernel
theorem dX5_init_30 : decode cX5_init 30 = .ok (.dup, 1) := by decide +kernel
theorem dX5_init_31 : decode cX5_init 31 = .ok (.invokespecial 9, 3) := by decide +kernel
theorem dX5_init_34 : decode cX5_init 34 = .ok (.putfield 19, 3) := by decide +kernel
theorem dX5_init_37 : decode cX5_init 37 = .ok (.aload_n 0, 1) := by decide +kernel
theorem dX5_init_38 : decode cX5_init 38 = .ok (.new 22, 3) := by decide +kernel
theorem dX5_init_41 : decode cX5_init 41 = .ok (.dup, 1) := by decide +kernel
theorem dX5_init_42 : decode cX5_init 42 = .ok (.invokespecial 24, 3) := by decide +kernel
theorem dX5_init_45 : decode cX5_init 45 = .ok (.putfield 25, 3) := by decide +kernel
theorem dX5_init_48 : decode cX5_init 48 = .ok (.aload_n 0, 1) := by decide +kernel
theorem dX5_init_49 : decode cX5_init 49 = .ok (.iconst 4, 1) := by decide +kernel
theorem dX5_init_50 : decode cX5_init 50 = .ok (.anewarray 29, 3) := by decide +kernel
theorem dX5_init_53 : decode cX5_init 53 = .ok (.putfield 31, 3) := by decide +kernel
theorem dX5_init_56 : decode cX5_init 56 = .ok (.aload_n 0, 1) := by decide +kernel
theorem dX5_init_57 : decode cX5_init 57 = .ok (.bipush 7, 2) := by decide +kernel
theorem dX5_init_59 : decode cX5_init 59 = .ok (.newarray .int, 2) := by decide +kernel
theorem dX5_init_61 : decode cX5_init 61 = .ok (.putfield 35, 3) := by decide +kernel
theorem dX5_init_64 : decode cX5_init 64 = .ok (.aload_n 0, 1) := by decide +kernel
theorem dX5_init_65 : decode cX5_init 65 = .ok (.bipush 36, 2) := by decide +kernel
theorem dX5_init_67 : decode cX5_init 67 = .ok (.anewarray 39, 3) := by decide +kernel
theorem dX5_init_70 : decode cX5_init 70 = .ok (.putfield 41, 3) := by decide +kernel
theorem dX5_init_73 : decode cX5_init 73 = .ok (.aload_n 0, 1) := by decide +kernel
theorem dX5_init_74 : decode cX5_init 74 = .ok (.new 39, 3) := by decide +kernel
theorem dX5_init_77 : decode cX5_init 77 = .ok (.dup, 1) := by decide +kernel
theorem dX5_init_78 : decode cX5_init 78 = .ok (.invokespecial 45, 3) := by decide +kernel
theorem dX5_init_81 : decode cX5_init 81 = .ok (.putfield 46, 3) := by decide +kernel
theorem dX5_init_84 : decode cX5_init 84 = .ok (.aload_n 0, 1) := by decide +kernel
theorem dX5_init_85 : decode cX5_init 85 = .ok (.new 50, 3) := by decide +kernel
theorem dX5_init_88 : decode cX5_init 88 = .ok (.dup, 1) := by decide +kernel
theorem dX5_init_89 : decode cX5_init 89 = .ok (.invokespecial 52, 3) := by decide +kernel
theorem dX5_init_92 : decode cX5_init 92 = .ok (.putfield 53, 3) := by decide +kernel
theorem dX5_init_95 : decode cX5_init 95 = .ok (.aload_n 0, 1) := by decide +kernel
theorem dX5_init_96 : decode cX5_init 96 = .ok (.bipush 6, 2) := by decide +kernel
theorem dX5_init_98 : decode cX5_init 98 = .ok (.newarray .int, 2) := by decide +kernel
theorem dX5_init_100 : decode cX5_init 100 = .ok (.putfield 57, 3) := by decide +kernel
theorem dX5_init_103 : decode cX5_init 103 = .ok (.iconst 0, 1) := by decide +kernel
theorem dX5_init_104 : decode cX5_init 104 = .ok (.istore_n 1, 1) := by decide +kernel
theorem dX5_init_105 : decode cX5_init 105 = .ok (.iload_n 1, 1) := by decide +kernel
theorem dX5_init_106 : decode cX5_init 106 = .ok (.aload_n 0, 1) := by decide +kernel
theorem dX5_init_107 : decode cX5_init 107 = .ok (.getfield 41, 3) := by decide +kernel
theorem dX5_init_110 : decode cX5_init 110 = .ok (.arraylength, 1) := by decide +kernel
theorem dX5_init_111 : decode cX5_init 111 = .ok (.if_icmp .ge 22, 3) := by decide +kernel
theorem dX5_init_114 : decode cX5_init 114 = .ok (.aload_n 0, 1) := by decide +kernel
theorem dX5_init_115 : decode cX5_init 115 = .ok (.getfield 41, 3) := by decide +kernel
theorem dX5_init_118 : decode cX5_init 118 = .ok (.iload_n 1, 1) := by decide +kernel
theorem dX5_init_119 : decode cX5_init 119 = .ok (.new 39, 3) := by decide +kernel
theorem dX5_init_122 : decode cX5_init 122 = .ok (.dup, 1) := by decide +kernel
theorem dX5_init_123 : decode cX5_init 123 = .ok (.invokespecial 45, 3) := by decide +kernel
theorem dX5_init_126 : decode cX5_init 126 = .ok (.aastore, 1) := by decide +kernel
theorem dX5_init_127 : decode cX5_init 127 = .ok (.iinc 1 1, 3) := by decide +kernel
theorem dX5_init_130 : decode cX5_init 130 = .ok (.goto (-25), 3) := by decide +kernel
theorem dX5_init_133 : decode cX5_init 133 = .ok (.iconst 0, 1) := by decide +kernel
theorem dX5_init_134 : decode cX5_init 134 = .ok (.istore_n 1, 1) := by decide +kernel
theorem dX5_init_135 : decode cX5_init 135 = .ok (.iload_n 1, 1) := by decide +kernel
theorem dX5_init_136 : decode cX5_init 136 = .ok (.aload_n 0, 1) := by decide +kernel
theorem dX5_init_137 : decode cX5_init 137 = .ok (.getfield 31, 3) := by decide +kernel
theorem dX5_init_140 : decode cX5_init 140 = .ok (.arraylength, 1) := by decide +kernel
theorem dX5_init_141 : decode cX5_init 141 = .ok (.if_icmp .ge 22, 3) := by decide +kernel
theorem dX5_init_144 : decode cX5_init 144 = .ok (.aload_n 0, 1) := by decide +kernel
theorem dX5_init_145 : decode cX5_init 145 = .ok (.getfield 31, 3) := by decide +kernel
theorem dX5_init_148 : decode cX5_init 148 = .ok (.iload_n 1, 1) := by decide +kernel
theorem dX5_init_149 : decode cX5_init 149 = .ok (.new 29, 3) := by decide +kernel
theorem dX5_init_152 : decode cX5_init 152 = .ok (.dup, 1) := by decide +kernel
theorem dX5_init_153 : decode cX5_init 153 = .ok (.invokespecial 60, 3) := by decide +kernel
theorem dX5_init_156 : decode cX5_init 156 = .ok (.aastore, 1) := by decide +kernel
theorem dX5_init_157 : decode cX5_init 157 = .ok (.iinc 1 1, 3) := by decide +kernel
theorem dX5_init_160 : decode cX5_init 160 = .ok (.goto (-25), 3) := by decide +kernel
theorem dX5_init_163 : decode cX5_init 163 = .ok (.return_, 1) := by decide +kernel
set_option maxRecDepth 20000 in
theorem ggX5_field_X5_finding : GoodIn wsX5_field wsX5_finding := goodIn_r _ [6, 7, 8, 20, 21, 22, 23, 24, 25, 26, 27, 28, 29, 30] (by decide +kernel) (by decide +kernel)
set_option maxRecDepth 20000 in
theorem gX5_field_X5_finding : GoodIn wsX5_field (wsV RX5 65 RX5 yX5_finding wsX5_finding) := goodIn_app (goodIn_of _ (by decide +kernel)) ggX5_field_X5_finding
set_option maxRecDepth 20000 in
theorem ggX5_field_X1_addField : GoodIn wsX5_field wsX1_addField := goodIn_r _ [12, 13, 14, 15, 16, 17, 10, 18, 19, 31, 32, 33, 34, 35, 36] (by decide +kernel) (by decide +kernel)
set_option maxRecDepth 20000 in
theorem gX5_field_X1_addField_n69 : GoodIn wsX5_field (wsX1_addField) := ggX5_field_X1_addField
theorem dX5_field_0 : decode cX5_field 0 = .ok (.aload_n 0, 1) := by decide +kernel
theorem dX5_field_1 : decode cX5_field 1 = .ok (.getfield 10, 3) := by decide +kernel
theorem dX5_field_4 : decode cX5_field 4 = .ok (.getfield 61, 3) := by decide +kernel
theorem dX5_field_7 : decode cX5_field 7 = .ok (.bipush 6, 2) := by decide +kernel
theorem dX5_field_9 : decode cX5_field 9 = .ok (.if_icmp .lt 9, 3) := by decide +kernel
theorem dX5_field_12 : decode cX5_field 12 = .ok (.aload_n 0, 1) := by decide +kernel
theorem dX5_field_13 : decode cX5_field 13 = .ok (.iconst 1, 1) := by decide +kernel
theorem dX5_field_14 : decode cX5_field 14 = .ok (.invokevirtual 65, 3) := by decide +kernel
theorem dX5_field_17 : decode cX5_field 17 = .ok (.ireturn, 1) := by decide +kernel
theorem dX5_field_18 : decode cX5_field 18 = .ok (.aload_n 0, 1) := by decide +kernel
theorem dX5_field_19 : decode cX5_field 19 = .ok (.getfield 10, 3) := by decide +kernel
theorem dX5_field_22 : decode cX5_field 22 = .ok (.invokevirtual 69, 3) := by decide +kernel
theorem dX5_field_25 : decode cX5_field 25 = .ok (.ireturn, 1) := by decide +kernel
set_option maxRecDepth 20000 in
theorem ggX5_of_X1_hasField : GoodIn wsX5_of wsX1_hasField := goodIn_r _ [5, 6, 46, 47, 48, 49, 50, 51] (by decide +kernel) (by decide +kernel)
set_option maxRecDepth 20000 in
theorem gX5_of_X1_hasField_n73 : GoodIn wsX5_of (wsX1_hasField) := ggX5_of_X1_hasField
set_option maxRecDepth 20000 in
theorem ggX5_of_X5_finding : GoodIn wsX5_of wsX5_finding := goodIn_r _ [11, 12, 13, 35, 36, 37, 38, 39, 40, 41, 42, 43, 44, 45] (by decide +kernel) (by decide +kernel)
set_option maxRecDepth 20000 in
theorem gX5_of_X5_finding : GoodIn wsX5_of (wsV RX5 65 RX5 yX5_finding wsX5_finding) := goodIn_app (goodIn_of _ (by decide +kernel)) ggX5_of_X5_finding
set_option maxRecDepth 20000 in
theorem ggX5_of_X1_earth : GoodIn wsX5_of wsX1_earth := goodIn_r _ [16, 17, 18, 19, 20, 3, 21, 22, 46, 47, 48, 49, 50, 51] (by decide +kernel) (by decide +kernel)
set_option maxRecDepth 20000 in
theorem gX5_of_X1_earth_n77 : GoodIn wsX5_of (wsX1_earth) := ggX5_of_X1_earth
set_option maxRecDepth 20000 in
theorem ggX5_of_X5_coloursOf : GoodIn wsX5_of wsX5_coloursOf := goodIn_r _ [25, 26, 27, 28, 29, 30, 31, 32, 33, 34] (by decide +kernel) (by decide +kernel)
set_option maxRecDepth 20000 in
theorem gX5_of_X5_coloursOf : GoodIn wsX5_of (va_wsS RX5 80 yX5_coloursOf wsX5_coloursOf) := goodIn_app (goodIn_of _ (by decide +kernel)) ggX5_of_X5_coloursOf
set_option maxRecDepth 20000 in
theorem ggX5_of_X1_mark : GoodIn wsX5_of wsX1_mark := goodIn_r _ [21, 22, 46, 47, 48, 49, 50, 51] (by decide +kernel) (by decide +kernel)
set_option maxRecDepth 20000 in
theorem gX5_of_X1_mark_n83 : GoodIn wsX5_of (wsX1_mark) := ggX5_of_X1_mark
theorem dX5_of_0 : decode cX5_of 0 = .ok (.aload_n 0, 1) := by decide +kernel
theorem dX5_of_1 : decode cX5_of 1 = .ok (.getfield 10, 3) := by decide +kernel
theorem dX5_of_4 : decode cX5_of 4 = .ok (.iload_n 1, 1) := by decide +kernel
theorem dX5_of_5 : decode cX5_of 5 = .ok (.invokevirtual 73, 3) := by decide +kernel
theorem dX5_of_8 : decode cX5_of 8 = .ok (.ifCond .eq 13, 3) := by decide +kernel
theorem dX5_of_11 : decode cX5_of 11 = .ok (.iload_n 2, 1) := by decide +kernel
theorem dX5_of_12 : decode cX5_of 12 = .ok (.ifCond .lt 9, 3) := by decide +kernel
theorem dX5_of_15 : decode cX5_of 15 = .ok (.iload_n 2, 1) := by decide +kernel
theorem dX5_of_16 : decode cX5_of 16 = .ok (.bipush 7, 2) := by decide +kernel
theorem dX5_of_18 : decode cX5_of 18 = .ok (.if_icmp .le 9, 3) := by decide +kernel
theorem dX5_of_21 : decode cX5_of 21 = .ok (.aload_n 0, 1) := by decide +kernel
theorem dX5_of_22 : decode cX5_of 22 = .ok (.iconst 0, 1) := by decide +kernel
theorem dX5_of_23 : decode cX5_of 23 = .ok (.invokevirtual 65, 3) := by decide +kernel
theorem dX5_of_26 : decode cX5_of 26 = .ok (.ireturn, 1) := by decide +kernel
theorem dX5_of_27 : decode cX5_of 27 = .ok (.iload_n 2, 1) := by decide +kernel
theorem dX5_of_28 : decode cX5_of 28 = .ok (.bipush 6, 2) := by decide +kernel
theorem dX5_of_30 : decode cX5_of 30 = .ok (.if_icmp .ne 12, 3) := by decide +kernel
theorem dX5_of_33 : decode cX5_of 33 = .ok (.aload_n 0, 1) := by decide +kernel
theorem dX5_of_34 : decode cX5_of 34 = .ok (.getfield 10, 3) := by decide +kernel
theorem dX5_of_37 : decode cX5_of 37 = .ok (.iload_n 1, 1) := by decide +kernel
theorem dX5_of_38 : decode cX5_of 38 = .ok (.invokevirtual 77, 3) := by decide +kernel
theorem dX5_of_41 : decode cX5_of 41 = .ok (.ireturn, 1) := by decide +kernel
theorem dX5_of_42 : decode cX5_of 42 = .ok (.iload_n 2, 1) := by decide +kernel
theorem dX5_of_43 : decode cX5_of 43 = .ok (.bipush 7, 2) := by decide +kernel
theorem dX5_of_45 : decode cX5_of 45 = .ok (.if_icmp .ne 17, 3) := by decide +kernel
theorem dX5_of_48 : decode cX5_of 48 = .ok (.aload_n 0, 1) := by decide +kernel
theorem dX5_of_49 : decode cX5_of 49 = .ok (.getfield 10, 3) := by decide +kernel
theorem dX5_of_52 : decode cX5_of 52 = .ok (.iload_n 1, 1) := by decide +kernel
theorem dX5_of_53 : decode cX5_of 53 = .ok (.invokevirtual 77, 3) := by decide +kernel
theorem dX5_of_56 : decode cX5_of 56 = .ok (.invokestatic 80, 3) := by decide +kernel
theorem dX5_of_59 : decode cX5_of 59 = .ok (.goto 12, 3) := by decide +kernel
theorem dX5_of_62 : decode cX5_of 62 = .ok (.aload_n 0, 1) := by decide +kernel
theorem dX5_of_63 : decode cX5_of 63 = .ok (.getfield 10, 3) := by decide +kernel
theorem dX5_of_66 : decode cX5_of 66 = .ok (.iload_n 1, 1) := by decide +kernel
theorem dX5_of_67 : decode cX5_of 67 = .ok (.iload_n 2, 1) := by decide +kernel
theorem dX5_of_68 : decode cX5_of 68 = .ok (.invokevirtual 83, 3) := by decide +kernel
theorem dX5_of_71 : decode cX5_of 71 = .ok (.ireturn, 1) := by decide +kernel
set_option maxRecDepth 20000 in
theorem ggX5_set_X1_hasField : GoodIn wsX5_set wsX1_hasField := goodIn_r _ [7, 8, 34, 35, 36, 37, 38, 39] (by decide +kernel) (by decide +kernel)
set_option maxRecDepth 20000 in
theorem gX5_set_X1_hasField_n73 : GoodIn wsX5_set (wsX1_hasField) := ggX5_set_X1_hasField
set_option maxRecDepth 20000 in
theorem ggX5_set_X5_finding : GoodIn wsX5_set wsX5_finding := goodIn_r _ [13, 14, 15, 23, 24, 25, 26, 27, 28, 29, 30, 31, 32, 33] (by decide +kernel) (by decide +kernel)
set_option maxRecDepth 20000 in
theorem gX5_set_X5_finding : GoodIn wsX5_set (wsV RX5 65 RX5 yX5_finding wsX5_finding) := goodIn_app (goodIn_of _ (by decide +kernel)) ggX5_set_X5_finding
set_option maxRecDepth 20000 in
theorem ggX5_set_X1_mark : GoodIn wsX5_set wsX1_mark := goodIn_r _ [18, 19, 34, 35, 36, 37, 38, 39] (by decide +kernel) (by decide +kernel)
set_option maxRecDepth 20000 in
theorem gX5_set_X1_mark_n83 : GoodIn wsX5_set (wsX1_mark) := ggX5_set_X1_mark
set_option maxRecDepth 20000 in
theorem ggX5_set_X1_putMark : GoodIn wsX5_set wsX1_putMark := goodIn_r _ [22, 19, 34, 35, 36, 37, 38, 39] (by decide +kernel) (by decide +kernel)
set_option maxRecDepth 20000 in
theorem gX5_set_X1_putMark_n93 : GoodIn wsX5_set (wsX1_putMark) := ggX5_set_X1_putMark
theorem dX5_set_0 : decode cX5_set 0 = .ok (.aload_n 0, 1) := by decide +kernel
theorem dX5_set_1 : decode cX5_set 1 = .ok (.getfield 10, 3) := by decide +kernel
theorem dX5_set_4 : decode cX5_set 4 = .ok (.iload_n 1, 1) := by decide +kernel
theorem dX5_set_5 : decode cX5_set 5 = .ok (.invokevirtual 73, 3) := by decide +kernel
theorem dX5_set_8 : decode cX5_set 8 = .ok (.ifCond .eq 12, 3) := by decide +kernel
theorem dX5_set_11 : decode cX5_set 11 = .ok (.iload_n 2, 1) := by decide +kernel
theorem dX5_set_12 : decode cX5_set 12 = .ok (.ifCond .lt 8, 3) := by decide +kernel
theorem dX5_set_15 : decode cX5_set 15 = .ok (.iload_n 2, 1) := by decide +kernel
theorem dX5_set_16 : decode cX5_set 16 = .ok (.iconst 5, 1) := by decide +kernel
theorem dX5_set_17 : decode cX5_set 17 = .ok (.if_icmp .le 9, 3) := by decide +kernel
theorem dX5_set_20 : decode cX5_set 20 = .ok (.aload_n 0, 1) := by decide +kernel
theorem dX5_set_21 : decode cX5_set 21 = .ok (.iconst 0, 1) := by decide +kernel
theorem dX5_set_22 : decode cX5_set 22 = .ok (.invokevirtual 65, 3) := by decide +kernel
theorem dX5_set_25 : decode cX5_set 25 = .ok (.ireturn, 1) := by decide +kernel
theorem dX5_set_26 : decode cX5_set 26 = .ok (.iload_n 3, 1) := by decide +kernel
theorem dX5_set_27 : decode cX5_set 27 = .ok (.getstatic 87, 3) := by decide +kernel
theorem dX5_set_30 : decode cX5_set 30 = .ok (.iload_n 2, 1) := by decide +kernel
theorem dX5_set_31 : decode cX5_set 31 = .ok (.iaload, 1) := by decide +kernel
theorem dX5_set_32 : decode cX5_set 32 = .ok (.if_icmp .lt 12, 3) := by decide +kernel
theorem dX5_set_35 : decode cX5_set 35 = .ok (.iload_n 3, 1) := by decide +kernel
theorem dX5_set_36 : decode cX5_set 36 = .ok (.getstatic 90, 3) := by decide +kernel
theorem dX5_set_39 : decode cX5_set 39 = .ok (.iload_n 2, 1) := by decide +kernel
theorem dX5_set_40 : decode cX5_set 40 = .ok (.iaload, 1) := by decide +kernel
theorem dX5_set_41 : decode cX5_set 41 = .ok (.if_icmp .le 9, 3) := by decide +kernel
theorem dX5_set_44 : decode cX5_set 44 = .ok (.aload_n 0, 1) := by decide +kernel
theorem dX5_set_45 : decode cX5_set 45 = .ok (.iconst 0, 1) := by decide +kernel
theorem dX5_set_46 : decode cX5_set 46 = .ok (.invokevirtual 65, 3) := by decide +kernel
theorem dX5_set_49 : decode cX5_set 49 = .ok (.ireturn, 1) := by decide +kernel
theorem dX5_set_50 : decode cX5_set 50 = .ok (.aload_n 0, 1) := by decide +kernel
theorem dX5_set_51 : decode cX5_set 51 = .ok (.getfield 10, 3) := by decide +kernel
theorem dX5_set_54 : decode cX5_set 54 = .ok (.iload_n 1, 1) := by decide +kernel
theorem dX5_set_55 : decode cX5_set 55 = .ok (.iload_n 2, 1) := by decide +kernel
theorem dX5_set_56 : decode cX5_set 56 = .ok (.invokevirtual 83, 3) := by decide +kernel
theorem dX5_set_59 : decode cX5_set 59 = .ok (.istore 4, 2) := by decide +kernel
theorem dX5_set_61 : decode cX5_set 61 = .ok (.aload_n 0, 1) := by decide +kernel
theorem dX5_set_62 : decode cX5_set 62 = .ok (.getfield 10, 3) := by decide +kernel
theorem dX5_set_65 : decode cX5_set 65 = .ok (.iload_n 1, 1) := by decide +kernel
theorem dX5_set_66 : decode cX5_set 66 = .ok (.iload_n 2, 1) := by decide +kernel
theorem dX5_set_67 : decode cX5_set 67 = .ok (.iload_n 3, 1) := by decide +kernel
theorem dX5_set_68 : decode cX5_set 68 = .ok (.invokevirtual 93, 3) := by decide +kernel
theorem dX5_set_71 : decode cX5_set 71 = .ok (.iload 4, 2) := by decide +kernel
theorem dX5_set_73 : decode cX5_set 73 = .ok (.ireturn, 1) := by decide +kernel
set_option maxRecDepth 20000 in
theorem ggX5_join_X1_hasField : GoodIn wsX5_join wsX1_hasField := goodIn_r _ [5, 6, 28, 29, 30, 31, 32, 33] (by decide +kernel) (by decide +kernel)
set_option maxRecDepth 20000 in
theorem gX5_join_X1_hasField_n73 : GoodIn wsX5_join (wsX1_hasField) := ggX5_join_X1_hasField
set_option maxRecDepth 20000 in
theorem ggX5_join_X5_finding : GoodIn wsX5_join wsX5_finding := goodIn_r _ [11, 12, 13, 17, 18, 19, 20, 21, 22, 23, 24, 25, 26, 27] (by decide +kernel) (by decide +kernel)
set_option maxRecDepth 20000 in
theorem gX5_join_X5_finding : GoodIn wsX5_join (wsV RX5 65 RX5 yX5_finding wsX5_finding) := goodIn_app (goodIn_of _ (by decide +kernel)) ggX5_join_X5_finding
set_option maxRecDepth 20000 in
theorem ggX5_join_X5_holds : GoodIn wsX5_join wsX5_holds := goodIn_r _ [16] (by decide +kernel) (by decide +kernel)
set_option maxRecDepth 20000 in
theorem gX5_join_X5_holds : GoodIn wsX5_join (va_wsS RX5 100 yX5_holds wsX5_holds) := goodIn_app (goodIn_of _ (by decide +kernel)) ggX5_join_X5_holds
theorem dX5_join_0 : decode cX5_join 0 = .ok (.aload_n 0, 1) := by decide +kernel
theorem dX5_join_1 : decode cX5_join 1 = .ok (.getfield 10, 3) := by decide +kernel
theorem dX5_join_4 : decode cX5_join 4 = .ok (.iload_n 1, 1) := by decide +kernel
theorem dX5_join_5 : decode cX5_join 5 = .ok (.invokevirtual 73, 3) := by decide +kernel
theorem dX5_join_8 : decode cX5_join 8 = .ok (.ifCond .eq 19, 3) := by decide +kernel
theorem dX5_join_11 : decode cX5_join 11 = .ok (.aload_n 0, 1) := by decide +kernel
theorem dX5_join_12 : decode cX5_join 12 = .ok (.getfield 10, 3) := by decide +kernel
theorem dX5_join_15 : decode cX5_join 15 = .ok (.iload_n 2, 1) := by decide +kernel
theorem dX5_join_16 : decode cX5_join 16 = .ok (.invokevirtual 73, 3) := by decide +kernel
theorem dX5_join_19 : decode cX5_join 19 = .ok (.ifCond .eq 8, 3) := by decide +kernel
theorem dX5_join_22 : decode cX5_join 22 = .ok (.iload_n 1, 1) := by decide +kernel
theorem dX5_join_23 : decode cX5_join 23 = .ok (.iload_n 2, 1) := by decide +kernel
theorem dX5_join_24 : decode cX5_join 24 = .ok (.if_icmp .ne 9, 3) := by decide +kernel
theorem dX5_join_27 : decode cX5_join 27 = .ok (.aload_n 0, 1) := by decide +kernel
theorem dX5_join_28 : decode cX5_join 28 = .ok (.iconst 0, 1) := by decide +kernel
theorem dX5_join_29 : decode cX5_join 29 = .ok (.invokevirtual 65, 3) := by decide +kernel
theorem dX5_join_32 : decode cX5_join 32 = .ok (.ireturn, 1) := by decide +kernel
theorem dX5_join_33 : decode cX5_join 33 = .ok (.aload_n 0, 1) := by decide +kernel
theorem dX5_join_34 : decode cX5_join 34 = .ok (.getfield 10, 3) := by decide +kernel
theorem dX5_join_37 : decode cX5_join 37 = .ok (.getfield 97, 3) := by decide +kernel
theorem dX5_join_40 : decode cX5_join 40 = .ok (.iload_n 1, 1) := by decide +kernel
theorem dX5_join_41 : decode cX5_join 41 = .ok (.iaload, 1) := by decide +kernel
theorem dX5_join_42 : decode cX5_join 42 = .ok (.iload_n 2, 1) := by decide +kernel
theorem dX5_join_43 : decode cX5_join 43 = .ok (.invokestatic 100, 3) := by decide +kernel
theorem dX5_join_46 : decode cX5_join 46 = .ok (.iload_n 3, 1) := by decide +kernel
theorem dX5_join_47 : decode cX5_join 47 = .ok (.if_icmp .ne 5, 3) := by decide +kernel
theorem dX5_join_50 : decode cX5_join 50 = .ok (.iconst 0, 1) := by decide +kernel
theorem dX5_join_51 : decode cX5_join 51 = .ok (.ireturn, 1) := by decide +kernel
theorem dX5_join_52 : decode cX5_join 52 = .ok (.aload_n 0, 1) := by decide +kernel
theorem dX5_join_53 : decode cX5_join 53 = .ok (.getfield 10, 3) := by decide +kernel
theorem dX5_join_56 : decode cX5_join 56 = .ok (.getfield 97, 3) := by decide +kernel
theorem dX5_join_59 : decode cX5_join 59 = .ok (.iload_n 1, 1) := by decide +kernel
theorem dX5_join_60 : decode cX5_join 60 = .ok (.dup2, 1) := by decide +kernel
theorem dX5_join_61 : decode cX5_join 61 = .ok (.iaload, 1) := by decide +kernel
theorem dX5_join_62 : decode cX5_join 62 = .ok (.iconst 1, 1) := by decide +kernel
theorem dX5_join_63 : decode cX5_join 63 = .ok (.iload_n 2, 1) := by decide +kernel
theorem dX5_join_64 : decode cX5_join 64 = .ok (.ishl, 1) := by decide +kernel
theorem dX5_join_65 : decode cX5_join 65 = .ok (.ixor, 1) := by decide +kernel
theorem dX5_join_66 : decode cX5_join 66 = .ok (.iastore, 1) := by decide +kernel
theorem dX5_join_67 : decode cX5_join 67 = .ok (.iconst 1, 1) := by decide +kernel
theorem dX5_join_68 : decode cX5_join 68 = .ok (.ireturn, 1) := by decide +kernel
set_option maxRecDepth 20000 in
theorem ggX5_joined_X1_hasField : GoodIn wsX5_joined wsX1_hasField := goodIn_r _ [5, 6, 25, 26, 27, 28, 29, 30] (by decide +kernel) (by decide +kernel)
set_option maxRecDepth 20000 in
theorem gX5_joined_X1_hasField_n73 : GoodIn wsX5_joined (wsX1_hasField) := ggX5_joined_X1_hasField
set_option maxRecDepth 20000 in
theorem ggX5_joined_X5_finding : GoodIn wsX5_joined wsX5_finding := goodIn_r _ [11, 12, 13, 14, 15, 16, 17, 18, 19, 20, 21, 22, 23, 24] (by decide +kernel) (by decide +kernel)
set_option maxRecDepth 20000 in
theorem gX5_joined_X5_finding : GoodIn wsX5_joined (wsV RX5 65 RX5 yX5_finding wsX5_finding) := goodIn_app (goodIn_of _ (by decide +kernel)) ggX5_joined_X5_finding
theorem dX5_joined_0 : decode cX5_joined 0 = .ok (.aload_n 0, 1) := by decide +kernel
theorem dX5_joined_1 : decode cX5_joined 1 = .ok (.getfield 10, 3) := by decide +kernel
theorem dX5_joined_4 : decode cX5_joined 4 = .ok (.iload_n 1, 1) := by decide +kernel
theorem dX5_joined_5 : decode cX5_joined 5 = .ok (.invokevirtual 73, 3) := by decide +kernel
theorem dX5_joined_8 : decode cX5_joined 8 = .ok (.ifCond .eq 15, 3) := by decide +kernel
theorem dX5_joined_11 : decode cX5_joined 11 = .ok (.aload_n 0, 1) := by decide +kernel
theorem dX5_joined_12 : decode cX5_joined 12 = .ok (.getfield 10, 3) := by decide +kernel
theorem dX5_joined_15 : decode cX5_joined 15 = .ok (.getfield 97, 3) := by decide +kernel
theorem dX5_joined_18 : decode cX5_joined 18 = .ok (.iload_n 1, 1) := by decide +kernel
theorem dX5_joined_19 : decode cX5_joined 19 = .ok (.iaload, 1) := by decide +kernel
theorem dX5_joined_20 : decode cX5_joined 20 = .ok (.goto 8, 3) := by decide +kernel
theorem dX5_joined_23 : decode cX5_joined 23 = .ok (.aload_n 0, 1) := by decide +kernel
theorem dX5_joined_24 : decode cX5_joined 24 = .ok (.iconst 0, 1) := by decide +kernel
theorem dX5_joined_25 : decode cX5_joined 25 = .ok (.invokevirtual 65, 3) := by decide +kernel
theorem dX5_joined_28 : decode cX5_joined 28 = .ok (.ireturn, 1) := by decide +kernel
set_option maxRecDepth 20000 in
theorem ggX5_team_X5_isKind : GoodIn wsX5_team wsX5_isKind := goodIn_r _ [5] (by decide +kernel) (by decide +kernel)
set_option maxRecDepth 20000 in
theorem gX5_team_X5_isKind : GoodIn wsX5_team (va_wsS RX5 104 yX5_isKind wsX5_isKind) := goodIn_app (goodIn_of _ (by decide +kernel)) ggX5_team_X5_isKind
set_option maxRecDepth 20000 in
theorem ggX5_team_X5_isPace : GoodIn wsX5_team wsX5_isPace := goodIn_r _ [8] (by decide +kernel) (by decide +kernel)
set_option maxRecDepth 20000 in
theorem gX5_team_X5_isPace : GoodIn wsX5_team (va_wsS RX5 107 yX5_isPace wsX5_isPace) := goodIn_app (goodIn_of _ (by decide +kernel)) ggX5_team_X5_isPace
set_option maxRecDepth 20000 in
theorem ggX5_team_X5_finding : GoodIn wsX5_team wsX5_finding := goodIn_r _ [12, 13, 14, 22, 23, 24, 25, 26, 27, 28, 29, 30, 31, 32] (by decide +kernel) (by decide +kernel)
set_option maxRecDepth 20000 in
theorem gX5_team_X5_finding : GoodIn wsX5_team (wsV RX5 65 RX5 yX5_finding wsX5_finding) := goodIn_app (goodIn_of _ (by decide +kernel)) ggX5_team_X5_finding
set_option maxRecDepth 20000 in
theorem ggX5_team_X1_addTeam : GoodIn wsX5_team wsX1_addTeam := goodIn_r _ [18, 19, 20, 21, 33, 34, 35, 36, 37, 38] (by decide +kernel) (by decide +kernel)
set_option maxRecDepth 20000 in
theorem gX5_team_X1_addTeam_n113 : GoodIn wsX5_team (wsX1_addTeam) := ggX5_team_X1_addTeam
theorem dX5_team_0 : decode cX5_team 0 = .ok (.iload_n 1, 1) := by decide +kernel
theorem dX5_team_1 : decode cX5_team 1 = .ok (.invokestatic 104, 3) := by decide +kernel
theorem dX5_team_4 : decode cX5_team 4 = .ok (.ifCond .eq 10, 3) := by decide +kernel
theorem dX5_team_7 : decode cX5_team 7 = .ok (.iload_n 2, 1) := by decide +kernel
theorem dX5_team_8 : decode cX5_team 8 = .ok (.invokestatic 107, 3) := by decide +kernel
theorem dX5_team_11 : decode cX5_team 11 = .ok (.ifCond .ne 9, 3) := by decide +kernel
theorem dX5_team_14 : decode cX5_team 14 = .ok (.aload_n 0, 1) := by decide +kernel
theorem dX5_team_15 : decode cX5_team 15 = .ok (.iconst 0, 1) := by decide +kernel
theorem dX5_team_16 : decode cX5_team 16 = .ok (.invokevirtual 65, 3) := by decide +kernel
theorem dX5_team_19 : decode cX5_team 19 = .ok (.ireturn, 1) := by decide +kernel
theorem dX5_team_20 : decode cX5_team 20 = .ok (.aload_n 0, 1) := by decide +kernel
theorem dX5_team_21 : decode cX5_team 21 = .ok (.getfield 10, 3) := by decide +kernel
theorem dX5_team_24 : decode cX5_team 24 = .ok (.getfield 110, 3) := by decide +kernel
theorem dX5_team_27 : decode cX5_team 27 = .ok (.bipush 6, 2) := by decide +kernel
theorem dX5_team_29 : decode cX5_team 29 = .ok (.if_icmp .lt 9, 3) := by decide +kernel
theorem dX5_team_32 : decode cX5_team 32 = .ok (.aload_n 0, 1) := by decide +kernel
theorem dX5_team_33 : decode cX5_team 33 = .ok (.iconst 1, 1) := by decide +kernel
theorem dX5_team_34 : decode cX5_team 34 = .ok (.invokevirtual 65, 3) := by decide +kernel
theorem dX5_team_37 : decode cX5_team 37 = .ok (.ireturn, 1) := by decide +kernel
theorem dX5_team_38 : decode cX5_team 38 = .ok (.aload_n 0, 1) := by decide +kernel
theorem dX5_team_39 : decode cX5_team 39 = .ok (.getfield 10, 3) := by decide +kernel
theorem dX5_team_42 : decode cX5_team 42 = .ok (.iload_n 1, 1) := by decide +kernel
theorem dX5_team_43 : decode cX5_team 43 = .ok (.iload_n 2, 1) := by decide +kernel
theorem dX5_team_44 : decode cX5_team 44 = .ok (.invokevirtual 113, 3) := by decide +kernel
theorem dX5_team_47 : decode cX5_team 47 = .ok (.ireturn, 1) := by decide +kernel
set_option maxRecDepth 20000 in
theorem ggX5_teamOf_X1_hasTeam : GoodIn wsX5_teamOf wsX1_hasTeam := goodIn_r _ [6, 7, 26, 27, 28, 29, 30, 31] (by decide +kernel) (by decide +kernel)
set_option maxRecDepth 20000 in
theorem gX5_teamOf_X1_hasTeam_n116 : GoodIn wsX5_teamOf (wsX1_hasTeam) := ggX5_teamOf_X1_hasTeam
set_option maxRecDepth 20000 in
theorem ggX5_teamOf_X5_finding : GoodIn wsX5_teamOf wsX5_finding := goodIn_r _ [12, 13, 14, 15, 16, 17, 18, 19, 20, 21, 22, 23, 24, 25] (by decide +kernel) (by decide +kernel)
set_option maxRecDepth 20000 in
theorem gX5_teamOf_X5_finding : GoodIn wsX5_teamOf (wsV RX5 65 RX5 yX5_finding wsX5_finding) := goodIn_app (goodIn_of _ (by decide +kernel)) ggX5_teamOf_X5_finding
theorem dX5_teamOf_0 : decode cX5_teamOf 0 = .ok (.aload_n 0, 1) := by decide +kernel
theorem dX5_teamOf_1 : decode cX5_teamOf 1 = .ok (.getfield 10, 3) := by decide +kernel
theorem dX5_teamOf_4 : decode cX5_teamOf 4 = .ok (.iload_n 1, 1) := by decide +kernel
theorem dX5_teamOf_5 : decode cX5_teamOf 5 = .ok (.invokevirtual 116, 3) := by decide +kernel
theorem dX5_teamOf_8 : decode cX5_teamOf 8 = .ok (.ifCond .eq 12, 3) := by decide +kernel
theorem dX5_teamOf_11 : decode cX5_teamOf 11 = .ok (.iload_n 2, 1) := by decide +kernel
theorem dX5_teamOf_12 : decode cX5_teamOf 12 = .ok (.ifCond .lt 8, 3) := by decide +kernel
theorem dX5_teamOf_15 : decode cX5_teamOf 15 = .ok (.iload_n 2, 1) := by decide +kernel
theorem dX5_teamOf_16 : decode cX5_teamOf 16 = .ok (.iconst 2, 1) := by decide +kernel
theorem dX5_teamOf_17 : decode cX5_teamOf 17 = .ok (.if_icmp .le 9, 3) := by decide +kernel
theorem dX5_teamOf_20 : decode cX5_teamOf 20 = .ok (.aload_n 0, 1) := by decide +kernel
theorem dX5_teamOf_21 : decode cX5_teamOf 21 = .ok (.iconst 0, 1) := by decide +kernel
theorem dX5_teamOf_22 : decode cX5_teamOf 22 = .ok (.invokevirtual 65, 3) := by decide +kernel
theorem dX5_teamOf_25 : decode cX5_teamOf 25 = .ok (.ireturn, 1) := by decide +kernel
theorem dX5_teamOf_26 : decode cX5_teamOf 26 = .ok (.iload_n 2, 1) := by decide +kernel
theorem dX5_teamOf_27 : decode cX5_teamOf 27 = .ok (.ifCond .ne 13, 3) := by decide +kernel
theorem dX5_teamOf_30 : decode cX5_teamOf 30 = .ok (.aload_n 0, 1) := by decide +kernel
theorem dX5_teamOf_31 : decode cX5_teamOf 31 = .ok (.getfield 10, 3) := by decide +kernel
theorem dX5_teamOf_34 : decode cX5_teamOf 34 = .ok (.getfield 119, 3) := by decide +kernel
theorem dX5_teamOf_37 : decode cX5_teamOf 37 = .ok (.iload_n 1, 1) := by decide +kernel
theorem dX5_teamOf_38 : decode cX5_teamOf 38 = .ok (.iaload, 1) := by decide +kernel
theorem dX5_teamOf_39 : decode cX5_teamOf 39 = .ok (.ireturn, 1) := by decide +kernel
theorem dX5_teamOf_40 : decode cX5_teamOf 40 = .ok (.iload_n 2, 1) := by decide +kernel
theorem dX5_teamOf_41 : decode cX5_teamOf 41 = .ok (.iconst 1, 1) := by decide +kernel
theorem dX5_teamOf_42 : decode cX5_teamOf 42 = .ok (.if_icmp .ne 15, 3) := by decide +kernel
theorem dX5_teamOf_45 : decode cX5_teamOf 45 = .ok (.aload_n 0, 1) := by decide +kernel
theorem dX5_teamOf_46 : decode cX5_teamOf 46 = .ok (.getfield 10, 3) := by decide +kernel
theorem dX5_teamOf_49 : decode cX5_teamOf 49 = .ok (.getfield 122, 3) := by decide +kernel
theorem dX5_teamOf_52 : decode cX5_teamOf 52 = .ok (.iload_n 1, 1) := by decide +kernel
theorem dX5_teamOf_53 : decode cX5_teamOf 53 = .ok (.iaload, 1) := by decide +kernel
theorem dX5_teamOf_54 : decode cX5_teamOf 54 = .ok (.goto 16, 3) := by decide +kernel
theorem dX5_teamOf_57 : decode cX5_teamOf 57 = .ok (.getstatic 125, 3) := by decide +kernel
theorem dX5_teamOf_60 : decode cX5_teamOf 60 = .ok (.aload_n 0, 1) := by decide +kernel
theorem dX5_teamOf_61 : decode cX5_teamOf 61 = .ok (.getfield 10, 3) := by decide +kernel
theorem dX5_teamOf_64 : decode cX5_teamOf 64 = .ok (.getfield 119, 3) := by decide +kernel
theorem dX5_teamOf_67 : decode cX5_teamOf 67 = .ok (.iload_n 1, 1) := by decide +kernel
theorem dX5_teamOf_68 : decode cX5_teamOf 68 = .ok (.iaload, 1) := by decide +kernel
theorem dX5_teamOf_69 : decode cX5_teamOf 69 = .ok (.iaload, 1) := by decide +kernel
theorem dX5_teamOf_70 : decode cX5_teamOf 70 = .ok (.ireturn, 1) := by decide +kernel
set_option maxRecDepth 20000 in
theorem ggX5_pace_X1_hasTeam : GoodIn wsX5_pace wsX1_hasTeam := goodIn_r _ [5, 6, 28, 29, 30, 31, 32, 33] (by decide +kernel) (by decide +kernel)
set_option maxRecDepth 20000 in
theorem gX5_pace_X1_hasTeam_n116 : GoodIn wsX5_pace (wsX1_hasTeam) := ggX5_pace_X1_hasTeam
set_option maxRecDepth 20000 in
theorem ggX5_pace_X5_isPace : GoodIn wsX5_pace wsX5_isPace := goodIn_r _ [10] (by decide +kernel) (by decide +kernel)
set_option maxRecDepth 20000 in
theorem gX5_pace_X5_isPace : GoodIn wsX5_pace (va_wsS RX5 107 yX5_isPace wsX5_isPace) := goodIn_app (goodIn_of _ (by decide +kernel)) ggX5_pace_X5_isPace
set_option maxRecDepth 20000 in
theorem ggX5_pace_X5_finding : GoodIn wsX5_pace wsX5_finding := goodIn_r _ [14, 15, 16, 17, 18, 19, 20, 21, 22, 23, 24, 25, 26, 27] (by decide +kernel) (by decide +kernel)
set_option maxRecDepth 20000 in
theorem gX5_pace_X5_finding : GoodIn wsX5_pace (wsV RX5 65 RX5 yX5_finding wsX5_finding) := goodIn_app (goodIn_of _ (by decide +kernel)) ggX5_pace_X5_finding
theorem dX5_pace_0 : decode cX5_pace 0 = .ok (.aload_n 0, 1) := by decide +kernel
theorem dX5_pace_1 : decode cX5_pace 1 = .ok (.getfield 10, 3) := by decide +kernel
theorem dX5_pace_4 : decode cX5_pace 4 = .ok (.iload_n 1, 1) := by decide +kernel
theorem dX5_pace_5 : decode cX5_pace 5 = .ok (.invokevirtual 116, 3) := by decide +kernel
theorem dX5_pace_8 : decode cX5_pace 8 = .ok (.ifCond .eq 10, 3) := by decide +kernel
theorem dX5_pace_11 : decode cX5_pace 11 = .ok (.iload_n 2, 1) := by decide +kernel
theorem dX5_pace_12 : decode cX5_pace 12 = .ok (.invokestatic 107, 3) := by decide +kernel
theorem dX5_pace_15 : decode cX5_pace 15 = .ok (.ifCond .ne 9, 3) := by decide +kernel
theorem dX5_pace_18 : decode cX5_pace 18 = .ok (.aload_n 0, 1) := by decide +kernel
theorem dX5_pace_19 : decode cX5_pace 19 = .ok (.iconst 0, 1) := by decide +kernel
theorem dX5_pace_20 : decode cX5_pace 20 = .ok (.invokevirtual 65, 3) := by decide +kernel
theorem dX5_pace_23 : decode cX5_pace 23 = .ok (.ireturn, 1) := by decide +kernel
theorem dX5_pace_24 : decode cX5_pace 24 = .ok (.aload_n 0, 1) := by decide +kernel
theorem dX5_pace_25 : decode cX5_pace 25 = .ok (.getfield 10, 3) := by decide +kernel
theorem dX5_pace_28 : decode cX5_pace 28 = .ok (.getfield 122, 3) := by decide +kernel
theorem dX5_pace_31 : decode cX5_pace 31 = .ok (.iload_n 1, 1) := by decide +kernel
theorem dX5_pace_32 : decode cX5_pace 32 = .ok (.iaload, 1) := by decide +kernel
theorem dX5_pace_33 : decode cX5_pace 33 = .ok (.istore_n 3, 1) := by decide +kernel
theorem dX5_pace_34 : decode cX5_pace 34 = .ok (.aload_n 0, 1) := by decide +kernel
theorem dX5_pace_35 : decode cX5_pace 35 = .ok (.getfield 10, 3) := by decide +kernel
theorem dX5_pace_38 : decode cX5_pace 38 = .ok (.getfield 122, 3) := by decide +kernel
theorem dX5_pace_41 : decode cX5_pace 41 = .ok (.iload_n 1, 1) := by decide +kernel
theorem dX5_pace_42 : decode cX5_pace 42 = .ok (.iload_n 2, 1) := by decide +kernel
theorem dX5_pace_43 : decode cX5_pace 43 = .ok (.iastore, 1) := by decide +kernel
theorem dX5_pace_44 : decode cX5_pace 44 = .ok (.iload_n 3, 1) := by decide +kernel
theorem dX5_pace_45 : decode cX5_pace 45 = .ok (.ireturn, 1) := by decide +kernel
set_option maxRecDepth 20000 in
theorem ggX5_as_X1_hasTeam : GoodIn wsX5_as wsX1_hasTeam := goodIn_r _ [6, 7, 33, 34, 35, 36, 37, 38] (by decide +kernel) (by decide +kernel)
set_option maxRecDepth 20000 in
theorem gX5_as_X1_hasTeam_n116 : GoodIn wsX5_as (wsX1_hasTeam) := ggX5_as_X1_hasTeam
set_option maxRecDepth 20000 in
theorem ggX5_as_X5_isKind : GoodIn wsX5_as wsX5_isKind := goodIn_r _ [11] (by decide +kernel) (by decide +kernel)
set_option maxRecDepth 20000 in
theorem gX5_as_X5_isKind : GoodIn wsX5_as (va_wsS RX5 104 yX5_isKind wsX5_isKind) := goodIn_app (goodIn_of _ (by decide +kernel)) ggX5_as_X5_isKind
set_option maxRecDepth 20000 in
theorem ggX5_as_X5_finding : GoodIn wsX5_as wsX5_finding := goodIn_r _ [15, 16, 17, 22, 23, 24, 25, 26, 27, 28, 29, 30, 31, 32] (by decide +kernel) (by decide +kernel)
set_option maxRecDepth 20000 in
theorem gX5_as_X5_finding : GoodIn wsX5_as (wsV RX5 65 RX5 yX5_finding wsX5_finding) := goodIn_app (goodIn_of _ (by decide +kernel)) ggX5_as_X5_finding
set_option maxRecDepth 20000 in
theorem ggX5_as_X5_isOfKind : GoodIn wsX5_as wsX5_isOfKind := goodIn_r _ [20, 21] (by decide +kernel) (by decide +kernel)
set_option maxRecDepth 20000 in
theorem gX5_as_X5_isOfKind : GoodIn wsX5_as (va_wsS RX5 128 yX5_isOfKind wsX5_isOfKind) := goodIn_app (goodIn_of _ (by decide +kernel)) ggX5_as_X5_isOfKind
theorem dX5_as_0 : decode cX5_as 0 = .ok (.aload_n 0, 1) := by decide +kernel
theorem dX5_as_1 : decode cX5_as 1 = .ok (.getfield 10, 3) := by decide +kernel
theorem dX5_as_4 : decode cX5_as 4 = .ok (.iload_n 1, 1) := by decide +kernel
theorem dX5_as_5 : decode cX5_as 5 = .ok (.invokevirtual 116, 3) := by decide +kernel
theorem dX5_as_8 : decode cX5_as 8 = .ok (.ifCond .eq 10, 3) := by decide +kernel
theorem dX5_as_11 : decode cX5_as 11 = .ok (.iload_n 2, 1) := by decide +kernel
theorem dX5_as_12 : decode cX5_as 12 = .ok (.invokestatic 104, 3) := by decide +kernel
theorem dX5_as_15 : decode cX5_as 15 = .ok (.ifCond .ne 9, 3) := by decide +kernel
theorem dX5_as_18 : decode cX5_as 18 = .ok (.aload_n 0, 1) := by decide +kernel
theorem dX5_as_19 : decode cX5_as 19 = .ok (.iconst 0, 1) := by decide +kernel
theorem dX5_as_20 : decode cX5_as 20 = .ok (.invokevirtual 65, 3) := by decide +kernel
theorem dX5_as_23 : decode cX5_as 23 = .ok (.ireturn, 1) := by decide +kernel
theorem dX5_as_24 : decode cX5_as 24 = .ok (.aload_n 0, 1) := by decide +kernel
theorem dX5_as_25 : decode cX5_as 25 = .ok (.getfield 10, 3) := by decide +kernel
theorem dX5_as_28 : decode cX5_as 28 = .ok (.getfield 119, 3) := by decide +kernel
theorem dX5_as_31 : decode cX5_as 31 = .ok (.iload_n 1, 1) := by decide +kernel
theorem dX5_as_32 : decode cX5_as 32 = .ok (.iaload, 1) := by decide +kernel
theorem dX5_as_33 : decode cX5_as 33 = .ok (.iload_n 2, 1) := by decide +kernel
theorem dX5_as_34 : decode cX5_as 34 = .ok (.invokestatic 128, 3) := by decide +kernel
theorem dX5_as_37 : decode cX5_as 37 = .ok (.ifCond .eq 19, 3) := by decide +kernel
theorem dX5_as_40 : decode cX5_as 40 = .ok (.getstatic 125, 3) := by decide +kernel
theorem dX5_as_43 : decode cX5_as 43 = .ok (.aload_n 0, 1) := by decide +kernel
theorem dX5_as_44 : decode cX5_as 44 = .ok (.getfield 10, 3) := by decide +kernel
theorem dX5_as_47 : decode cX5_as 47 = .ok (.getfield 119, 3) := by decide +kernel
theorem dX5_as_50 : decode cX5_as 50 = .ok (.iload_n 1, 1) := by decide +kernel
theorem dX5_as_51 : decode cX5_as 51 = .ok (.iaload, 1) := by decide +kernel
theorem dX5_as_52 : decode cX5_as 52 = .ok (.iaload, 1) := by decide +kernel
theorem dX5_as_53 : decode cX5_as 53 = .ok (.goto 8, 3) := by decide +kernel
theorem dX5_as_56 : decode cX5_as 56 = .ok (.aload_n 0, 1) := by decide +kernel
theorem dX5_as_57 : decode cX5_as 57 = .ok (.iconst 2, 1) := by decide +kernel
theorem dX5_as_58 : decode cX5_as 58 = .ok (.invokevirtual 65, 3) := by decide +kernel
theorem dX5_as_61 : decode cX5_as 61 = .ok (.ireturn, 1) := by decide +kernel
set_option maxRecDepth 20000 in
theorem ggX5_may_X1_hasTeam : GoodIn wsX5_may wsX1_hasTeam := goodIn_r _ [5, 6, 54, 55, 56, 57, 58, 59] (by decide +kernel) (by decide +kernel)
set_option maxRecDepth 20000 in
theorem gX5_may_X1_hasTeam_n116 : GoodIn wsX5_may (wsX1_hasTeam) := ggX5_may_X1_hasTeam
set_option maxRecDepth 20000 in
theorem ggX5_may_X1_hasField : GoodIn wsX5_may wsX1_hasField := goodIn_r _ [9, 10, 54, 55, 56, 57, 58, 59] (by decide +kernel) (by decide +kernel)
set_option maxRecDepth 20000 in
theorem gX5_may_X1_hasField_n73 : GoodIn wsX5_may (wsX1_hasField) := ggX5_may_X1_hasField
set_option maxRecDepth 20000 in
theorem ggX5_may_X5_isCell : GoodIn wsX5_may wsX5_isCell := goodIn_r _ [14] (by decide +kernel) (by decide +kernel)
set_option maxRecDepth 20000 in
theorem gX5_may_X5_isCell : GoodIn wsX5_may (va_wsS RX5 131 yX5_isCell wsX5_isCell) := goodIn_app (goodIn_of _ (by decide +kernel)) ggX5_may_X5_isCell
set_option maxRecDepth 20000 in
theorem ggX5_may_X5_finding : GoodIn wsX5_may wsX5_finding := goodIn_r _ [18, 19, 20, 43, 44, 45, 46, 47, 48, 49, 50, 51, 52, 53] (by decide +kernel) (by decide +kernel)
set_option maxRecDepth 20000 in
theorem gX5_may_X5_finding : GoodIn wsX5_may (wsV RX5 65 RX5 yX5_finding wsX5_finding) := goodIn_app (goodIn_of _ (by decide +kernel)) ggX5_may_X5_finding
set_option maxRecDepth 20000 in
theorem ggX5_may_X1_mark : GoodIn wsX5_may wsX1_mark := goodIn_r _ [23, 24, 54, 55, 56, 57, 58, 59] (by decide +kernel) (by decide +kernel)
set_option maxRecDepth 20000 in
theorem gX5_may_X1_mark_n83 : GoodIn wsX5_may (wsX1_mark) := ggX5_may_X1_mark
set_option maxRecDepth 20000 in
theorem ggX5_may_X5_cellsBeside : GoodIn wsX5_may wsX5_cellsBeside := goodIn_r _ [27, 28, 29] (by decide +kernel) (by decide +kernel)
set_option maxRecDepth 20000 in
theorem gX5_may_X5_cellsBeside : GoodIn wsX5_may (va_wsS RX5 134 yX5_cellsBeside wsX5_cellsBeside) := goodIn_app (goodIn_of _ (by decide +kernel)) ggX5_may_X5_cellsBeside
set_option maxRecDepth 20000 in
theorem ggX5_may_X5_mayStep : GoodIn wsX5_may wsX5_mayStep := goodIn_r _ [32, 33, 34, 13, 35, 36, 37, 38, 39, 40, 41, 42] (by decide +kernel) (by decide +kernel)
set_option maxRecDepth 20000 in
theorem gX5_may_X5_mayStep : GoodIn wsX5_may (va_wsS RX5 137 yX5_mayStep wsX5_mayStep) := goodIn_app (goodIn_of _ (by decide +kernel)) ggX5_may_X5_mayStep
theorem dX5_may_0 : decode cX5_may 0 = .ok (.aload_n 0, 1) := by decide +kernel
theorem dX5_may_1 : decode cX5_may 1 = .ok (.getfield 10, 3) := by decide +kernel
theorem dX5_may_4 : decode cX5_may 4 = .ok (.iload_n 1, 1) := by decide +kernel
theorem dX5_may_5 : decode cX5_may 5 = .ok (.invokevirtual 116, 3) := by decide +kernel
theorem dX5_may_8 : decode cX5_may 8 = .ok (.ifCond .eq 21, 3) := by decide +kernel
theorem dX5_may_11 : decode cX5_may 11 = .ok (.aload_n 0, 1) := by decide +kernel
theorem dX5_may_12 : decode cX5_may 12 = .ok (.getfield 10, 3) := by decide +kernel
theorem dX5_may_15 : decode cX5_may 15 = .ok (.iload_n 2, 1) := by decide +kernel
theorem dX5_may_16 : decode cX5_may 16 = .ok (.invokevirtual 73, 3) := by decide +kernel
theorem dX5_may_19 : decode cX5_may 19 = .ok (.ifCond .eq 10, 3) := by decide +kernel
theorem dX5_may_22 : decode cX5_may 22 = .ok (.iload_n 3, 1) := by decide +kernel
theorem dX5_may_23 : decode cX5_may 23 = .ok (.invokestatic 131, 3) := by decide +kernel
theorem dX5_may_26 : decode cX5_may 26 = .ok (.ifCond .ne 9, 3) := by decide +kernel
theorem dX5_may_29 : decode cX5_may 29 = .ok (.aload_n 0, 1) := by decide +kernel
theorem dX5_may_30 : decode cX5_may 30 = .ok (.iconst 0, 1) := by decide +kernel
theorem dX5_may_31 : decode cX5_may 31 = .ok (.invokevirtual 65, 3) := by decide +kernel
theorem dX5_may_34 : decode cX5_may 34 = .ok (.ireturn, 1) := by decide +kernel
theorem dX5_may_35 : decode cX5_may 35 = .ok (.iload 4, 2) := by decide +kernel
theorem dX5_may_37 : decode cX5_may 37 = .ok (.iconst (-1), 1) := by decide +kernel
theorem dX5_may_38 : decode cX5_may 38 = .ok (.if_icmp .lt 20, 3) := by decide +kernel
theorem dX5_may_41 : decode cX5_may 41 = .ok (.iload 4, 2) := by decide +kernel
theorem dX5_may_43 : decode cX5_may 43 = .ok (.iconst 4, 1) := by decide +kernel
theorem dX5_may_44 : decode cX5_may 44 = .ok (.if_icmp .ge 14, 3) := by decide +kernel
theorem dX5_may_47 : decode cX5_may 47 = .ok (.iload 5, 2) := by decide +kernel
theorem dX5_may_49 : decode cX5_may 49 = .ok (.ifCond .lt 9, 3) := by decide +kernel
theorem dX5_may_52 : decode cX5_may 52 = .ok (.iload 5, 2) := by decide +kernel
theorem dX5_may_54 : decode cX5_may 54 = .ok (.iconst 4, 1) := by decide +kernel
theorem dX5_may_55 : decode cX5_may 55 = .ok (.if_icmp .lt 9, 3) := by decide +kernel
theorem dX5_may_58 : decode cX5_may 58 = .ok (.aload_n 0, 1) := by decide +kernel
theorem dX5_may_59 : decode cX5_may 59 = .ok (.iconst 0, 1) := by decide +kernel
theorem dX5_may_60 : decode cX5_may 60 = .ok (.invokevirtual 65, 3) := by decide +kernel
theorem dX5_may_63 : decode cX5_may 63 = .ok (.ireturn, 1) := by decide +kernel
theorem dX5_may_64 : decode cX5_may 64 = .ok (.aload_n 0, 1) := by decide +kernel
theorem dX5_may_65 : decode cX5_may 65 = .ok (.getfield 10, 3) := by decide +kernel
theorem dX5_may_68 : decode cX5_may 68 = .ok (.iload_n 2, 1) := by decide +kernel
theorem dX5_may_69 : decode cX5_may 69 = .ok (.iconst 1, 1) := by decide +kernel
theorem dX5_may_70 : decode cX5_may 70 = .ok (.invokevirtual 83, 3) := by decide +kernel
theorem dX5_may_73 : decode cX5_may 73 = .ok (.invokestatic 134, 3) := by decide +kernel
theorem dX5_may_76 : decode cX5_may 76 = .ok (.istore 7, 2) := by decide +kernel
theorem dX5_may_78 : decode cX5_may 78 = .ok (.aload_n 0, 1) := by decide +kernel
theorem dX5_may_79 : decode cX5_may 79 = .ok (.getfield 10, 3) := by decide +kernel
theorem dX5_may_82 : decode cX5_may 82 = .ok (.getfield 119, 3) := by decide +kernel
theorem dX5_may_85 : decode cX5_may 85 = .ok (.iload_n 1, 1) := by decide +kernel
theorem dX5_may_86 : decode cX5_may 86 = .ok (.iaload, 1) := by decide +kernel
theorem dX5_may_87 : decode cX5_may 87 = .ok (.iload 7, 2) := by decide +kernel
theorem dX5_may_89 : decode cX5_may 89 = .ok (.iload_n 3, 1) := by decide +kernel
theorem dX5_may_90 : decode cX5_may 90 = .ok (.iload 4, 2) := by decide +kernel
theorem dX5_may_92 : decode cX5_may 92 = .ok (.iload 5, 2) := by decide +kernel
theorem dX5_may_94 : decode cX5_may 94 = .ok (.iload 6, 2) := by decide +kernel
theorem dX5_may_96 : decode cX5_may 96 = .ok (.invokestatic 137, 3) := by decide +kernel
theorem dX5_may_99 : decode cX5_may 99 = .ok (.ifCond .eq 7, 3) := by decide +kernel
theorem dX5_may_102 : decode cX5_may 102 = .ok (.iconst 1, 1) := by decide +kernel
theorem dX5_may_103 : decode cX5_may 103 = .ok (.goto 4, 3) := by decide +kernel
theorem dX5_may_106 : decode cX5_may 106 = .ok (.iconst 0, 1) := by decide +kernel
theorem dX5_may_107 : decode cX5_may 107 = .ok (.ireturn, 1) := by decide +kernel
set_option maxRecDepth 20000 in
theorem ggX5_best_X1_hasTeam : GoodIn wsX5_best wsX1_hasTeam := goodIn_r _ [5, 6, 149, 150, 151, 152, 153, 154] (by decide +kernel) (by decide +kernel)
set_option maxRecDepth 20000 in
theorem gX5_best_X1_hasTeam_n116 : GoodIn wsX5_best (wsX1_hasTeam) := ggX5_best_X1_hasTeam
set_option maxRecDepth 20000 in
theorem ggX5_best_X1_hasField : GoodIn wsX5_best wsX1_hasField := goodIn_r _ [9, 10, 149, 150, 151, 152, 153, 154] (by decide +kernel) (by decide +kernel)
set_option maxRecDepth 20000 in
theorem gX5_best_X1_hasField_n73 : GoodIn wsX5_best (wsX1_hasField) := ggX5_best_X1_hasField
set_option maxRecDepth 20000 in
theorem ggX5_best_X5_finding : GoodIn wsX5_best wsX5_finding := goodIn_r _ [15, 16, 17, 124, 125, 126, 127, 128, 129, 130, 131, 132, 133, 134] (by decide +kernel) (by decide +kernel)
set_option maxRecDepth 20000 in
theorem gX5_best_X5_finding : GoodIn wsX5_best (wsV RX5 65 RX5 yX5_finding wsX5_finding) := goodIn_app (goodIn_of _ (by decide +kernel)) ggX5_best_X5_finding
set_option maxRecDepth 20000 in
theorem ggX5_best_X5_furrowsOf : GoodIn wsX5_best wsX5_furrowsOf := goodIn_r _ [21, 1, 22, 23, 3, 24, 25, 26, 27, 28, 29, 30, 31, 32, 33, 34, 35, 36, 37, 38, 39, 40, 41, 42, 43, 14, 44, 45, 46, 47, 48, 49, 50, 51, 52, 53, 54, 55, 56, 57, 58, 59, 60, 61, 62, 63, 64, 65, 66, 67, 68, 69, 70, 71, 72, 73, 74, 75, 76, 77, 78, 79, 80, 81, 82, 83, 84, 85, 86, 87, 88, 89, 90, 91, 92, 93, 94, 95, 96, 97, 98, 99, 100, 101, 102, 103, 104, 105, 106, 107, 108, 109, 110, 111, 112, 113, 114, 115, 116, 117, 124, 125, 126, 127, 128, 129, 130, 131, 132, 133, 134, 149, 150, 151, 152, 153, 154, 135, 136, 137, 138, 139, 140, 141, 142, 143, 144, 145, 146, 147, 148] (by decide +kernel) (by decide +kernel)
set_option maxRecDepth 20000 in
theorem gX5_best_X5_furrowsOf : GoodIn wsX5_best (wsV RX5 141 RX5 yX5_furrowsOf wsX5_furrowsOf) := goodIn_app (goodIn_of _ (by decide +kernel)) ggX5_best_X5_furrowsOf
set_option maxRecDepth 20000 in
theorem ggX5_best_X5_costOf : GoodIn wsX5_best wsX5_costOf := goodIn_r _ [121, 122, 1, 123, 135, 136, 137, 138, 139, 140, 141, 142, 143, 144, 145, 146, 147, 148, 124, 125, 126, 127, 128, 129, 130, 131, 132, 133, 134, 149, 150, 151, 152, 153, 154] (by decide +kernel) (by decide +kernel)
set_option maxRecDepth 20000 in
theorem gX5_best_X5_costOf : GoodIn wsX5_best (wsV RX5 151 RX5 yX5_costOf wsX5_costOf) := goodIn_app (goodIn_of _ (by decide +kernel)) ggX5_best_X5_costOf
theorem dX5_best_0 : decode cX5_best 0 = .ok (.aload_n 0, 1) := by decide +kernel
theorem dX5_best_1 : decode cX5_best 1 = .ok (.getfield 10, 3) := by decide +kernel
theorem dX5_best_4 : decode cX5_best 4 = .ok (.iload_n 1, 1) := by decide +kernel
theorem dX5_best_5 : decode cX5_best 5 = .ok (.invokevirtual 116, 3) := by decide +kernel
theorem dX5_best_8 : decode cX5_best 8 = .ok (.ifCond .eq 26, 3) := by decide +kernel
theorem dX5_best_11 : decode cX5_best 11 = .ok (.aload_n 0, 1) := by decide +kernel
theorem dX5_best_12 : decode cX5_best 12 = .ok (.getfield 10, 3) := by decide +kernel
theorem dX5_best_15 : decode cX5_best 15 = .ok (.iload_n 2, 1) := by decide +kernel
theorem dX5_best_16 : decode cX5_best 16 = .ok (.invokevirtual 73, 3) := by decide +kernel
theorem dX5_best_19 : decode cX5_best 19 = .ok (.ifCond .eq 15, 3) := by decide +kernel
theorem dX5_best_22 : decode cX5_best 22 = .ok (.iload_n 3, 1) := by decide +kernel
theorem dX5_best_23 : decode cX5_best 23 = .ok (.bipush (-2), 2) := by decide +kernel
theorem dX5_best_25 : decode cX5_best 25 = .ok (.if_icmp .lt 9, 3) := by decide +kernel
theorem dX5_best_28 : decode cX5_best 28 = .ok (.iload_n 3, 1) := by decide +kernel
theorem dX5_best_29 : decode cX5_best 29 = .ok (.bipush 16, 2) := by decide +kernel
theorem dX5_best_31 : decode cX5_best 31 = .ok (.if_icmp .lt 9, 3) := by decide +kernel
theorem dX5_best_34 : decode cX5_best 34 = .ok (.aload_n 0, 1) := by decide +kernel
theorem dX5_best_35 : decode cX5_best 35 = .ok (.iconst 0, 1) := by decide +kernel
theorem dX5_best_36 : decode cX5_best 36 = .ok (.invokevirtual 65, 3) := by decide +kernel
theorem dX5_best_39 : decode cX5_best 39 = .ok (.ireturn, 1) := by decide +kernel
theorem dX5_best_40 : decode cX5_best 40 = .ok (.aload_n 0, 1) := by decide +kernel
theorem dX5_best_41 : decode cX5_best 41 = .ok (.iload_n 1, 1) := by decide +kernel
theorem dX5_best_42 : decode cX5_best 42 = .ok (.iload_n 2, 1) := by decide +kernel
theorem dX5_best_43 : decode cX5_best 43 = .ok (.invokevirtual 141, 3) := by decide +kernel
theorem dX5_best_46 : decode cX5_best 46 = .ok (.astore 4, 2) := by decide +kernel
theorem dX5_best_48 : decode cX5_best 48 = .ok (.aload 4, 2) := by decide +kernel
theorem dX5_best_50 : decode cX5_best 50 = .ok (.getfield 145, 3) := by decide +kernel
theorem dX5_best_53 : decode cX5_best 53 = .ok (.ifCond .eq 12, 3) := by decide +kernel
theorem dX5_best_56 : decode cX5_best 56 = .ok (.iload_n 3, 1) := by decide +kernel
theorem dX5_best_57 : decode cX5_best 57 = .ok (.aload 4, 2) := by decide +kernel
theorem dX5_best_59 : decode cX5_best 59 = .ok (.getfield 148, 3) := by decide +kernel
theorem dX5_best_62 : decode cX5_best 62 = .ok (.if_icmp .lt 9, 3) := by decide +kernel
theorem dX5_best_65 : decode cX5_best 65 = .ok (.aload_n 0, 1) := by decide +kernel
theorem dX5_best_66 : decode cX5_best 66 = .ok (.iconst 3, 1) := by decide +kernel
theorem dX5_best_67 : decode cX5_best 67 = .ok (.invokevirtual 65, 3) := by decide +kernel
theorem dX5_best_70 : decode cX5_best 70 = .ok (.ireturn, 1) := by decide +kernel
theorem dX5_best_71 : decode cX5_best 71 = .ok (.iload_n 3, 1) := by decide +kernel
theorem dX5_best_72 : decode cX5_best 72 = .ok (.iconst (-1), 1) := by decide +kernel
theorem dX5_best_73 : decode cX5_best 73 = .ok (.if_icmp .ne 11, 3) := by decide +kernel
theorem dX5_best_76 : decode cX5_best 76 = .ok (.aload_n 0, 1) := by decide +kernel
theorem dX5_best_77 : decode cX5_best 77 = .ok (.iload_n 1, 1) := by decide +kernel
theorem dX5_best_78 : decode cX5_best 78 = .ok (.aload 4, 2) := by decide +kernel
theorem dX5_best_80 : decode cX5_best 80 = .ok (.invokevirtual 151, 3) := by decide +kernel
theorem dX5_best_83 : decode cX5_best 83 = .ok (.ireturn, 1) := by decide +kernel
theorem dX5_best_84 : decode cX5_best 84 = .ok (.iload_n 3, 1) := by decide +kernel
theorem dX5_best_85 : decode cX5_best 85 = .ok (.bipush (-2), 2) := by decide +kernel
theorem dX5_best_87 : decode cX5_best 87 = .ok (.if_icmp .ne 11, 3) := by decide +kernel
theorem dX5_best_90 : decode cX5_best 90 = .ok (.aload 4, 2) := by decide +kernel
theorem dX5_best_92 : decode cX5_best 92 = .ok (.getfield 155, 3) := by decide +kernel
theorem dX5_best_95 : decode cX5_best 95 = .ok (.goto 10, 3) := by decide +kernel
theorem dX5_best_98 : decode cX5_best 98 = .ok (.aload 4, 2) := by decide +kernel
theorem dX5_best_100 : decode cX5_best 100 = .ok (.getfield 158, 3) := by decide +kernel
theorem dX5_best_103 : decode cX5_best 103 = .ok (.iload_n 3, 1) := by decide +kernel
theorem dX5_best_104 : decode cX5_best 104 = .ok (.iaload, 1) := by decide +kernel
theorem dX5_best_105 : decode cX5_best 105 = .ok (.ireturn, 1) := by decide +kernel
set_option maxRecDepth 20000 in
theorem ggX5_many_X1_hasTeam : GoodIn wsX5_many wsX1_hasTeam := goodIn_r _ [5, 6, 143, 144, 145, 146, 147, 148] (by decide +kernel) (by decide +kernel)
set_option maxRecDepth 20000 in
theorem gX5_many_X1_hasTeam_n116 : GoodIn wsX5_many (wsX1_hasTeam) := ggX5_many_X1_hasTeam
set_option maxRecDepth 20000 in
theorem ggX5_many_X1_hasField : GoodIn wsX5_many wsX1_hasField := goodIn_r _ [9, 10, 143, 144, 145, 146, 147, 148] (by decide +kernel) (by decide +kernel)
set_option maxRecDepth 20000 in
theorem gX5_many_X1_hasField_n73 : GoodIn wsX5_many (wsX1_hasField) := ggX5_many_X1_hasField
set_option maxRecDepth 20000 in
theorem ggX5_many_X5_finding : GoodIn wsX5_many wsX5_finding := goodIn_r _ [15, 16, 17, 118, 119, 120, 121, 122, 123, 124, 125, 126, 127, 128] (by decide +kernel) (by decide +kernel)
set_option maxRecDepth 20000 in
theorem gX5_many_X5_finding : GoodIn wsX5_many (wsV RX5 65 RX5 yX5_finding wsX5_finding) := goodIn_app (goodIn_of _ (by decide +kernel)) ggX5_many_X5_finding
set_option maxRecDepth 20000 in
theorem ggX5_many_X5_furrowsOf : GoodIn wsX5_many wsX5_furrowsOf := goodIn_r _ [21, 1, 22, 23, 3, 24, 25, 26, 27, 28, 29, 30, 31, 32, 33, 34, 35, 36, 37, 38, 39, 40, 41, 42, 43, 14, 44, 45, 46, 47, 48, 49, 50, 51, 52, 53, 54, 55, 56, 57, 58, 59, 60, 61, 62, 63, 64, 65, 66, 67, 68, 69, 70, 71, 72, 73, 74, 75, 76, 77, 78, 79, 80, 81, 82, 83, 84, 85, 86, 87, 88, 89, 90, 91, 92, 93, 94, 95, 96, 97, 98, 99, 100, 101, 102, 103, 104, 105, 106, 107, 108, 109, 110, 111, 112, 113, 114, 115, 116, 117, 118, 119, 120, 121, 122, 123, 124, 125, 126, 127, 128, 143, 144, 145, 146, 147, 148, 129, 130, 131, 132, 133, 134, 135, 136, 137, 138, 139, 140, 141, 142] (by decide +kernel) (by decide +kernel)
set_option maxRecDepth 20000 in
theorem gX5_many_X5_furrowsOf : GoodIn wsX5_many (wsV RX5 141 RX5 yX5_furrowsOf wsX5_furrowsOf) := goodIn_app (goodIn_of _ (by decide +kernel)) ggX5_many_X5_furrowsOf
theorem dX5_many_0 : decode cX5_many 0 = .ok (.aload_n 0, 1) := by decide +kernel
theorem dX5_many_1 : decode cX5_many 1 = .ok (.getfield 10, 3) := by decide +kernel
theorem dX5_many_4 : decode cX5_many 4 = .ok (.iload_n 1, 1) := by decide +kernel
theorem dX5_many_5 : decode cX5_many 5 = .ok (.invokevirtual 116, 3) := by decide +kernel
theorem dX5_many_8 : decode cX5_many 8 = .ok (.ifCond .eq 14, 3) := by decide +kernel
theorem dX5_many_11 : decode cX5_many 11 = .ok (.aload_n 0, 1) := by decide +kernel
theorem dX5_many_12 : decode cX5_many 12 = .ok (.getfield 10, 3) := by decide +kernel
theorem dX5_many_15 : decode cX5_many 15 = .ok (.iload_n 2, 1) := by decide +kernel
theorem dX5_many_16 : decode cX5_many 16 = .ok (.invokevirtual 73, 3) := by decide +kernel
theorem dX5_many_19 : decode cX5_many 19 = .ok (.ifCond .ne 9, 3) := by decide +kernel
theorem dX5_many_22 : decode cX5_many 22 = .ok (.aload_n 0, 1) := by decide +kernel
theorem dX5_many_23 : decode cX5_many 23 = .ok (.iconst 0, 1) := by decide +kernel
theorem dX5_many_24 : decode cX5_many 24 = .ok (.invokevirtual 65, 3) := by decide +kernel
theorem dX5_many_27 : decode cX5_many 27 = .ok (.ireturn, 1) := by decide +kernel
theorem dX5_many_28 : decode cX5_many 28 = .ok (.aload_n 0, 1) := by decide +kernel
theorem dX5_many_29 : decode cX5_many 29 = .ok (.iload_n 1, 1) := by decide +kernel
theorem dX5_many_30 : decode cX5_many 30 = .ok (.iload_n 2, 1) := by decide +kernel
theorem dX5_many_31 : decode cX5_many 31 = .ok (.invokevirtual 141, 3) := by decide +kernel
theorem dX5_many_34 : decode cX5_many 34 = .ok (.getfield 145, 3) := by decide +kernel
theorem dX5_many_37 : decode cX5_many 37 = .ok (.ireturn, 1) := by decide +kernel
set_option maxRecDepth 20000 in
theorem ggX5_barred_X1_hasField : GoodIn wsX5_barred wsX1_hasField := goodIn_r _ [5, 6, 55, 56, 57, 58, 59, 60] (by decide +kernel) (by decide +kernel)
set_option maxRecDepth 20000 in
theorem gX5_barred_X1_hasField_n73 : GoodIn wsX5_barred (wsX1_hasField) := ggX5_barred_X1_hasField
set_option maxRecDepth 20000 in
theorem ggX5_barred_X5_finding : GoodIn wsX5_barred wsX5_finding := goodIn_r _ [11, 12, 13, 44, 45, 46, 47, 48, 49, 50, 51, 52, 53, 54] (by decide +kernel) (by decide +kernel)
set_option maxRecDepth 20000 in
theorem gX5_barred_X5_finding : GoodIn wsX5_barred (wsV RX5 65 RX5 yX5_finding wsX5_finding) := goodIn_app (goodIn_of _ (by decide +kernel)) ggX5_barred_X5_finding
set_option maxRecDepth 20000 in
theorem ggX5_barred_X1_earth : GoodIn wsX5_barred wsX1_earth := goodIn_r _ [16, 17, 18, 19, 20, 3, 21, 22, 55, 56, 57, 58, 59, 60] (by decide +kernel) (by decide +kernel)
set_option maxRecDepth 20000 in
theorem gX5_barred_X1_earth_n77 : GoodIn wsX5_barred (wsX1_earth) := ggX5_barred_X1_earth
set_option maxRecDepth 20000 in
theorem ggX5_barred_X1_mark : GoodIn wsX5_barred wsX1_mark := goodIn_r _ [21, 22, 55, 56, 57, 58, 59, 60] (by decide +kernel) (by decide +kernel)
set_option maxRecDepth 20000 in
theorem gX5_barred_X1_mark_n83 : GoodIn wsX5_barred (wsX1_mark) := ggX5_barred_X1_mark
set_option maxRecDepth 20000 in
theorem ggX5_barred_X5_barOf : GoodIn wsX5_barred wsX5_barOf := goodIn_r _ [25, 26, 27, 10, 28, 29, 30, 31, 32, 33, 34, 35, 36, 37, 38, 39, 40, 41, 42, 43] (by decide +kernel) (by decide +kernel)
set_option maxRecDepth 20000 in
theorem gX5_barred_X5_barOf : GoodIn wsX5_barred (va_wsS RX5 161 yX5_barOf wsX5_barOf) := goodIn_app (goodIn_of _ (by decide +kernel)) ggX5_barred_X5_barOf
theorem dX5_barred_0 : decode cX5_barred 0 = .ok (.aload_n 0, 1) := by decide +kernel
theorem dX5_barred_1 : decode cX5_barred 1 = .ok (.getfield 10, 3) := by decide +kernel
theorem dX5_barred_4 : decode cX5_barred 4 = .ok (.iload_n 1, 1) := by decide +kernel
theorem dX5_barred_5 : decode cX5_barred 5 = .ok (.invokevirtual 73, 3) := by decide +kernel
theorem dX5_barred_8 : decode cX5_barred 8 = .ok (.ifCond .ne 9, 3) := by decide +kernel
theorem dX5_barred_11 : decode cX5_barred 11 = .ok (.aload_n 0, 1) := by decide +kernel
theorem dX5_barred_12 : decode cX5_barred 12 = .ok (.iconst 0, 1) := by decide +kernel
theorem dX5_barred_13 : decode cX5_barred 13 = .ok (.invokevirtual 65, 3) := by decide +kernel
theorem dX5_barred_16 : decode cX5_barred 16 = .ok (.ireturn, 1) := by decide +kernel
theorem dX5_barred_17 : decode cX5_barred 17 = .ok (.aload_n 0, 1) := by decide +kernel
theorem dX5_barred_18 : decode cX5_barred 18 = .ok (.getfield 10, 3) := by decide +kernel
theorem dX5_barred_21 : decode cX5_barred 21 = .ok (.iload_n 1, 1) := by decide +kernel
theorem dX5_barred_22 : decode cX5_barred 22 = .ok (.invokevirtual 77, 3) := by decide +kernel
theorem dX5_barred_25 : decode cX5_barred 25 = .ok (.aload_n 0, 1) := by decide +kernel
theorem dX5_barred_26 : decode cX5_barred 26 = .ok (.getfield 10, 3) := by decide +kernel
theorem dX5_barred_29 : decode cX5_barred 29 = .ok (.iload_n 1, 1) := by decide +kernel
theorem dX5_barred_30 : decode cX5_barred 30 = .ok (.iconst 2, 1) := by decide +kernel
theorem dX5_barred_31 : decode cX5_barred 31 = .ok (.invokevirtual 83, 3) := by decide +kernel
theorem dX5_barred_34 : decode cX5_barred 34 = .ok (.aload_n 0, 1) := by decide +kernel
theorem dX5_barred_35 : decode cX5_barred 35 = .ok (.getfield 10, 3) := by decide +kernel
theorem dX5_barred_38 : decode cX5_barred 38 = .ok (.iload_n 1, 1) := by decide +kernel
theorem dX5_barred_39 : decode cX5_barred 39 = .ok (.iconst 3, 1) := by decide +kernel
theorem dX5_barred_40 : decode cX5_barred 40 = .ok (.invokevirtual 83, 3) := by decide +kernel
theorem dX5_barred_43 : decode cX5_barred 43 = .ok (.invokestatic 161, 3) := by decide +kernel
theorem dX5_barred_46 : decode cX5_barred 46 = .ok (.ireturn, 1) := by decide +kernel
set_option maxRecDepth 20000 in
theorem ggX5_missed_X1_hasTeam : GoodIn wsX5_missed wsX1_hasTeam := goodIn_r _ [5, 6, 163, 164, 165, 166, 167, 168] (by decide +kernel) (by decide +kernel)
set_option maxRecDepth 20000 in
theorem gX5_missed_X1_hasTeam_n116 : GoodIn wsX5_missed (wsX1_hasTeam) := ggX5_missed_X1_hasTeam
set_option maxRecDepth 20000 in
theorem ggX5_missed_X1_hasField : GoodIn wsX5_missed wsX1_hasField := goodIn_r _ [9, 10, 163, 164, 165, 166, 167, 168] (by decide +kernel) (by decide +kernel)
set_option maxRecDepth 20000 in
theorem gX5_missed_X1_hasField_n73 : GoodIn wsX5_missed (wsX1_hasField) := ggX5_missed_X1_hasField
set_option maxRecDepth 20000 in
theorem ggX5_missed_X5_finding : GoodIn wsX5_missed wsX5_finding := goodIn_r _ [15, 16, 17, 138, 139, 140, 141, 142, 143, 144, 145, 146, 147, 148] (by decide +kernel) (by decide +kernel)
set_option maxRecDepth 20000 in
theorem gX5_missed_X5_finding : GoodIn wsX5_missed (wsV RX5 65 RX5 yX5_finding wsX5_finding) := goodIn_app (goodIn_of _ (by decide +kernel)) ggX5_missed_X5_finding
set_option maxRecDepth 20000 in
theorem ggX5_missed_X5_furrowsOf : GoodIn wsX5_missed wsX5_furrowsOf := goodIn_r _ [21, 1, 22, 23, 3, 24, 25, 26, 27, 28, 29, 30, 31, 32, 33, 34, 35, 36, 37, 38, 39, 40, 41, 42, 43, 14, 44, 45, 46, 47, 48, 49, 50, 51, 52, 53, 54, 55, 56, 57, 58, 59, 60, 61, 62, 63, 64, 65, 66, 67, 68, 69, 70, 71, 72, 73, 74, 75, 76, 77, 78, 79, 80, 81, 82, 83, 84, 85, 86, 87, 88, 89, 90, 91, 92, 93, 94, 95, 96, 97, 98, 99, 100, 101, 102, 103, 104, 105, 106, 107, 108, 109, 110, 111, 112, 113, 114, 115, 116, 117, 138, 139, 140, 141, 142, 143, 144, 145, 146, 147, 148, 163, 164, 165, 166, 167, 168, 149, 150, 151, 152, 153, 154, 155, 156, 157, 158, 159, 160, 161, 162] (by decide +kernel) (by decide +kernel)
set_option maxRecDepth 20000 in
theorem gX5_missed_X5_furrowsOf : GoodIn wsX5_missed (wsV RX5 141 RX5 yX5_furrowsOf wsX5_furrowsOf) := goodIn_app (goodIn_of _ (by decide +kernel)) ggX5_missed_X5_furrowsOf
set_option maxRecDepth 20000 in
theorem ggX5_missed_X0_longest : GoodIn wsX5_missed wsX0_longest := goodIn_r _ [120, 42, 121, 122, 123, 33, 124, 61, 41, 36, 125, 126, 127, 128, 129, 130, 50, 51, 52, 53, 54, 55, 56, 70, 71, 72, 73, 39, 38, 74, 14, 75, 131, 132, 133, 134, 135, 136, 137, 92, 40, 37, 110, 111, 112, 113, 114, 115, 116, 117, 43, 44, 45, 87, 149, 150, 151, 152, 153, 154, 155, 156, 157, 158, 159, 160, 161, 162] (by decide +kernel) (by decide +kernel)
set_option maxRecDepth 20000 in
theorem gX5_missed_X0_longest_n165 : GoodIn wsX5_missed (wsX0_longest) := ggX5_missed_X0_longest
theorem dX5_missed_0 : decode cX5_missed 0 = .ok (.aload_n 0, 1) := by decide +kernel
theorem dX5_missed_1 : decode cX5_missed 1 = .ok (.getfield 10, 3) := by decide +kernel
theorem dX5_missed_4 : decode cX5_missed 4 = .ok (.iload_n 1, 1) := by decide +kernel
theorem dX5_missed_5 : decode cX5_missed 5 = .ok (.invokevirtual 116, 3) := by decide +kernel
theorem dX5_missed_8 : decode cX5_missed 8 = .ok (.ifCond .eq 14, 3) := by decide +kernel
theorem dX5_missed_11 : decode cX5_missed 11 = .ok (.aload_n 0, 1) := by decide +kernel
theorem dX5_missed_12 : decode cX5_missed 12 = .ok (.getfield 10, 3) := by decide +kernel
theorem dX5_missed_15 : decode cX5_missed 15 = .ok (.iload_n 2, 1) := by decide +kernel
theorem dX5_missed_16 : decode cX5_missed 16 = .ok (.invokevirtual 73, 3) := by decide +kernel
theorem dX5_missed_19 : decode cX5_missed 19 = .ok (.ifCond .ne 9, 3) := by decide +kernel
theorem dX5_missed_22 : decode cX5_missed 22 = .ok (.aload_n 0, 1) := by decide +kernel
theorem dX5_missed_23 : decode cX5_missed 23 = .ok (.iconst 0, 1) := by decide +kernel
theorem dX5_missed_24 : decode cX5_missed 24 = .ok (.invokevirtual 65, 3) := by decide +kernel
theorem dX5_missed_27 : decode cX5_missed 27 = .ok (.ireturn, 1) := by decide +kernel
theorem dX5_missed_28 : decode cX5_missed 28 = .ok (.aload_n 0, 1) := by decide +kernel
theorem dX5_missed_29 : decode cX5_missed 29 = .ok (.iload_n 1, 1) := by decide +kernel
theorem dX5_missed_30 : decode cX5_missed 30 = .ok (.iload_n 2, 1) := by decide +kernel
theorem dX5_missed_31 : decode cX5_missed 31 = .ok (.invokevirtual 141, 3) := by decide +kernel
theorem dX5_missed_34 : decode cX5_missed 34 = .ok (.astore_n 3, 1) := by decide +kernel
theorem dX5_missed_35 : decode cX5_missed 35 = .ok (.aload_n 3, 1) := by decide +kernel
theorem dX5_missed_36 : decode cX5_missed 36 = .ok (.invokevirtual 165, 3) := by decide +kernel
theorem dX5_missed_39 : decode cX5_missed 39 = .ok (.istore 4, 2) := by decide +kernel
theorem dX5_missed_41 : decode cX5_missed 41 = .ok (.iload 4, 2) := by decide +kernel
theorem dX5_missed_43 : decode cX5_missed 43 = .ok (.ifCond .ne 11, 3) := by decide +kernel
theorem dX5_missed_46 : decode cX5_missed 46 = .ok (.aload_n 0, 1) := by decide +kernel
theorem dX5_missed_47 : decode cX5_missed 47 = .ok (.iconst 3, 1) := by decide +kernel
theorem dX5_missed_48 : decode cX5_missed 48 = .ok (.invokevirtual 65, 3) := by decide +kernel
theorem dX5_missed_51 : decode cX5_missed 51 = .ok (.goto 10, 3) := by decide +kernel
theorem dX5_missed_54 : decode cX5_missed 54 = .ok (.aload_n 3, 1) := by decide +kernel
theorem dX5_missed_55 : decode cX5_missed 55 = .ok (.getfield 148, 3) := by decide +kernel
theorem dX5_missed_58 : decode cX5_missed 58 = .ok (.iload 4, 2) := by decide +kernel
theorem dX5_missed_60 : decode cX5_missed 60 = .ok (.isub, 1) := by decide +kernel
theorem dX5_missed_61 : decode cX5_missed 61 = .ok (.ireturn, 1) := by decide +kernel
set_option maxRecDepth 20000 in
theorem ggX5_stone_X1_hasTeam : GoodIn wsX5_stone wsX1_hasTeam := goodIn_r _ [6, 7, 130, 131, 132, 133, 134, 135] (by decide +kernel) (by decide +kernel)
set_option maxRecDepth 20000 in
theorem gX5_stone_X1_hasTeam_n116 : GoodIn wsX5_stone (wsX1_hasTeam) := ggX5_stone_X1_hasTeam
set_option maxRecDepth 20000 in
theorem ggX5_stone_X1_hasField : GoodIn wsX5_stone wsX1_hasField := goodIn_r _ [10, 11, 130, 131, 132, 133, 134, 135] (by decide +kernel) (by decide +kernel)
set_option maxRecDepth 20000 in
theorem gX5_stone_X1_hasField_n73 : GoodIn wsX5_stone (wsX1_hasField) := ggX5_stone_X1_hasField
set_option maxRecDepth 20000 in
theorem ggX5_stone_X5_finding : GoodIn wsX5_stone wsX5_finding := goodIn_r _ [16, 17, 18, 119, 120, 121, 122, 123, 124, 125, 126, 127, 128, 129] (by decide +kernel) (by decide +kernel)
set_option maxRecDepth 20000 in
theorem gX5_stone_X5_finding : GoodIn wsX5_stone (wsV RX5 65 RX5 yX5_finding wsX5_finding) := goodIn_app (goodIn_of _ (by decide +kernel)) ggX5_stone_X5_finding
set_option maxRecDepth 20000 in
theorem ggX5_stone_X1_mark : GoodIn wsX5_stone wsX1_mark := goodIn_r _ [21, 22, 130, 131, 132, 133, 134, 135] (by decide +kernel) (by decide +kernel)
set_option maxRecDepth 20000 in
theorem gX5_stone_X1_mark_n83 : GoodIn wsX5_stone (wsX1_mark) := ggX5_stone_X1_mark
set_option maxRecDepth 20000 in
theorem ggX5_stone_X5_holds : GoodIn wsX5_stone wsX5_holds := goodIn_r _ [25] (by decide +kernel) (by decide +kernel)
set_option maxRecDepth 20000 in
theorem gX5_stone_X5_holds : GoodIn wsX5_stone (va_wsS RX5 100 yX5_holds wsX5_holds) := goodIn_app (goodIn_of _ (by decide +kernel)) ggX5_stone_X5_holds
set_option maxRecDepth 20000 in
theorem ggX5_stone_X5_costWithout : GoodIn wsX5_stone wsX5_costWithout := goodIn_r _ [29, 1, 30, 31, 19, 4, 20, 21, 22, 32, 33, 34, 35, 36, 37, 38, 39, 40, 41, 42, 43, 15, 44, 45, 46, 47, 48, 49, 50, 51, 52, 53, 54, 55, 56, 57, 58, 59, 60, 61, 62, 63, 64, 65, 66, 67, 68, 69, 70, 71, 72, 24, 25, 73, 74, 75, 76, 77, 78, 79, 80, 81, 82, 83, 23, 84, 85, 86, 87, 88, 89, 90, 91, 92, 93, 94, 95, 96, 97, 98, 99, 100, 101, 102, 103, 104, 105, 106, 107, 108, 109, 110, 111, 112, 113, 114, 115, 116, 117, 2, 118, 119, 120, 121, 122, 123, 124, 125, 126, 127, 128, 129, 130, 131, 132, 133, 134, 135, 136, 137, 138, 139, 140, 141, 142, 143, 144, 145, 146, 147, 148, 149] (by decide +kernel) (by decide +kernel)
set_option maxRecDepth 20000 in
theorem gX5_stone_X5_costWithout : GoodIn wsX5_stone (wsV RX5 169 RX5 yX5_costWithout wsX5_costWithout) := goodIn_app (goodIn_of _ (by decide +kernel)) ggX5_stone_X5_costWithout
theorem dX5_stone_0 : decode cX5_stone 0 = .ok (.aload_n 0, 1) := by decide +kernel
theorem dX5_stone_1 : decode cX5_stone 1 = .ok (.getfield 10, 3) := by decide +kernel
theorem dX5_stone_4 : decode cX5_stone 4 = .ok (.iload_n 1, 1) := by decide +kernel
theorem dX5_stone_5 : decode cX5_stone 5 = .ok (.invokevirtual 116, 3) := by decide +kernel
theorem dX5_stone_8 : decode cX5_stone 8 = .ok (.ifCond .eq 14, 3) := by decide +kernel
theorem dX5_stone_11 : decode cX5_stone 11 = .ok (.aload_n 0, 1) := by decide +kernel
theorem dX5_stone_12 : decode cX5_stone 12 = .ok (.getfield 10, 3) := by decide +kernel
theorem dX5_stone_15 : decode cX5_stone 15 = .ok (.iload_n 2, 1) := by decide +kernel
theorem dX5_stone_16 : decode cX5_stone 16 = .ok (.invokevirtual 73, 3) := by decide +kernel
theorem dX5_stone_19 : decode cX5_stone 19 = .ok (.ifCond .ne 9, 3) := by decide +kernel
theorem dX5_stone_22 : decode cX5_stone 22 = .ok (.aload_n 0, 1) := by decide +kernel
theorem dX5_stone_23 : decode cX5_stone 23 = .ok (.iconst 0, 1) := by decide +kernel
theorem dX5_stone_24 : decode cX5_stone 24 = .ok (.invokevirtual 65, 3) := by decide +kernel
theorem dX5_stone_27 : decode cX5_stone 27 = .ok (.ireturn, 1) := by decide +kernel
theorem dX5_stone_28 : decode cX5_stone 28 = .ok (.aload_n 0, 1) := by decide +kernel
theorem dX5_stone_29 : decode cX5_stone 29 = .ok (.getfield 10, 3) := by decide +kernel
theorem dX5_stone_32 : decode cX5_stone 32 = .ok (.iload_n 2, 1) := by decide +kernel
theorem dX5_stone_33 : decode cX5_stone 33 = .ok (.iconst 0, 1) := by decide +kernel
theorem dX5_stone_34 : decode cX5_stone 34 = .ok (.invokevirtual 83, 3) := by decide +kernel
theorem dX5_stone_37 : decode cX5_stone 37 = .ok (.istore_n 3, 1) := by decide +kernel
theorem dX5_stone_38 : decode cX5_stone 38 = .ok (.ldc 168, 2) := by decide +kernel
theorem dX5_stone_40 : decode cX5_stone 40 = .ok (.istore 4, 2) := by decide +kernel
theorem dX5_stone_42 : decode cX5_stone 42 = .ok (.iconst (-1), 1) := by decide +kernel
theorem dX5_stone_43 : decode cX5_stone 43 = .ok (.istore 5, 2) := by decide +kernel
theorem dX5_stone_45 : decode cX5_stone 45 = .ok (.iconst 0, 1) := by decide +kernel
theorem dX5_stone_46 : decode cX5_stone 46 = .ok (.istore 6, 2) := by decide +kernel
theorem dX5_stone_48 : decode cX5_stone 48 = .ok (.iload 6, 2) := by decide +kernel
theorem dX5_stone_50 : decode cX5_stone 50 = .ok (.bipush 16, 2) := by decide +kernel
theorem dX5_stone_52 : decode cX5_stone 52 = .ok (.if_icmp .ge 43, 3) := by decide +kernel
theorem dX5_stone_55 : decode cX5_stone 55 = .ok (.iload_n 3, 1) := by decide +kernel
theorem dX5_stone_56 : decode cX5_stone 56 = .ok (.iload 6, 2) := by decide +kernel
theorem dX5_stone_58 : decode cX5_stone 58 = .ok (.invokestatic 100, 3) := by decide +kernel
theorem dX5_stone_61 : decode cX5_stone 61 = .ok (.ifCond .eq 28, 3) := by decide +kernel
theorem dX5_stone_64 : decode cX5_stone 64 = .ok (.aload_n 0, 1) := by decide +kernel
theorem dX5_stone_65 : decode cX5_stone 65 = .ok (.iload_n 1, 1) := by decide +kernel
theorem dX5_stone_66 : decode cX5_stone 66 = .ok (.iload_n 2, 1) := by decide +kernel
theorem dX5_stone_67 : decode cX5_stone 67 = .ok (.iload 6, 2) := by decide +kernel
theorem dX5_stone_69 : decode cX5_stone 69 = .ok (.invokevirtual 169, 3) := by decide +kernel
theorem dX5_stone_72 : decode cX5_stone 72 = .ok (.istore 7, 2) := by decide +kernel
theorem dX5_stone_74 : decode cX5_stone 74 = .ok (.iload 7, 2) := by decide +kernel
theorem dX5_stone_76 : decode cX5_stone 76 = .ok (.iload 4, 2) := by decide +kernel
theorem dX5_stone_78 : decode cX5_stone 78 = .ok (.if_icmp .ge 11, 3) := by decide +kernel
theorem dX5_stone_81 : decode cX5_stone 81 = .ok (.iload 7, 2) := by decide +kernel
theorem dX5_stone_83 : decode cX5_stone 83 = .ok (.istore 4, 2) := by decide +kernel
theorem dX5_stone_85 : decode cX5_stone 85 = .ok (.iload 6, 2) := by decide +kernel
theorem dX5_stone_87 : decode cX5_stone 87 = .ok (.istore 5, 2) := by decide +kernel
theorem dX5_stone_89 : decode cX5_stone 89 = .ok (.iinc 6 1, 3) := by decide +kernel
theorem dX5_stone_92 : decode cX5_stone 92 = .ok (.goto (-44), 3) := by decide +kernel
theorem dX5_stone_95 : decode cX5_stone 95 = .ok (.iload 5, 2) := by decide +kernel
theorem dX5_stone_97 : decode cX5_stone 97 = .ok (.ifCond .ge 11, 3) := by decide +kernel
theorem dX5_stone_100 : decode cX5_stone 100 = .ok (.aload_n 0, 1) := by decide +kernel
theorem dX5_stone_101 : decode cX5_stone 101 = .ok (.iconst 3, 1) := by decide +kernel
theorem dX5_stone_102 : decode cX5_stone 102 = .ok (.invokevirtual 65, 3) := by decide +kernel
theorem dX5_stone_105 : decode cX5_stone 105 = .ok (.goto 5, 3) := by decide +kernel
theorem dX5_stone_108 : decode cX5_stone 108 = .ok (.iload 5, 2) := by decide +kernel
theorem dX5_stone_110 : decode cX5_stone 110 = .ok (.ireturn, 1) := by decide +kernel
set_option maxRecDepth 20000 in
theorem ggX5_gate_X1_hasTeam : GoodIn wsX5_gate wsX1_hasTeam := goodIn_r _ [6, 7, 125, 126, 127, 128, 129, 130] (by decide +kernel) (by decide +kernel)
set_option maxRecDepth 20000 in
theorem gX5_gate_X1_hasTeam_n116 : GoodIn wsX5_gate (wsX1_hasTeam) := ggX5_gate_X1_hasTeam
set_option maxRecDepth 20000 in
theorem ggX5_gate_X1_hasField : GoodIn wsX5_gate wsX1_hasField := goodIn_r _ [10, 11, 125, 126, 127, 128, 129, 130] (by decide +kernel) (by decide +kernel)
set_option maxRecDepth 20000 in
theorem gX5_gate_X1_hasField_n73 : GoodIn wsX5_gate (wsX1_hasField) := ggX5_gate_X1_hasField
set_option maxRecDepth 20000 in
theorem ggX5_gate_X5_finding : GoodIn wsX5_gate wsX5_finding := goodIn_r _ [16, 17, 18, 114, 115, 116, 117, 118, 119, 120, 121, 122, 123, 124] (by decide +kernel) (by decide +kernel)
set_option maxRecDepth 20000 in
theorem gX5_gate_X5_finding : GoodIn wsX5_gate (wsV RX5 65 RX5 yX5_finding wsX5_finding) := goodIn_app (goodIn_of _ (by decide +kernel)) ggX5_gate_X5_finding
set_option maxRecDepth 20000 in
theorem ggX5_gate_X1_mark : GoodIn wsX5_gate wsX1_mark := goodIn_r _ [21, 22, 125, 126, 127, 128, 129, 130] (by decide +kernel) (by decide +kernel)
set_option maxRecDepth 20000 in
theorem gX5_gate_X1_mark_n83 : GoodIn wsX5_gate (wsX1_mark) := ggX5_gate_X1_mark
set_option maxRecDepth 20000 in
theorem ggX5_gate_X1_earth : GoodIn wsX5_gate wsX1_earth := goodIn_r _ [25, 26, 27, 19, 20, 4, 21, 22, 125, 126, 127, 128, 129, 130] (by decide +kernel) (by decide +kernel)
set_option maxRecDepth 20000 in
theorem gX5_gate_X1_earth_n77 : GoodIn wsX5_gate (wsX1_earth) := ggX5_gate_X1_earth
set_option maxRecDepth 20000 in
theorem ggX5_gate_X0_ask : GoodIn wsX5_gate wsX0_ask := goodIn_r _ [31, 32, 33, 34, 35, 36, 37, 38, 39, 15, 40, 41, 42, 43, 44, 45, 46, 47, 48, 49, 50, 51, 52, 53, 54, 55, 29, 56, 57, 58, 59, 60, 61, 62, 63, 64, 65, 66, 67, 68, 69, 70, 71, 72, 73, 74, 75, 76, 77, 78, 79, 80, 81, 82, 83, 84, 85, 86, 87, 88, 89, 90, 91, 92, 93, 94, 95, 96, 97, 98, 99, 100, 101, 102, 103, 104, 105, 106, 107, 108, 109, 110, 111, 112, 113, 131, 132, 133, 134, 135, 136, 137, 138, 139, 140, 141, 142, 143, 144] (by decide +kernel) (by decide +kernel)
set_option maxRecDepth 20000 in
theorem gX5_gate_X0_ask_n172 : GoodIn wsX5_gate (wsX0_ask) := ggX5_gate_X0_ask
theorem dX5_gate_0 : decode cX5_gate 0 = .ok (.aload_n 0, 1) := by decide +kernel
theorem dX5_gate_1 : decode cX5_gate 1 = .ok (.getfield 10, 3) := by decide +kernel
theorem dX5_gate_4 : decode cX5_gate 4 = .ok (.iload_n 1, 1) := by decide +kernel
theorem dX5_gate_5 : decode cX5_gate 5 = .ok (.invokevirtual 116, 3) := by decide +kernel
theorem dX5_gate_8 : decode cX5_gate 8 = .ok (.ifCond .eq 24, 3) := by decide +kernel
theorem dX5_gate_11 : decode cX5_gate 11 = .ok (.aload_n 0, 1) := by decide +kernel
theorem dX5_gate_12 : decode cX5_gate 12 = .ok (.getfield 10, 3) := by decide +kernel
theorem dX5_gate_15 : decode cX5_gate 15 = .ok (.iload_n 2, 1) := by decide +kernel
theorem dX5_gate_16 : decode cX5_gate 16 = .ok (.invokevirtual 73, 3) := by decide +kernel
theorem dX5_gate_19 : decode cX5_gate 19 = .ok (.ifCond .eq 13, 3) := by decide +kernel
theorem dX5_gate_22 : decode cX5_gate 22 = .ok (.iload_n 3, 1) := by decide +kernel
theorem dX5_gate_23 : decode cX5_gate 23 = .ok (.iconst 2, 1) := by decide +kernel
theorem dX5_gate_24 : decode cX5_gate 24 = .ok (.if_icmp .lt 8, 3) := by decide +kernel
theorem dX5_gate_27 : decode cX5_gate 27 = .ok (.iload_n 3, 1) := by decide +kernel
theorem dX5_gate_28 : decode cX5_gate 28 = .ok (.iconst 3, 1) := by decide +kernel
theorem dX5_gate_29 : decode cX5_gate 29 = .ok (.if_icmp .le 9, 3) := by decide +kernel
theorem dX5_gate_32 : decode cX5_gate 32 = .ok (.aload_n 0, 1) := by decide +kernel
theorem dX5_gate_33 : decode cX5_gate 33 = .ok (.iconst 0, 1) := by decide +kernel
theorem dX5_gate_34 : decode cX5_gate 34 = .ok (.invokevirtual 65, 3) := by decide +kernel
theorem dX5_gate_37 : decode cX5_gate 37 = .ok (.ireturn, 1) := by decide +kernel
theorem dX5_gate_38 : decode cX5_gate 38 = .ok (.iload_n 3, 1) := by decide +kernel
theorem dX5_gate_39 : decode cX5_gate 39 = .ok (.iconst 2, 1) := by decide +kernel
theorem dX5_gate_40 : decode cX5_gate 40 = .ok (.if_icmp .ne 7, 3) := by decide +kernel
theorem dX5_gate_43 : decode cX5_gate 43 = .ok (.iconst (-1), 1) := by decide +kernel
theorem dX5_gate_44 : decode cX5_gate 44 = .ok (.goto 12, 3) := by decide +kernel
theorem dX5_gate_47 : decode cX5_gate 47 = .ok (.aload_n 0, 1) := by decide +kernel
theorem dX5_gate_48 : decode cX5_gate 48 = .ok (.getfield 10, 3) := by decide +kernel
theorem dX5_gate_51 : decode cX5_gate 51 = .ok (.iload_n 2, 1) := by decide +kernel
theorem dX5_gate_52 : decode cX5_gate 52 = .ok (.iconst 2, 1) := by decide +kernel
theorem dX5_gate_53 : decode cX5_gate 53 = .ok (.invokevirtual 83, 3) := by decide +kernel
theorem dX5_gate_56 : decode cX5_gate 56 = .ok (.istore 4, 2) := by decide +kernel
theorem dX5_gate_58 : decode cX5_gate 58 = .ok (.iload_n 3, 1) := by decide +kernel
theorem dX5_gate_59 : decode cX5_gate 59 = .ok (.iconst 3, 1) := by decide +kernel
theorem dX5_gate_60 : decode cX5_gate 60 = .ok (.if_icmp .ne 7, 3) := by decide +kernel
theorem dX5_gate_63 : decode cX5_gate 63 = .ok (.iconst (-1), 1) := by decide +kernel
theorem dX5_gate_64 : decode cX5_gate 64 = .ok (.goto 12, 3) := by decide +kernel
theorem dX5_gate_67 : decode cX5_gate 67 = .ok (.aload_n 0, 1) := by decide +kernel
theorem dX5_gate_68 : decode cX5_gate 68 = .ok (.getfield 10, 3) := by decide +kernel
theorem dX5_gate_71 : decode cX5_gate 71 = .ok (.iload_n 2, 1) := by decide +kernel
theorem dX5_gate_72 : decode cX5_gate 72 = .ok (.iconst 3, 1) := by decide +kernel
theorem dX5_gate_73 : decode cX5_gate 73 = .ok (.invokevirtual 83, 3) := by decide +kernel
theorem dX5_gate_76 : decode cX5_gate 76 = .ok (.istore 5, 2) := by decide +kernel
theorem dX5_gate_78 : decode cX5_gate 78 = .ok (.aload_n 0, 1) := by decide +kernel
theorem dX5_gate_79 : decode cX5_gate 79 = .ok (.getfield 46, 3) := by decide +kernel
theorem dX5_gate_82 : decode cX5_gate 82 = .ok (.aload_n 0, 1) := by decide +kernel
theorem dX5_gate_83 : decode cX5_gate 83 = .ok (.getfield 10, 3) := by decide +kernel
theorem dX5_gate_86 : decode cX5_gate 86 = .ok (.getfield 119, 3) := by decide +kernel
theorem dX5_gate_89 : decode cX5_gate 89 = .ok (.iload_n 1, 1) := by decide +kernel
theorem dX5_gate_90 : decode cX5_gate 90 = .ok (.iaload, 1) := by decide +kernel
theorem dX5_gate_91 : decode cX5_gate 91 = .ok (.aload_n 0, 1) := by decide +kernel
theorem dX5_gate_92 : decode cX5_gate 92 = .ok (.getfield 10, 3) := by decide +kernel
theorem dX5_gate_95 : decode cX5_gate 95 = .ok (.iload_n 2, 1) := by decide +kernel
theorem dX5_gate_96 : decode cX5_gate 96 = .ok (.invokevirtual 77, 3) := by decide +kernel
theorem dX5_gate_99 : decode cX5_gate 99 = .ok (.aload_n 0, 1) := by decide +kernel
theorem dX5_gate_100 : decode cX5_gate 100 = .ok (.getfield 10, 3) := by decide +kernel
theorem dX5_gate_103 : decode cX5_gate 103 = .ok (.iload_n 2, 1) := by decide +kernel
theorem dX5_gate_104 : decode cX5_gate 104 = .ok (.iconst 1, 1) := by decide +kernel
theorem dX5_gate_105 : decode cX5_gate 105 = .ok (.invokevirtual 83, 3) := by decide +kernel
theorem dX5_gate_108 : decode cX5_gate 108 = .ok (.iload 4, 2) := by decide +kernel
theorem dX5_gate_110 : decode cX5_gate 110 = .ok (.iload 5, 2) := by decide +kernel
theorem dX5_gate_112 : decode cX5_gate 112 = .ok (.invokevirtual 172, 3) := by decide +kernel
theorem dX5_gate_115 : decode cX5_gate 115 = .ok (.iload_n 3, 1) := by decide +kernel
theorem dX5_gate_116 : decode cX5_gate 116 = .ok (.iconst 2, 1) := by decide +kernel
theorem dX5_gate_117 : decode cX5_gate 117 = .ok (.if_icmp .ne 13, 3) := by decide +kernel
theorem dX5_gate_120 : decode cX5_gate 120 = .ok (.aload_n 0, 1) := by decide +kernel
theorem dX5_gate_121 : decode cX5_gate 121 = .ok (.getfield 46, 3) := by decide +kernel
theorem dX5_gate_124 : decode cX5_gate 124 = .ok (.getfield 176, 3) := by decide +kernel
theorem dX5_gate_127 : decode cX5_gate 127 = .ok (.goto 10, 3) := by decide +kernel
theorem dX5_gate_130 : decode cX5_gate 130 = .ok (.aload_n 0, 1) := by decide +kernel
theorem dX5_gate_131 : decode cX5_gate 131 = .ok (.getfield 46, 3) := by decide +kernel
theorem dX5_gate_134 : decode cX5_gate 134 = .ok (.getfield 179, 3) := by decide +kernel
theorem dX5_gate_137 : decode cX5_gate 137 = .ok (.astore 6, 2) := by decide +kernel
theorem dX5_gate_139 : decode cX5_gate 139 = .ok (.iconst (-1), 1) := by decide +kernel
theorem dX5_gate_140 : decode cX5_gate 140 = .ok (.istore 7, 2) := by decide +kernel
theorem dX5_gate_142 : decode cX5_gate 142 = .ok (.iconst 0, 1) := by decide +kernel
theorem dX5_gate_143 : decode cX5_gate 143 = .ok (.istore 8, 2) := by decide +kernel
theorem dX5_gate_145 : decode cX5_gate 145 = .ok (.iload 8, 2) := by decide +kernel
theorem dX5_gate_147 : decode cX5_gate 147 = .ok (.bipush 16, 2) := by decide +kernel
theorem dX5_gate_149 : decode cX5_gate 149 = .ok (.if_icmp .ge 39, 3) := by decide +kernel
theorem dX5_gate_152 : decode cX5_gate 152 = .ok (.aload 6, 2) := by decide +kernel
theorem dX5_gate_154 : decode cX5_gate 154 = .ok (.iload 8, 2) := by decide +kernel
theorem dX5_gate_156 : decode cX5_gate 156 = .ok (.iaload, 1) := by decide +kernel
theorem dX5_gate_157 : decode cX5_gate 157 = .ok (.ifCond .lt 25, 3) := by decide +kernel
theorem dX5_gate_160 : decode cX5_gate 160 = .ok (.iload 7, 2) := by decide +kernel
theorem dX5_gate_162 : decode cX5_gate 162 = .ok (.ifCond .lt 16, 3) := by decide +kernel
theorem dX5_gate_165 : decode cX5_gate 165 = .ok (.aload 6, 2) := by decide +kernel
theorem dX5_gate_167 : decode cX5_gate 167 = .ok (.iload 8, 2) := by decide +kernel
theorem dX5_gate_169 : decode cX5_gate 169 = .ok (.iaload, 1) := by decide +kernel
theorem dX5_gate_170 : decode cX5_gate 170 = .ok (.aload 6, 2) := by decide +kernel
theorem dX5_gate_172 : decode cX5_gate 172 = .ok (.iload 7, 2) := by decide +kernel
theorem dX5_gate_174 : decode cX5_gate 174 = .ok (.iaload, 1) := by decide +kernel
theorem dX5_gate_175 : decode cX5_gate 175 = .ok (.if_icmp .ge 7, 3) := by decide +kernel
theorem dX5_gate_178 : decode cX5_gate 178 = .ok (.iload 8, 2) := by decide +kernel
theorem dX5_gate_180 : decode cX5_gate 180 = .ok (.istore 7, 2) := by decide +kernel
theorem dX5_gate_182 : decode cX5_gate 182 = .ok (.iinc 8 1, 3) := by decide +kernel
theorem dX5_gate_185 : decode cX5_gate 185 = .ok (.goto (-40), 3) := by decide +kernel
theorem dX5_gate_188 : decode cX5_gate 188 = .ok (.iload 7, 2) := by decide +kernel
theorem dX5_gate_190 : decode cX5_gate 190 = .ok (.ifCond .ge 11, 3) := by decide +kernel
theorem dX5_gate_193 : decode cX5_gate 193 = .ok (.aload_n 0, 1) := by decide +kernel
theorem dX5_gate_194 : decode cX5_gate 194 = .ok (.iconst 3, 1) := by decide +kernel
theorem dX5_gate_195 : decode cX5_gate 195 = .ok (.invokevirtual 65, 3) := by decide +kernel
theorem dX5_gate_198 : decode cX5_gate 198 = .ok (.goto 5, 3) := by decide +kernel
theorem dX5_gate_201 : decode cX5_gate 201 = .ok (.iload 7, 2) := by decide +kernel
theorem dX5_gate_203 : decode cX5_gate 203 = .ok (.ireturn, 1) := by decide +kernel
set_option maxRecDepth 20000 in
theorem ggX5_whose_X1_hasField : GoodIn wsX5_whose wsX1_hasField := goodIn_r _ [6, 7, 131, 132, 133, 134, 135, 136] (by decide +kernel) (by decide +kernel)
set_option maxRecDepth 20000 in
theorem gX5_whose_X1_hasField_n73 : GoodIn wsX5_whose (wsX1_hasField) := ggX5_whose_X1_hasField
set_option maxRecDepth 20000 in
theorem ggX5_whose_X5_finding : GoodIn wsX5_whose wsX5_finding := goodIn_r _ [12, 13, 14, 120, 121, 122, 123, 124, 125, 126, 127, 128, 129, 130] (by decide +kernel) (by decide +kernel)
set_option maxRecDepth 20000 in
theorem gX5_whose_X5_finding : GoodIn wsX5_whose (wsV RX5 65 RX5 yX5_finding wsX5_finding) := goodIn_app (goodIn_of _ (by decide +kernel)) ggX5_whose_X5_finding
set_option maxRecDepth 20000 in
theorem ggX5_whose_X5_furrowsOf : GoodIn wsX5_whose wsX5_furrowsOf := goodIn_r _ [18, 1, 19, 20, 4, 21, 22, 23, 24, 25, 26, 27, 28, 29, 30, 31, 32, 33, 34, 35, 36, 37, 38, 39, 40, 11, 41, 42, 43, 44, 45, 46, 47, 48, 49, 50, 51, 52, 53, 54, 55, 56, 57, 58, 59, 60, 61, 62, 63, 64, 65, 66, 67, 68, 69, 70, 71, 72, 73, 74, 75, 76, 77, 78, 79, 80, 81, 82, 83, 84, 85, 86, 87, 88, 89, 90, 91, 92, 93, 94, 95, 96, 97, 98, 99, 100, 101, 102, 103, 104, 105, 106, 107, 108, 109, 110, 111, 112, 113, 114, 120, 121, 122, 123, 124, 125, 126, 127, 128, 129, 130, 131, 132, 133, 134, 135, 136, 137, 138, 139, 140, 141, 142, 143, 144, 145, 146, 147, 148, 149, 150] (by decide +kernel) (by decide +kernel)
set_option maxRecDepth 20000 in
theorem gX5_whose_X5_furrowsOf : GoodIn wsX5_whose (wsV RX5 141 RX5 yX5_furrowsOf wsX5_furrowsOf) := goodIn_app (goodIn_of _ (by decide +kernel)) ggX5_whose_X5_furrowsOf
set_option maxRecDepth 20000 in
theorem ggX5_whose_X5_costOf : GoodIn wsX5_whose wsX5_costOf := goodIn_r _ [118, 2, 1, 119, 137, 138, 139, 140, 141, 142, 143, 144, 145, 146, 147, 148, 149, 150, 120, 121, 122, 123, 124, 125, 126, 127, 128, 129, 130, 131, 132, 133, 134, 135, 136] (by decide +kernel) (by decide +kernel)
set_option maxRecDepth 20000 in
theorem gX5_whose_X5_costOf : GoodIn wsX5_whose (wsV RX5 151 RX5 yX5_costOf wsX5_costOf) := goodIn_app (goodIn_of _ (by decide +kernel)) ggX5_whose_X5_costOf
theorem dX5_whose_0 : decode cX5_whose 0 = .ok (.aload_n 0, 1) := by decide +kernel
theorem dX5_whose_1 : decode cX5_whose 1 = .ok (.getfield 10, 3) := by decide +kernel
theorem dX5_whose_4 : decode cX5_whose 4 = .ok (.iload_n 1, 1) := by decide +kernel
theorem dX5_whose_5 : decode cX5_whose 5 = .ok (.invokevirtual 73, 3) := by decide +kernel
theorem dX5_whose_8 : decode cX5_whose 8 = .ok (.ifCond .ne 9, 3) := by decide +kernel
theorem dX5_whose_11 : decode cX5_whose 11 = .ok (.aload_n 0, 1) := by decide +kernel
theorem dX5_whose_12 : decode cX5_whose 12 = .ok (.iconst 0, 1) := by decide +kernel
theorem dX5_whose_13 : decode cX5_whose 13 = .ok (.invokevirtual 65, 3) := by decide +kernel
theorem dX5_whose_16 : decode cX5_whose 16 = .ok (.ireturn, 1) := by decide +kernel
theorem dX5_whose_17 : decode cX5_whose 17 = .ok (.ldc 168, 2) := by decide +kernel
theorem dX5_whose_19 : decode cX5_whose 19 = .ok (.istore_n 2, 1) := by decide +kernel
theorem dX5_whose_20 : decode cX5_whose 20 = .ok (.iconst (-1), 1) := by decide +kernel
theorem dX5_whose_21 : decode cX5_whose 21 = .ok (.istore_n 3, 1) := by decide +kernel
theorem dX5_whose_22 : decode cX5_whose 22 = .ok (.iconst 0, 1) := by decide +kernel
theorem dX5_whose_23 : decode cX5_whose 23 = .ok (.istore 4, 2) := by decide +kernel
theorem dX5_whose_25 : decode cX5_whose 25 = .ok (.iload 4, 2) := by decide +kernel
theorem dX5_whose_27 : decode cX5_whose 27 = .ok (.aload_n 0, 1) := by decide +kernel
theorem dX5_whose_28 : decode cX5_whose 28 = .ok (.getfield 10, 3) := by decide +kernel
theorem dX5_whose_31 : decode cX5_whose 31 = .ok (.getfield 110, 3) := by decide +kernel
theorem dX5_whose_34 : decode cX5_whose 34 = .ok (.if_icmp .ge 36, 3) := by decide +kernel
theorem dX5_whose_37 : decode cX5_whose 37 = .ok (.aload_n 0, 1) := by decide +kernel
theorem dX5_whose_38 : decode cX5_whose 38 = .ok (.iload 4, 2) := by decide +kernel
theorem dX5_whose_40 : decode cX5_whose 40 = .ok (.aload_n 0, 1) := by decide +kernel
theorem dX5_whose_41 : decode cX5_whose 41 = .ok (.iload 4, 2) := by decide +kernel
theorem dX5_whose_43 : decode cX5_whose 43 = .ok (.iload_n 1, 1) := by decide +kernel
theorem dX5_whose_44 : decode cX5_whose 44 = .ok (.invokevirtual 141, 3) := by decide +kernel
theorem dX5_whose_47 : decode cX5_whose 47 = .ok (.invokevirtual 151, 3) := by decide +kernel
theorem dX5_whose_50 : decode cX5_whose 50 = .ok (.istore 5, 2) := by decide +kernel
theorem dX5_whose_52 : decode cX5_whose 52 = .ok (.iload 5, 2) := by decide +kernel
theorem dX5_whose_54 : decode cX5_whose 54 = .ok (.iload_n 2, 1) := by decide +kernel
theorem dX5_whose_55 : decode cX5_whose 55 = .ok (.if_icmp .ge 9, 3) := by decide +kernel
theorem dX5_whose_58 : decode cX5_whose 58 = .ok (.iload 5, 2) := by decide +kernel
theorem dX5_whose_60 : decode cX5_whose 60 = .ok (.istore_n 2, 1) := by decide +kernel
theorem dX5_whose_61 : decode cX5_whose 61 = .ok (.iload 4, 2) := by decide +kernel
theorem dX5_whose_63 : decode cX5_whose 63 = .ok (.istore_n 3, 1) := by decide +kernel
theorem dX5_whose_64 : decode cX5_whose 64 = .ok (.iinc 4 1, 3) := by decide +kernel
theorem dX5_whose_67 : decode cX5_whose 67 = .ok (.goto (-42), 3) := by decide +kernel
theorem dX5_whose_70 : decode cX5_whose 70 = .ok (.iload_n 3, 1) := by decide +kernel
theorem dX5_whose_71 : decode cX5_whose 71 = .ok (.ifCond .ge 11, 3) := by decide +kernel
theorem dX5_whose_74 : decode cX5_whose 74 = .ok (.aload_n 0, 1) := by decide +kernel
theorem dX5_whose_75 : decode cX5_whose 75 = .ok (.iconst 3, 1) := by decide +kernel
theorem dX5_whose_76 : decode cX5_whose 76 = .ok (.invokevirtual 65, 3) := by decide +kernel
theorem dX5_whose_79 : decode cX5_whose 79 = .ok (.goto 4, 3) := by decide +kernel
theorem dX5_whose_82 : decode cX5_whose 82 = .ok (.iload_n 3, 1) := by decide +kernel
theorem dX5_whose_83 : decode cX5_whose 83 = .ok (.ireturn, 1) := by decide +kernel
set_option maxRecDepth 20000 in
theorem ggX5_lines_X1_hasTeam : GoodIn wsX5_lines wsX1_hasTeam := goodIn_r _ [6, 7, 180, 181, 182, 183, 184, 185] (by decide +kernel) (by decide +kernel)
set_option maxRecDepth 20000 in
theorem gX5_lines_X1_hasTeam_n116 : GoodIn wsX5_lines (wsX1_hasTeam) := ggX5_lines_X1_hasTeam
set_option maxRecDepth 20000 in
theorem ggX5_lines_X5_finding : GoodIn wsX5_lines wsX5_finding := goodIn_r _ [12, 13, 14, 156, 157, 158, 159, 160, 161, 162, 163, 164, 165, 166] (by decide +kernel) (by decide +kernel)
set_option maxRecDepth 20000 in
theorem gX5_lines_X5_finding : GoodIn wsX5_lines (wsV RX5 65 RX5 yX5_finding wsX5_finding) := goodIn_app (goodIn_of _ (by decide +kernel)) ggX5_lines_X5_finding
set_option maxRecDepth 20000 in
theorem ggX5_lines_X5_goThrough : GoodIn wsX5_lines wsX5_goThrough := goodIn_r _ [18, 2, 1, 19, 20, 21, 11, 22, 23, 24, 4, 25, 26, 27, 28, 29, 30, 31, 32, 33, 34, 35, 36, 37, 38, 39, 40, 41, 42, 43, 44, 45, 46, 47, 48, 49, 50, 51, 52, 53, 54, 55, 56, 57, 58, 59, 60, 61, 62, 63, 64, 65, 66, 67, 68, 69, 70, 71, 72, 73, 74, 75, 76, 77, 78, 79, 80, 81, 82, 83, 84, 85, 86, 87, 88, 89, 90, 91, 92, 93, 94, 95, 96, 97, 98, 99, 100, 101, 102, 103, 104, 105, 106, 107, 108, 109, 110, 111, 112, 113, 114, 115, 116, 117, 118, 119, 120, 121, 122, 123, 124, 125, 126, 127, 128, 129, 130, 131, 132, 133, 134, 135, 136, 137, 138, 139, 140, 141, 142, 143, 144, 145, 146, 147, 148, 149, 150, 151, 152, 153, 154, 155, 156, 157, 158, 159, 160, 161, 162, 163, 164, 165, 166, 180, 181, 182, 183, 184, 185, 167, 168, 169, 170, 171, 172, 173, 174, 175, 176, 177, 178, 179, 186, 187, 188, 189, 190, 191, 192, 193, 194, 195, 196, 197, 198, 199] (by decide +kernel) (by decide +kernel)
set_option maxRecDepth 20000 in
theorem gX5_lines_X5_goThrough : GoodIn wsX5_lines (wsV RX5 182 RX5 yX5_goThrough wsX5_goThrough) := goodIn_app (goodIn_of _ (by decide +kernel)) ggX5_lines_X5_goThrough
theorem dX5_lines_0 : decode cX5_lines 0 = .ok (.aload_n 0, 1) := by decide +kernel
theorem dX5_lines_1 : decode cX5_lines 1 = .ok (.getfield 10, 3) := by decide +kernel
theorem dX5_lines_4 : decode cX5_lines 4 = .ok (.iload_n 1, 1) := by decide +kernel
theorem dX5_lines_5 : decode cX5_lines 5 = .ok (.invokevirtual 116, 3) := by decide +kernel
theorem dX5_lines_8 : decode cX5_lines 8 = .ok (.ifCond .ne 9, 3) := by decide +kernel
theorem dX5_lines_11 : decode cX5_lines 11 = .ok (.aload_n 0, 1) := by decide +kernel
theorem dX5_lines_12 : decode cX5_lines 12 = .ok (.iconst 0, 1) := by decide +kernel
theorem dX5_lines_13 : decode cX5_lines 13 = .ok (.invokevirtual 65, 3) := by decide +kernel
theorem dX5_lines_16 : decode cX5_lines 16 = .ok (.ireturn, 1) := by decide +kernel
theorem dX5_lines_17 : decode cX5_lines 17 = .ok (.aload_n 0, 1) := by decide +kernel
theorem dX5_lines_18 : decode cX5_lines 18 = .ok (.iload_n 1, 1) := by decide +kernel
theorem dX5_lines_19 : decode cX5_lines 19 = .ok (.invokevirtual 182, 3) := by decide +kernel
theorem dX5_lines_22 : decode cX5_lines 22 = .ok (.aload_n 0, 1) := by decide +kernel
theorem dX5_lines_23 : decode cX5_lines 23 = .ok (.getfield 53, 3) := by decide +kernel
theorem dX5_lines_26 : decode cX5_lines 26 = .ok (.getfield 186, 3) := by decide +kernel
theorem dX5_lines_29 : decode cX5_lines 29 = .ok (.ireturn, 1) := by decide +kernel
set_option maxRecDepth 20000 in
theorem ggX5_late_X1_hasTeam : GoodIn wsX5_late wsX1_hasTeam := goodIn_r _ [6, 7, 180, 181, 182, 183, 184, 185] (by decide +kernel) (by decide +kernel)
set_option maxRecDepth 20000 in
theorem gX5_late_X1_hasTeam_n116 : GoodIn wsX5_late (wsX1_hasTeam) := ggX5_late_X1_hasTeam
set_option maxRecDepth 20000 in
theorem ggX5_late_X5_finding : GoodIn wsX5_late wsX5_finding := goodIn_r _ [12, 13, 14, 156, 157, 158, 159, 160, 161, 162, 163, 164, 165, 166] (by decide +kernel) (by decide +kernel)
set_option maxRecDepth 20000 in
theorem gX5_late_X5_finding : GoodIn wsX5_late (wsV RX5 65 RX5 yX5_finding wsX5_finding) := goodIn_app (goodIn_of _ (by decide +kernel)) ggX5_late_X5_finding
set_option maxRecDepth 20000 in
theorem ggX5_late_X5_goThrough : GoodIn wsX5_late wsX5_goThrough := goodIn_r _ [18, 2, 1, 19, 20, 21, 11, 22, 23, 24, 4, 25, 26, 27, 28, 29, 30, 31, 32, 33, 34, 35, 36, 37, 38, 39, 40, 41, 42, 43, 44, 45, 46, 47, 48, 49, 50, 51, 52, 53, 54, 55, 56, 57, 58, 59, 60, 61, 62, 63, 64, 65, 66, 67, 68, 69, 70, 71, 72, 73, 74, 75, 76, 77, 78, 79, 80, 81, 82, 83, 84, 85, 86, 87, 88, 89, 90, 91, 92, 93, 94, 95, 96, 97, 98, 99, 100, 101, 102, 103, 104, 105, 106, 107, 108, 109, 110, 111, 112, 113, 114, 115, 116, 117, 118, 119, 120, 121, 122, 123, 124, 125, 126, 127, 128, 129, 130, 131, 132, 133, 134, 135, 136, 137, 138, 139, 140, 141, 142, 143, 144, 145, 146, 147, 148, 149, 150, 151, 152, 153, 154, 155, 156, 157, 158, 159, 160, 161, 162, 163, 164, 165, 166, 180, 181, 182, 183, 184, 185, 167, 168, 169, 170, 171, 172, 173, 174, 175, 176, 177, 178, 179, 186, 187, 188, 189, 190, 191, 192, 193, 194, 195, 196, 197, 198, 199] (by decide +kernel) (by decide +kernel)
set_option maxRecDepth 20000 in
theorem gX5_late_X5_goThrough : GoodIn wsX5_late (wsV RX5 182 RX5 yX5_goThrough wsX5_goThrough) := goodIn_app (goodIn_of _ (by decide +kernel)) ggX5_late_X5_goThrough
theorem dX5_late_0 : decode cX5_late 0 = .ok (.aload_n 0, 1) := by decide +kernel
theorem dX5_late_1 : decode cX5_late 1 = .ok (.getfield 10, 3) := by decide +kernel
theorem dX5_late_4 : decode cX5_late 4 = .ok (.iload_n 1, 1) := by decide +kernel
theorem dX5_late_5 : decode cX5_late 5 = .ok (.invokevirtual 116, 3) := by decide +kernel
theorem dX5_late_8 : decode cX5_late 8 = .ok (.ifCond .eq 15, 3) := by decide +kernel
theorem dX5_late_11 : decode cX5_late 11 = .ok (.iload_n 2, 1) := by decide +kernel
theorem dX5_late_12 : decode cX5_late 12 = .ok (.bipush (-2), 2) := by decide +kernel
theorem dX5_late_14 : decode cX5_late 14 = .ok (.if_icmp .lt 9, 3) := by decide +kernel
theorem dX5_late_17 : decode cX5_late 17 = .ok (.iload_n 2, 1) := by decide +kernel
theorem dX5_late_18 : decode cX5_late 18 = .ok (.bipush 6, 2) := by decide +kernel
theorem dX5_late_20 : decode cX5_late 20 = .ok (.if_icmp .lt 9, 3) := by decide +kernel
theorem dX5_late_23 : decode cX5_late 23 = .ok (.aload_n 0, 1) := by decide +kernel
theorem dX5_late_24 : decode cX5_late 24 = .ok (.iconst 0, 1) := by decide +kernel
theorem dX5_late_25 : decode cX5_late 25 = .ok (.invokevirtual 65, 3) := by decide +kernel
theorem dX5_late_28 : decode cX5_late 28 = .ok (.ireturn, 1) := by decide +kernel
theorem dX5_late_29 : decode cX5_late 29 = .ok (.aload_n 0, 1) := by decide +kernel
theorem dX5_late_30 : decode cX5_late 30 = .ok (.iload_n 1, 1) := by decide +kernel
theorem dX5_late_31 : decode cX5_late 31 = .ok (.invokevirtual 182, 3) := by decide +kernel
theorem dX5_late_34 : decode cX5_late 34 = .ok (.aload_n 0, 1) := by decide +kernel
theorem dX5_late_35 : decode cX5_late 35 = .ok (.getfield 53, 3) := by decide +kernel
theorem dX5_late_38 : decode cX5_late 38 = .ok (.getfield 186, 3) := by decide +kernel
theorem dX5_late_41 : decode cX5_late 41 = .ok (.ifCond .eq 14, 3) := by decide +kernel
theorem dX5_late_44 : decode cX5_late 44 = .ok (.iload_n 2, 1) := by decide +kernel
theorem dX5_late_45 : decode cX5_late 45 = .ok (.aload_n 0, 1) := by decide +kernel
theorem dX5_late_46 : decode cX5_late 46 = .ok (.getfield 10, 3) := by decide +kernel
theorem dX5_late_49 : decode cX5_late 49 = .ok (.getfield 61, 3) := by decide +kernel
theorem dX5_late_52 : decode cX5_late 52 = .ok (.if_icmp .lt 9, 3) := by decide +kernel
theorem dX5_late_55 : decode cX5_late 55 = .ok (.aload_n 0, 1) := by decide +kernel
theorem dX5_late_56 : decode cX5_late 56 = .ok (.iconst 3, 1) := by decide +kernel
theorem dX5_late_57 : decode cX5_late 57 = .ok (.invokevirtual 65, 3) := by decide +kernel
theorem dX5_late_60 : decode cX5_late 60 = .ok (.ireturn, 1) := by decide +kernel
theorem dX5_late_61 : decode cX5_late 61 = .ok (.iload_n 2, 1) := by decide +kernel
theorem dX5_late_62 : decode cX5_late 62 = .ok (.iconst (-1), 1) := by decide +kernel
theorem dX5_late_63 : decode cX5_late 63 = .ok (.if_icmp .ne 11, 3) := by decide +kernel
theorem dX5_late_66 : decode cX5_late 66 = .ok (.aload_n 0, 1) := by decide +kernel
theorem dX5_late_67 : decode cX5_late 67 = .ok (.getfield 53, 3) := by decide +kernel
theorem dX5_late_70 : decode cX5_late 70 = .ok (.getfield 189, 3) := by decide +kernel
theorem dX5_late_73 : decode cX5_late 73 = .ok (.ireturn, 1) := by decide +kernel
theorem dX5_late_74 : decode cX5_late 74 = .ok (.iload_n 2, 1) := by decide +kernel
theorem dX5_late_75 : decode cX5_late 75 = .ok (.bipush (-2), 2) := by decide +kernel
theorem dX5_late_77 : decode cX5_late 77 = .ok (.if_icmp .ne 13, 3) := by decide +kernel
theorem dX5_late_80 : decode cX5_late 80 = .ok (.aload_n 0, 1) := by decide +kernel
theorem dX5_late_81 : decode cX5_late 81 = .ok (.getfield 53, 3) := by decide +kernel
theorem dX5_late_84 : decode cX5_late 84 = .ok (.getfield 192, 3) := by decide +kernel
theorem dX5_late_87 : decode cX5_late 87 = .ok (.goto 12, 3) := by decide +kernel
theorem dX5_late_90 : decode cX5_late 90 = .ok (.aload_n 0, 1) := by decide +kernel
theorem dX5_late_91 : decode cX5_late 91 = .ok (.getfield 53, 3) := by decide +kernel
theorem dX5_late_94 : decode cX5_late 94 = .ok (.getfield 195, 3) := by decide +kernel
theorem dX5_late_97 : decode cX5_late 97 = .ok (.iload_n 2, 1) := by decide +kernel
theorem dX5_late_98 : decode cX5_late 98 = .ok (.iaload, 1) := by decide +kernel
theorem dX5_late_99 : decode cX5_late 99 = .ok (.ireturn, 1) := by decide +kernel
set_option maxRecDepth 20000 in
theorem ggX5_done_X1_hasTeam : GoodIn wsX5_done wsX1_hasTeam := goodIn_r _ [6, 7, 184, 185, 186, 187, 188, 189] (by decide +kernel) (by decide +kernel)
set_option maxRecDepth 20000 in
theorem gX5_done_X1_hasTeam_n116 : GoodIn wsX5_done (wsX1_hasTeam) := ggX5_done_X1_hasTeam
set_option maxRecDepth 20000 in
theorem ggX5_done_X1_hasField : GoodIn wsX5_done wsX1_hasField := goodIn_r _ [10, 11, 184, 185, 186, 187, 188, 189] (by decide +kernel) (by decide +kernel)
set_option maxRecDepth 20000 in
theorem gX5_done_X1_hasField_n73 : GoodIn wsX5_done (wsX1_hasField) := ggX5_done_X1_hasField
set_option maxRecDepth 20000 in
theorem ggX5_done_X5_finding : GoodIn wsX5_done wsX5_finding := goodIn_r _ [16, 17, 18, 160, 161, 162, 163, 164, 165, 166, 167, 168, 169, 170] (by decide +kernel) (by decide +kernel)
set_option maxRecDepth 20000 in
theorem gX5_done_X5_finding : GoodIn wsX5_done (wsV RX5 65 RX5 yX5_finding wsX5_finding) := goodIn_app (goodIn_of _ (by decide +kernel)) ggX5_done_X5_finding
set_option maxRecDepth 20000 in
theorem ggX5_done_X5_goThrough : GoodIn wsX5_done wsX5_goThrough := goodIn_r _ [22, 2, 1, 23, 24, 25, 15, 26, 27, 28, 4, 29, 30, 31, 32, 33, 34, 35, 36, 37, 38, 39, 40, 41, 42, 43, 44, 45, 46, 47, 48, 49, 50, 51, 52, 53, 54, 55, 56, 57, 58, 59, 60, 61, 62, 63, 64, 65, 66, 67, 68, 69, 70, 71, 72, 73, 74, 75, 76, 77, 78, 79, 80, 81, 82, 83, 84, 85, 86, 87, 88, 89, 90, 91, 92, 93, 94, 95, 96, 97, 98, 99, 100, 101, 102, 103, 104, 105, 106, 107, 108, 109, 110, 111, 112, 113, 114, 115, 116, 117, 118, 119, 120, 121, 122, 123, 124, 125, 126, 127, 128, 129, 130, 131, 132, 133, 134, 135, 136, 137, 138, 139, 140, 141, 142, 143, 144, 145, 146, 147, 148, 149, 150, 151, 152, 153, 154, 155, 156, 157, 158, 159, 160, 161, 162, 163, 164, 165, 166, 167, 168, 169, 170, 184, 185, 186, 187, 188, 189, 171, 172, 173, 174, 175, 176, 177, 178, 179, 180, 181, 182, 183, 190, 191, 192, 193, 194, 195, 196, 197, 198, 199, 200, 201, 202, 203] (by decide +kernel) (by decide +kernel)
set_option maxRecDepth 20000 in
theorem gX5_done_X5_goThrough : GoodIn wsX5_done (wsV RX5 182 RX5 yX5_goThrough wsX5_goThrough) := goodIn_app (goodIn_of _ (by decide +kernel)) ggX5_done_X5_goThrough
theorem dX5_done_0 : decode cX5_done 0 = .ok (.aload_n 0, 1) := by decide +kernel
theorem dX5_done_1 : decode cX5_done 1 = .ok (.getfield 10, 3) := by decide +kernel
theorem dX5_done_4 : decode cX5_done 4 = .ok (.iload_n 1, 1) := by decide +kernel
theorem dX5_done_5 : decode cX5_done 5 = .ok (.invokevirtual 116, 3) := by decide +kernel
theorem dX5_done_8 : decode cX5_done 8 = .ok (.ifCond .eq 14, 3) := by decide +kernel
theorem dX5_done_11 : decode cX5_done 11 = .ok (.aload_n 0, 1) := by decide +kernel
theorem dX5_done_12 : decode cX5_done 12 = .ok (.getfield 10, 3) := by decide +kernel
theorem dX5_done_15 : decode cX5_done 15 = .ok (.iload_n 2, 1) := by decide +kernel
theorem dX5_done_16 : decode cX5_done 16 = .ok (.invokevirtual 73, 3) := by decide +kernel
theorem dX5_done_19 : decode cX5_done 19 = .ok (.ifCond .ne 9, 3) := by decide +kernel
theorem dX5_done_22 : decode cX5_done 22 = .ok (.aload_n 0, 1) := by decide +kernel
theorem dX5_done_23 : decode cX5_done 23 = .ok (.iconst 0, 1) := by decide +kernel
theorem dX5_done_24 : decode cX5_done 24 = .ok (.invokevirtual 65, 3) := by decide +kernel
theorem dX5_done_27 : decode cX5_done 27 = .ok (.ireturn, 1) := by decide +kernel
theorem dX5_done_28 : decode cX5_done 28 = .ok (.aload_n 0, 1) := by decide +kernel
theorem dX5_done_29 : decode cX5_done 29 = .ok (.iload_n 1, 1) := by decide +kernel
theorem dX5_done_30 : decode cX5_done 30 = .ok (.invokevirtual 182, 3) := by decide +kernel
theorem dX5_done_33 : decode cX5_done 33 = .ok (.aload_n 0, 1) := by decide +kernel
theorem dX5_done_34 : decode cX5_done 34 = .ok (.getfield 53, 3) := by decide +kernel
theorem dX5_done_37 : decode cX5_done 37 = .ok (.getfield 186, 3) := by decide +kernel
theorem dX5_done_40 : decode cX5_done 40 = .ok (.ifCond .ne 11, 3) := by decide +kernel
theorem dX5_done_43 : decode cX5_done 43 = .ok (.aload_n 0, 1) := by decide +kernel
theorem dX5_done_44 : decode cX5_done 44 = .ok (.iconst 3, 1) := by decide +kernel
theorem dX5_done_45 : decode cX5_done 45 = .ok (.invokevirtual 65, 3) := by decide +kernel
theorem dX5_done_48 : decode cX5_done 48 = .ok (.goto 12, 3) := by decide +kernel
theorem dX5_done_51 : decode cX5_done 51 = .ok (.aload_n 0, 1) := by decide +kernel
theorem dX5_done_52 : decode cX5_done 52 = .ok (.getfield 53, 3) := by decide +kernel
theorem dX5_done_55 : decode cX5_done 55 = .ok (.getfield 198, 3) := by decide +kernel
theorem dX5_done_58 : decode cX5_done 58 = .ok (.iload_n 2, 1) := by decide +kernel
theorem dX5_done_59 : decode cX5_done 59 = .ok (.iaload, 1) := by decide +kernel
theorem dX5_done_60 : decode cX5_done 60 = .ok (.ireturn, 1) := by decide +kernel
set_option maxRecDepth 20000 in
theorem ggX5_yields_X1_hasTeam : GoodIn wsX5_yields wsX1_hasTeam := goodIn_r _ [6, 7, 180, 181, 182, 183, 184, 185] (by decide +kernel) (by decide +kernel)
set_option maxRecDepth 20000 in
theorem gX5_yields_X1_hasTeam_n116 : GoodIn wsX5_yields (wsX1_hasTeam) := ggX5_yields_X1_hasTeam
set_option maxRecDepth 20000 in
theorem ggX5_yields_X5_finding : GoodIn wsX5_yields wsX5_finding := goodIn_r _ [12, 13, 14, 156, 157, 158, 159, 160, 161, 162, 163, 164, 165, 166] (by decide +kernel) (by decide +kernel)
set_option maxRecDepth 20000 in
theorem gX5_yields_X5_finding : GoodIn wsX5_yields (wsV RX5 65 RX5 yX5_finding wsX5_finding) := goodIn_app (goodIn_of _ (by decide +kernel)) ggX5_yields_X5_finding
set_option maxRecDepth 20000 in
theorem ggX5_yields_X5_goThrough : GoodIn wsX5_yields wsX5_goThrough := goodIn_r _ [18, 2, 1, 19, 20, 21, 11, 22, 23, 24, 4, 25, 26, 27, 28, 29, 30, 31, 32, 33, 34, 35, 36, 37, 38, 39, 40, 41, 42, 43, 44, 45, 46, 47, 48, 49, 50, 51, 52, 53, 54, 55, 56, 57, 58, 59, 60, 61, 62, 63, 64, 65, 66, 67, 68, 69, 70, 71, 72, 73, 74, 75, 76, 77, 78, 79, 80, 81, 82, 83, 84, 85, 86, 87, 88, 89, 90, 91, 92, 93, 94, 95, 96, 97, 98, 99, 100, 101, 102, 103, 104, 105, 106, 107, 108, 109, 110, 111, 112, 113, 114, 115, 116, 117, 118, 119, 120, 121, 122, 123, 124, 125, 126, 127, 128, 129, 130, 131, 132, 133, 134, 135, 136, 137, 138, 139, 140, 141, 142, 143, 144, 145, 146, 147, 148, 149, 150, 151, 152, 153, 154, 155, 156, 157, 158, 159, 160, 161, 162, 163, 164, 165, 166, 180, 181, 182, 183, 184, 185, 167, 168, 169, 170, 171, 172, 173, 174, 175, 176, 177, 178, 179, 186, 187, 188, 189, 190, 191, 192, 193, 194, 195, 196, 197, 198, 199] (by decide +kernel) (by decide +kernel)
set_option maxRecDepth 20000 in
theorem gX5_yields_X5_goThrough : GoodIn wsX5_yields (wsV RX5 182 RX5 yX5_goThrough wsX5_goThrough) := goodIn_app (goodIn_of _ (by decide +kernel)) ggX5_yields_X5_goThrough
theorem dX5_yields_0 : decode cX5_yields 0 = .ok (.aload_n 0, 1) := by decide +kernel
theorem dX5_yields_1 : decode cX5_yields 1 = .ok (.getfield 10, 3) := by decide +kernel
theorem dX5_yields_4 : decode cX5_yields 4 = .ok (.iload_n 1, 1) := by decide +kernel
theorem dX5_yields_5 : decode cX5_yields 5 = .ok (.invokevirtual 116, 3) := by decide +kernel
theorem dX5_yields_8 : decode cX5_yields 8 = .ok (.ifCond .ne 9, 3) := by decide +kernel
theorem dX5_yields_11 : decode cX5_yields 11 = .ok (.aload_n 0, 1) := by decide +kernel
theorem dX5_yields_12 : decode cX5_yields 12 = .ok (.iconst 0, 1) := by decide +kernel
theorem dX5_yields_13 : decode cX5_yields 13 = .ok (.invokevirtual 65, 3) := by decide +kernel
theorem dX5_yields_16 : decode cX5_yields 16 = .ok (.ireturn, 1) := by decide +kernel
theorem dX5_yields_17 : decode cX5_yields 17 = .ok (.aload_n 0, 1) := by decide +kernel
theorem dX5_yields_18 : decode cX5_yields 18 = .ok (.iload_n 1, 1) := by decide +kernel
theorem dX5_yields_19 : decode cX5_yields 19 = .ok (.invokevirtual 182, 3) := by decide +kernel
theorem dX5_yields_22 : decode cX5_yields 22 = .ok (.aload_n 0, 1) := by decide +kernel
theorem dX5_yields_23 : decode cX5_yields 23 = .ok (.getfield 53, 3) := by decide +kernel
theorem dX5_yields_26 : decode cX5_yields 26 = .ok (.getfield 186, 3) := by decide +kernel
theorem dX5_yields_29 : decode cX5_yields 29 = .ok (.ifCond .ne 11, 3) := by decide +kernel
theorem dX5_yields_32 : decode cX5_yields 32 = .ok (.aload_n 0, 1) := by decide +kernel
theorem dX5_yields_33 : decode cX5_yields 33 = .ok (.iconst 3, 1) := by decide +kernel
theorem dX5_yields_34 : decode cX5_yields 34 = .ok (.invokevirtual 65, 3) := by decide +kernel
theorem dX5_yields_37 : decode cX5_yields 37 = .ok (.goto 10, 3) := by decide +kernel
theorem dX5_yields_40 : decode cX5_yields 40 = .ok (.aload_n 0, 1) := by decide +kernel
theorem dX5_yields_41 : decode cX5_yields 41 = .ok (.getfield 53, 3) := by decide +kernel
theorem dX5_yields_44 : decode cX5_yields 44 = .ok (.getfield 201, 3) := by decide +kernel
theorem dX5_yields_47 : decode cX5_yields 47 = .ok (.ireturn, 1) := by decide +kernel
set_option maxRecDepth 20000 in
theorem ggX5_row_X1_hasTeam : GoodIn wsX5_row wsX1_hasTeam := goodIn_r _ [6, 7, 134, 135, 136, 137, 138, 139] (by decide +kernel) (by decide +kernel)
set_option maxRecDepth 20000 in
theorem gX5_row_X1_hasTeam_n116 : GoodIn wsX5_row (wsX1_hasTeam) := ggX5_row_X1_hasTeam
set_option maxRecDepth 20000 in
theorem ggX5_row_X5_takeRow : GoodIn wsX5_row wsX5_takeRow := goodIn_r _ [12, 2, 1, 13, 4, 14, 15, 16, 123, 124, 125, 126, 127, 128, 129, 130, 131, 132, 133, 134, 135, 136, 137, 138, 139] (by decide +kernel) (by decide +kernel)
set_option maxRecDepth 20000 in
theorem gX5_row_X5_takeRow : GoodIn wsX5_row (wsV RX5 204 RX5 yX5_takeRow wsX5_takeRow) := goodIn_app (goodIn_of _ (by decide +kernel)) ggX5_row_X5_takeRow
set_option maxRecDepth 20000 in
theorem ggX5_row_X5_finding : GoodIn wsX5_row wsX5_finding := goodIn_r _ [20, 21, 22, 123, 124, 125, 126, 127, 128, 129, 130, 131, 132, 133] (by decide +kernel) (by decide +kernel)
set_option maxRecDepth 20000 in
theorem gX5_row_X5_finding : GoodIn wsX5_row (wsV RX5 65 RX5 yX5_finding wsX5_finding) := goodIn_app (goodIn_of _ (by decide +kernel)) ggX5_row_X5_finding
set_option maxRecDepth 20000 in
theorem ggX5_row_X5_holds : GoodIn wsX5_row wsX5_holds := goodIn_r _ [25] (by decide +kernel) (by decide +kernel)
set_option maxRecDepth 20000 in
theorem gX5_row_X5_holds : GoodIn wsX5_row (va_wsS RX5 100 yX5_holds wsX5_holds) := goodIn_app (goodIn_of _ (by decide +kernel)) ggX5_row_X5_holds
set_option maxRecDepth 20000 in
theorem ggX5_row_X5_furrowsOf : GoodIn wsX5_row wsX5_furrowsOf := goodIn_r _ [29, 1, 30, 31, 4, 32, 33, 34, 35, 36, 37, 38, 39, 40, 41, 42, 43, 44, 45, 46, 47, 48, 49, 50, 51, 11, 52, 53, 54, 55, 56, 57, 58, 59, 60, 61, 62, 63, 64, 65, 66, 67, 68, 69, 70, 71, 72, 73, 74, 75, 76, 77, 78, 79, 80, 81, 24, 25, 82, 83, 84, 85, 86, 87, 88, 89, 90, 91, 92, 23, 93, 94, 95, 96, 97, 98, 99, 100, 101, 102, 103, 104, 105, 106, 107, 108, 109, 110, 111, 112, 113, 114, 115, 116, 117, 118, 119, 120, 121, 122, 123, 124, 125, 126, 127, 128, 129, 130, 131, 132, 133, 134, 135, 136, 137, 138, 139, 140, 141, 142, 143, 144, 145, 146, 147, 148, 149, 150, 151, 152, 153] (by decide +kernel) (by decide +kernel)
set_option maxRecDepth 20000 in
theorem gX5_row_X5_furrowsOf : GoodIn wsX5_row (wsV RX5 141 RX5 yX5_furrowsOf wsX5_furrowsOf) := goodIn_app (goodIn_of _ (by decide +kernel)) ggX5_row_X5_furrowsOf
theorem dX5_row_0 : decode cX5_row 0 = .ok (.aload_n 0, 1) := by decide +kernel
theorem dX5_row_1 : decode cX5_row 1 = .ok (.getfield 10, 3) := by decide +kernel
theorem dX5_row_4 : decode cX5_row 4 = .ok (.iload_n 1, 1) := by decide +kernel
theorem dX5_row_5 : decode cX5_row 5 = .ok (.invokevirtual 116, 3) := by decide +kernel
theorem dX5_row_8 : decode cX5_row 8 = .ok (.ifCond .eq 22, 3) := by decide +kernel
theorem dX5_row_11 : decode cX5_row 11 = .ok (.iload_n 3, 1) := by decide +kernel
theorem dX5_row_12 : decode cX5_row 12 = .ok (.ifCond .lt 18, 3) := by decide +kernel
theorem dX5_row_15 : decode cX5_row 15 = .ok (.iload_n 3, 1) := by decide +kernel
theorem dX5_row_16 : decode cX5_row 16 = .ok (.bipush 6, 2) := by decide +kernel
theorem dX5_row_18 : decode cX5_row 18 = .ok (.if_icmp .gt 12, 3) := by decide +kernel
theorem dX5_row_21 : decode cX5_row 21 = .ok (.aload_n 0, 1) := by decide +kernel
theorem dX5_row_22 : decode cX5_row 22 = .ok (.iload_n 2, 1) := by decide +kernel
theorem dX5_row_23 : decode cX5_row 23 = .ok (.iload_n 3, 1) := by decide +kernel
theorem dX5_row_24 : decode cX5_row 24 = .ok (.invokevirtual 204, 3) := by decide +kernel
theorem dX5_row_27 : decode cX5_row 27 = .ok (.ifCond .ne 9, 3) := by decide +kernel
theorem dX5_row_30 : decode cX5_row 30 = .ok (.aload_n 0, 1) := by decide +kernel
theorem dX5_row_31 : decode cX5_row 31 = .ok (.iconst 0, 1) := by decide +kernel
theorem dX5_row_32 : decode cX5_row 32 = .ok (.invokevirtual 65, 3) := by decide +kernel
theorem dX5_row_35 : decode cX5_row 35 = .ok (.ireturn, 1) := by decide +kernel
theorem dX5_row_36 : decode cX5_row 36 = .ok (.iconst 0, 1) := by decide +kernel
theorem dX5_row_37 : decode cX5_row 37 = .ok (.istore 4, 2) := by decide +kernel
theorem dX5_row_39 : decode cX5_row 39 = .ok (.iconst 0, 1) := by decide +kernel
theorem dX5_row_40 : decode cX5_row 40 = .ok (.istore 5, 2) := by decide +kernel
theorem dX5_row_42 : decode cX5_row 42 = .ok (.iload 5, 2) := by decide +kernel
theorem dX5_row_44 : decode cX5_row 44 = .ok (.iload_n 3, 1) := by decide +kernel
theorem dX5_row_45 : decode cX5_row 45 = .ok (.if_icmp .ge 95, 3) := by decide +kernel
theorem dX5_row_48 : decode cX5_row 48 = .ok (.aload_n 0, 1) := by decide +kernel
theorem dX5_row_49 : decode cX5_row 49 = .ok (.getfield 57, 3) := by decide +kernel
theorem dX5_row_52 : decode cX5_row 52 = .ok (.iload 5, 2) := by decide +kernel
theorem dX5_row_54 : decode cX5_row 54 = .ok (.iaload, 1) := by decide +kernel
theorem dX5_row_55 : decode cX5_row 55 = .ok (.istore 6, 2) := by decide +kernel
theorem dX5_row_57 : decode cX5_row 57 = .ok (.iload 5, 2) := by decide +kernel
theorem dX5_row_59 : decode cX5_row 59 = .ok (.ifCond .eq 28, 3) := by decide +kernel
theorem dX5_row_62 : decode cX5_row 62 = .ok (.aload_n 0, 1) := by decide +kernel
theorem dX5_row_63 : decode cX5_row 63 = .ok (.getfield 10, 3) := by decide +kernel
theorem dX5_row_66 : decode cX5_row 66 = .ok (.getfield 97, 3) := by decide +kernel
theorem dX5_row_69 : decode cX5_row 69 = .ok (.aload_n 0, 1) := by decide +kernel
theorem dX5_row_70 : decode cX5_row 70 = .ok (.getfield 57, 3) := by decide +kernel
theorem dX5_row_73 : decode cX5_row 73 = .ok (.iload 5, 2) := by decide +kernel
theorem dX5_row_75 : decode cX5_row 75 = .ok (.iconst 1, 1) := by decide +kernel
theorem dX5_row_76 : decode cX5_row 76 = .ok (.isub, 1) := by decide +kernel
theorem dX5_row_77 : decode cX5_row 77 = .ok (.iaload, 1) := by decide +kernel
theorem dX5_row_78 : decode cX5_row 78 = .ok (.iaload, 1) := by decide +kernel
theorem dX5_row_79 : decode cX5_row 79 = .ok (.iload 6, 2) := by decide +kernel
theorem dX5_row_81 : decode cX5_row 81 = .ok (.invokestatic 100, 3) := by decide +kernel
theorem dX5_row_84 : decode cX5_row 84 = .ok (.ifCond .eq 7, 3) := by decide +kernel
theorem dX5_row_87 : decode cX5_row 87 = .ok (.iconst 1, 1) := by decide +kernel
theorem dX5_row_88 : decode cX5_row 88 = .ok (.goto 4, 3) := by decide +kernel
theorem dX5_row_91 : decode cX5_row 91 = .ok (.iconst 0, 1) := by decide +kernel
theorem dX5_row_92 : decode cX5_row 92 = .ok (.istore 7, 2) := by decide +kernel
theorem dX5_row_94 : decode cX5_row 94 = .ok (.iload 7, 2) := by decide +kernel
theorem dX5_row_96 : decode cX5_row 96 = .ok (.ifCond .eq 26, 3) := by decide +kernel
theorem dX5_row_99 : decode cX5_row 99 = .ok (.iload 4, 2) := by decide +kernel
theorem dX5_row_101 : decode cX5_row 101 = .ok (.iload 6, 2) := by decide +kernel
theorem dX5_row_103 : decode cX5_row 103 = .ok (.invokestatic 100, 3) := by decide +kernel
theorem dX5_row_106 : decode cX5_row 106 = .ok (.ifCond .ne 16, 3) := by decide +kernel
theorem dX5_row_109 : decode cX5_row 109 = .ok (.aload_n 0, 1) := by decide +kernel
theorem dX5_row_110 : decode cX5_row 110 = .ok (.iload_n 1, 1) := by decide +kernel
theorem dX5_row_111 : decode cX5_row 111 = .ok (.iload 6, 2) := by decide +kernel
theorem dX5_row_113 : decode cX5_row 113 = .ok (.invokevirtual 141, 3) := by decide +kernel
theorem dX5_row_116 : decode cX5_row 116 = .ok (.getfield 145, 3) := by decide +kernel
theorem dX5_row_119 : decode cX5_row 119 = .ok (.ifCond .ne 6, 3) := by decide +kernel
theorem dX5_row_122 : decode cX5_row 122 = .ok (.iload 5, 2) := by decide +kernel
theorem dX5_row_124 : decode cX5_row 124 = .ok (.ireturn, 1) := by decide +kernel
theorem dX5_row_125 : decode cX5_row 125 = .ok (.iload 4, 2) := by decide +kernel
theorem dX5_row_127 : decode cX5_row 127 = .ok (.iconst 1, 1) := by decide +kernel
theorem dX5_row_128 : decode cX5_row 128 = .ok (.iload 6, 2) := by decide +kernel
theorem dX5_row_130 : decode cX5_row 130 = .ok (.ishl, 1) := by decide +kernel
theorem dX5_row_131 : decode cX5_row 131 = .ok (.ior, 1) := by decide +kernel
theorem dX5_row_132 : decode cX5_row 132 = .ok (.istore 4, 2) := by decide +kernel
theorem dX5_row_134 : decode cX5_row 134 = .ok (.iinc 5 1, 3) := by decide +kernel
theorem dX5_row_137 : decode cX5_row 137 = .ok (.goto (-95), 3) := by decide +kernel
theorem dX5_row_140 : decode cX5_row 140 = .ok (.iload_n 3, 1) := by decide +kernel
theorem dX5_row_141 : decode cX5_row 141 = .ok (.ireturn, 1) := by decide +kernel
set_option maxRecDepth 20000 in
theorem ggX5_lacks_X1_hasTeam : GoodIn wsX5_lacks wsX1_hasTeam := goodIn_r _ [6, 7, 167, 168, 169, 170, 171, 172] (by decide +kernel) (by decide +kernel)
set_option maxRecDepth 20000 in
theorem gX5_lacks_X1_hasTeam_n116 : GoodIn wsX5_lacks (wsX1_hasTeam) := ggX5_lacks_X1_hasTeam
set_option maxRecDepth 20000 in
theorem ggX5_lacks_X5_finding : GoodIn wsX5_lacks wsX5_finding := goodIn_r _ [12, 13, 14, 156, 157, 158, 159, 160, 161, 162, 163, 164, 165, 166] (by decide +kernel) (by decide +kernel)
set_option maxRecDepth 20000 in
theorem gX5_lacks_X5_finding : GoodIn wsX5_lacks (wsV RX5 65 RX5 yX5_finding wsX5_finding) := goodIn_app (goodIn_of _ (by decide +kernel)) ggX5_lacks_X5_finding
set_option maxRecDepth 20000 in
theorem ggX5_lacks_X5_goThrough : GoodIn wsX5_lacks wsX5_goThrough := goodIn_r _ [18, 2, 1, 19, 20, 21, 11, 22, 23, 24, 4, 25, 26, 27, 28, 29, 30, 31, 32, 33, 34, 35, 36, 37, 38, 39, 40, 41, 42, 43, 44, 45, 46, 47, 48, 49, 50, 51, 52, 53, 54, 55, 56, 57, 58, 59, 60, 61, 62, 63, 64, 65, 66, 67, 68, 69, 70, 71, 72, 73, 74, 75, 76, 77, 78, 79, 80, 81, 82, 83, 84, 85, 86, 87, 88, 89, 90, 91, 92, 93, 94, 95, 96, 97, 98, 99, 100, 101, 102, 103, 104, 105, 106, 107, 108, 109, 110, 111, 112, 113, 114, 115, 116, 117, 118, 119, 120, 121, 122, 123, 124, 125, 126, 127, 128, 129, 130, 131, 132, 133, 134, 135, 136, 137, 138, 139, 140, 141, 142, 143, 144, 145, 146, 147, 148, 149, 150, 151, 152, 153, 154, 155, 156, 157, 158, 159, 160, 161, 162, 163, 164, 165, 166, 167, 168, 169, 170, 171, 172, 173, 174, 175, 176, 177, 178, 179, 180, 181, 182, 183, 184, 185, 186, 187, 188, 189, 190, 191, 192, 193, 194, 195, 196, 197, 198, 199] (by decide +kernel) (by decide +kernel)
set_option maxRecDepth 20000 in
theorem gX5_lacks_X5_goThrough : GoodIn wsX5_lacks (wsV RX5 182 RX5 yX5_goThrough wsX5_goThrough) := goodIn_app (goodIn_of _ (by decide +kernel)) ggX5_lacks_X5_goThrough
set_option maxRecDepth 20000 in
theorem ggX5_lacks_X5_holds : GoodIn wsX5_lacks wsX5_holds := goodIn_r _ [76] (by decide +kernel) (by decide +kernel)
set_option maxRecDepth 20000 in
theorem gX5_lacks_X5_holds : GoodIn wsX5_lacks (va_wsS RX5 100 yX5_holds wsX5_holds) := goodIn_app (goodIn_of _ (by decide +kernel)) ggX5_lacks_X5_holds
set_option maxRecDepth 20000 in
theorem ggX5_lacks_X2_search : GoodIn wsX5_lacks wsX2_search := goodIn_r _ [128, 129, 130, 131, 132, 133, 134, 135, 126, 136, 137, 138, 139, 140, 141, 142, 143, 144, 145, 146, 147, 148, 149, 150, 151, 152, 153, 100, 101, 102, 154, 155, 75, 11, 76, 173, 174, 175, 176, 177, 178, 179, 180, 181, 182, 183, 184, 185] (by decide +kernel) (by decide +kernel)
set_option maxRecDepth 20000 in
theorem gX5_lacks_X2_search_n208 : GoodIn wsX5_lacks (wsX2_search) := ggX5_lacks_X2_search
theorem dX5_lacks_0 : decode cX5_lacks 0 = .ok (.aload_n 0, 1) := by decide +kernel
theorem dX5_lacks_1 : decode cX5_lacks 1 = .ok (.getfield 10, 3) := by decide +kernel
theorem dX5_lacks_4 : decode cX5_lacks 4 = .ok (.iload_n 1, 1) := by decide +kernel
theorem dX5_lacks_5 : decode cX5_lacks 5 = .ok (.invokevirtual 116, 3) := by decide +kernel
theorem dX5_lacks_8 : decode cX5_lacks 8 = .ok (.ifCond .ne 9, 3) := by decide +kernel
theorem dX5_lacks_11 : decode cX5_lacks 11 = .ok (.aload_n 0, 1) := by decide +kernel
theorem dX5_lacks_12 : decode cX5_lacks 12 = .ok (.iconst 0, 1) := by decide +kernel
theorem dX5_lacks_13 : decode cX5_lacks 13 = .ok (.invokevirtual 65, 3) := by decide +kernel
theorem dX5_lacks_16 : decode cX5_lacks 16 = .ok (.ireturn, 1) := by decide +kernel
theorem dX5_lacks_17 : decode cX5_lacks 17 = .ok (.aload_n 0, 1) := by decide +kernel
theorem dX5_lacks_18 : decode cX5_lacks 18 = .ok (.iload_n 1, 1) := by decide +kernel
theorem dX5_lacks_19 : decode cX5_lacks 19 = .ok (.invokevirtual 182, 3) := by decide +kernel
theorem dX5_lacks_22 : decode cX5_lacks 22 = .ok (.iconst 0, 1) := by decide +kernel
theorem dX5_lacks_23 : decode cX5_lacks 23 = .ok (.istore_n 2, 1) := by decide +kernel
theorem dX5_lacks_24 : decode cX5_lacks 24 = .ok (.iconst (-1), 1) := by decide +kernel
theorem dX5_lacks_25 : decode cX5_lacks 25 = .ok (.istore_n 3, 1) := by decide +kernel
theorem dX5_lacks_26 : decode cX5_lacks 26 = .ok (.iconst 0, 1) := by decide +kernel
theorem dX5_lacks_27 : decode cX5_lacks 27 = .ok (.istore 4, 2) := by decide +kernel
theorem dX5_lacks_29 : decode cX5_lacks 29 = .ok (.iload 4, 2) := by decide +kernel
theorem dX5_lacks_31 : decode cX5_lacks 31 = .ok (.aload_n 0, 1) := by decide +kernel
theorem dX5_lacks_32 : decode cX5_lacks 32 = .ok (.getfield 10, 3) := by decide +kernel
theorem dX5_lacks_35 : decode cX5_lacks 35 = .ok (.getfield 61, 3) := by decide +kernel
theorem dX5_lacks_38 : decode cX5_lacks 38 = .ok (.if_icmp .ge 144, 3) := by decide +kernel
theorem dX5_lacks_41 : decode cX5_lacks 41 = .ok (.iconst 0, 1) := by decide +kernel
theorem dX5_lacks_42 : decode cX5_lacks 42 = .ok (.istore 5, 2) := by decide +kernel
theorem dX5_lacks_44 : decode cX5_lacks 44 = .ok (.iload 5, 2) := by decide +kernel
theorem dX5_lacks_46 : decode cX5_lacks 46 = .ok (.aload_n 0, 1) := by decide +kernel
theorem dX5_lacks_47 : decode cX5_lacks 47 = .ok (.getfield 10, 3) := by decide +kernel
theorem dX5_lacks_50 : decode cX5_lacks 50 = .ok (.getfield 61, 3) := by decide +kernel
theorem dX5_lacks_53 : decode cX5_lacks 53 = .ok (.if_icmp .ge 123, 3) := by decide +kernel
theorem dX5_lacks_56 : decode cX5_lacks 56 = .ok (.iload 4, 2) := by decide +kernel
theorem dX5_lacks_58 : decode cX5_lacks 58 = .ok (.iload 5, 2) := by decide +kernel
theorem dX5_lacks_60 : decode cX5_lacks 60 = .ok (.if_icmp .eq 110, 3) := by decide +kernel
theorem dX5_lacks_63 : decode cX5_lacks 63 = .ok (.aload_n 0, 1) := by decide +kernel
theorem dX5_lacks_64 : decode cX5_lacks 64 = .ok (.getfield 10, 3) := by decide +kernel
theorem dX5_lacks_67 : decode cX5_lacks 67 = .ok (.getfield 97, 3) := by decide +kernel
theorem dX5_lacks_70 : decode cX5_lacks 70 = .ok (.iload 4, 2) := by decide +kernel
theorem dX5_lacks_72 : decode cX5_lacks 72 = .ok (.iaload, 1) := by decide +kernel
theorem dX5_lacks_73 : decode cX5_lacks 73 = .ok (.iload 5, 2) := by decide +kernel
theorem dX5_lacks_75 : decode cX5_lacks 75 = .ok (.invokestatic 100, 3) := by decide +kernel
theorem dX5_lacks_78 : decode cX5_lacks 78 = .ok (.ifCond .eq 6, 3) := by decide +kernel
theorem dX5_lacks_81 : decode cX5_lacks 81 = .ok (.goto 89, 3) := by decide +kernel
theorem dX5_lacks_84 : decode cX5_lacks 84 = .ok (.aload_n 0, 1) := by decide +kernel
theorem dX5_lacks_85 : decode cX5_lacks 85 = .ok (.getfield 53, 3) := by decide +kernel
theorem dX5_lacks_88 : decode cX5_lacks 88 = .ok (.getfield 207, 3) := by decide +kernel
theorem dX5_lacks_91 : decode cX5_lacks 91 = .ok (.iload 4, 2) := by decide +kernel
theorem dX5_lacks_93 : decode cX5_lacks 93 = .ok (.dup2, 1) := by decide +kernel
theorem dX5_lacks_94 : decode cX5_lacks 94 = .ok (.iaload, 1) := by decide +kernel
theorem dX5_lacks_95 : decode cX5_lacks 95 = .ok (.iconst 1, 1) := by decide +kernel
theorem dX5_lacks_96 : decode cX5_lacks 96 = .ok (.iload 5, 2) := by decide +kernel
theorem dX5_lacks_98 : decode cX5_lacks 98 = .ok (.ishl, 1) := by decide +kernel
theorem dX5_lacks_99 : decode cX5_lacks 99 = .ok (.ior, 1) := by decide +kernel
theorem dX5_lacks_100 : decode cX5_lacks 100 = .ok (.iastore, 1) := by decide +kernel
theorem dX5_lacks_101 : decode cX5_lacks 101 = .ok (.aload_n 0, 1) := by decide +kernel
theorem dX5_lacks_102 : decode cX5_lacks 102 = .ok (.getfield 53, 3) := by decide +kernel
theorem dX5_lacks_105 : decode cX5_lacks 105 = .ok (.invokevirtual 208, 3) := by decide +kernel
theorem dX5_lacks_108 : decode cX5_lacks 108 = .ok (.aload_n 0, 1) := by decide +kernel
theorem dX5_lacks_109 : decode cX5_lacks 109 = .ok (.getfield 53, 3) := by decide +kernel
theorem dX5_lacks_112 : decode cX5_lacks 112 = .ok (.getfield 207, 3) := by decide +kernel
theorem dX5_lacks_115 : decode cX5_lacks 115 = .ok (.iload 4, 2) := by decide +kernel
theorem dX5_lacks_117 : decode cX5_lacks 117 = .ok (.aload_n 0, 1) := by decide +kernel
theorem dX5_lacks_118 : decode cX5_lacks 118 = .ok (.getfield 10, 3) := by decide +kernel
theorem dX5_lacks_121 : decode cX5_lacks 121 = .ok (.getfield 97, 3) := by decide +kernel
theorem dX5_lacks_124 : decode cX5_lacks 124 = .ok (.iload 4, 2) := by decide +kernel
theorem dX5_lacks_126 : decode cX5_lacks 126 = .ok (.iaload, 1) := by decide +kernel
theorem dX5_lacks_127 : decode cX5_lacks 127 = .ok (.iastore, 1) := by decide +kernel
theorem dX5_lacks_128 : decode cX5_lacks 128 = .ok (.aload_n 0, 1) := by decide +kernel
theorem dX5_lacks_129 : decode cX5_lacks 129 = .ok (.getfield 53, 3) := by decide +kernel
theorem dX5_lacks_132 : decode cX5_lacks 132 = .ok (.getfield 186, 3) := by decide +kernel
theorem dX5_lacks_135 : decode cX5_lacks 135 = .ok (.ifCond .le 35, 3) := by decide +kernel
theorem dX5_lacks_138 : decode cX5_lacks 138 = .ok (.iload_n 3, 1) := by decide +kernel
theorem dX5_lacks_139 : decode cX5_lacks 139 = .ok (.ifCond .lt 14, 3) := by decide +kernel
theorem dX5_lacks_142 : decode cX5_lacks 142 = .ok (.aload_n 0, 1) := by decide +kernel
theorem dX5_lacks_143 : decode cX5_lacks 143 = .ok (.getfield 53, 3) := by decide +kernel
theorem dX5_lacks_146 : decode cX5_lacks 146 = .ok (.getfield 189, 3) := by decide +kernel
theorem dX5_lacks_149 : decode cX5_lacks 149 = .ok (.iload_n 2, 1) := by decide +kernel
theorem dX5_lacks_150 : decode cX5_lacks 150 = .ok (.if_icmp .ge 20, 3) := by decide +kernel
theorem dX5_lacks_153 : decode cX5_lacks 153 = .ok (.aload_n 0, 1) := by decide +kernel
theorem dX5_lacks_154 : decode cX5_lacks 154 = .ok (.getfield 53, 3) := by decide +kernel
theorem dX5_lacks_157 : decode cX5_lacks 157 = .ok (.getfield 189, 3) := by decide +kernel
theorem dX5_lacks_160 : decode cX5_lacks 160 = .ok (.istore_n 2, 1) := by decide +kernel
theorem dX5_lacks_161 : decode cX5_lacks 161 = .ok (.bipush 10, 2) := by decide +kernel
theorem dX5_lacks_163 : decode cX5_lacks 163 = .ok (.iload 4, 2) := by decide +kernel
theorem dX5_lacks_165 : decode cX5_lacks 165 = .ok (.imul, 1) := by decide +kernel
theorem dX5_lacks_166 : decode cX5_lacks 166 = .ok (.iload 5, 2) := by decide +kernel
theorem dX5_lacks_168 : decode cX5_lacks 168 = .ok (.iadd, 1) := by decide +kernel
theorem dX5_lacks_169 : decode cX5_lacks 169 = .ok (.istore_n 3, 1) := by decide +kernel
theorem dX5_lacks_170 : decode cX5_lacks 170 = .ok (.iinc 5 1, 3) := by decide +kernel
theorem dX5_lacks_173 : decode cX5_lacks 173 = .ok (.goto (-129), 3) := by decide +kernel
theorem dX5_lacks_176 : decode cX5_lacks 176 = .ok (.iinc 4 1, 3) := by decide +kernel
theorem dX5_lacks_179 : decode cX5_lacks 179 = .ok (.goto (-150), 3) := by decide +kernel
theorem dX5_lacks_182 : decode cX5_lacks 182 = .ok (.iload_n 3, 1) := by decide +kernel
theorem dX5_lacks_183 : decode cX5_lacks 183 = .ok (.ifCond .ge 11, 3) := by decide +kernel
theorem dX5_lacks_186 : decode cX5_lacks 186 = .ok (.aload_n 0, 1) := by decide +kernel
theorem dX5_lacks_187 : decode cX5_lacks 187 = .ok (.iconst 3, 1) := by decide +kernel
theorem dX5_lacks_188 : decode cX5_lacks 188 = .ok (.invokevirtual 65, 3) := by decide +kernel
theorem dX5_lacks_191 : decode cX5_lacks 191 = .ok (.goto 4, 3) := by decide +kernel
theorem dX5_lacks_194 : decode cX5_lacks 194 = .ok (.iload_n 3, 1) := by decide +kernel
theorem dX5_lacks_195 : decode cX5_lacks 195 = .ok (.ireturn, 1) := by decide +kernel
set_option maxRecDepth 20000 in
theorem ggX5_feed_X5_finding : GoodIn wsX5_feed wsX5_finding := goodIn_r _ [6, 7, 8, 15, 16, 17, 18, 19, 20, 21, 22, 23, 24, 25] (by decide +kernel) (by decide +kernel)
set_option maxRecDepth 20000 in
theorem gX5_feed_X5_finding : GoodIn wsX5_feed (wsV RX5 65 RX5 yX5_finding wsX5_finding) := goodIn_app (goodIn_of _ (by decide +kernel)) ggX5_feed_X5_finding
set_option maxRecDepth 20000 in
theorem ggX5_feed_X4_append : GoodIn wsX5_feed wsX4_append := goodIn_r _ [12, 13, 14, 26, 27, 28, 29, 30, 31] (by decide +kernel) (by decide +kernel)
set_option maxRecDepth 20000 in
theorem gX5_feed_X4_append_n214 : GoodIn wsX5_feed (wsX4_append) := ggX5_feed_X4_append
theorem dX5_feed_0 : decode cX5_feed 0 = .ok (.iload_n 2, 1) := by decide +kernel
theorem dX5_feed_1 : decode cX5_feed 1 = .ok (.iconst 1, 1) := by decide +kernel
theorem dX5_feed_2 : decode cX5_feed 2 = .ok (.if_icmp .lt 8, 3) := by decide +kernel
theorem dX5_feed_5 : decode cX5_feed 5 = .ok (.iload_n 2, 1) := by decide +kernel
theorem dX5_feed_6 : decode cX5_feed 6 = .ok (.iconst 4, 1) := by decide +kernel
theorem dX5_feed_7 : decode cX5_feed 7 = .ok (.if_icmp .le 9, 3) := by decide +kernel
theorem dX5_feed_10 : decode cX5_feed 10 = .ok (.aload_n 0, 1) := by decide +kernel
theorem dX5_feed_11 : decode cX5_feed 11 = .ok (.iconst 0, 1) := by decide +kernel
theorem dX5_feed_12 : decode cX5_feed 12 = .ok (.invokevirtual 65, 3) := by decide +kernel
theorem dX5_feed_15 : decode cX5_feed 15 = .ok (.ireturn, 1) := by decide +kernel
theorem dX5_feed_16 : decode cX5_feed 16 = .ok (.aload_n 0, 1) := by decide +kernel
theorem dX5_feed_17 : decode cX5_feed 17 = .ok (.getfield 25, 3) := by decide +kernel
theorem dX5_feed_20 : decode cX5_feed 20 = .ok (.getfield 211, 3) := by decide +kernel
theorem dX5_feed_23 : decode cX5_feed 23 = .ok (.iload_n 2, 1) := by decide +kernel
theorem dX5_feed_24 : decode cX5_feed 24 = .ok (.iadd, 1) := by decide +kernel
theorem dX5_feed_25 : decode cX5_feed 25 = .ok (.bipush 120, 2) := by decide +kernel
theorem dX5_feed_27 : decode cX5_feed 27 = .ok (.if_icmp .le 9, 3) := by decide +kernel
theorem dX5_feed_30 : decode cX5_feed 30 = .ok (.aload_n 0, 1) := by decide +kernel
theorem dX5_feed_31 : decode cX5_feed 31 = .ok (.iconst 1, 1) := by decide +kernel
theorem dX5_feed_32 : decode cX5_feed 32 = .ok (.invokevirtual 65, 3) := by decide +kernel
theorem dX5_feed_35 : decode cX5_feed 35 = .ok (.ireturn, 1) := by decide +kernel
theorem dX5_feed_36 : decode cX5_feed 36 = .ok (.iload_n 2, 1) := by decide +kernel
theorem dX5_feed_37 : decode cX5_feed 37 = .ok (.iconst 1, 1) := by decide +kernel
theorem dX5_feed_38 : decode cX5_feed 38 = .ok (.isub, 1) := by decide +kernel
theorem dX5_feed_39 : decode cX5_feed 39 = .ok (.istore_n 3, 1) := by decide +kernel
theorem dX5_feed_40 : decode cX5_feed 40 = .ok (.iload_n 3, 1) := by decide +kernel
theorem dX5_feed_41 : decode cX5_feed 41 = .ok (.ifCond .lt 26, 3) := by decide +kernel
theorem dX5_feed_44 : decode cX5_feed 44 = .ok (.aload_n 0, 1) := by decide +kernel
theorem dX5_feed_45 : decode cX5_feed 45 = .ok (.getfield 25, 3) := by decide +kernel
theorem dX5_feed_48 : decode cX5_feed 48 = .ok (.iload_n 1, 1) := by decide +kernel
theorem dX5_feed_49 : decode cX5_feed 49 = .ok (.bipush 8, 2) := by decide +kernel
theorem dX5_feed_51 : decode cX5_feed 51 = .ok (.iload_n 3, 1) := by decide +kernel
theorem dX5_feed_52 : decode cX5_feed 52 = .ok (.imul, 1) := by decide +kernel
theorem dX5_feed_53 : decode cX5_feed 53 = .ok (.iushr, 1) := by decide +kernel
theorem dX5_feed_54 : decode cX5_feed 54 = .ok (.sipush 255, 3) := by decide +kernel
theorem dX5_feed_57 : decode cX5_feed 57 = .ok (.iand, 1) := by decide +kernel
theorem dX5_feed_58 : decode cX5_feed 58 = .ok (.invokevirtual 214, 3) := by decide +kernel
theorem dX5_feed_61 : decode cX5_feed 61 = .ok (.iinc 3 (-1), 3) := by decide +kernel
theorem dX5_feed_64 : decode cX5_feed 64 = .ok (.goto (-24), 3) := by decide +kernel
theorem dX5_feed_67 : decode cX5_feed 67 = .ok (.aload_n 0, 1) := by decide +kernel
theorem dX5_feed_68 : decode cX5_feed 68 = .ok (.getfield 25, 3) := by decide +kernel
theorem dX5_feed_71 : decode cX5_feed 71 = .ok (.getfield 211, 3) := by decide +kernel
theorem dX5_feed_74 : decode cX5_feed 74 = .ok (.ireturn, 1) := by decide +kernel
theorem dX5_wipe_0 : decode cX5_wipe 0 = .ok (.aload_n 0, 1) := by decide +kernel
theorem dX5_wipe_1 : decode cX5_wipe 1 = .ok (.getfield 25, 3) := by decide +kernel
theorem dX5_wipe_4 : decode cX5_wipe 4 = .ok (.getfield 211, 3) := by decide +kernel
theorem dX5_wipe_7 : decode cX5_wipe 7 = .ok (.istore_n 1, 1) := by decide +kernel
theorem dX5_wipe_8 : decode cX5_wipe 8 = .ok (.aload_n 0, 1) := by decide +kernel
theorem dX5_wipe_9 : decode cX5_wipe 9 = .ok (.getfield 25, 3) := by decide +kernel
theorem dX5_wipe_12 : decode cX5_wipe 12 = .ok (.iconst 0, 1) := by decide +kernel
theorem dX5_wipe_13 : decode cX5_wipe 13 = .ok (.putfield 211, 3) := by decide +kernel
theorem dX5_wipe_16 : decode cX5_wipe 16 = .ok (.iload_n 1, 1) := by decide +kernel
theorem dX5_wipe_17 : decode cX5_wipe 17 = .ok (.ireturn, 1) := by decide +kernel
set_option maxRecDepth 20000 in
theorem ggX5_parish_X1_takeFrom : GoodIn wsX5_parish wsX1_takeFrom := goodIn_r _ [7, 8, 9, 10, 11, 12, 13, 14, 15, 16, 17, 158, 159, 160, 161, 162, 163] (by decide +kernel) (by decide +kernel)
set_option maxRecDepth 20000 in
theorem gX5_parish_X1_takeFrom_n217 : GoodIn wsX5_parish (wsX1_takeFrom) := ggX5_parish_X1_takeFrom
set_option maxRecDepth 20000 in
theorem ggX5_parish_X4_tellOnto : GoodIn wsX5_parish wsX4_tellOnto := goodIn_r _ [21, 22, 23, 24, 25, 26, 27, 19, 28, 29, 30, 31, 32, 33, 34, 35, 36, 37, 38, 39, 40, 41, 42, 43, 44, 45, 46, 47, 48, 49, 50, 51, 52, 53, 54, 55, 56, 57, 58, 59, 60, 61, 62, 63, 64, 65, 66, 67, 68, 69, 70, 71, 72, 73, 74, 75, 76, 77, 78, 79, 80, 81, 82, 83, 84, 85, 86, 87, 88, 89, 90, 91, 92, 93, 94, 95, 96, 97, 98, 99, 100, 101, 102, 103, 104, 105, 106, 107, 5, 108, 109, 8, 15, 110, 111, 112, 113, 10, 114, 115, 116, 117, 118, 119, 120, 121, 122, 123, 124, 125, 126, 127, 128, 129, 130, 131, 132, 133, 134, 135, 136, 137, 138, 139, 140, 9, 16, 17, 152, 153, 154, 155, 156, 157, 158, 159, 160, 161, 162, 163] (by decide +kernel) (by decide +kernel)
set_option maxRecDepth 20000 in
theorem gX5_parish_X4_tellOnto_n221 : GoodIn wsX5_parish (wsX4_tellOnto) := ggX5_parish_X4_tellOnto
theorem dX5_parish_0 : decode cX5_parish 0 = .ok (.aload_n 0, 1) := by decide +kernel
theorem dX5_parish_1 : decode cX5_parish 1 = .ok (.getfield 19, 3) := by decide +kernel
theorem dX5_parish_4 : decode cX5_parish 4 = .ok (.aload_n 0, 1) := by decide +kernel
theorem dX5_parish_5 : decode cX5_parish 5 = .ok (.getfield 10, 3) := by decide +kernel
theorem dX5_parish_8 : decode cX5_parish 8 = .ok (.invokevirtual 217, 3) := by decide +kernel
theorem dX5_parish_11 : decode cX5_parish 11 = .ok (.aload_n 0, 1) := by decide +kernel
theorem dX5_parish_12 : decode cX5_parish 12 = .ok (.getfield 25, 3) := by decide +kernel
theorem dX5_parish_15 : decode cX5_parish 15 = .ok (.aload_n 0, 1) := by decide +kernel
theorem dX5_parish_16 : decode cX5_parish 16 = .ok (.getfield 19, 3) := by decide +kernel
theorem dX5_parish_19 : decode cX5_parish 19 = .ok (.invokevirtual 221, 3) := by decide +kernel
theorem dX5_parish_22 : decode cX5_parish 22 = .ok (.istore_n 1, 1) := by decide +kernel
theorem dX5_parish_23 : decode cX5_parish 23 = .ok (.aload_n 0, 1) := by decide +kernel
theorem dX5_parish_24 : decode cX5_parish 24 = .ok (.getfield 25, 3) := by decide +kernel
theorem dX5_parish_27 : decode cX5_parish 27 = .ok (.iconst 0, 1) := by decide +kernel
theorem dX5_parish_28 : decode cX5_parish 28 = .ok (.putfield 211, 3) := by decide +kernel
theorem dX5_parish_31 : decode cX5_parish 31 = .ok (.iload_n 1, 1) := by decide +kernel
theorem dX5_parish_32 : decode cX5_parish 32 = .ok (.ifCond .lt 14, 3) := by decide +kernel
theorem dX5_parish_35 : decode cX5_parish 35 = .ok (.aload_n 0, 1) := by decide +kernel
theorem dX5_parish_36 : decode cX5_parish 36 = .ok (.getfield 10, 3) := by decide +kernel
theorem dX5_parish_39 : decode cX5_parish 39 = .ok (.aload_n 0, 1) := by decide +kernel
theorem dX5_parish_40 : decode cX5_parish 40 = .ok (.getfield 19, 3) := by decide +kernel
theorem dX5_parish_43 : decode cX5_parish 43 = .ok (.invokevirtual 217, 3) := by decide +kernel
theorem dX5_parish_46 : decode cX5_parish 46 = .ok (.iload_n 1, 1) := by decide +kernel
theorem dX5_parish_47 : decode cX5_parish 47 = .ok (.ireturn, 1) := by decide +kernel
set_option maxRecDepth 20000 in
theorem ggX5_sheet_X5_isSheet : GoodIn wsX5_sheet wsX5_isSheet := goodIn_r _ [5] (by decide +kernel) (by decide +kernel)
set_option maxRecDepth 20000 in
theorem gX5_sheet_X5_isSheet : GoodIn wsX5_sheet (va_wsS RX5 225 yX5_isSheet wsX5_isSheet) := goodIn_app (goodIn_of _ (by decide +kernel)) ggX5_sheet_X5_isSheet
set_option maxRecDepth 20000 in
theorem ggX5_sheet_X5_finding : GoodIn wsX5_sheet wsX5_finding := goodIn_r _ [9, 10, 11, 23, 24, 25, 26, 27, 28, 29, 30, 31, 32, 33] (by decide +kernel) (by decide +kernel)
set_option maxRecDepth 20000 in
theorem gX5_sheet_X5_finding : GoodIn wsX5_sheet (wsV RX5 65 RX5 yX5_finding wsX5_finding) := goodIn_app (goodIn_of _ (by decide +kernel)) ggX5_sheet_X5_finding
set_option maxRecDepth 20000 in
theorem ggX5_sheet_X3_begin : GoodIn wsX5_sheet wsX3_begin := goodIn_r _ [15, 16, 17, 18, 19, 20, 21, 22, 34, 35, 36] (by decide +kernel) (by decide +kernel)
set_option maxRecDepth 20000 in
theorem gX5_sheet_X3_begin_n228 : GoodIn wsX5_sheet (wsX3_begin) := ggX5_sheet_X3_begin
theorem dX5_sheet_0 : decode cX5_sheet 0 = .ok (.iload_n 1, 1) := by decide +kernel
theorem dX5_sheet_1 : decode cX5_sheet 1 = .ok (.invokestatic 225, 3) := by decide +kernel
theorem dX5_sheet_4 : decode cX5_sheet 4 = .ok (.ifCond .eq 25, 3) := by decide +kernel
theorem dX5_sheet_7 : decode cX5_sheet 7 = .ok (.iload_n 2, 1) := by decide +kernel
theorem dX5_sheet_8 : decode cX5_sheet 8 = .ok (.ifCond .eq 27, 3) := by decide +kernel
theorem dX5_sheet_11 : decode cX5_sheet 11 = .ok (.iload_n 2, 1) := by decide +kernel
theorem dX5_sheet_12 : decode cX5_sheet 12 = .ok (.bipush 8, 2) := by decide +kernel
theorem dX5_sheet_14 : decode cX5_sheet 14 = .ok (.if_icmp .eq 21, 3) := by decide +kernel
theorem dX5_sheet_17 : decode cX5_sheet 17 = .ok (.iload_n 2, 1) := by decide +kernel
theorem dX5_sheet_18 : decode cX5_sheet 18 = .ok (.bipush 16, 2) := by decide +kernel
theorem dX5_sheet_20 : decode cX5_sheet 20 = .ok (.if_icmp .eq 15, 3) := by decide +kernel
theorem dX5_sheet_23 : decode cX5_sheet 23 = .ok (.iload_n 2, 1) := by decide +kernel
theorem dX5_sheet_24 : decode cX5_sheet 24 = .ok (.bipush 64, 2) := by decide +kernel
theorem dX5_sheet_26 : decode cX5_sheet 26 = .ok (.if_icmp .eq 9, 3) := by decide +kernel
theorem dX5_sheet_29 : decode cX5_sheet 29 = .ok (.aload_n 0, 1) := by decide +kernel
theorem dX5_sheet_30 : decode cX5_sheet 30 = .ok (.iconst 0, 1) := by decide +kernel
theorem dX5_sheet_31 : decode cX5_sheet 31 = .ok (.invokevirtual 65, 3) := by decide +kernel
theorem dX5_sheet_34 : decode cX5_sheet 34 = .ok (.ireturn, 1) := by decide +kernel
theorem dX5_sheet_35 : decode cX5_sheet 35 = .ok (.iload_n 3, 1) := by decide +kernel
theorem dX5_sheet_36 : decode cX5_sheet 36 = .ok (.ifCond .ge 10, 3) := by decide +kernel
theorem dX5_sheet_39 : decode cX5_sheet 39 = .ok (.aload_n 0, 1) := by decide +kernel
theorem dX5_sheet_40 : decode cX5_sheet 40 = .ok (.bipush 6, 2) := by decide +kernel
theorem dX5_sheet_42 : decode cX5_sheet 42 = .ok (.invokevirtual 65, 3) := by decide +kernel
theorem dX5_sheet_45 : decode cX5_sheet 45 = .ok (.ireturn, 1) := by decide +kernel
theorem dX5_sheet_46 : decode cX5_sheet 46 = .ok (.iload_n 3, 1) := by decide +kernel
theorem dX5_sheet_47 : decode cX5_sheet 47 = .ok (.bipush 40, 2) := by decide +kernel
theorem dX5_sheet_49 : decode cX5_sheet 49 = .ok (.if_icmp .le 9, 3) := by decide +kernel
theorem dX5_sheet_52 : decode cX5_sheet 52 = .ok (.aload_n 0, 1) := by decide +kernel
theorem dX5_sheet_53 : decode cX5_sheet 53 = .ok (.iconst 0, 1) := by decide +kernel
theorem dX5_sheet_54 : decode cX5_sheet 54 = .ok (.invokevirtual 65, 3) := by decide +kernel
theorem dX5_sheet_57 : decode cX5_sheet 57 = .ok (.ireturn, 1) := by decide +kernel
theorem dX5_sheet_58 : decode cX5_sheet 58 = .ok (.aload_n 0, 1) := by decide +kernel
theorem dX5_sheet_59 : decode cX5_sheet 59 = .ok (.getfield 31, 3) := by decide +kernel
theorem dX5_sheet_62 : decode cX5_sheet 62 = .ok (.iload_n 1, 1) := by decide +kernel
theorem dX5_sheet_63 : decode cX5_sheet 63 = .ok (.aaload, 1) := by decide +kernel
theorem dX5_sheet_64 : decode cX5_sheet 64 = .ok (.iload_n 2, 1) := by decide +kernel
theorem dX5_sheet_65 : decode cX5_sheet 65 = .ok (.iload_n 3, 1) := by decide +kernel
theorem dX5_sheet_66 : decode cX5_sheet 66 = .ok (.invokevirtual 228, 3) := by decide +kernel
theorem dX5_sheet_69 : decode cX5_sheet 69 = .ok (.aload_n 0, 1) := by decide +kernel
theorem dX5_sheet_70 : decode cX5_sheet 70 = .ok (.getfield 31, 3) := by decide +kernel
theorem dX5_sheet_73 : decode cX5_sheet 73 = .ok (.iload_n 1, 1) := by decide +kernel
theorem dX5_sheet_74 : decode cX5_sheet 74 = .ok (.aaload, 1) := by decide +kernel
theorem dX5_sheet_75 : decode cX5_sheet 75 = .ok (.getfield 232, 3) := by decide +kernel
theorem dX5_sheet_78 : decode cX5_sheet 78 = .ok (.ireturn, 1) := by decide +kernel
set_option maxRecDepth 20000 in
theorem ggX5_write_X5_isSheet : GoodIn wsX5_write wsX5_isSheet := goodIn_r _ [5] (by decide +kernel) (by decide +kernel)
set_option maxRecDepth 20000 in
theorem gX5_write_X5_isSheet : GoodIn wsX5_write (va_wsS RX5 225 yX5_isSheet wsX5_isSheet) := goodIn_app (goodIn_of _ (by decide +kernel)) ggX5_write_X5_isSheet
set_option maxRecDepth 20000 in
theorem ggX5_write_X5_finding : GoodIn wsX5_write wsX5_finding := goodIn_r _ [9, 10, 11, 18, 19, 20, 21, 22, 23, 24, 25, 26, 27, 28] (by decide +kernel) (by decide +kernel)
set_option maxRecDepth 20000 in
theorem gX5_write_X5_finding : GoodIn wsX5_write (wsV RX5 65 RX5 yX5_finding wsX5_finding) := goodIn_app (goodIn_of _ (by decide +kernel)) ggX5_write_X5_finding
set_option maxRecDepth 20000 in
theorem ggX5_write_X3_put : GoodIn wsX5_write wsX3_put := goodIn_r _ [15, 16, 17, 29, 30, 31] (by decide +kernel) (by decide +kernel)
set_option maxRecDepth 20000 in
theorem gX5_write_X3_put_n242 : GoodIn wsX5_write (wsX3_put) := ggX5_write_X3_put
theorem dX5_write_0 : decode cX5_write 0 = .ok (.iload_n 1, 1) := by decide +kernel
theorem dX5_write_1 : decode cX5_write 1 = .ok (.invokestatic 225, 3) := by decide +kernel
theorem dX5_write_4 : decode cX5_write 4 = .ok (.ifCond .ne 10, 3) := by decide +kernel
theorem dX5_write_7 : decode cX5_write 7 = .ok (.aload_n 0, 1) := by decide +kernel
theorem dX5_write_8 : decode cX5_write 8 = .ok (.iconst 0, 1) := by decide +kernel
theorem dX5_write_9 : decode cX5_write 9 = .ok (.invokevirtual 65, 3) := by decide +kernel
theorem dX5_write_12 : decode cX5_write 12 = .ok (.i2l, 1) := by decide +kernel
theorem dX5_write_13 : decode cX5_write 13 = .ok (.lreturn, 1) := by decide +kernel
theorem dX5_write_14 : decode cX5_write 14 = .ok (.aload_n 0, 1) := by decide +kernel
theorem dX5_write_15 : decode cX5_write 15 = .ok (.getfield 31, 3) := by decide +kernel
theorem dX5_write_18 : decode cX5_write 18 = .ok (.iload_n 1, 1) := by decide +kernel
theorem dX5_write_19 : decode cX5_write 19 = .ok (.aaload, 1) := by decide +kernel
theorem dX5_write_20 : decode cX5_write 20 = .ok (.astore 5, 2) := by decide +kernel
theorem dX5_write_22 : decode cX5_write 22 = .ok (.aload 5, 2) := by decide +kernel
theorem dX5_write_24 : decode cX5_write 24 = .ok (.getfield 235, 3) := by decide +kernel
theorem dX5_write_27 : decode cX5_write 27 = .ok (.ifCond .ne 10, 3) := by decide +kernel
theorem dX5_write_30 : decode cX5_write 30 = .ok (.aload_n 0, 1) := by decide +kernel
theorem dX5_write_31 : decode cX5_write 31 = .ok (.iconst 5, 1) := by decide +kernel
theorem dX5_write_32 : decode cX5_write 32 = .ok (.invokevirtual 65, 3) := by decide +kernel
theorem dX5_write_35 : decode cX5_write 35 = .ok (.i2l, 1) := by decide +kernel
theorem dX5_write_36 : decode cX5_write 36 = .ok (.lreturn, 1) := by decide +kernel
theorem dX5_write_37 : decode cX5_write 37 = .ok (.iload_n 2, 1) := by decide +kernel
theorem dX5_write_38 : decode cX5_write 38 = .ok (.ifCond .lt 12, 3) := by decide +kernel
theorem dX5_write_41 : decode cX5_write 41 = .ok (.iload_n 2, 1) := by decide +kernel
theorem dX5_write_42 : decode cX5_write 42 = .ok (.aload 5, 2) := by decide +kernel
theorem dX5_write_44 : decode cX5_write 44 = .ok (.getfield 232, 3) := by decide +kernel
theorem dX5_write_47 : decode cX5_write 47 = .ok (.if_icmp .lt 10, 3) := by decide +kernel
theorem dX5_write_50 : decode cX5_write 50 = .ok (.aload_n 0, 1) := by decide +kernel
theorem dX5_write_51 : decode cX5_write 51 = .ok (.iconst 0, 1) := by decide +kernel
theorem dX5_write_52 : decode cX5_write 52 = .ok (.invokevirtual 65, 3) := by decide +kernel
theorem dX5_write_55 : decode cX5_write 55 = .ok (.i2l, 1) := by decide +kernel
theorem dX5_write_56 : decode cX5_write 56 = .ok (.lreturn, 1) := by decide +kernel
theorem dX5_write_57 : decode cX5_write 57 = .ok (.aload 5, 2) := by decide +kernel
theorem dX5_write_59 : decode cX5_write 59 = .ok (.getfield 238, 3) := by decide +kernel
theorem dX5_write_62 : decode cX5_write 62 = .ok (.iload_n 2, 1) := by decide +kernel
theorem dX5_write_63 : decode cX5_write 63 = .ok (.laload, 1) := by decide +kernel
theorem dX5_write_64 : decode cX5_write 64 = .ok (.lstore 6, 2) := by decide +kernel
theorem dX5_write_66 : decode cX5_write 66 = .ok (.aload 5, 2) := by decide +kernel
theorem dX5_write_68 : decode cX5_write 68 = .ok (.iload_n 2, 1) := by decide +kernel
theorem dX5_write_69 : decode cX5_write 69 = .ok (.lload_n 3, 1) := by decide +kernel
theorem dX5_write_70 : decode cX5_write 70 = .ok (.invokevirtual 242, 3) := by decide +kernel
theorem dX5_write_73 : decode cX5_write 73 = .ok (.lload 6, 2) := by decide +kernel
theorem dX5_write_75 : decode cX5_write 75 = .ok (.lreturn, 1) := by decide +kernel
set_option maxRecDepth 20000 in
theorem ggX5_copy_X5_isSheet : GoodIn wsX5_copy wsX5_isSheet := goodIn_r _ [9] (by decide +kernel) (by decide +kernel)
set_option maxRecDepth 20000 in
theorem gX5_copy_X5_isSheet : GoodIn wsX5_copy (va_wsS RX5 225 yX5_isSheet wsX5_isSheet) := goodIn_app (goodIn_of _ (by decide +kernel)) ggX5_copy_X5_isSheet
set_option maxRecDepth 20000 in
theorem ggX5_copy_X5_finding : GoodIn wsX5_copy wsX5_finding := goodIn_r _ [13, 14, 15, 21, 22, 23, 24, 25, 26, 27, 28, 29, 30, 31] (by decide +kernel) (by decide +kernel)
set_option maxRecDepth 20000 in
theorem gX5_copy_X5_finding : GoodIn wsX5_copy (wsV RX5 65 RX5 yX5_finding wsX5_finding) := goodIn_app (goodIn_of _ (by decide +kernel)) ggX5_copy_X5_finding
set_option maxRecDepth 20000 in
theorem ggX5_copy_X3_hasNumbers : GoodIn wsX5_copy wsX3_hasNumbers := goodIn_r _ [19, 20, 32, 33, 34] (by decide +kernel) (by decide +kernel)
set_option maxRecDepth 20000 in
theorem gX5_copy_X3_hasNumbers_n246 : GoodIn wsX5_copy (wsX3_hasNumbers) := ggX5_copy_X3_hasNumbers
theorem dX5_copy_0 : decode cX5_copy 0 = .ok (.iload_n 1, 1) := by decide +kernel
theorem dX5_copy_1 : decode cX5_copy 1 = .ok (.invokestatic 225, 3) := by decide +kernel
theorem dX5_copy_4 : decode cX5_copy 4 = .ok (.ifCond .eq 10, 3) := by decide +kernel
theorem dX5_copy_7 : decode cX5_copy 7 = .ok (.iload_n 3, 1) := by decide +kernel
theorem dX5_copy_8 : decode cX5_copy 8 = .ok (.invokestatic 225, 3) := by decide +kernel
theorem dX5_copy_11 : decode cX5_copy 11 = .ok (.ifCond .ne 9, 3) := by decide +kernel
theorem dX5_copy_14 : decode cX5_copy 14 = .ok (.aload_n 0, 1) := by decide +kernel
theorem dX5_copy_15 : decode cX5_copy 15 = .ok (.iconst 0, 1) := by decide +kernel
theorem dX5_copy_16 : decode cX5_copy 16 = .ok (.invokevirtual 65, 3) := by decide +kernel
theorem dX5_copy_19 : decode cX5_copy 19 = .ok (.ireturn, 1) := by decide +kernel
theorem dX5_copy_20 : decode cX5_copy 20 = .ok (.aload_n 0, 1) := by decide +kernel
theorem dX5_copy_21 : decode cX5_copy 21 = .ok (.getfield 31, 3) := by decide +kernel
theorem dX5_copy_24 : decode cX5_copy 24 = .ok (.iload_n 1, 1) := by decide +kernel
theorem dX5_copy_25 : decode cX5_copy 25 = .ok (.aaload, 1) := by decide +kernel
theorem dX5_copy_26 : decode cX5_copy 26 = .ok (.astore 6, 2) := by decide +kernel
theorem dX5_copy_28 : decode cX5_copy 28 = .ok (.aload_n 0, 1) := by decide +kernel
theorem dX5_copy_29 : decode cX5_copy 29 = .ok (.getfield 31, 3) := by decide +kernel
theorem dX5_copy_32 : decode cX5_copy 32 = .ok (.iload_n 3, 1) := by decide +kernel
theorem dX5_copy_33 : decode cX5_copy 33 = .ok (.aaload, 1) := by decide +kernel
theorem dX5_copy_34 : decode cX5_copy 34 = .ok (.astore 7, 2) := by decide +kernel
theorem dX5_copy_36 : decode cX5_copy 36 = .ok (.aload 6, 2) := by decide +kernel
theorem dX5_copy_38 : decode cX5_copy 38 = .ok (.getfield 235, 3) := by decide +kernel
theorem dX5_copy_41 : decode cX5_copy 41 = .ok (.ifCond .eq 11, 3) := by decide +kernel
theorem dX5_copy_44 : decode cX5_copy 44 = .ok (.aload 7, 2) := by decide +kernel
theorem dX5_copy_46 : decode cX5_copy 46 = .ok (.getfield 235, 3) := by decide +kernel
theorem dX5_copy_49 : decode cX5_copy 49 = .ok (.ifCond .ne 9, 3) := by decide +kernel
theorem dX5_copy_52 : decode cX5_copy 52 = .ok (.aload_n 0, 1) := by decide +kernel
theorem dX5_copy_53 : decode cX5_copy 53 = .ok (.iconst 5, 1) := by decide +kernel
theorem dX5_copy_54 : decode cX5_copy 54 = .ok (.invokevirtual 65, 3) := by decide +kernel
theorem dX5_copy_57 : decode cX5_copy 57 = .ok (.ireturn, 1) := by decide +kernel
theorem dX5_copy_58 : decode cX5_copy 58 = .ok (.aload 6, 2) := by decide +kernel
theorem dX5_copy_60 : decode cX5_copy 60 = .ok (.getfield 235, 3) := by decide +kernel
theorem dX5_copy_63 : decode cX5_copy 63 = .ok (.aload 7, 2) := by decide +kernel
theorem dX5_copy_65 : decode cX5_copy 65 = .ok (.getfield 235, 3) := by decide +kernel
theorem dX5_copy_68 : decode cX5_copy 68 = .ok (.if_icmp .eq 9, 3) := by decide +kernel
theorem dX5_copy_71 : decode cX5_copy 71 = .ok (.aload_n 0, 1) := by decide +kernel
theorem dX5_copy_72 : decode cX5_copy 72 = .ok (.iconst 2, 1) := by decide +kernel
theorem dX5_copy_73 : decode cX5_copy 73 = .ok (.invokevirtual 65, 3) := by decide +kernel
theorem dX5_copy_76 : decode cX5_copy 76 = .ok (.ireturn, 1) := by decide +kernel
theorem dX5_copy_77 : decode cX5_copy 77 = .ok (.aload 6, 2) := by decide +kernel
theorem dX5_copy_79 : decode cX5_copy 79 = .ok (.iload_n 2, 1) := by decide +kernel
theorem dX5_copy_80 : decode cX5_copy 80 = .ok (.iload 5, 2) := by decide +kernel
theorem dX5_copy_82 : decode cX5_copy 82 = .ok (.invokevirtual 246, 3) := by decide +kernel
theorem dX5_copy_85 : decode cX5_copy 85 = .ok (.ifCond .eq 15, 3) := by decide +kernel
theorem dX5_copy_88 : decode cX5_copy 88 = .ok (.aload 7, 2) := by decide +kernel
theorem dX5_copy_90 : decode cX5_copy 90 = .ok (.iload 4, 2) := by decide +kernel
theorem dX5_copy_92 : decode cX5_copy 92 = .ok (.iload 5, 2) := by decide +kernel
theorem dX5_copy_94 : decode cX5_copy 94 = .ok (.invokevirtual 246, 3) := by decide +kernel
theorem dX5_copy_97 : decode cX5_copy 97 = .ok (.ifCond .ne 9, 3) := by decide +kernel
theorem dX5_copy_100 : decode cX5_copy 100 = .ok (.aload_n 0, 1) := by decide +kernel
theorem dX5_copy_101 : decode cX5_copy 101 = .ok (.iconst 0, 1) := by decide +kernel
theorem dX5_copy_102 : decode cX5_copy 102 = .ok (.invokevirtual 65, 3) := by decide +kernel
theorem dX5_copy_105 : decode cX5_copy 105 = .ok (.ireturn, 1) := by decide +kernel
theorem dX5_copy_106 : decode cX5_copy 106 = .ok (.aload 6, 2) := by decide +kernel
theorem dX5_copy_108 : decode cX5_copy 108 = .ok (.getfield 238, 3) := by decide +kernel
theorem dX5_copy_111 : decode cX5_copy 111 = .ok (.iload_n 2, 1) := by decide +kernel
theorem dX5_copy_112 : decode cX5_copy 112 = .ok (.aload 7, 2) := by decide +kernel
theorem dX5_copy_114 : decode cX5_copy 114 = .ok (.getfield 238, 3) := by decide +kernel
theorem dX5_copy_117 : decode cX5_copy 117 = .ok (.iload 4, 2) := by decide +kernel
theorem dX5_copy_119 : decode cX5_copy 119 = .ok (.iload 5, 2) := by decide +kernel
theorem dX5_copy_121 : decode cX5_copy 121 = .ok (.invokestatic 249, 3) := by decide +kernel
theorem dX5_copy_124 : decode cX5_copy 124 = .ok (.iload 5, 2) := by decide +kernel
theorem dX5_copy_126 : decode cX5_copy 126 = .ok (.ireturn, 1) := by decide +kernel
set_option maxRecDepth 20000 in
theorem ggX5_lays_X5_isSheet : GoodIn wsX5_lays wsX5_isSheet := goodIn_r _ [7] (by decide +kernel) (by decide +kernel)
set_option maxRecDepth 20000 in
theorem gX5_lays_X5_isSheet : GoodIn wsX5_lays (va_wsS RX5 225 yX5_isSheet wsX5_isSheet) := goodIn_app (goodIn_of _ (by decide +kernel)) ggX5_lays_X5_isSheet
set_option maxRecDepth 20000 in
theorem ggX5_lays_X5_finding : GoodIn wsX5_lays wsX5_finding := goodIn_r _ [11, 12, 13, 31, 32, 33, 34, 35, 36, 37, 38, 39, 40, 41] (by decide +kernel) (by decide +kernel)
set_option maxRecDepth 20000 in
theorem gX5_lays_X5_finding : GoodIn wsX5_lays (wsV RX5 65 RX5 yX5_finding wsX5_finding) := goodIn_app (goodIn_of _ (by decide +kernel)) ggX5_lays_X5_finding
set_option maxRecDepth 20000 in
theorem ggX5_lays_X1_hasField : GoodIn wsX5_lays wsX1_hasField := goodIn_r _ [17, 18, 45, 46, 47, 48, 49, 50] (by decide +kernel) (by decide +kernel)
set_option maxRecDepth 20000 in
theorem gX5_lays_X1_hasField_n73 : GoodIn wsX5_lays (wsX1_hasField) := ggX5_lays_X1_hasField
set_option maxRecDepth 20000 in
theorem ggX5_lays_X1_layCell : GoodIn wsX5_lays wsX1_layCell := goodIn_r _ [21, 22, 23, 24, 15, 25, 26, 27, 28, 29, 30, 45, 46, 47, 48, 49, 50] (by decide +kernel) (by decide +kernel)
set_option maxRecDepth 20000 in
theorem gX5_lays_X1_layCell_n257 : GoodIn wsX5_lays (wsX1_layCell) := ggX5_lays_X1_layCell
theorem dX5_lays_0 : decode cX5_lays 0 = .ok (.iload_n 1, 1) := by decide +kernel
theorem dX5_lays_1 : decode cX5_lays 1 = .ok (.invokestatic 225, 3) := by decide +kernel
theorem dX5_lays_4 : decode cX5_lays 4 = .ok (.ifCond .ne 9, 3) := by decide +kernel
theorem dX5_lays_7 : decode cX5_lays 7 = .ok (.aload_n 0, 1) := by decide +kernel
theorem dX5_lays_8 : decode cX5_lays 8 = .ok (.iconst 0, 1) := by decide +kernel
theorem dX5_lays_9 : decode cX5_lays 9 = .ok (.invokevirtual 65, 3) := by decide +kernel
theorem dX5_lays_12 : decode cX5_lays 12 = .ok (.ireturn, 1) := by decide +kernel
theorem dX5_lays_13 : decode cX5_lays 13 = .ok (.aload_n 0, 1) := by decide +kernel
theorem dX5_lays_14 : decode cX5_lays 14 = .ok (.getfield 31, 3) := by decide +kernel
theorem dX5_lays_17 : decode cX5_lays 17 = .ok (.iload_n 1, 1) := by decide +kernel
theorem dX5_lays_18 : decode cX5_lays 18 = .ok (.aaload, 1) := by decide +kernel
theorem dX5_lays_19 : decode cX5_lays 19 = .ok (.astore_n 3, 1) := by decide +kernel
theorem dX5_lays_20 : decode cX5_lays 20 = .ok (.aload_n 3, 1) := by decide +kernel
theorem dX5_lays_21 : decode cX5_lays 21 = .ok (.getfield 235, 3) := by decide +kernel
theorem dX5_lays_24 : decode cX5_lays 24 = .ok (.ifCond .ne 9, 3) := by decide +kernel
theorem dX5_lays_27 : decode cX5_lays 27 = .ok (.aload_n 0, 1) := by decide +kernel
theorem dX5_lays_28 : decode cX5_lays 28 = .ok (.iconst 5, 1) := by decide +kernel
theorem dX5_lays_29 : decode cX5_lays 29 = .ok (.invokevirtual 65, 3) := by decide +kernel
theorem dX5_lays_32 : decode cX5_lays 32 = .ok (.ireturn, 1) := by decide +kernel
theorem dX5_lays_33 : decode cX5_lays 33 = .ok (.aload_n 0, 1) := by decide +kernel
theorem dX5_lays_34 : decode cX5_lays 34 = .ok (.getfield 10, 3) := by decide +kernel
theorem dX5_lays_37 : decode cX5_lays 37 = .ok (.iload_n 2, 1) := by decide +kernel
theorem dX5_lays_38 : decode cX5_lays 38 = .ok (.invokevirtual 73, 3) := by decide +kernel
theorem dX5_lays_41 : decode cX5_lays 41 = .ok (.ifCond .ne 9, 3) := by decide +kernel
theorem dX5_lays_44 : decode cX5_lays 44 = .ok (.aload_n 0, 1) := by decide +kernel
theorem dX5_lays_45 : decode cX5_lays 45 = .ok (.iconst 0, 1) := by decide +kernel
theorem dX5_lays_46 : decode cX5_lays 46 = .ok (.invokevirtual 65, 3) := by decide +kernel
theorem dX5_lays_49 : decode cX5_lays 49 = .ok (.ireturn, 1) := by decide +kernel
theorem dX5_lays_50 : decode cX5_lays 50 = .ok (.iconst 0, 1) := by decide +kernel
theorem dX5_lays_51 : decode cX5_lays 51 = .ok (.istore 4, 2) := by decide +kernel
theorem dX5_lays_53 : decode cX5_lays 53 = .ok (.iconst 0, 1) := by decide +kernel
theorem dX5_lays_54 : decode cX5_lays 54 = .ok (.istore 5, 2) := by decide +kernel
theorem dX5_lays_56 : decode cX5_lays 56 = .ok (.iload 5, 2) := by decide +kernel
theorem dX5_lays_58 : decode cX5_lays 58 = .ok (.bipush 16, 2) := by decide +kernel
theorem dX5_lays_60 : decode cX5_lays 60 = .ok (.if_icmp .ge 82, 3) := by decide +kernel
theorem dX5_lays_63 : decode cX5_lays 63 = .ok (.iload 5, 2) := by decide +kernel
theorem dX5_lays_65 : decode cX5_lays 65 = .ok (.aload_n 3, 1) := by decide +kernel
theorem dX5_lays_66 : decode cX5_lays 66 = .ok (.getfield 232, 3) := by decide +kernel
theorem dX5_lays_69 : decode cX5_lays 69 = .ok (.if_icmp .ge 73, 3) := by decide +kernel
theorem dX5_lays_72 : decode cX5_lays 72 = .ok (.aload_n 3, 1) := by decide +kernel
theorem dX5_lays_73 : decode cX5_lays 73 = .ok (.getfield 238, 3) := by decide +kernel
theorem dX5_lays_76 : decode cX5_lays 76 = .ok (.iload 5, 2) := by decide +kernel
theorem dX5_lays_78 : decode cX5_lays 78 = .ok (.laload, 1) := by decide +kernel
theorem dX5_lays_79 : decode cX5_lays 79 = .ok (.lstore 6, 2) := by decide +kernel
theorem dX5_lays_81 : decode cX5_lays 81 = .ok (.lload 6, 2) := by decide +kernel
theorem dX5_lays_83 : decode cX5_lays 83 = .ok (.lconst 0, 1) := by decide +kernel
theorem dX5_lays_84 : decode cX5_lays 84 = .ok (.lcmp, 1) := by decide +kernel
theorem dX5_lays_85 : decode cX5_lays 85 = .ok (.ifCond .lt 51, 3) := by decide +kernel
theorem dX5_lays_88 : decode cX5_lays 88 = .ok (.lload 6, 2) := by decide +kernel
theorem dX5_lays_90 : decode cX5_lays 90 = .ok (.ldc2_w 255, 3) := by decide +kernel
theorem dX5_lays_93 : decode cX5_lays 93 = .ok (.lcmp, 1) := by decide +kernel
theorem dX5_lays_94 : decode cX5_lays 94 = .ok (.ifCond .gt 42, 3) := by decide +kernel
theorem dX5_lays_97 : decode cX5_lays 97 = .ok (.aload_n 0, 1) := by decide +kernel
theorem dX5_lays_98 : decode cX5_lays 98 = .ok (.getfield 10, 3) := by decide +kernel
theorem dX5_lays_101 : decode cX5_lays 101 = .ok (.iload_n 2, 1) := by decide +kernel
theorem dX5_lays_102 : decode cX5_lays 102 = .ok (.iload 5, 2) := by decide +kernel
theorem dX5_lays_104 : decode cX5_lays 104 = .ok (.lload 6, 2) := by decide +kernel
theorem dX5_lays_106 : decode cX5_lays 106 = .ok (.lconst 1, 1) := by decide +kernel
theorem dX5_lays_107 : decode cX5_lays 107 = .ok (.lcmp, 1) := by decide +kernel
theorem dX5_lays_108 : decode cX5_lays 108 = .ok (.ifCond .ne 7, 3) := by decide +kernel
theorem dX5_lays_111 : decode cX5_lays 111 = .ok (.iconst 1, 1) := by decide +kernel
theorem dX5_lays_112 : decode cX5_lays 112 = .ok (.goto 4, 3) := by decide +kernel
theorem dX5_lays_115 : decode cX5_lays 115 = .ok (.iconst 0, 1) := by decide +kernel
theorem dX5_lays_116 : decode cX5_lays 116 = .ok (.lload 6, 2) := by decide +kernel
theorem dX5_lays_118 : decode cX5_lays 118 = .ok (.ldc2_w 255, 3) := by decide +kernel
theorem dX5_lays_121 : decode cX5_lays 121 = .ok (.lcmp, 1) := by decide +kernel
theorem dX5_lays_122 : decode cX5_lays 122 = .ok (.ifCond .ne 7, 3) := by decide +kernel
theorem dX5_lays_125 : decode cX5_lays 125 = .ok (.iconst 1, 1) := by decide +kernel
theorem dX5_lays_126 : decode cX5_lays 126 = .ok (.goto 4, 3) := by decide +kernel
theorem dX5_lays_129 : decode cX5_lays 129 = .ok (.iconst 0, 1) := by decide +kernel
theorem dX5_lays_130 : decode cX5_lays 130 = .ok (.invokevirtual 257, 3) := by decide +kernel
theorem dX5_lays_133 : decode cX5_lays 133 = .ok (.iinc 4 1, 3) := by decide +kernel
theorem dX5_lays_136 : decode cX5_lays 136 = .ok (.iinc 5 1, 3) := by decide +kernel
theorem dX5_lays_139 : decode cX5_lays 139 = .ok (.goto (-83), 3) := by decide +kernel
theorem dX5_lays_142 : decode cX5_lays 142 = .ok (.iload 4, 2) := by decide +kernel
theorem dX5_lays_144 : decode cX5_lays 144 = .ok (.ireturn, 1) := by decide +kernel
set_option maxRecDepth 20000 in
theorem ggX5_draw_X5_lookAt : GoodIn wsX5_draw wsX5_lookAt := goodIn_r _ [10, 1, 11, 12, 13, 9, 14, 15, 16, 17, 18, 19, 20, 21, 22, 23, 150, 151, 152, 153, 154, 155, 156, 157, 158, 159, 160, 161, 162, 163, 164, 165, 166, 167, 168, 169] (by decide +kernel) (by decide +kernel)
set_option maxRecDepth 20000 in
theorem gX5_draw_X5_lookAt : GoodIn wsX5_draw (wsV RX5 261 RX5 yX5_lookAt wsX5_lookAt) := goodIn_app (goodIn_of _ (by decide +kernel)) ggX5_draw_X5_lookAt
set_option maxRecDepth 20000 in
theorem ggX5_draw_X5_finding : GoodIn wsX5_draw wsX5_finding := goodIn_r _ [27, 28, 29, 150, 151, 152, 153, 154, 155, 156, 157, 158, 159, 160] (by decide +kernel) (by decide +kernel)
set_option maxRecDepth 20000 in
theorem gX5_draw_X5_finding : GoodIn wsX5_draw (wsV RX5 65 RX5 yX5_finding wsX5_finding) := goodIn_app (goodIn_of _ (by decide +kernel)) ggX5_draw_X5_finding
set_option maxRecDepth 20000 in
theorem ggX5_draw_X5_furrowsOf : GoodIn wsX5_draw wsX5_furrowsOf := goodIn_r _ [33, 11, 34, 35, 16, 36, 37, 38, 39, 40, 41, 42, 43, 44, 45, 46, 47, 48, 49, 50, 51, 52, 53, 54, 55, 9, 56, 57, 58, 59, 60, 61, 62, 63, 64, 65, 66, 67, 68, 69, 70, 71, 72, 73, 74, 75, 76, 77, 78, 79, 80, 81, 82, 83, 84, 85, 86, 87, 88, 89, 90, 91, 92, 93, 94, 95, 96, 97, 98, 99, 100, 101, 102, 103, 104, 105, 106, 107, 108, 109, 110, 111, 112, 113, 114, 115, 116, 117, 118, 119, 120, 121, 122, 123, 124, 125, 126, 127, 128, 129, 150, 151, 152, 153, 154, 155, 156, 157, 158, 159, 160, 164, 165, 166, 167, 168, 169, 136, 137, 138, 139, 140, 141, 142, 143, 144, 145, 146, 147, 148, 149] (by decide +kernel) (by decide +kernel)
set_option maxRecDepth 20000 in
theorem gX5_draw_X5_furrowsOf : GoodIn wsX5_draw (wsV RX5 141 RX5 yX5_furrowsOf wsX5_furrowsOf) := goodIn_app (goodIn_of _ (by decide +kernel)) ggX5_draw_X5_furrowsOf
set_option maxRecDepth 20000 in
theorem ggX5_draw_X3_put : GoodIn wsX5_draw wsX3_put := goodIn_r _ [133, 134, 135, 161, 162, 163] (by decide +kernel) (by decide +kernel)
set_option maxRecDepth 20000 in
theorem gX5_draw_X3_put_n242 : GoodIn wsX5_draw (wsX3_put) := ggX5_draw_X3_put
theorem dX5_draw_0 : decode cX5_draw 0 = .ok (.aload_n 0, 1) := by decide +kernel
theorem dX5_draw_1 : decode cX5_draw 1 = .ok (.iload_n 1, 1) := by decide +kernel
theorem dX5_draw_2 : decode cX5_draw 2 = .ok (.iload_n 2, 1) := by decide +kernel
theorem dX5_draw_3 : decode cX5_draw 3 = .ok (.iload_n 3, 1) := by decide +kernel
theorem dX5_draw_4 : decode cX5_draw 4 = .ok (.invokevirtual 261, 3) := by decide +kernel
theorem dX5_draw_7 : decode cX5_draw 7 = .ok (.istore 4, 2) := by decide +kernel
theorem dX5_draw_9 : decode cX5_draw 9 = .ok (.iload 4, 2) := by decide +kernel
theorem dX5_draw_11 : decode cX5_draw 11 = .ok (.ifCond .lt 10, 3) := by decide +kernel
theorem dX5_draw_14 : decode cX5_draw 14 = .ok (.aload_n 0, 1) := by decide +kernel
theorem dX5_draw_15 : decode cX5_draw 15 = .ok (.iload 4, 2) := by decide +kernel
theorem dX5_draw_17 : decode cX5_draw 17 = .ok (.invokevirtual 65, 3) := by decide +kernel
theorem dX5_draw_20 : decode cX5_draw 20 = .ok (.ireturn, 1) := by decide +kernel
theorem dX5_draw_21 : decode cX5_draw 21 = .ok (.aload_n 0, 1) := by decide +kernel
theorem dX5_draw_22 : decode cX5_draw 22 = .ok (.iload_n 2, 1) := by decide +kernel
theorem dX5_draw_23 : decode cX5_draw 23 = .ok (.iload_n 3, 1) := by decide +kernel
theorem dX5_draw_24 : decode cX5_draw 24 = .ok (.invokevirtual 141, 3) := by decide +kernel
theorem dX5_draw_27 : decode cX5_draw 27 = .ok (.astore 5, 2) := by decide +kernel
theorem dX5_draw_29 : decode cX5_draw 29 = .ok (.aload 5, 2) := by decide +kernel
theorem dX5_draw_31 : decode cX5_draw 31 = .ok (.getfield 145, 3) := by decide +kernel
theorem dX5_draw_34 : decode cX5_draw 34 = .ok (.ifCond .ne 9, 3) := by decide +kernel
theorem dX5_draw_37 : decode cX5_draw 37 = .ok (.aload_n 0, 1) := by decide +kernel
theorem dX5_draw_38 : decode cX5_draw 38 = .ok (.iconst 3, 1) := by decide +kernel
theorem dX5_draw_39 : decode cX5_draw 39 = .ok (.invokevirtual 65, 3) := by decide +kernel
theorem dX5_draw_42 : decode cX5_draw 42 = .ok (.ireturn, 1) := by decide +kernel
theorem dX5_draw_43 : decode cX5_draw 43 = .ok (.aload_n 0, 1) := by decide +kernel
theorem dX5_draw_44 : decode cX5_draw 44 = .ok (.getfield 31, 3) := by decide +kernel
theorem dX5_draw_47 : decode cX5_draw 47 = .ok (.iload_n 1, 1) := by decide +kernel
theorem dX5_draw_48 : decode cX5_draw 48 = .ok (.aaload, 1) := by decide +kernel
theorem dX5_draw_49 : decode cX5_draw 49 = .ok (.astore 6, 2) := by decide +kernel
theorem dX5_draw_51 : decode cX5_draw 51 = .ok (.aload 6, 2) := by decide +kernel
theorem dX5_draw_53 : decode cX5_draw 53 = .ok (.getfield 232, 3) := by decide +kernel
theorem dX5_draw_56 : decode cX5_draw 56 = .ok (.aload 5, 2) := by decide +kernel
theorem dX5_draw_58 : decode cX5_draw 58 = .ok (.getfield 148, 3) := by decide +kernel
theorem dX5_draw_61 : decode cX5_draw 61 = .ok (.invokestatic 264, 3) := by decide +kernel
theorem dX5_draw_64 : decode cX5_draw 64 = .ok (.istore 7, 2) := by decide +kernel
theorem dX5_draw_66 : decode cX5_draw 66 = .ok (.iconst 0, 1) := by decide +kernel
theorem dX5_draw_67 : decode cX5_draw 67 = .ok (.istore 8, 2) := by decide +kernel
theorem dX5_draw_69 : decode cX5_draw 69 = .ok (.iload 8, 2) := by decide +kernel
theorem dX5_draw_71 : decode cX5_draw 71 = .ok (.iload 7, 2) := by decide +kernel
theorem dX5_draw_73 : decode cX5_draw 73 = .ok (.if_icmp .ge 25, 3) := by decide +kernel
theorem dX5_draw_76 : decode cX5_draw 76 = .ok (.aload 6, 2) := by decide +kernel
theorem dX5_draw_78 : decode cX5_draw 78 = .ok (.iload 8, 2) := by decide +kernel
theorem dX5_draw_80 : decode cX5_draw 80 = .ok (.aload 5, 2) := by decide +kernel
theorem dX5_draw_82 : decode cX5_draw 82 = .ok (.getfield 158, 3) := by decide +kernel
theorem dX5_draw_85 : decode cX5_draw 85 = .ok (.iload 8, 2) := by decide +kernel
theorem dX5_draw_87 : decode cX5_draw 87 = .ok (.iaload, 1) := by decide +kernel
theorem dX5_draw_88 : decode cX5_draw 88 = .ok (.i2l, 1) := by decide +kernel
theorem dX5_draw_89 : decode cX5_draw 89 = .ok (.invokevirtual 242, 3) := by decide +kernel
theorem dX5_draw_92 : decode cX5_draw 92 = .ok (.iinc 8 1, 3) := by decide +kernel
theorem dX5_draw_95 : decode cX5_draw 95 = .ok (.goto (-26), 3) := by decide +kernel
theorem dX5_draw_98 : decode cX5_draw 98 = .ok (.iload 7, 2) := by decide +kernel
theorem dX5_draw_100 : decode cX5_draw 100 = .ok (.ireturn, 1) := by decide +kernel
set_option maxRecDepth 20000 in
theorem ggX5_read_X5_lookAt : GoodIn wsX5_read wsX5_lookAt := goodIn_r _ [7, 1, 2, 8, 9, 6, 10, 11, 12, 13, 14, 15, 16, 17, 18, 19, 63, 64, 65, 66, 67, 68, 69, 70, 71, 72, 73, 74, 75, 76, 77, 78, 79, 80, 81, 82] (by decide +kernel) (by decide +kernel)
set_option maxRecDepth 20000 in
theorem gX5_read_X5_lookAt : GoodIn wsX5_read (wsV RX5 261 RX5 yX5_lookAt wsX5_lookAt) := goodIn_app (goodIn_of _ (by decide +kernel)) ggX5_read_X5_lookAt
set_option maxRecDepth 20000 in
theorem ggX5_read_X5_finding : GoodIn wsX5_read wsX5_finding := goodIn_r _ [23, 24, 25, 63, 64, 65, 66, 67, 68, 69, 70, 71, 72, 73] (by decide +kernel) (by decide +kernel)
set_option maxRecDepth 20000 in
theorem gX5_read_X5_finding : GoodIn wsX5_read (wsV RX5 65 RX5 yX5_finding wsX5_finding) := goodIn_app (goodIn_of _ (by decide +kernel)) ggX5_read_X5_finding
set_option maxRecDepth 20000 in
theorem ggX5_read_X1_earth : GoodIn wsX5_read wsX1_earth := goodIn_r _ [28, 29, 30, 31, 32, 12, 33, 34, 77, 78, 79, 80, 81, 82] (by decide +kernel) (by decide +kernel)
set_option maxRecDepth 20000 in
theorem gX5_read_X1_earth_n77 : GoodIn wsX5_read (wsX1_earth) := ggX5_read_X1_earth
set_option maxRecDepth 20000 in
theorem ggX5_read_X1_mark : GoodIn wsX5_read wsX1_mark := goodIn_r _ [33, 34, 77, 78, 79, 80, 81, 82] (by decide +kernel) (by decide +kernel)
set_option maxRecDepth 20000 in
theorem gX5_read_X1_mark_n83 : GoodIn wsX5_read (wsX1_mark) := ggX5_read_X1_mark
set_option maxRecDepth 20000 in
theorem ggX5_read_X5_cellsBeside : GoodIn wsX5_read wsX5_cellsBeside := goodIn_r _ [37, 38, 39] (by decide +kernel) (by decide +kernel)
set_option maxRecDepth 20000 in
theorem gX5_read_X5_cellsBeside : GoodIn wsX5_read (va_wsS RX5 134 yX5_cellsBeside wsX5_cellsBeside) := goodIn_app (goodIn_of _ (by decide +kernel)) ggX5_read_X5_cellsBeside
set_option maxRecDepth 20000 in
theorem ggX5_read_X5_cellOf : GoodIn wsX5_read wsX5_cellOf := goodIn_r _ [42, 43] (by decide +kernel) (by decide +kernel)
set_option maxRecDepth 20000 in
theorem gX5_read_X5_cellOf : GoodIn wsX5_read (va_wsS RX5 269 yX5_cellOf wsX5_cellOf) := goodIn_app (goodIn_of _ (by decide +kernel)) ggX5_read_X5_cellOf
set_option maxRecDepth 20000 in
theorem ggX5_read_X5_holds : GoodIn wsX5_read wsX5_holds := goodIn_r _ [46] (by decide +kernel) (by decide +kernel)
set_option maxRecDepth 20000 in
theorem gX5_read_X5_holds : GoodIn wsX5_read (va_wsS RX5 100 yX5_holds wsX5_holds) := goodIn_app (goodIn_of _ (by decide +kernel)) ggX5_read_X5_holds
set_option maxRecDepth 20000 in
theorem ggX5_read_X5_directionTo : GoodIn wsX5_read wsX5_directionTo := goodIn_r _ [49, 50, 51, 6, 52] (by decide +kernel) (by decide +kernel)
set_option maxRecDepth 20000 in
theorem gX5_read_X5_directionTo : GoodIn wsX5_read (va_wsS RX5 273 yX5_directionTo wsX5_directionTo) := goodIn_app (goodIn_of _ (by decide +kernel)) ggX5_read_X5_directionTo
set_option maxRecDepth 20000 in
theorem ggX5_read_X5_mayStep : GoodIn wsX5_read wsX5_mayStep := goodIn_r _ [55, 56, 57, 6, 58, 59, 60, 61, 62, 44, 45, 46] (by decide +kernel) (by decide +kernel)
set_option maxRecDepth 20000 in
theorem gX5_read_X5_mayStep : GoodIn wsX5_read (va_wsS RX5 137 yX5_mayStep wsX5_mayStep) := goodIn_app (goodIn_of _ (by decide +kernel)) ggX5_read_X5_mayStep
set_option maxRecDepth 20000 in
theorem ggX5_read_X5_isTurn : GoodIn wsX5_read wsX5_isTurn := goodIn_r _ [58] (by decide +kernel) (by decide +kernel)
set_option maxRecDepth 20000 in
theorem gX5_read_X5_isTurn : GoodIn wsX5_read (va_wsS RX5 276 yX5_isTurn wsX5_isTurn) := goodIn_app (goodIn_of _ (by decide +kernel)) ggX5_read_X5_isTurn
theorem dX5_read_0 : decode cX5_read 0 = .ok (.aload_n 0, 1) := by decide +kernel
theorem dX5_read_1 : decode cX5_read 1 = .ok (.iload_n 1, 1) := by decide +kernel
theorem dX5_read_2 : decode cX5_read 2 = .ok (.iload_n 2, 1) := by decide +kernel
theorem dX5_read_3 : decode cX5_read 3 = .ok (.iload_n 3, 1) := by decide +kernel
theorem dX5_read_4 : decode cX5_read 4 = .ok (.invokevirtual 261, 3) := by decide +kernel
theorem dX5_read_7 : decode cX5_read 7 = .ok (.istore 4, 2) := by decide +kernel
theorem dX5_read_9 : decode cX5_read 9 = .ok (.iload 4, 2) := by decide +kernel
theorem dX5_read_11 : decode cX5_read 11 = .ok (.ifCond .lt 10, 3) := by decide +kernel
theorem dX5_read_14 : decode cX5_read 14 = .ok (.aload_n 0, 1) := by decide +kernel
theorem dX5_read_15 : decode cX5_read 15 = .ok (.iload 4, 2) := by decide +kernel
theorem dX5_read_17 : decode cX5_read 17 = .ok (.invokevirtual 65, 3) := by decide +kernel
theorem dX5_read_20 : decode cX5_read 20 = .ok (.ireturn, 1) := by decide +kernel
theorem dX5_read_21 : decode cX5_read 21 = .ok (.aload_n 0, 1) := by decide +kernel
theorem dX5_read_22 : decode cX5_read 22 = .ok (.getfield 31, 3) := by decide +kernel
theorem dX5_read_25 : decode cX5_read 25 = .ok (.iload_n 1, 1) := by decide +kernel
theorem dX5_read_26 : decode cX5_read 26 = .ok (.aaload, 1) := by decide +kernel
theorem dX5_read_27 : decode cX5_read 27 = .ok (.astore 5, 2) := by decide +kernel
theorem dX5_read_29 : decode cX5_read 29 = .ok (.aload_n 0, 1) := by decide +kernel
theorem dX5_read_30 : decode cX5_read 30 = .ok (.getfield 10, 3) := by decide +kernel
theorem dX5_read_33 : decode cX5_read 33 = .ok (.iload_n 3, 1) := by decide +kernel
theorem dX5_read_34 : decode cX5_read 34 = .ok (.invokevirtual 77, 3) := by decide +kernel
theorem dX5_read_37 : decode cX5_read 37 = .ok (.istore 6, 2) := by decide +kernel
theorem dX5_read_39 : decode cX5_read 39 = .ok (.aload_n 0, 1) := by decide +kernel
theorem dX5_read_40 : decode cX5_read 40 = .ok (.getfield 10, 3) := by decide +kernel
theorem dX5_read_43 : decode cX5_read 43 = .ok (.iload_n 3, 1) := by decide +kernel
theorem dX5_read_44 : decode cX5_read 44 = .ok (.iconst 2, 1) := by decide +kernel
theorem dX5_read_45 : decode cX5_read 45 = .ok (.invokevirtual 83, 3) := by decide +kernel
theorem dX5_read_48 : decode cX5_read 48 = .ok (.istore 7, 2) := by decide +kernel
theorem dX5_read_50 : decode cX5_read 50 = .ok (.aload_n 0, 1) := by decide +kernel
theorem dX5_read_51 : decode cX5_read 51 = .ok (.getfield 10, 3) := by decide +kernel
theorem dX5_read_54 : decode cX5_read 54 = .ok (.iload_n 3, 1) := by decide +kernel
theorem dX5_read_55 : decode cX5_read 55 = .ok (.iconst 1, 1) := by decide +kernel
theorem dX5_read_56 : decode cX5_read 56 = .ok (.invokevirtual 83, 3) := by decide +kernel
theorem dX5_read_59 : decode cX5_read 59 = .ok (.invokestatic 134, 3) := by decide +kernel
theorem dX5_read_62 : decode cX5_read 62 = .ok (.istore 8, 2) := by decide +kernel
theorem dX5_read_64 : decode cX5_read 64 = .ok (.iconst (-1), 1) := by decide +kernel
theorem dX5_read_65 : decode cX5_read 65 = .ok (.istore 9, 2) := by decide +kernel
theorem dX5_read_67 : decode cX5_read 67 = .ok (.iconst (-1), 1) := by decide +kernel
theorem dX5_read_68 : decode cX5_read 68 = .ok (.istore 10, 2) := by decide +kernel
theorem dX5_read_70 : decode cX5_read 70 = .ok (.iconst 0, 1) := by decide +kernel
theorem dX5_read_71 : decode cX5_read 71 = .ok (.istore 11, 2) := by decide +kernel
theorem dX5_read_73 : decode cX5_read 73 = .ok (.iconst 0, 1) := by decide +kernel
theorem dX5_read_74 : decode cX5_read 74 = .ok (.istore 12, 2) := by decide +kernel
theorem dX5_read_76 : decode cX5_read 76 = .ok (.iload 12, 2) := by decide +kernel
theorem dX5_read_78 : decode cX5_read 78 = .ok (.aload 5, 2) := by decide +kernel
theorem dX5_read_80 : decode cX5_read 80 = .ok (.getfield 232, 3) := by decide +kernel
theorem dX5_read_83 : decode cX5_read 83 = .ok (.if_icmp .ge 136, 3) := by decide +kernel
theorem dX5_read_86 : decode cX5_read 86 = .ok (.aload 5, 2) := by decide +kernel
theorem dX5_read_88 : decode cX5_read 88 = .ok (.getfield 238, 3) := by decide +kernel
theorem dX5_read_91 : decode cX5_read 91 = .ok (.iload 12, 2) := by decide +kernel
theorem dX5_read_93 : decode cX5_read 93 = .ok (.laload, 1) := by decide +kernel
theorem dX5_read_94 : decode cX5_read 94 = .ok (.invokestatic 269, 3) := by decide +kernel
theorem dX5_read_97 : decode cX5_read 97 = .ok (.istore 13, 2) := by decide +kernel
theorem dX5_read_99 : decode cX5_read 99 = .ok (.iload 13, 2) := by decide +kernel
theorem dX5_read_101 : decode cX5_read 101 = .ok (.ifCond .lt 30, 3) := by decide +kernel
theorem dX5_read_104 : decode cX5_read 104 = .ok (.iload 6, 2) := by decide +kernel
theorem dX5_read_106 : decode cX5_read 106 = .ok (.iload 13, 2) := by decide +kernel
theorem dX5_read_108 : decode cX5_read 108 = .ok (.invokestatic 100, 3) := by decide +kernel
theorem dX5_read_111 : decode cX5_read 111 = .ok (.ifCond .eq 20, 3) := by decide +kernel
theorem dX5_read_114 : decode cX5_read 114 = .ok (.iload 12, 2) := by decide +kernel
theorem dX5_read_116 : decode cX5_read 116 = .ok (.ifCond .ne 20, 3) := by decide +kernel
theorem dX5_read_119 : decode cX5_read 119 = .ok (.iload 7, 2) := by decide +kernel
theorem dX5_read_121 : decode cX5_read 121 = .ok (.ifCond .lt 15, 3) := by decide +kernel
theorem dX5_read_124 : decode cX5_read 124 = .ok (.iload 13, 2) := by decide +kernel
theorem dX5_read_126 : decode cX5_read 126 = .ok (.iload 7, 2) := by decide +kernel
theorem dX5_read_128 : decode cX5_read 128 = .ok (.if_icmp .eq 8, 3) := by decide +kernel
theorem dX5_read_131 : decode cX5_read 131 = .ok (.iconst 1, 1) := by decide +kernel
theorem dX5_read_132 : decode cX5_read 132 = .ok (.iload 12, 2) := by decide +kernel
theorem dX5_read_134 : decode cX5_read 134 = .ok (.iadd, 1) := by decide +kernel
theorem dX5_read_135 : decode cX5_read 135 = .ok (.ireturn, 1) := by decide +kernel
theorem dX5_read_136 : decode cX5_read 136 = .ok (.iload 12, 2) := by decide +kernel
theorem dX5_read_138 : decode cX5_read 138 = .ok (.ifCond .le 60, 3) := by decide +kernel
theorem dX5_read_141 : decode cX5_read 141 = .ok (.iload 9, 2) := by decide +kernel
theorem dX5_read_143 : decode cX5_read 143 = .ok (.iload 13, 2) := by decide +kernel
theorem dX5_read_145 : decode cX5_read 145 = .ok (.invokestatic 273, 3) := by decide +kernel
theorem dX5_read_148 : decode cX5_read 148 = .ok (.istore 14, 2) := by decide +kernel
theorem dX5_read_150 : decode cX5_read 150 = .ok (.iload 14, 2) := by decide +kernel
theorem dX5_read_152 : decode cX5_read 152 = .ok (.ifCond .lt 28, 3) := by decide +kernel
theorem dX5_read_155 : decode cX5_read 155 = .ok (.aload_n 0, 1) := by decide +kernel
theorem dX5_read_156 : decode cX5_read 156 = .ok (.getfield 10, 3) := by decide +kernel
theorem dX5_read_159 : decode cX5_read 159 = .ok (.getfield 119, 3) := by decide +kernel
theorem dX5_read_162 : decode cX5_read 162 = .ok (.iload_n 2, 1) := by decide +kernel
theorem dX5_read_163 : decode cX5_read 163 = .ok (.iaload, 1) := by decide +kernel
theorem dX5_read_164 : decode cX5_read 164 = .ok (.iload 8, 2) := by decide +kernel
theorem dX5_read_166 : decode cX5_read 166 = .ok (.iload 13, 2) := by decide +kernel
theorem dX5_read_168 : decode cX5_read 168 = .ok (.iload 10, 2) := by decide +kernel
theorem dX5_read_170 : decode cX5_read 170 = .ok (.iload 14, 2) := by decide +kernel
theorem dX5_read_172 : decode cX5_read 172 = .ok (.iload 11, 2) := by decide +kernel
theorem dX5_read_174 : decode cX5_read 174 = .ok (.invokestatic 137, 3) := by decide +kernel
theorem dX5_read_177 : decode cX5_read 177 = .ok (.ifCond .ne 8, 3) := by decide +kernel
theorem dX5_read_180 : decode cX5_read 180 = .ok (.iconst 1, 1) := by decide +kernel
theorem dX5_read_181 : decode cX5_read 181 = .ok (.iload 12, 2) := by decide +kernel
theorem dX5_read_183 : decode cX5_read 183 = .ok (.iadd, 1) := by decide +kernel
theorem dX5_read_184 : decode cX5_read 184 = .ok (.ireturn, 1) := by decide +kernel
theorem dX5_read_185 : decode cX5_read 185 = .ok (.iload 10, 2) := by decide +kernel
theorem dX5_read_187 : decode cX5_read 187 = .ok (.iload 14, 2) := by decide +kernel
theorem dX5_read_189 : decode cX5_read 189 = .ok (.invokestatic 276, 3) := by decide +kernel
theorem dX5_read_192 : decode cX5_read 192 = .ok (.istore 11, 2) := by decide +kernel
theorem dX5_read_194 : decode cX5_read 194 = .ok (.iload 14, 2) := by decide +kernel
theorem dX5_read_196 : decode cX5_read 196 = .ok (.istore 10, 2) := by decide +kernel
theorem dX5_read_198 : decode cX5_read 198 = .ok (.iload 6, 2) := by decide +kernel
theorem dX5_read_200 : decode cX5_read 200 = .ok (.iconst 1, 1) := by decide +kernel
theorem dX5_read_201 : decode cX5_read 201 = .ok (.iload 13, 2) := by decide +kernel
theorem dX5_read_203 : decode cX5_read 203 = .ok (.ishl, 1) := by decide +kernel
theorem dX5_read_204 : decode cX5_read 204 = .ok (.iconst (-1), 1) := by decide +kernel
theorem dX5_read_205 : decode cX5_read 205 = .ok (.ixor, 1) := by decide +kernel
theorem dX5_read_206 : decode cX5_read 206 = .ok (.iand, 1) := by decide +kernel
theorem dX5_read_207 : decode cX5_read 207 = .ok (.istore 6, 2) := by decide +kernel
theorem dX5_read_209 : decode cX5_read 209 = .ok (.iload 13, 2) := by decide +kernel
theorem dX5_read_211 : decode cX5_read 211 = .ok (.istore 9, 2) := by decide +kernel
theorem dX5_read_213 : decode cX5_read 213 = .ok (.iinc 12 1, 3) := by decide +kernel
theorem dX5_read_216 : decode cX5_read 216 = .ok (.goto (-140), 3) := by decide +kernel
theorem dX5_read_219 : decode cX5_read 219 = .ok (.aload_n 0, 1) := by decide +kernel
theorem dX5_read_220 : decode cX5_read 220 = .ok (.getfield 10, 3) := by decide +kernel
theorem dX5_read_223 : decode cX5_read 223 = .ok (.iload_n 3, 1) := by decide +kernel
theorem dX5_read_224 : decode cX5_read 224 = .ok (.iconst 3, 1) := by decide +kernel
theorem dX5_read_225 : decode cX5_read 225 = .ok (.invokevirtual 83, 3) := by decide +kernel
theorem dX5_read_228 : decode cX5_read 228 = .ok (.istore 12, 2) := by decide +kernel
theorem dX5_read_230 : decode cX5_read 230 = .ok (.iload 9, 2) := by decide +kernel
theorem dX5_read_232 : decode cX5_read 232 = .ok (.ifCond .lt 24, 3) := by decide +kernel
theorem dX5_read_235 : decode cX5_read 235 = .ok (.iload 6, 2) := by decide +kernel
theorem dX5_read_237 : decode cX5_read 237 = .ok (.ifCond .ne 19, 3) := by decide +kernel
theorem dX5_read_240 : decode cX5_read 240 = .ok (.iload 12, 2) := by decide +kernel
theorem dX5_read_242 : decode cX5_read 242 = .ok (.ifCond .lt 10, 3) := by decide +kernel
theorem dX5_read_245 : decode cX5_read 245 = .ok (.iload 9, 2) := by decide +kernel
theorem dX5_read_247 : decode cX5_read 247 = .ok (.iload 12, 2) := by decide +kernel
theorem dX5_read_249 : decode cX5_read 249 = .ok (.if_icmp .ne 7, 3) := by decide +kernel
theorem dX5_read_252 : decode cX5_read 252 = .ok (.iconst 1, 1) := by decide +kernel
theorem dX5_read_253 : decode cX5_read 253 = .ok (.goto 4, 3) := by decide +kernel
theorem dX5_read_256 : decode cX5_read 256 = .ok (.iconst 0, 1) := by decide +kernel
theorem dX5_read_257 : decode cX5_read 257 = .ok (.istore 13, 2) := by decide +kernel
theorem dX5_read_259 : decode cX5_read 259 = .ok (.iload 13, 2) := by decide +kernel
theorem dX5_read_261 : decode cX5_read 261 = .ok (.ifCond .eq 7, 3) := by decide +kernel
theorem dX5_read_264 : decode cX5_read 264 = .ok (.iconst 0, 1) := by decide +kernel
theorem dX5_read_265 : decode cX5_read 265 = .ok (.goto 5, 3) := by decide +kernel
theorem dX5_read_268 : decode cX5_read 268 = .ok (.bipush 100, 2) := by decide +kernel
theorem dX5_read_270 : decode cX5_read 270 = .ok (.ireturn, 1) := by decide +kernel
set_option maxRecDepth 20000 in
theorem ggX5_image_X1_takeFrom : GoodIn wsX5_image wsX1_takeFrom := goodIn_r _ [7, 8, 9, 10, 11, 12, 13, 14, 15, 16, 17, 29, 30, 31, 32, 33, 34] (by decide +kernel) (by decide +kernel)
set_option maxRecDepth 20000 in
theorem gX5_image_X1_takeFrom_n217 : GoodIn wsX5_image (wsX1_takeFrom) := ggX5_image_X1_takeFrom
theorem dX5_image_0 : decode cX5_image 0 = .ok (.aload_n 0, 1) := by decide +kernel
theorem dX5_image_1 : decode cX5_image 1 = .ok (.getfield 16, 3) := by decide +kernel
theorem dX5_image_4 : decode cX5_image 4 = .ok (.aload_n 0, 1) := by decide +kernel
theorem dX5_image_5 : decode cX5_image 5 = .ok (.getfield 10, 3) := by decide +kernel
theorem dX5_image_8 : decode cX5_image 8 = .ok (.invokevirtual 217, 3) := by decide +kernel
theorem dX5_image_11 : decode cX5_image 11 = .ok (.aload_n 0, 1) := by decide +kernel
theorem dX5_image_12 : decode cX5_image 12 = .ok (.iconst 1, 1) := by decide +kernel
theorem dX5_image_13 : decode cX5_image 13 = .ok (.putfield 279, 3) := by decide +kernel
theorem dX5_image_16 : decode cX5_image 16 = .ok (.iconst 1, 1) := by decide +kernel
theorem dX5_image_17 : decode cX5_image 17 = .ok (.ireturn, 1) := by decide +kernel
set_option maxRecDepth 20000 in
theorem ggX5_undo_X5_finding : GoodIn wsX5_undo wsX5_finding := goodIn_r _ [8, 9, 10, 25, 26, 27, 28, 29, 30, 31, 32, 33, 34, 35] (by decide +kernel) (by decide +kernel)
set_option maxRecDepth 20000 in
theorem gX5_undo_X5_finding : GoodIn wsX5_undo (wsV RX5 65 RX5 yX5_finding wsX5_finding) := goodIn_app (goodIn_of _ (by decide +kernel)) ggX5_undo_X5_finding
set_option maxRecDepth 20000 in
theorem ggX5_undo_X1_takeFrom : GoodIn wsX5_undo wsX1_takeFrom := goodIn_r _ [14, 15, 16, 17, 18, 19, 20, 21, 22, 23, 24, 36, 37, 38, 39, 40, 41] (by decide +kernel) (by decide +kernel)
set_option maxRecDepth 20000 in
theorem gX5_undo_X1_takeFrom_n217 : GoodIn wsX5_undo (wsX1_takeFrom) := ggX5_undo_X1_takeFrom
theorem dX5_undo_0 : decode cX5_undo 0 = .ok (.aload_n 0, 1) := by decide +kernel
theorem dX5_undo_1 : decode cX5_undo 1 = .ok (.getfield 279, 3) := by decide +kernel
theorem dX5_undo_4 : decode cX5_undo 4 = .ok (.ifCond .ne 9, 3) := by decide +kernel
theorem dX5_undo_7 : decode cX5_undo 7 = .ok (.aload_n 0, 1) := by decide +kernel
theorem dX5_undo_8 : decode cX5_undo 8 = .ok (.iconst 3, 1) := by decide +kernel
theorem dX5_undo_9 : decode cX5_undo 9 = .ok (.invokevirtual 65, 3) := by decide +kernel
theorem dX5_undo_12 : decode cX5_undo 12 = .ok (.ireturn, 1) := by decide +kernel
theorem dX5_undo_13 : decode cX5_undo 13 = .ok (.aload_n 0, 1) := by decide +kernel
theorem dX5_undo_14 : decode cX5_undo 14 = .ok (.getfield 10, 3) := by decide +kernel
theorem dX5_undo_17 : decode cX5_undo 17 = .ok (.aload_n 0, 1) := by decide +kernel
theorem dX5_undo_18 : decode cX5_undo 18 = .ok (.getfield 16, 3) := by decide +kernel
theorem dX5_undo_21 : decode cX5_undo 21 = .ok (.invokevirtual 217, 3) := by decide +kernel
theorem dX5_undo_24 : decode cX5_undo 24 = .ok (.aload_n 0, 1) := by decide +kernel
theorem dX5_undo_25 : decode cX5_undo 25 = .ok (.getfield 10, 3) := by decide +kernel
theorem dX5_undo_28 : decode cX5_undo 28 = .ok (.getfield 61, 3) := by decide +kernel
theorem dX5_undo_31 : decode cX5_undo 31 = .ok (.ireturn, 1) := by decide +kernel
theorem dX5_tear_0 : decode cX5_tear 0 = .ok (.aload_n 0, 1) := by decide +kernel
theorem dX5_tear_1 : decode cX5_tear 1 = .ok (.getfield 279, 3) := by decide +kernel
theorem dX5_tear_4 : decode cX5_tear 4 = .ok (.ifCond .eq 7, 3) := by decide +kernel
theorem dX5_tear_7 : decode cX5_tear 7 = .ok (.iconst 1, 1) := by decide +kernel
theorem dX5_tear_8 : decode cX5_tear 8 = .ok (.goto 4, 3) := by decide +kernel
theorem dX5_tear_11 : decode cX5_tear 11 = .ok (.iconst 0, 1) := by decide +kernel
theorem dX5_tear_12 : decode cX5_tear 12 = .ok (.istore_n 1, 1) := by decide +kernel
theorem dX5_tear_13 : decode cX5_tear 13 = .ok (.aload_n 0, 1) := by decide +kernel
theorem dX5_tear_14 : decode cX5_tear 14 = .ok (.iconst 0, 1) := by decide +kernel
theorem dX5_tear_15 : decode cX5_tear 15 = .ok (.putfield 279, 3) := by decide +kernel
theorem dX5_tear_18 : decode cX5_tear 18 = .ok (.iload_n 1, 1) := by decide +kernel
theorem dX5_tear_19 : decode cX5_tear 19 = .ok (.ireturn, 1) := by decide +kernel
set_option maxRecDepth 20000 in
theorem ggX5_count_X1_allEarth : GoodIn wsX5_count wsX1_allEarth := goodIn_r _ [6, 7, 8, 9, 10, 4, 11, 12, 13, 14, 15, 16, 17, 18, 19, 20, 21, 22, 23, 24, 47, 48, 49, 50, 51, 52] (by decide +kernel) (by decide +kernel)
set_option maxRecDepth 20000 in
theorem gX5_count_X1_allEarth_n283 : GoodIn wsX5_count (wsX1_allEarth) := ggX5_count_X1_allEarth
set_option maxRecDepth 20000 in
theorem ggX5_count_X1_allJoins : GoodIn wsX5_count wsX1_allJoins := goodIn_r _ [27, 7, 28, 18, 19, 20, 21, 22, 23, 24, 47, 48, 49, 50, 51, 52] (by decide +kernel) (by decide +kernel)
set_option maxRecDepth 20000 in
theorem gX5_count_X1_allJoins_n286 : GoodIn wsX5_count (wsX1_allJoins) := ggX5_count_X1_allJoins
set_option maxRecDepth 20000 in
theorem ggX5_count_X5_finding : GoodIn wsX5_count wsX5_finding := goodIn_r _ [33, 34, 35, 36, 37, 38, 39, 40, 41, 42, 43, 44, 45, 46] (by decide +kernel) (by decide +kernel)
set_option maxRecDepth 20000 in
theorem gX5_count_X5_finding : GoodIn wsX5_count (wsV RX5 65 RX5 yX5_finding wsX5_finding) := goodIn_app (goodIn_of _ (by decide +kernel)) ggX5_count_X5_finding
theorem dX5_count_0 : decode cX5_count 0 = .ok (.iload_n 1, 1) := by decide +kernel
theorem dX5_count_1 : decode cX5_count 1 = .ok (.tableswitch 75 0 4 #[35, 43, 51, 59, 67], 35) := by decide +kernel
theorem dX5_count_36 : decode cX5_count 36 = .ok (.aload_n 0, 1) := by decide +kernel
theorem dX5_count_37 : decode cX5_count 37 = .ok (.getfield 10, 3) := by decide +kernel
theorem dX5_count_40 : decode cX5_count 40 = .ok (.getfield 61, 3) := by decide +kernel
theorem dX5_count_43 : decode cX5_count 43 = .ok (.ireturn, 1) := by decide +kernel
theorem dX5_count_44 : decode cX5_count 44 = .ok (.aload_n 0, 1) := by decide +kernel
theorem dX5_count_45 : decode cX5_count 45 = .ok (.getfield 10, 3) := by decide +kernel
theorem dX5_count_48 : decode cX5_count 48 = .ok (.getfield 110, 3) := by decide +kernel
theorem dX5_count_51 : decode cX5_count 51 = .ok (.ireturn, 1) := by decide +kernel
theorem dX5_count_52 : decode cX5_count 52 = .ok (.aload_n 0, 1) := by decide +kernel
theorem dX5_count_53 : decode cX5_count 53 = .ok (.getfield 10, 3) := by decide +kernel
theorem dX5_count_56 : decode cX5_count 56 = .ok (.invokevirtual 283, 3) := by decide +kernel
theorem dX5_count_59 : decode cX5_count 59 = .ok (.ireturn, 1) := by decide +kernel
theorem dX5_count_60 : decode cX5_count 60 = .ok (.aload_n 0, 1) := by decide +kernel
theorem dX5_count_61 : decode cX5_count 61 = .ok (.getfield 10, 3) := by decide +kernel
theorem dX5_count_64 : decode cX5_count 64 = .ok (.invokevirtual 286, 3) := by decide +kernel
theorem dX5_count_67 : decode cX5_count 67 = .ok (.ireturn, 1) := by decide +kernel
theorem dX5_count_68 : decode cX5_count 68 = .ok (.aload_n 0, 1) := by decide +kernel
theorem dX5_count_69 : decode cX5_count 69 = .ok (.getfield 25, 3) := by decide +kernel
theorem dX5_count_72 : decode cX5_count 72 = .ok (.getfield 211, 3) := by decide +kernel
theorem dX5_count_75 : decode cX5_count 75 = .ok (.ireturn, 1) := by decide +kernel
theorem dX5_count_76 : decode cX5_count 76 = .ok (.aload_n 0, 1) := by decide +kernel
theorem dX5_count_77 : decode cX5_count 77 = .ok (.iconst 0, 1) := by decide +kernel
theorem dX5_count_78 : decode cX5_count 78 = .ok (.invokevirtual 65, 3) := by decide +kernel
theorem dX5_count_81 : decode cX5_count 81 = .ok (.ireturn, 1) := by decide +kernel
set_option maxRecDepth 20000 in
theorem ggX5_status_X5_finding : GoodIn wsX5_status wsX5_finding := goodIn_r _ [6, 1, 7, 8, 9, 10, 11, 12, 13, 14, 15, 16, 17, 18] (by decide +kernel) (by decide +kernel)
set_option maxRecDepth 20000 in
theorem gX5_status_X5_finding : GoodIn wsX5_status (wsV RX5 65 RX5 yX5_finding wsX5_finding) := goodIn_app (goodIn_of _ (by decide +kernel)) ggX5_status_X5_finding
theorem dX5_status_0 : decode cX5_status 0 = .ok (.iload_n 1, 1) := by decide +kernel
theorem dX5_status_1 : decode cX5_status 1 = .ok (.iconst (-1), 1) := by decide +kernel
theorem dX5_status_2 : decode cX5_status 2 = .ok (.if_icmp .lt 9, 3) := by decide +kernel
theorem dX5_status_5 : decode cX5_status 5 = .ok (.iload_n 1, 1) := by decide +kernel
theorem dX5_status_6 : decode cX5_status 6 = .ok (.bipush 7, 2) := by decide +kernel
theorem dX5_status_8 : decode cX5_status 8 = .ok (.if_icmp .lt 9, 3) := by decide +kernel
theorem dX5_status_11 : decode cX5_status 11 = .ok (.aload_n 0, 1) := by decide +kernel
theorem dX5_status_12 : decode cX5_status 12 = .ok (.iconst 0, 1) := by decide +kernel
theorem dX5_status_13 : decode cX5_status 13 = .ok (.invokevirtual 65, 3) := by decide +kernel
theorem dX5_status_16 : decode cX5_status 16 = .ok (.ireturn, 1) := by decide +kernel
theorem dX5_status_17 : decode cX5_status 17 = .ok (.iload_n 1, 1) := by decide +kernel
theorem dX5_status_18 : decode cX5_status 18 = .ok (.ifCond .lt 10, 3) := by decide +kernel
theorem dX5_status_21 : decode cX5_status 21 = .ok (.aload_n 0, 1) := by decide +kernel
theorem dX5_status_22 : decode cX5_status 22 = .ok (.getfield 35, 3) := by decide +kernel
theorem dX5_status_25 : decode cX5_status 25 = .ok (.iload_n 1, 1) := by decide +kernel
theorem dX5_status_26 : decode cX5_status 26 = .ok (.iaload, 1) := by decide +kernel
theorem dX5_status_27 : decode cX5_status 27 = .ok (.ireturn, 1) := by decide +kernel
theorem dX5_status_28 : decode cX5_status 28 = .ok (.iconst 0, 1) := by decide +kernel
theorem dX5_status_29 : decode cX5_status 29 = .ok (.istore_n 2, 1) := by decide +kernel
theorem dX5_status_30 : decode cX5_status 30 = .ok (.iconst 0, 1) := by decide +kernel
theorem dX5_status_31 : decode cX5_status 31 = .ok (.istore_n 3, 1) := by decide +kernel
theorem dX5_status_32 : decode cX5_status 32 = .ok (.iload_n 3, 1) := by decide +kernel
theorem dX5_status_33 : decode cX5_status 33 = .ok (.bipush 7, 2) := by decide +kernel
theorem dX5_status_35 : decode cX5_status 35 = .ok (.if_icmp .ge 18, 3) := by decide +kernel
theorem dX5_status_38 : decode cX5_status 38 = .ok (.iload_n 2, 1) := by decide +kernel
theorem dX5_status_39 : decode cX5_status 39 = .ok (.aload_n 0, 1) := by decide +kernel
theorem dX5_status_40 : decode cX5_status 40 = .ok (.getfield 35, 3) := by decide +kernel
theorem dX5_status_43 : decode cX5_status 43 = .ok (.iload_n 3, 1) := by decide +kernel
theorem dX5_status_44 : decode cX5_status 44 = .ok (.iaload, 1) := by decide +kernel
theorem dX5_status_45 : decode cX5_status 45 = .ok (.iadd, 1) := by decide +kernel
theorem dX5_status_46 : decode cX5_status 46 = .ok (.istore_n 2, 1) := by decide +kernel
theorem dX5_status_47 : decode cX5_status 47 = .ok (.iinc 3 1, 3) := by decide +kernel
theorem dX5_status_50 : decode cX5_status 50 = .ok (.goto (-18), 3) := by decide +kernel
theorem dX5_status_53 : decode cX5_status 53 = .ok (.iload_n 2, 1) := by decide +kernel
theorem dX5_status_54 : decode cX5_status 54 = .ok (.ireturn, 1) := by decide +kernel
theorem dX5_finding_0 : decode cX5_finding 0 = .ok (.aload_n 0, 1) := by decide +kernel
theorem dX5_finding_1 : decode cX5_finding 1 = .ok (.getfield 35, 3) := by decide +kernel
theorem dX5_finding_4 : decode cX5_finding 4 = .ok (.iload_n 1, 1) := by decide +kernel
theorem dX5_finding_5 : decode cX5_finding 5 = .ok (.dup2, 1) := by decide +kernel
theorem dX5_finding_6 : decode cX5_finding 6 = .ok (.iaload, 1) := by decide +kernel
theorem dX5_finding_7 : decode cX5_finding 7 = .ok (.iconst 1, 1) := by decide +kernel
theorem dX5_finding_8 : decode cX5_finding 8 = .ok (.iadd, 1) := by decide +kernel
theorem dX5_finding_9 : decode cX5_finding 9 = .ok (.iastore, 1) := by decide +kernel
theorem dX5_finding_10 : decode cX5_finding 10 = .ok (.ldc_w 289, 3) := by decide +kernel
theorem dX5_finding_13 : decode cX5_finding 13 = .ok (.iload_n 1, 1) := by decide +kernel
theorem dX5_finding_14 : decode cX5_finding 14 = .ok (.isub, 1) := by decide +kernel
theorem dX5_finding_15 : decode cX5_finding 15 = .ok (.ireturn, 1) := by decide +kernel
set_option maxRecDepth 20000 in
theorem ggX5_furrowsOf_X1_earth : GoodIn wsX5_furrowsOf wsX1_earth := goodIn_r _ [6, 7, 8, 9, 10, 4, 11, 12, 111, 112, 113, 114, 115, 116] (by decide +kernel) (by decide +kernel)
set_option maxRecDepth 20000 in
theorem gX5_furrowsOf_X1_earth_n77 : GoodIn wsX5_furrowsOf (wsX1_earth) := ggX5_furrowsOf_X1_earth
set_option maxRecDepth 20000 in
theorem ggX5_furrowsOf_X1_mark : GoodIn wsX5_furrowsOf wsX1_mark := goodIn_r _ [11, 12, 111, 112, 113, 114, 115, 116] (by decide +kernel) (by decide +kernel)
set_option maxRecDepth 20000 in
theorem gX5_furrowsOf_X1_mark_n83 : GoodIn wsX5_furrowsOf (wsX1_mark) := ggX5_furrowsOf_X1_mark
set_option maxRecDepth 20000 in
theorem ggX5_furrowsOf_X0_ask : GoodIn wsX5_furrowsOf wsX0_ask := goodIn_r _ [16, 17, 18, 19, 20, 21, 22, 23, 24, 25, 26, 27, 28, 29, 30, 31, 32, 33, 34, 35, 36, 37, 38, 39, 40, 41, 14, 42, 43, 44, 45, 46, 47, 48, 49, 50, 51, 52, 53, 54, 55, 56, 57, 58, 59, 60, 61, 62, 63, 64, 65, 66, 67, 68, 69, 70, 71, 72, 73, 74, 75, 76, 77, 78, 79, 80, 81, 82, 83, 84, 85, 86, 87, 88, 89, 90, 91, 92, 93, 94, 95, 96, 97, 98, 99, 117, 118, 119, 120, 121, 122, 123, 124, 125, 126, 127, 128, 129, 130] (by decide +kernel) (by decide +kernel)
set_option maxRecDepth 20000 in
theorem gX5_furrowsOf_X0_ask_n172 : GoodIn wsX5_furrowsOf (wsX0_ask) := ggX5_furrowsOf_X0_ask
theorem dX5_furrowsOf_0 : decode cX5_furrowsOf 0 = .ok (.aload_n 0, 1) := by decide +kernel
theorem dX5_furrowsOf_1 : decode cX5_furrowsOf 1 = .ok (.getfield 10, 3) := by decide +kernel
theorem dX5_furrowsOf_4 : decode cX5_furrowsOf 4 = .ok (.getfield 119, 3) := by decide +kernel
theorem dX5_furrowsOf_7 : decode cX5_furrowsOf 7 = .ok (.iload_n 1, 1) := by decide +kernel
theorem dX5_furrowsOf_8 : decode cX5_furrowsOf 8 = .ok (.iaload, 1) := by decide +kernel
theorem dX5_furrowsOf_9 : decode cX5_furrowsOf 9 = .ok (.istore_n 3, 1) := by decide +kernel
theorem dX5_furrowsOf_10 : decode cX5_furrowsOf 10 = .ok (.aload_n 0, 1) := by decide +kernel
theorem dX5_furrowsOf_11 : decode cX5_furrowsOf 11 = .ok (.getfield 41, 3) := by decide +kernel
theorem dX5_furrowsOf_14 : decode cX5_furrowsOf 14 = .ok (.iload_n 2, 1) := by decide +kernel
theorem dX5_furrowsOf_15 : decode cX5_furrowsOf 15 = .ok (.bipush 6, 2) := by decide +kernel
theorem dX5_furrowsOf_17 : decode cX5_furrowsOf 17 = .ok (.imul, 1) := by decide +kernel
theorem dX5_furrowsOf_18 : decode cX5_furrowsOf 18 = .ok (.iload_n 3, 1) := by decide +kernel
theorem dX5_furrowsOf_19 : decode cX5_furrowsOf 19 = .ok (.iadd, 1) := by decide +kernel
theorem dX5_furrowsOf_20 : decode cX5_furrowsOf 20 = .ok (.aaload, 1) := by decide +kernel
theorem dX5_furrowsOf_21 : decode cX5_furrowsOf 21 = .ok (.astore 4, 2) := by decide +kernel
theorem dX5_furrowsOf_23 : decode cX5_furrowsOf 23 = .ok (.aload 4, 2) := by decide +kernel
theorem dX5_furrowsOf_25 : decode cX5_furrowsOf 25 = .ok (.iload_n 3, 1) := by decide +kernel
theorem dX5_furrowsOf_26 : decode cX5_furrowsOf 26 = .ok (.aload_n 0, 1) := by decide +kernel
theorem dX5_furrowsOf_27 : decode cX5_furrowsOf 27 = .ok (.getfield 10, 3) := by decide +kernel
theorem dX5_furrowsOf_30 : decode cX5_furrowsOf 30 = .ok (.iload_n 2, 1) := by decide +kernel
theorem dX5_furrowsOf_31 : decode cX5_furrowsOf 31 = .ok (.invokevirtual 77, 3) := by decide +kernel
theorem dX5_furrowsOf_34 : decode cX5_furrowsOf 34 = .ok (.aload_n 0, 1) := by decide +kernel
theorem dX5_furrowsOf_35 : decode cX5_furrowsOf 35 = .ok (.getfield 10, 3) := by decide +kernel
theorem dX5_furrowsOf_38 : decode cX5_furrowsOf 38 = .ok (.iload_n 2, 1) := by decide +kernel
theorem dX5_furrowsOf_39 : decode cX5_furrowsOf 39 = .ok (.iconst 1, 1) := by decide +kernel
theorem dX5_furrowsOf_40 : decode cX5_furrowsOf 40 = .ok (.invokevirtual 83, 3) := by decide +kernel
theorem dX5_furrowsOf_43 : decode cX5_furrowsOf 43 = .ok (.aload_n 0, 1) := by decide +kernel
theorem dX5_furrowsOf_44 : decode cX5_furrowsOf 44 = .ok (.getfield 10, 3) := by decide +kernel
theorem dX5_furrowsOf_47 : decode cX5_furrowsOf 47 = .ok (.iload_n 2, 1) := by decide +kernel
theorem dX5_furrowsOf_48 : decode cX5_furrowsOf 48 = .ok (.iconst 2, 1) := by decide +kernel
theorem dX5_furrowsOf_49 : decode cX5_furrowsOf 49 = .ok (.invokevirtual 83, 3) := by decide +kernel
theorem dX5_furrowsOf_52 : decode cX5_furrowsOf 52 = .ok (.aload_n 0, 1) := by decide +kernel
theorem dX5_furrowsOf_53 : decode cX5_furrowsOf 53 = .ok (.getfield 10, 3) := by decide +kernel
theorem dX5_furrowsOf_56 : decode cX5_furrowsOf 56 = .ok (.iload_n 2, 1) := by decide +kernel
theorem dX5_furrowsOf_57 : decode cX5_furrowsOf 57 = .ok (.iconst 3, 1) := by decide +kernel
theorem dX5_furrowsOf_58 : decode cX5_furrowsOf 58 = .ok (.invokevirtual 83, 3) := by decide +kernel
theorem dX5_furrowsOf_61 : decode cX5_furrowsOf 61 = .ok (.invokevirtual 172, 3) := by decide +kernel
theorem dX5_furrowsOf_64 : decode cX5_furrowsOf 64 = .ok (.aload 4, 2) := by decide +kernel
theorem dX5_furrowsOf_66 : decode cX5_furrowsOf 66 = .ok (.areturn, 1) := by decide +kernel
theorem dX5_costOf_0 : decode cX5_costOf 0 = .ok (.aload_n 2, 1) := by decide +kernel
theorem dX5_costOf_1 : decode cX5_costOf 1 = .ok (.getfield 145, 3) := by decide +kernel
theorem dX5_costOf_4 : decode cX5_costOf 4 = .ok (.ifCond .ne 6, 3) := by decide +kernel
theorem dX5_costOf_7 : decode cX5_costOf 7 = .ok (.ldc 168, 2) := by decide +kernel
theorem dX5_costOf_9 : decode cX5_costOf 9 = .ok (.ireturn, 1) := by decide +kernel
theorem dX5_costOf_10 : decode cX5_costOf 10 = .ok (.aload_n 0, 1) := by decide +kernel
theorem dX5_costOf_11 : decode cX5_costOf 11 = .ok (.getfield 10, 3) := by decide +kernel
theorem dX5_costOf_14 : decode cX5_costOf 14 = .ok (.getfield 122, 3) := by decide +kernel
theorem dX5_costOf_17 : decode cX5_costOf 17 = .ok (.iload_n 1, 1) := by decide +kernel
theorem dX5_costOf_18 : decode cX5_costOf 18 = .ok (.iaload, 1) := by decide +kernel
theorem dX5_costOf_19 : decode cX5_costOf 19 = .ok (.aload_n 2, 1) := by decide +kernel
theorem dX5_costOf_20 : decode cX5_costOf 20 = .ok (.getfield 148, 3) := by decide +kernel
theorem dX5_costOf_23 : decode cX5_costOf 23 = .ok (.imul, 1) := by decide +kernel
theorem dX5_costOf_24 : decode cX5_costOf 24 = .ok (.getstatic 125, 3) := by decide +kernel
theorem dX5_costOf_27 : decode cX5_costOf 27 = .ok (.aload_n 0, 1) := by decide +kernel
theorem dX5_costOf_28 : decode cX5_costOf 28 = .ok (.getfield 10, 3) := by decide +kernel
theorem dX5_costOf_31 : decode cX5_costOf 31 = .ok (.getfield 119, 3) := by decide +kernel
theorem dX5_costOf_34 : decode cX5_costOf 34 = .ok (.iload_n 1, 1) := by decide +kernel
theorem dX5_costOf_35 : decode cX5_costOf 35 = .ok (.iaload, 1) := by decide +kernel
theorem dX5_costOf_36 : decode cX5_costOf 36 = .ok (.iaload, 1) := by decide +kernel
theorem dX5_costOf_37 : decode cX5_costOf 37 = .ok (.aload_n 2, 1) := by decide +kernel
theorem dX5_costOf_38 : decode cX5_costOf 38 = .ok (.getfield 155, 3) := by decide +kernel
theorem dX5_costOf_41 : decode cX5_costOf 41 = .ok (.imul, 1) := by decide +kernel
theorem dX5_costOf_42 : decode cX5_costOf 42 = .ok (.iadd, 1) := by decide +kernel
theorem dX5_costOf_43 : decode cX5_costOf 43 = .ok (.ireturn, 1) := by decide +kernel
set_option maxRecDepth 20000 in
theorem ggX5_costWithout_X1_mark : GoodIn wsX5_costWithout wsX1_mark := goodIn_r _ [7, 8, 112, 113, 114, 115, 116, 117] (by decide +kernel) (by decide +kernel)
set_option maxRecDepth 20000 in
theorem gX5_costWithout_X1_mark_n83 : GoodIn wsX5_costWithout (wsX1_mark) := ggX5_costWithout_X1_mark
set_option maxRecDepth 20000 in
theorem ggX5_costWithout_X0_ask : GoodIn wsX5_costWithout wsX0_ask := goodIn_r _ [12, 13, 14, 15, 16, 17, 18, 19, 20, 21, 22, 23, 24, 25, 26, 2, 27, 28, 29, 30, 31, 32, 33, 34, 35, 36, 10, 37, 38, 39, 40, 41, 42, 43, 44, 45, 46, 47, 48, 49, 50, 51, 52, 53, 54, 55, 56, 57, 58, 59, 60, 61, 62, 63, 64, 65, 66, 67, 68, 69, 70, 71, 72, 73, 74, 75, 76, 77, 78, 79, 80, 81, 82, 83, 84, 85, 86, 87, 88, 89, 90, 91, 92, 93, 94, 118, 119, 120, 121, 122, 123, 124, 125, 126, 127, 128, 129, 130, 131] (by decide +kernel) (by decide +kernel)
set_option maxRecDepth 20000 in
theorem gX5_costWithout_X0_ask_n172 : GoodIn wsX5_costWithout (wsX0_ask) := ggX5_costWithout_X0_ask
set_option maxRecDepth 20000 in
theorem ggX5_costWithout_X5_costOf : GoodIn wsX5_costWithout wsX5_costOf := goodIn_r _ [98, 99, 1, 100, 118, 119, 120, 121, 122, 123, 124, 125, 126, 127, 128, 129, 130, 131, 101, 102, 103, 104, 105, 106, 107, 108, 109, 110, 111, 112, 113, 114, 115, 116, 117] (by decide +kernel) (by decide +kernel)
set_option maxRecDepth 20000 in
theorem gX5_costWithout_X5_costOf : GoodIn wsX5_costWithout (wsV RX5 151 RX5 yX5_costOf wsX5_costOf) := goodIn_app (goodIn_of _ (by decide +kernel)) ggX5_costWithout_X5_costOf
theorem dX5_costWithout_0 : decode cX5_costWithout 0 = .ok (.aload_n 0, 1) := by decide +kernel
theorem dX5_costWithout_1 : decode cX5_costWithout 1 = .ok (.getfield 10, 3) := by decide +kernel
theorem dX5_costWithout_4 : decode cX5_costWithout 4 = .ok (.iload_n 2, 1) := by decide +kernel
theorem dX5_costWithout_5 : decode cX5_costWithout 5 = .ok (.iconst 1, 1) := by decide +kernel
theorem dX5_costWithout_6 : decode cX5_costWithout 6 = .ok (.invokevirtual 83, 3) := by decide +kernel
theorem dX5_costWithout_9 : decode cX5_costWithout 9 = .ok (.istore 4, 2) := by decide +kernel
theorem dX5_costWithout_11 : decode cX5_costWithout 11 = .ok (.aload_n 0, 1) := by decide +kernel
theorem dX5_costWithout_12 : decode cX5_costWithout 12 = .ok (.getfield 10, 3) := by decide +kernel
theorem dX5_costWithout_15 : decode cX5_costWithout 15 = .ok (.iload_n 2, 1) := by decide +kernel
theorem dX5_costWithout_16 : decode cX5_costWithout 16 = .ok (.iconst 0, 1) := by decide +kernel
theorem dX5_costWithout_17 : decode cX5_costWithout 17 = .ok (.invokevirtual 83, 3) := by decide +kernel
theorem dX5_costWithout_20 : decode cX5_costWithout 20 = .ok (.iconst 1, 1) := by decide +kernel
theorem dX5_costWithout_21 : decode cX5_costWithout 21 = .ok (.iload_n 3, 1) := by decide +kernel
theorem dX5_costWithout_22 : decode cX5_costWithout 22 = .ok (.ishl, 1) := by decide +kernel
theorem dX5_costWithout_23 : decode cX5_costWithout 23 = .ok (.iconst (-1), 1) := by decide +kernel
theorem dX5_costWithout_24 : decode cX5_costWithout 24 = .ok (.ixor, 1) := by decide +kernel
theorem dX5_costWithout_25 : decode cX5_costWithout 25 = .ok (.iand, 1) := by decide +kernel
theorem dX5_costWithout_26 : decode cX5_costWithout 26 = .ok (.istore 5, 2) := by decide +kernel
theorem dX5_costWithout_28 : decode cX5_costWithout 28 = .ok (.ldc_w 290, 3) := by decide +kernel
theorem dX5_costWithout_31 : decode cX5_costWithout 31 = .ok (.iload 5, 2) := by decide +kernel
theorem dX5_costWithout_33 : decode cX5_costWithout 33 = .ok (.iload 4, 2) := by decide +kernel
theorem dX5_costWithout_35 : decode cX5_costWithout 35 = .ok (.ior, 1) := by decide +kernel
theorem dX5_costWithout_36 : decode cX5_costWithout 36 = .ok (.iconst (-1), 1) := by decide +kernel
theorem dX5_costWithout_37 : decode cX5_costWithout 37 = .ok (.ixor, 1) := by decide +kernel
theorem dX5_costWithout_38 : decode cX5_costWithout 38 = .ok (.iand, 1) := by decide +kernel
theorem dX5_costWithout_39 : decode cX5_costWithout 39 = .ok (.istore 6, 2) := by decide +kernel
theorem dX5_costWithout_41 : decode cX5_costWithout 41 = .ok (.aload_n 0, 1) := by decide +kernel
theorem dX5_costWithout_42 : decode cX5_costWithout 42 = .ok (.getfield 46, 3) := by decide +kernel
theorem dX5_costWithout_45 : decode cX5_costWithout 45 = .ok (.aload_n 0, 1) := by decide +kernel
theorem dX5_costWithout_46 : decode cX5_costWithout 46 = .ok (.getfield 10, 3) := by decide +kernel
theorem dX5_costWithout_49 : decode cX5_costWithout 49 = .ok (.getfield 119, 3) := by decide +kernel
theorem dX5_costWithout_52 : decode cX5_costWithout 52 = .ok (.iload_n 1, 1) := by decide +kernel
theorem dX5_costWithout_53 : decode cX5_costWithout 53 = .ok (.iaload, 1) := by decide +kernel
theorem dX5_costWithout_54 : decode cX5_costWithout 54 = .ok (.iload 6, 2) := by decide +kernel
theorem dX5_costWithout_56 : decode cX5_costWithout 56 = .ok (.iload 4, 2) := by decide +kernel
theorem dX5_costWithout_58 : decode cX5_costWithout 58 = .ok (.aload_n 0, 1) := by decide +kernel
theorem dX5_costWithout_59 : decode cX5_costWithout 59 = .ok (.getfield 10, 3) := by decide +kernel
theorem dX5_costWithout_62 : decode cX5_costWithout 62 = .ok (.iload_n 2, 1) := by decide +kernel
theorem dX5_costWithout_63 : decode cX5_costWithout 63 = .ok (.iconst 2, 1) := by decide +kernel
theorem dX5_costWithout_64 : decode cX5_costWithout 64 = .ok (.invokevirtual 83, 3) := by decide +kernel
theorem dX5_costWithout_67 : decode cX5_costWithout 67 = .ok (.aload_n 0, 1) := by decide +kernel
theorem dX5_costWithout_68 : decode cX5_costWithout 68 = .ok (.getfield 10, 3) := by decide +kernel
theorem dX5_costWithout_71 : decode cX5_costWithout 71 = .ok (.iload_n 2, 1) := by decide +kernel
theorem dX5_costWithout_72 : decode cX5_costWithout 72 = .ok (.iconst 3, 1) := by decide +kernel
theorem dX5_costWithout_73 : decode cX5_costWithout 73 = .ok (.invokevirtual 83, 3) := by decide +kernel
theorem dX5_costWithout_76 : decode cX5_costWithout 76 = .ok (.invokevirtual 172, 3) := by decide +kernel
theorem dX5_costWithout_79 : decode cX5_costWithout 79 = .ok (.aload_n 0, 1) := by decide +kernel
theorem dX5_costWithout_80 : decode cX5_costWithout 80 = .ok (.iload_n 1, 1) := by decide +kernel
theorem dX5_costWithout_81 : decode cX5_costWithout 81 = .ok (.aload_n 0, 1) := by decide +kernel
theorem dX5_costWithout_82 : decode cX5_costWithout 82 = .ok (.getfield 46, 3) := by decide +kernel
theorem dX5_costWithout_85 : decode cX5_costWithout 85 = .ok (.invokevirtual 151, 3) := by decide +kernel
theorem dX5_costWithout_88 : decode cX5_costWithout 88 = .ok (.ireturn, 1) := by decide +kernel
set_option maxRecDepth 20000 in
theorem ggX5_goThrough_X5_furrowsOf : GoodIn wsX5_goThrough wsX5_furrowsOf := goodIn_r _ [7, 2, 8, 9, 10, 11, 12, 13, 14, 15, 16, 17, 18, 19, 20, 21, 22, 23, 24, 25, 26, 27, 28, 29, 30, 6, 31, 32, 33, 34, 35, 36, 37, 38, 39, 40, 41, 42, 43, 44, 45, 46, 47, 48, 49, 50, 51, 52, 53, 54, 55, 56, 57, 58, 59, 60, 61, 62, 63, 64, 65, 66, 67, 68, 69, 70, 71, 72, 73, 74, 75, 76, 77, 78, 79, 80, 81, 82, 83, 84, 85, 86, 87, 88, 89, 90, 91, 92, 93, 94, 95, 96, 97, 98, 99, 100, 101, 102, 103, 104, 142, 143, 144, 145, 146, 147, 148, 149, 150, 151, 152, 153, 154, 155, 156, 157, 158, 172, 173, 174, 175, 176, 177, 178, 179, 180, 181, 182, 183, 184, 185] (by decide +kernel) (by decide +kernel)
set_option maxRecDepth 20000 in
theorem gX5_goThrough_X5_furrowsOf : GoodIn wsX5_goThrough (wsV RX5 141 RX5 yX5_furrowsOf wsX5_furrowsOf) := goodIn_app (goodIn_of _ (by decide +kernel)) ggX5_goThrough_X5_furrowsOf
set_option maxRecDepth 20000 in
theorem ggX5_goThrough_X5_costOf : GoodIn wsX5_goThrough wsX5_costOf := goodIn_r _ [108, 109, 2, 110, 172, 173, 174, 175, 176, 177, 178, 179, 180, 181, 182, 183, 184, 185, 142, 143, 144, 145, 146, 147, 148, 149, 150, 151, 152, 153, 154, 155, 156, 157, 158] (by decide +kernel) (by decide +kernel)
set_option maxRecDepth 20000 in
theorem gX5_goThrough_X5_costOf : GoodIn wsX5_goThrough (wsV RX5 151 RX5 yX5_costOf wsX5_costOf) := goodIn_app (goodIn_of _ (by decide +kernel)) ggX5_goThrough_X5_costOf
set_option maxRecDepth 20000 in
theorem ggX5_goThrough_X1_mark : GoodIn wsX5_goThrough wsX1_mark := goodIn_r _ [17, 18, 153, 154, 155, 156, 157, 158] (by decide +kernel) (by decide +kernel)
set_option maxRecDepth 20000 in
theorem gX5_goThrough_X1_mark_n83 : GoodIn wsX5_goThrough (wsX1_mark) := ggX5_goThrough_X1_mark
set_option maxRecDepth 20000 in
theorem ggX5_goThrough_X2_search : GoodIn wsX5_goThrough wsX2_search := goodIn_r _ [114, 115, 116, 117, 118, 119, 120, 121, 112, 122, 123, 124, 125, 126, 127, 128, 129, 130, 131, 132, 133, 134, 135, 136, 137, 138, 139, 86, 87, 88, 140, 141, 61, 6, 62, 159, 160, 161, 162, 163, 164, 165, 166, 167, 168, 169, 170, 171] (by decide +kernel) (by decide +kernel)
set_option maxRecDepth 20000 in
theorem gX5_goThrough_X2_search_n208 : GoodIn wsX5_goThrough (wsX2_search) := ggX5_goThrough_X2_search
theorem dX5_goThrough_0 : decode cX5_goThrough 0 = .ok (.aload_n 0, 1) := by decide +kernel
theorem dX5_goThrough_1 : decode cX5_goThrough 1 = .ok (.getfield 53, 3) := by decide +kernel
theorem dX5_goThrough_4 : decode cX5_goThrough 4 = .ok (.aload_n 0, 1) := by decide +kernel
theorem dX5_goThrough_5 : decode cX5_goThrough 5 = .ok (.getfield 10, 3) := by decide +kernel
theorem dX5_goThrough_8 : decode cX5_goThrough 8 = .ok (.getfield 61, 3) := by decide +kernel
theorem dX5_goThrough_11 : decode cX5_goThrough 11 = .ok (.putfield 291, 3) := by decide +kernel
theorem dX5_goThrough_14 : decode cX5_goThrough 14 = .ok (.iconst 0, 1) := by decide +kernel
theorem dX5_goThrough_15 : decode cX5_goThrough 15 = .ok (.istore_n 2, 1) := by decide +kernel
theorem dX5_goThrough_16 : decode cX5_goThrough 16 = .ok (.iload_n 2, 1) := by decide +kernel
theorem dX5_goThrough_17 : decode cX5_goThrough 17 = .ok (.aload_n 0, 1) := by decide +kernel
theorem dX5_goThrough_18 : decode cX5_goThrough 18 = .ok (.getfield 10, 3) := by decide +kernel
theorem dX5_goThrough_21 : decode cX5_goThrough 21 = .ok (.getfield 61, 3) := by decide +kernel
theorem dX5_goThrough_24 : decode cX5_goThrough 24 = .ok (.if_icmp .ge 83, 3) := by decide +kernel
theorem dX5_goThrough_27 : decode cX5_goThrough 27 = .ok (.aload_n 0, 1) := by decide +kernel
theorem dX5_goThrough_28 : decode cX5_goThrough 28 = .ok (.getfield 53, 3) := by decide +kernel
theorem dX5_goThrough_31 : decode cX5_goThrough 31 = .ok (.getfield 292, 3) := by decide +kernel
theorem dX5_goThrough_34 : decode cX5_goThrough 34 = .ok (.iload_n 2, 1) := by decide +kernel
theorem dX5_goThrough_35 : decode cX5_goThrough 35 = .ok (.aload_n 0, 1) := by decide +kernel
theorem dX5_goThrough_36 : decode cX5_goThrough 36 = .ok (.iload_n 1, 1) := by decide +kernel
theorem dX5_goThrough_37 : decode cX5_goThrough 37 = .ok (.aload_n 0, 1) := by decide +kernel
theorem dX5_goThrough_38 : decode cX5_goThrough 38 = .ok (.iload_n 1, 1) := by decide +kernel
theorem dX5_goThrough_39 : decode cX5_goThrough 39 = .ok (.iload_n 2, 1) := by decide +kernel
theorem dX5_goThrough_40 : decode cX5_goThrough 40 = .ok (.invokevirtual 141, 3) := by decide +kernel
theorem dX5_goThrough_43 : decode cX5_goThrough 43 = .ok (.invokevirtual 151, 3) := by decide +kernel
theorem dX5_goThrough_46 : decode cX5_goThrough 46 = .ok (.iastore, 1) := by decide +kernel
theorem dX5_goThrough_47 : decode cX5_goThrough 47 = .ok (.aload_n 0, 1) := by decide +kernel
theorem dX5_goThrough_48 : decode cX5_goThrough 48 = .ok (.getfield 53, 3) := by decide +kernel
theorem dX5_goThrough_51 : decode cX5_goThrough 51 = .ok (.getfield 295, 3) := by decide +kernel
theorem dX5_goThrough_54 : decode cX5_goThrough 54 = .ok (.iload_n 2, 1) := by decide +kernel
theorem dX5_goThrough_55 : decode cX5_goThrough 55 = .ok (.aload_n 0, 1) := by decide +kernel
theorem dX5_goThrough_56 : decode cX5_goThrough 56 = .ok (.getfield 10, 3) := by decide +kernel
theorem dX5_goThrough_59 : decode cX5_goThrough 59 = .ok (.iload_n 2, 1) := by decide +kernel
theorem dX5_goThrough_60 : decode cX5_goThrough 60 = .ok (.iconst 4, 1) := by decide +kernel
theorem dX5_goThrough_61 : decode cX5_goThrough 61 = .ok (.invokevirtual 83, 3) := by decide +kernel
theorem dX5_goThrough_64 : decode cX5_goThrough 64 = .ok (.iastore, 1) := by decide +kernel
theorem dX5_goThrough_65 : decode cX5_goThrough 65 = .ok (.aload_n 0, 1) := by decide +kernel
theorem dX5_goThrough_66 : decode cX5_goThrough 66 = .ok (.getfield 53, 3) := by decide +kernel
theorem dX5_goThrough_69 : decode cX5_goThrough 69 = .ok (.getfield 298, 3) := by decide +kernel
theorem dX5_goThrough_72 : decode cX5_goThrough 72 = .ok (.iload_n 2, 1) := by decide +kernel
theorem dX5_goThrough_73 : decode cX5_goThrough 73 = .ok (.aload_n 0, 1) := by decide +kernel
theorem dX5_goThrough_74 : decode cX5_goThrough 74 = .ok (.getfield 10, 3) := by decide +kernel
theorem dX5_goThrough_77 : decode cX5_goThrough 77 = .ok (.iload_n 2, 1) := by decide +kernel
theorem dX5_goThrough_78 : decode cX5_goThrough 78 = .ok (.iconst 5, 1) := by decide +kernel
theorem dX5_goThrough_79 : decode cX5_goThrough 79 = .ok (.invokevirtual 83, 3) := by decide +kernel
theorem dX5_goThrough_82 : decode cX5_goThrough 82 = .ok (.iastore, 1) := by decide +kernel
theorem dX5_goThrough_83 : decode cX5_goThrough 83 = .ok (.aload_n 0, 1) := by decide +kernel
theorem dX5_goThrough_84 : decode cX5_goThrough 84 = .ok (.getfield 53, 3) := by decide +kernel
theorem dX5_goThrough_87 : decode cX5_goThrough 87 = .ok (.getfield 207, 3) := by decide +kernel
theorem dX5_goThrough_90 : decode cX5_goThrough 90 = .ok (.iload_n 2, 1) := by decide +kernel
theorem dX5_goThrough_91 : decode cX5_goThrough 91 = .ok (.aload_n 0, 1) := by decide +kernel
theorem dX5_goThrough_92 : decode cX5_goThrough 92 = .ok (.getfield 10, 3) := by decide +kernel
theorem dX5_goThrough_95 : decode cX5_goThrough 95 = .ok (.getfield 97, 3) := by decide +kernel
theorem dX5_goThrough_98 : decode cX5_goThrough 98 = .ok (.iload_n 2, 1) := by decide +kernel
theorem dX5_goThrough_99 : decode cX5_goThrough 99 = .ok (.iaload, 1) := by decide +kernel
theorem dX5_goThrough_100 : decode cX5_goThrough 100 = .ok (.iastore, 1) := by decide +kernel
theorem dX5_goThrough_101 : decode cX5_goThrough 101 = .ok (.iinc 2 1, 3) := by decide +kernel
theorem dX5_goThrough_104 : decode cX5_goThrough 104 = .ok (.goto (-88), 3) := by decide +kernel
theorem dX5_goThrough_107 : decode cX5_goThrough 107 = .ok (.aload_n 0, 1) := by decide +kernel
theorem dX5_goThrough_108 : decode cX5_goThrough 108 = .ok (.getfield 53, 3) := by decide +kernel
theorem dX5_goThrough_111 : decode cX5_goThrough 111 = .ok (.invokevirtual 208, 3) := by decide +kernel
theorem dX5_goThrough_114 : decode cX5_goThrough 114 = .ok (.return_, 1) := by decide +kernel
set_option maxRecDepth 20000 in
theorem ggX5_takeRow_X1_hasField : GoodIn wsX5_takeRow wsX1_hasField := goodIn_r _ [6, 7, 19, 20, 21, 22, 23, 24] (by decide +kernel) (by decide +kernel)
set_option maxRecDepth 20000 in
theorem gX5_takeRow_X1_hasField_n73 : GoodIn wsX5_takeRow (wsX1_hasField) := ggX5_takeRow_X1_hasField
theorem dX5_takeRow_0 : decode cX5_takeRow 0 = .ok (.iload_n 1, 1) := by decide +kernel
theorem dX5_takeRow_1 : decode cX5_takeRow 1 = .ok (.istore_n 3, 1) := by decide +kernel
theorem dX5_takeRow_2 : decode cX5_takeRow 2 = .ok (.iload_n 2, 1) := by decide +kernel
theorem dX5_takeRow_3 : decode cX5_takeRow 3 = .ok (.iconst 1, 1) := by decide +kernel
theorem dX5_takeRow_4 : decode cX5_takeRow 4 = .ok (.isub, 1) := by decide +kernel
theorem dX5_takeRow_5 : decode cX5_takeRow 5 = .ok (.istore 4, 2) := by decide +kernel
theorem dX5_takeRow_7 : decode cX5_takeRow 7 = .ok (.iload 4, 2) := by decide +kernel
theorem dX5_takeRow_9 : decode cX5_takeRow 9 = .ok (.ifCond .lt 44, 3) := by decide +kernel
theorem dX5_takeRow_12 : decode cX5_takeRow 12 = .ok (.aload_n 0, 1) := by decide +kernel
theorem dX5_takeRow_13 : decode cX5_takeRow 13 = .ok (.getfield 57, 3) := by decide +kernel
theorem dX5_takeRow_16 : decode cX5_takeRow 16 = .ok (.iload 4, 2) := by decide +kernel
theorem dX5_takeRow_18 : decode cX5_takeRow 18 = .ok (.iload_n 3, 1) := by decide +kernel
theorem dX5_takeRow_19 : decode cX5_takeRow 19 = .ok (.bipush 6, 2) := by decide +kernel
theorem dX5_takeRow_21 : decode cX5_takeRow 21 = .ok (.irem, 1) := by decide +kernel
theorem dX5_takeRow_22 : decode cX5_takeRow 22 = .ok (.iastore, 1) := by decide +kernel
theorem dX5_takeRow_23 : decode cX5_takeRow 23 = .ok (.iload_n 3, 1) := by decide +kernel
theorem dX5_takeRow_24 : decode cX5_takeRow 24 = .ok (.bipush 6, 2) := by decide +kernel
theorem dX5_takeRow_26 : decode cX5_takeRow 26 = .ok (.idiv, 1) := by decide +kernel
theorem dX5_takeRow_27 : decode cX5_takeRow 27 = .ok (.istore_n 3, 1) := by decide +kernel
theorem dX5_takeRow_28 : decode cX5_takeRow 28 = .ok (.aload_n 0, 1) := by decide +kernel
theorem dX5_takeRow_29 : decode cX5_takeRow 29 = .ok (.getfield 10, 3) := by decide +kernel
theorem dX5_takeRow_32 : decode cX5_takeRow 32 = .ok (.aload_n 0, 1) := by decide +kernel
theorem dX5_takeRow_33 : decode cX5_takeRow 33 = .ok (.getfield 57, 3) := by decide +kernel
theorem dX5_takeRow_36 : decode cX5_takeRow 36 = .ok (.iload 4, 2) := by decide +kernel
theorem dX5_takeRow_38 : decode cX5_takeRow 38 = .ok (.iaload, 1) := by decide +kernel
theorem dX5_takeRow_39 : decode cX5_takeRow 39 = .ok (.invokevirtual 73, 3) := by decide +kernel
theorem dX5_takeRow_42 : decode cX5_takeRow 42 = .ok (.ifCond .ne 5, 3) := by decide +kernel
theorem dX5_takeRow_45 : decode cX5_takeRow 45 = .ok (.iconst 0, 1) := by decide +kernel
theorem dX5_takeRow_46 : decode cX5_takeRow 46 = .ok (.ireturn, 1) := by decide +kernel
theorem dX5_takeRow_47 : decode cX5_takeRow 47 = .ok (.iinc 4 (-1), 3) := by decide +kernel
theorem dX5_takeRow_50 : decode cX5_takeRow 50 = .ok (.goto (-43), 3) := by decide +kernel
theorem dX5_takeRow_53 : decode cX5_takeRow 53 = .ok (.iload_n 1, 1) := by decide +kernel
theorem dX5_takeRow_54 : decode cX5_takeRow 54 = .ok (.ifCond .lt 11, 3) := by decide +kernel
theorem dX5_takeRow_57 : decode cX5_takeRow 57 = .ok (.iload_n 3, 1) := by decide +kernel
theorem dX5_takeRow_58 : decode cX5_takeRow 58 = .ok (.ifCond .ne 7, 3) := by decide +kernel
theorem dX5_takeRow_61 : decode cX5_takeRow 61 = .ok (.iconst 1, 1) := by decide +kernel
theorem dX5_takeRow_62 : decode cX5_takeRow 62 = .ok (.goto 4, 3) := by decide +kernel
theorem dX5_takeRow_65 : decode cX5_takeRow 65 = .ok (.iconst 0, 1) := by decide +kernel
theorem dX5_takeRow_66 : decode cX5_takeRow 66 = .ok (.ireturn, 1) := by decide +kernel
set_option maxRecDepth 20000 in
theorem ggX5_lookAt_X5_isSheet : GoodIn wsX5_lookAt wsX5_isSheet := goodIn_r _ [6] (by decide +kernel) (by decide +kernel)
set_option maxRecDepth 20000 in
theorem gX5_lookAt_X5_isSheet : GoodIn wsX5_lookAt (va_wsS RX5 225 yX5_isSheet wsX5_isSheet) := goodIn_app (goodIn_of _ (by decide +kernel)) ggX5_lookAt_X5_isSheet
set_option maxRecDepth 20000 in
theorem ggX5_lookAt_X1_hasTeam : GoodIn wsX5_lookAt wsX1_hasTeam := goodIn_r _ [10, 11, 30, 31, 32, 33, 34, 35] (by decide +kernel) (by decide +kernel)
set_option maxRecDepth 20000 in
theorem gX5_lookAt_X1_hasTeam_n116 : GoodIn wsX5_lookAt (wsX1_hasTeam) := ggX5_lookAt_X1_hasTeam
set_option maxRecDepth 20000 in
theorem ggX5_lookAt_X1_hasField : GoodIn wsX5_lookAt wsX1_hasField := goodIn_r _ [14, 15, 30, 31, 32, 33, 34, 35] (by decide +kernel) (by decide +kernel)
set_option maxRecDepth 20000 in
theorem gX5_lookAt_X1_hasField_n73 : GoodIn wsX5_lookAt (wsX1_hasField) := ggX5_lookAt_X1_hasField
theorem dX5_lookAt_0 : decode cX5_lookAt 0 = .ok (.iload_n 1, 1) := by decide +kernel
theorem dX5_lookAt_1 : decode cX5_lookAt 1 = .ok (.invokestatic 225, 3) := by decide +kernel
theorem dX5_lookAt_4 : decode cX5_lookAt 4 = .ok (.ifCond .ne 5, 3) := by decide +kernel
theorem dX5_lookAt_7 : decode cX5_lookAt 7 = .ok (.iconst 0, 1) := by decide +kernel
theorem dX5_lookAt_8 : decode cX5_lookAt 8 = .ok (.ireturn, 1) := by decide +kernel
theorem dX5_lookAt_9 : decode cX5_lookAt 9 = .ok (.aload_n 0, 1) := by decide +kernel
theorem dX5_lookAt_10 : decode cX5_lookAt 10 = .ok (.getfield 31, 3) := by decide +kernel
theorem dX5_lookAt_13 : decode cX5_lookAt 13 = .ok (.iload_n 1, 1) := by decide +kernel
theorem dX5_lookAt_14 : decode cX5_lookAt 14 = .ok (.aaload, 1) := by decide +kernel
theorem dX5_lookAt_15 : decode cX5_lookAt 15 = .ok (.getfield 235, 3) := by decide +kernel
theorem dX5_lookAt_18 : decode cX5_lookAt 18 = .ok (.ifCond .ne 5, 3) := by decide +kernel
theorem dX5_lookAt_21 : decode cX5_lookAt 21 = .ok (.iconst 5, 1) := by decide +kernel
theorem dX5_lookAt_22 : decode cX5_lookAt 22 = .ok (.ireturn, 1) := by decide +kernel
theorem dX5_lookAt_23 : decode cX5_lookAt 23 = .ok (.aload_n 0, 1) := by decide +kernel
theorem dX5_lookAt_24 : decode cX5_lookAt 24 = .ok (.getfield 10, 3) := by decide +kernel
theorem dX5_lookAt_27 : decode cX5_lookAt 27 = .ok (.iload_n 2, 1) := by decide +kernel
theorem dX5_lookAt_28 : decode cX5_lookAt 28 = .ok (.invokevirtual 116, 3) := by decide +kernel
theorem dX5_lookAt_31 : decode cX5_lookAt 31 = .ok (.ifCond .eq 18, 3) := by decide +kernel
theorem dX5_lookAt_34 : decode cX5_lookAt 34 = .ok (.aload_n 0, 1) := by decide +kernel
theorem dX5_lookAt_35 : decode cX5_lookAt 35 = .ok (.getfield 10, 3) := by decide +kernel
theorem dX5_lookAt_38 : decode cX5_lookAt 38 = .ok (.iload_n 3, 1) := by decide +kernel
theorem dX5_lookAt_39 : decode cX5_lookAt 39 = .ok (.invokevirtual 73, 3) := by decide +kernel
theorem dX5_lookAt_42 : decode cX5_lookAt 42 = .ok (.ifCond .eq 7, 3) := by decide +kernel
theorem dX5_lookAt_45 : decode cX5_lookAt 45 = .ok (.iconst (-1), 1) := by decide +kernel
theorem dX5_lookAt_46 : decode cX5_lookAt 46 = .ok (.goto 4, 3) := by decide +kernel
theorem dX5_lookAt_49 : decode cX5_lookAt 49 = .ok (.iconst 0, 1) := by decide +kernel
theorem dX5_lookAt_50 : decode cX5_lookAt 50 = .ok (.ireturn, 1) := by decide +kernel
theorem dX5_holds_0 : decode cX5_holds 0 = .ok (.iload_n 0, 1) := by decide +kernel
theorem dX5_holds_1 : decode cX5_holds 1 = .ok (.iload_n 1, 1) := by decide +kernel
theorem dX5_holds_2 : decode cX5_holds 2 = .ok (.ishr, 1) := by decide +kernel
theorem dX5_holds_3 : decode cX5_holds 3 = .ok (.iconst 1, 1) := by decide +kernel
theorem dX5_holds_4 : decode cX5_holds 4 = .ok (.iand, 1) := by decide +kernel
theorem dX5_holds_5 : decode cX5_holds 5 = .ok (.ifCond .eq 7, 3) := by decide +kernel
theorem dX5_holds_8 : decode cX5_holds 8 = .ok (.iconst 1, 1) := by decide +kernel
theorem dX5_holds_9 : decode cX5_holds 9 = .ok (.goto 4, 3) := by decide +kernel
theorem dX5_holds_12 : decode cX5_holds 12 = .ok (.iconst 0, 1) := by decide +kernel
theorem dX5_holds_13 : decode cX5_holds 13 = .ok (.ireturn, 1) := by decide +kernel
theorem dX5_isCell_0 : decode cX5_isCell 0 = .ok (.iload_n 0, 1) := by decide +kernel
theorem dX5_isCell_1 : decode cX5_isCell 1 = .ok (.ifCond .lt 13, 3) := by decide +kernel
theorem dX5_isCell_4 : decode cX5_isCell 4 = .ok (.iload_n 0, 1) := by decide +kernel
theorem dX5_isCell_5 : decode cX5_isCell 5 = .ok (.bipush 16, 2) := by decide +kernel
theorem dX5_isCell_7 : decode cX5_isCell 7 = .ok (.if_icmp .ge 7, 3) := by decide +kernel
theorem dX5_isCell_10 : decode cX5_isCell 10 = .ok (.iconst 1, 1) := by decide +kernel
theorem dX5_isCell_11 : decode cX5_isCell 11 = .ok (.goto 4, 3) := by decide +kernel
theorem dX5_isCell_14 : decode cX5_isCell 14 = .ok (.iconst 0, 1) := by decide +kernel
theorem dX5_isCell_15 : decode cX5_isCell 15 = .ok (.ireturn, 1) := by decide +kernel
theorem dX5_isSheet_0 : decode cX5_isSheet 0 = .ok (.iload_n 0, 1) := by decide +kernel
theorem dX5_isSheet_1 : decode cX5_isSheet 1 = .ok (.ifCond .lt 12, 3) := by decide +kernel
theorem dX5_isSheet_4 : decode cX5_isSheet 4 = .ok (.iload_n 0, 1) := by decide +kernel
theorem dX5_isSheet_5 : decode cX5_isSheet 5 = .ok (.iconst 4, 1) := by decide +kernel
theorem dX5_isSheet_6 : decode cX5_isSheet 6 = .ok (.if_icmp .ge 7, 3) := by decide +kernel
theorem dX5_isSheet_9 : decode cX5_isSheet 9 = .ok (.iconst 1, 1) := by decide +kernel
theorem dX5_isSheet_10 : decode cX5_isSheet 10 = .ok (.goto 4, 3) := by decide +kernel
theorem dX5_isSheet_13 : decode cX5_isSheet 13 = .ok (.iconst 0, 1) := by decide +kernel
theorem dX5_isSheet_14 : decode cX5_isSheet 14 = .ok (.ireturn, 1) := by decide +kernel
theorem dX5_cellOf_0 : decode cX5_cellOf 0 = .ok (.lload_n 0, 1) := by decide +kernel
theorem dX5_cellOf_1 : decode cX5_cellOf 1 = .ok (.lconst 0, 1) := by decide +kernel
theorem dX5_cellOf_2 : decode cX5_cellOf 2 = .ok (.lcmp, 1) := by decide +kernel
theorem dX5_cellOf_3 : decode cX5_cellOf 3 = .ok (.ifCond .lt 16, 3) := by decide +kernel
theorem dX5_cellOf_6 : decode cX5_cellOf 6 = .ok (.lload_n 0, 1) := by decide +kernel
theorem dX5_cellOf_7 : decode cX5_cellOf 7 = .ok (.ldc2_w 301, 3) := by decide +kernel
theorem dX5_cellOf_10 : decode cX5_cellOf 10 = .ok (.lcmp, 1) := by decide +kernel
theorem dX5_cellOf_11 : decode cX5_cellOf 11 = .ok (.ifCond .ge 8, 3) := by decide +kernel
theorem dX5_cellOf_14 : decode cX5_cellOf 14 = .ok (.lload_n 0, 1) := by decide +kernel
theorem dX5_cellOf_15 : decode cX5_cellOf 15 = .ok (.l2i, 1) := by decide +kernel
theorem dX5_cellOf_16 : decode cX5_cellOf 16 = .ok (.goto 4, 3) := by decide +kernel
theorem dX5_cellOf_19 : decode cX5_cellOf 19 = .ok (.iconst (-1), 1) := by decide +kernel
theorem dX5_cellOf_20 : decode cX5_cellOf 20 = .ok (.ireturn, 1) := by decide +kernel
theorem dX5_cellTowards_0 : decode cX5_cellTowards 0 = .ok (.iload_n 1, 1) := by decide +kernel
theorem dX5_cellTowards_1 : decode cX5_cellTowards 1 = .ok (.tableswitch 69 0 2 #[27, 40, 55], 27) := by decide +kernel
theorem dX5_cellTowards_28 : decode cX5_cellTowards 28 = .ok (.iload_n 0, 1) := by decide +kernel
theorem dX5_cellTowards_29 : decode cX5_cellTowards 29 = .ok (.iconst 4, 1) := by decide +kernel
theorem dX5_cellTowards_30 : decode cX5_cellTowards 30 = .ok (.if_icmp .lt 9, 3) := by decide +kernel
theorem dX5_cellTowards_33 : decode cX5_cellTowards 33 = .ok (.iload_n 0, 1) := by decide +kernel
theorem dX5_cellTowards_34 : decode cX5_cellTowards 34 = .ok (.iconst 4, 1) := by decide +kernel
theorem dX5_cellTowards_35 : decode cX5_cellTowards 35 = .ok (.isub, 1) := by decide +kernel
theorem dX5_cellTowards_36 : decode cX5_cellTowards 36 = .ok (.goto 4, 3) := by decide +kernel
theorem dX5_cellTowards_39 : decode cX5_cellTowards 39 = .ok (.iconst (-1), 1) := by decide +kernel
theorem dX5_cellTowards_40 : decode cX5_cellTowards 40 = .ok (.ireturn, 1) := by decide +kernel
theorem dX5_cellTowards_41 : decode cX5_cellTowards 41 = .ok (.iload_n 0, 1) := by decide +kernel
theorem dX5_cellTowards_42 : decode cX5_cellTowards 42 = .ok (.iconst 3, 1) := by decide +kernel
theorem dX5_cellTowards_43 : decode cX5_cellTowards 43 = .ok (.iand, 1) := by decide +kernel
theorem dX5_cellTowards_44 : decode cX5_cellTowards 44 = .ok (.iconst 3, 1) := by decide +kernel
theorem dX5_cellTowards_45 : decode cX5_cellTowards 45 = .ok (.if_icmp .ge 9, 3) := by decide +kernel
theorem dX5_cellTowards_48 : decode cX5_cellTowards 48 = .ok (.iload_n 0, 1) := by decide +kernel
theorem dX5_cellTowards_49 : decode cX5_cellTowards 49 = .ok (.iconst 1, 1) := by decide +kernel
theorem dX5_cellTowards_50 : decode cX5_cellTowards 50 = .ok (.iadd, 1) := by decide +kernel
theorem dX5_cellTowards_51 : decode cX5_cellTowards 51 = .ok (.goto 4, 3) := by decide +kernel
theorem dX5_cellTowards_54 : decode cX5_cellTowards 54 = .ok (.iconst (-1), 1) := by decide +kernel
theorem dX5_cellTowards_55 : decode cX5_cellTowards 55 = .ok (.ireturn, 1) := by decide +kernel
theorem dX5_cellTowards_56 : decode cX5_cellTowards 56 = .ok (.iload_n 0, 1) := by decide +kernel
theorem dX5_cellTowards_57 : decode cX5_cellTowards 57 = .ok (.bipush 12, 2) := by decide +kernel
theorem dX5_cellTowards_59 : decode cX5_cellTowards 59 = .ok (.if_icmp .ge 9, 3) := by decide +kernel
theorem dX5_cellTowards_62 : decode cX5_cellTowards 62 = .ok (.iload_n 0, 1) := by decide +kernel
theorem dX5_cellTowards_63 : decode cX5_cellTowards 63 = .ok (.iconst 4, 1) := by decide +kernel
theorem dX5_cellTowards_64 : decode cX5_cellTowards 64 = .ok (.iadd, 1) := by decide +kernel
theorem dX5_cellTowards_65 : decode cX5_cellTowards 65 = .ok (.goto 4, 3) := by decide +kernel
theorem dX5_cellTowards_68 : decode cX5_cellTowards 68 = .ok (.iconst (-1), 1) := by decide +kernel
theorem dX5_cellTowards_69 : decode cX5_cellTowards 69 = .ok (.ireturn, 1) := by decide +kernel
theorem dX5_cellTowards_70 : decode cX5_cellTowards 70 = .ok (.iload_n 0, 1) := by decide +kernel
theorem dX5_cellTowards_71 : decode cX5_cellTowards 71 = .ok (.iconst 3, 1) := by decide +kernel
theorem dX5_cellTowards_72 : decode cX5_cellTowards 72 = .ok (.iand, 1) := by decide +kernel
theorem dX5_cellTowards_73 : decode cX5_cellTowards 73 = .ok (.ifCond .le 9, 3) := by decide +kernel
theorem dX5_cellTowards_76 : decode cX5_cellTowards 76 = .ok (.iload_n 0, 1) := by decide +kernel
theorem dX5_cellTowards_77 : decode cX5_cellTowards 77 = .ok (.iconst 1, 1) := by decide +kernel
theorem dX5_cellTowards_78 : decode cX5_cellTowards 78 = .ok (.isub, 1) := by decide +kernel
theorem dX5_cellTowards_79 : decode cX5_cellTowards 79 = .ok (.goto 4, 3) := by decide +kernel
theorem dX5_cellTowards_82 : decode cX5_cellTowards 82 = .ok (.iconst (-1), 1) := by decide +kernel
theorem dX5_cellTowards_83 : decode cX5_cellTowards 83 = .ok (.ireturn, 1) := by decide +kernel
set_option maxRecDepth 20000 in
theorem ggX5_directionTo_X5_cellTowards : GoodIn wsX5_directionTo wsX5_cellTowards := goodIn_r _ [4] (by decide +kernel) (by decide +kernel)
set_option maxRecDepth 20000 in
theorem gX5_directionTo_X5_cellTowards : GoodIn wsX5_directionTo (va_wsS RX5 303 yX5_cellTowards wsX5_cellTowards) := goodIn_app (goodIn_of _ (by decide +kernel)) ggX5_directionTo_X5_cellTowards
theorem dX5_directionTo_0 : decode cX5_directionTo 0 = .ok (.iconst 0, 1) := by decide +kernel
theorem dX5_directionTo_1 : decode cX5_directionTo 1 = .ok (.istore_n 2, 1) := by decide +kernel
theorem dX5_directionTo_2 : decode cX5_directionTo 2 = .ok (.iload_n 2, 1) := by decide +kernel
theorem dX5_directionTo_3 : decode cX5_directionTo 3 = .ok (.iconst 4, 1) := by decide +kernel
theorem dX5_directionTo_4 : decode cX5_directionTo 4 = .ok (.if_icmp .ge 20, 3) := by decide +kernel
theorem dX5_directionTo_7 : decode cX5_directionTo 7 = .ok (.iload_n 0, 1) := by decide +kernel
theorem dX5_directionTo_8 : decode cX5_directionTo 8 = .ok (.iload_n 2, 1) := by decide +kernel
theorem dX5_directionTo_9 : decode cX5_directionTo 9 = .ok (.invokestatic 303, 3) := by decide +kernel
theorem dX5_directionTo_12 : decode cX5_directionTo 12 = .ok (.iload_n 1, 1) := by decide +kernel
theorem dX5_directionTo_13 : decode cX5_directionTo 13 = .ok (.if_icmp .ne 5, 3) := by decide +kernel
theorem dX5_directionTo_16 : decode cX5_directionTo 16 = .ok (.iload_n 2, 1) := by decide +kernel
theorem dX5_directionTo_17 : decode cX5_directionTo 17 = .ok (.ireturn, 1) := by decide +kernel
theorem dX5_directionTo_18 : decode cX5_directionTo 18 = .ok (.iinc 2 1, 3) := by decide +kernel
theorem dX5_directionTo_21 : decode cX5_directionTo 21 = .ok (.goto (-19), 3) := by decide +kernel
theorem dX5_directionTo_24 : decode cX5_directionTo 24 = .ok (.iconst (-1), 1) := by decide +kernel
theorem dX5_directionTo_25 : decode cX5_directionTo 25 = .ok (.ireturn, 1) := by decide +kernel
theorem dX5_cellsBeside_0 : decode cX5_cellsBeside 0 = .ok (.iload_n 0, 1) := by decide +kernel
theorem dX5_cellsBeside_1 : decode cX5_cellsBeside 1 = .ok (.ldc_w 306, 3) := by decide +kernel
theorem dX5_cellsBeside_4 : decode cX5_cellsBeside 4 = .ok (.iand, 1) := by decide +kernel
theorem dX5_cellsBeside_5 : decode cX5_cellsBeside 5 = .ok (.iconst 1, 1) := by decide +kernel
theorem dX5_cellsBeside_6 : decode cX5_cellsBeside 6 = .ok (.ishr, 1) := by decide +kernel
theorem dX5_cellsBeside_7 : decode cX5_cellsBeside 7 = .ok (.iload_n 0, 1) := by decide +kernel
theorem dX5_cellsBeside_8 : decode cX5_cellsBeside 8 = .ok (.sipush 30583, 3) := by decide +kernel
theorem dX5_cellsBeside_11 : decode cX5_cellsBeside 11 = .ok (.iand, 1) := by decide +kernel
theorem dX5_cellsBeside_12 : decode cX5_cellsBeside 12 = .ok (.iconst 1, 1) := by decide +kernel
theorem dX5_cellsBeside_13 : decode cX5_cellsBeside 13 = .ok (.ishl, 1) := by decide +kernel
theorem dX5_cellsBeside_14 : decode cX5_cellsBeside 14 = .ok (.ior, 1) := by decide +kernel
theorem dX5_cellsBeside_15 : decode cX5_cellsBeside 15 = .ok (.istore_n 1, 1) := by decide +kernel
theorem dX5_cellsBeside_16 : decode cX5_cellsBeside 16 = .ok (.iload_n 1, 1) := by decide +kernel
theorem dX5_cellsBeside_17 : decode cX5_cellsBeside 17 = .ok (.iload_n 0, 1) := by decide +kernel
theorem dX5_cellsBeside_18 : decode cX5_cellsBeside 18 = .ok (.iconst 4, 1) := by decide +kernel
theorem dX5_cellsBeside_19 : decode cX5_cellsBeside 19 = .ok (.ishr, 1) := by decide +kernel
theorem dX5_cellsBeside_20 : decode cX5_cellsBeside 20 = .ok (.ior, 1) := by decide +kernel
theorem dX5_cellsBeside_21 : decode cX5_cellsBeside 21 = .ok (.iload_n 0, 1) := by decide +kernel
theorem dX5_cellsBeside_22 : decode cX5_cellsBeside 22 = .ok (.iconst 4, 1) := by decide +kernel
theorem dX5_cellsBeside_23 : decode cX5_cellsBeside 23 = .ok (.ishl, 1) := by decide +kernel
theorem dX5_cellsBeside_24 : decode cX5_cellsBeside 24 = .ok (.ior, 1) := by decide +kernel
theorem dX5_cellsBeside_25 : decode cX5_cellsBeside 25 = .ok (.ldc_w 290, 3) := by decide +kernel
theorem dX5_cellsBeside_28 : decode cX5_cellsBeside 28 = .ok (.iand, 1) := by decide +kernel
theorem dX5_cellsBeside_29 : decode cX5_cellsBeside 29 = .ok (.ireturn, 1) := by decide +kernel
set_option maxRecDepth 20000 in
theorem ggX5_coloursOf_J6_bitCount_0f7a4 : GoodIn wsX5_coloursOf wsJ6_bitCount_0f7a4 := goodIn_r _ [6, 7, 8, 9] (by decide +kernel) (by decide +kernel)
set_option maxRecDepth 20000 in
theorem gX5_coloursOf_J6_bitCount_0f7a4 : GoodIn wsX5_coloursOf (va_wsS RX5 308 yJ6_bitCount_0f7a4 wsJ6_bitCount_0f7a4) := goodIn_app (goodIn_of _ (by decide +kernel)) ggX5_coloursOf_J6_bitCount_0f7a4
theorem dX5_coloursOf_0 : decode cX5_coloursOf 0 = .ok (.iload_n 0, 1) := by decide +kernel
theorem dX5_coloursOf_1 : decode cX5_coloursOf 1 = .ok (.ldc_w 307, 3) := by decide +kernel
theorem dX5_coloursOf_4 : decode cX5_coloursOf 4 = .ok (.iand, 1) := by decide +kernel
theorem dX5_coloursOf_5 : decode cX5_coloursOf 5 = .ok (.invokestatic 308, 3) := by decide +kernel
theorem dX5_coloursOf_8 : decode cX5_coloursOf 8 = .ok (.iload_n 0, 1) := by decide +kernel
theorem dX5_coloursOf_9 : decode cX5_coloursOf 9 = .ok (.ldc_w 313, 3) := by decide +kernel
theorem dX5_coloursOf_12 : decode cX5_coloursOf 12 = .ok (.iand, 1) := by decide +kernel
theorem dX5_coloursOf_13 : decode cX5_coloursOf 13 = .ok (.invokestatic 308, 3) := by decide +kernel
theorem dX5_coloursOf_16 : decode cX5_coloursOf 16 = .ok (.isub, 1) := by decide +kernel
theorem dX5_coloursOf_17 : decode cX5_coloursOf 17 = .ok (.ireturn, 1) := by decide +kernel
set_option maxRecDepth 20000 in
theorem ggX5_barOf_X5_coloursOf : GoodIn wsX5_barOf wsX5_coloursOf := goodIn_r _ [4, 5, 6, 7, 8, 9, 10, 11, 12, 13] (by decide +kernel) (by decide +kernel)
set_option maxRecDepth 20000 in
theorem gX5_barOf_X5_coloursOf : GoodIn wsX5_barOf (va_wsS RX5 80 yX5_coloursOf wsX5_coloursOf) := goodIn_app (goodIn_of _ (by decide +kernel)) ggX5_barOf_X5_coloursOf
set_option maxRecDepth 20000 in
theorem ggX5_barOf_X5_isEven : GoodIn wsX5_barOf wsX5_isEven := goodIn_r _ [16, 5, 17, 18, 3, 19] (by decide +kernel) (by decide +kernel)
set_option maxRecDepth 20000 in
theorem gX5_barOf_X5_isEven : GoodIn wsX5_barOf (va_wsS RX5 314 yX5_isEven wsX5_isEven) := goodIn_app (goodIn_of _ (by decide +kernel)) ggX5_barOf_X5_isEven
theorem dX5_barOf_0 : decode cX5_barOf 0 = .ok (.iload_n 0, 1) := by decide +kernel
theorem dX5_barOf_1 : decode cX5_barOf 1 = .ok (.ifCond .ne 5, 3) := by decide +kernel
theorem dX5_barOf_4 : decode cX5_barOf 4 = .ok (.iconst 0, 1) := by decide +kernel
theorem dX5_barOf_5 : decode cX5_barOf 5 = .ok (.ireturn, 1) := by decide +kernel
theorem dX5_barOf_6 : decode cX5_barOf 6 = .ok (.iload_n 0, 1) := by decide +kernel
theorem dX5_barOf_7 : decode cX5_barOf 7 = .ok (.invokestatic 80, 3) := by decide +kernel
theorem dX5_barOf_10 : decode cX5_barOf 10 = .ok (.istore_n 3, 1) := by decide +kernel
theorem dX5_barOf_11 : decode cX5_barOf 11 = .ok (.iload_n 3, 1) := by decide +kernel
theorem dX5_barOf_12 : decode cX5_barOf 12 = .ok (.iconst 1, 1) := by decide +kernel
theorem dX5_barOf_13 : decode cX5_barOf 13 = .ok (.if_icmp .gt 8, 3) := by decide +kernel
theorem dX5_barOf_16 : decode cX5_barOf 16 = .ok (.iload_n 3, 1) := by decide +kernel
theorem dX5_barOf_17 : decode cX5_barOf 17 = .ok (.iconst (-1), 1) := by decide +kernel
theorem dX5_barOf_18 : decode cX5_barOf 18 = .ok (.if_icmp .ge 5, 3) := by decide +kernel
theorem dX5_barOf_21 : decode cX5_barOf 21 = .ok (.iconst 1, 1) := by decide +kernel
theorem dX5_barOf_22 : decode cX5_barOf 22 = .ok (.ireturn, 1) := by decide +kernel
theorem dX5_barOf_23 : decode cX5_barOf 23 = .ok (.iload_n 3, 1) := by decide +kernel
theorem dX5_barOf_24 : decode cX5_barOf 24 = .ok (.ifCond .ne 28, 3) := by decide +kernel
theorem dX5_barOf_27 : decode cX5_barOf 27 = .ok (.iload_n 1, 1) := by decide +kernel
theorem dX5_barOf_28 : decode cX5_barOf 28 = .ok (.ifCond .lt 22, 3) := by decide +kernel
theorem dX5_barOf_31 : decode cX5_barOf 31 = .ok (.iload_n 2, 1) := by decide +kernel
theorem dX5_barOf_32 : decode cX5_barOf 32 = .ok (.ifCond .lt 18, 3) := by decide +kernel
theorem dX5_barOf_35 : decode cX5_barOf 35 = .ok (.iload_n 1, 1) := by decide +kernel
theorem dX5_barOf_36 : decode cX5_barOf 36 = .ok (.invokestatic 314, 3) := by decide +kernel
theorem dX5_barOf_39 : decode cX5_barOf 39 = .ok (.iload_n 2, 1) := by decide +kernel
theorem dX5_barOf_40 : decode cX5_barOf 40 = .ok (.invokestatic 314, 3) := by decide +kernel
theorem dX5_barOf_43 : decode cX5_barOf 43 = .ok (.if_icmp .ne 7, 3) := by decide +kernel
theorem dX5_barOf_46 : decode cX5_barOf 46 = .ok (.iconst 2, 1) := by decide +kernel
theorem dX5_barOf_47 : decode cX5_barOf 47 = .ok (.goto 4, 3) := by decide +kernel
theorem dX5_barOf_50 : decode cX5_barOf 50 = .ok (.iconst 0, 1) := by decide +kernel
theorem dX5_barOf_51 : decode cX5_barOf 51 = .ok (.ireturn, 1) := by decide +kernel
theorem dX5_barOf_52 : decode cX5_barOf 52 = .ok (.iload_n 3, 1) := by decide +kernel
theorem dX5_barOf_53 : decode cX5_barOf 53 = .ok (.iconst 1, 1) := by decide +kernel
theorem dX5_barOf_54 : decode cX5_barOf 54 = .ok (.if_icmp .ne 7, 3) := by decide +kernel
theorem dX5_barOf_57 : decode cX5_barOf 57 = .ok (.iconst 1, 1) := by decide +kernel
theorem dX5_barOf_58 : decode cX5_barOf 58 = .ok (.goto 4, 3) := by decide +kernel
theorem dX5_barOf_61 : decode cX5_barOf 61 = .ok (.iconst 0, 1) := by decide +kernel
theorem dX5_barOf_62 : decode cX5_barOf 62 = .ok (.istore 4, 2) := by decide +kernel
theorem dX5_barOf_64 : decode cX5_barOf 64 = .ok (.iload_n 1, 1) := by decide +kernel
theorem dX5_barOf_65 : decode cX5_barOf 65 = .ok (.ifCond .lt 16, 3) := by decide +kernel
theorem dX5_barOf_68 : decode cX5_barOf 68 = .ok (.iload_n 1, 1) := by decide +kernel
theorem dX5_barOf_69 : decode cX5_barOf 69 = .ok (.invokestatic 314, 3) := by decide +kernel
theorem dX5_barOf_72 : decode cX5_barOf 72 = .ok (.iload 4, 2) := by decide +kernel
theorem dX5_barOf_74 : decode cX5_barOf 74 = .ok (.if_icmp .eq 7, 3) := by decide +kernel
theorem dX5_barOf_77 : decode cX5_barOf 77 = .ok (.iconst 1, 1) := by decide +kernel
theorem dX5_barOf_78 : decode cX5_barOf 78 = .ok (.goto 4, 3) := by decide +kernel
theorem dX5_barOf_81 : decode cX5_barOf 81 = .ok (.iconst 0, 1) := by decide +kernel
theorem dX5_barOf_82 : decode cX5_barOf 82 = .ok (.istore 5, 2) := by decide +kernel
theorem dX5_barOf_84 : decode cX5_barOf 84 = .ok (.iload_n 2, 1) := by decide +kernel
theorem dX5_barOf_85 : decode cX5_barOf 85 = .ok (.ifCond .lt 16, 3) := by decide +kernel
theorem dX5_barOf_88 : decode cX5_barOf 88 = .ok (.iload_n 2, 1) := by decide +kernel
theorem dX5_barOf_89 : decode cX5_barOf 89 = .ok (.invokestatic 314, 3) := by decide +kernel
theorem dX5_barOf_92 : decode cX5_barOf 92 = .ok (.iload 4, 2) := by decide +kernel
theorem dX5_barOf_94 : decode cX5_barOf 94 = .ok (.if_icmp .eq 7, 3) := by decide +kernel
theorem dX5_barOf_97 : decode cX5_barOf 97 = .ok (.iconst 1, 1) := by decide +kernel
theorem dX5_barOf_98 : decode cX5_barOf 98 = .ok (.goto 4, 3) := by decide +kernel
theorem dX5_barOf_101 : decode cX5_barOf 101 = .ok (.iconst 0, 1) := by decide +kernel
theorem dX5_barOf_102 : decode cX5_barOf 102 = .ok (.istore 6, 2) := by decide +kernel
theorem dX5_barOf_104 : decode cX5_barOf 104 = .ok (.iload 5, 2) := by decide +kernel
theorem dX5_barOf_106 : decode cX5_barOf 106 = .ok (.ifCond .ne 8, 3) := by decide +kernel
theorem dX5_barOf_109 : decode cX5_barOf 109 = .ok (.iload 6, 2) := by decide +kernel
theorem dX5_barOf_111 : decode cX5_barOf 111 = .ok (.ifCond .eq 7, 3) := by decide +kernel
theorem dX5_barOf_114 : decode cX5_barOf 114 = .ok (.iconst 2, 1) := by decide +kernel
theorem dX5_barOf_115 : decode cX5_barOf 115 = .ok (.goto 4, 3) := by decide +kernel
theorem dX5_barOf_118 : decode cX5_barOf 118 = .ok (.iconst 0, 1) := by decide +kernel
theorem dX5_barOf_119 : decode cX5_barOf 119 = .ok (.ireturn, 1) := by decide +kernel
set_option maxRecDepth 20000 in
theorem ggX5_isEven_X5_holds : GoodIn wsX5_isEven wsX5_holds := goodIn_r _ [5] (by decide +kernel) (by decide +kernel)
set_option maxRecDepth 20000 in
theorem gX5_isEven_X5_holds : GoodIn wsX5_isEven (va_wsS RX5 100 yX5_holds wsX5_holds) := goodIn_app (goodIn_of _ (by decide +kernel)) ggX5_isEven_X5_holds
theorem dX5_isEven_0 : decode cX5_isEven 0 = .ok (.ldc_w 307, 3) := by decide +kernel
theorem dX5_isEven_3 : decode cX5_isEven 3 = .ok (.iload_n 0, 1) := by decide +kernel
theorem dX5_isEven_4 : decode cX5_isEven 4 = .ok (.invokestatic 100, 3) := by decide +kernel
theorem dX5_isEven_7 : decode cX5_isEven 7 = .ok (.ireturn, 1) := by decide +kernel
theorem dX5_isKind_0 : decode cX5_isKind 0 = .ok (.iload_n 0, 1) := by decide +kernel
theorem dX5_isKind_1 : decode cX5_isKind 1 = .ok (.ifCond .lt 13, 3) := by decide +kernel
theorem dX5_isKind_4 : decode cX5_isKind 4 = .ok (.iload_n 0, 1) := by decide +kernel
theorem dX5_isKind_5 : decode cX5_isKind 5 = .ok (.bipush 6, 2) := by decide +kernel
theorem dX5_isKind_7 : decode cX5_isKind 7 = .ok (.if_icmp .ge 7, 3) := by decide +kernel
theorem dX5_isKind_10 : decode cX5_isKind 10 = .ok (.iconst 1, 1) := by decide +kernel
theorem dX5_isKind_11 : decode cX5_isKind 11 = .ok (.goto 4, 3) := by decide +kernel
theorem dX5_isKind_14 : decode cX5_isKind 14 = .ok (.iconst 0, 1) := by decide +kernel
theorem dX5_isKind_15 : decode cX5_isKind 15 = .ok (.ireturn, 1) := by decide +kernel
theorem dX5_isPace_0 : decode cX5_isPace 0 = .ok (.iload_n 0, 1) := by decide +kernel
theorem dX5_isPace_1 : decode cX5_isPace 1 = .ok (.iconst 1, 1) := by decide +kernel
theorem dX5_isPace_2 : decode cX5_isPace 2 = .ok (.if_icmp .lt 13, 3) := by decide +kernel
theorem dX5_isPace_5 : decode cX5_isPace 5 = .ok (.iload_n 0, 1) := by decide +kernel
theorem dX5_isPace_6 : decode cX5_isPace 6 = .ok (.bipush 9, 2) := by decide +kernel
theorem dX5_isPace_8 : decode cX5_isPace 8 = .ok (.if_icmp .gt 7, 3) := by decide +kernel
theorem dX5_isPace_11 : decode cX5_isPace 11 = .ok (.iconst 1, 1) := by decide +kernel
theorem dX5_isPace_12 : decode cX5_isPace 12 = .ok (.goto 4, 3) := by decide +kernel
theorem dX5_isPace_15 : decode cX5_isPace 15 = .ok (.iconst 0, 1) := by decide +kernel
theorem dX5_isPace_16 : decode cX5_isPace 16 = .ok (.ireturn, 1) := by decide +kernel
theorem dX5_isOfKind_0 : decode cX5_isOfKind 0 = .ok (.getstatic 317, 3) := by decide +kernel
theorem dX5_isOfKind_3 : decode cX5_isOfKind 3 = .ok (.iload_n 0, 1) := by decide +kernel
theorem dX5_isOfKind_4 : decode cX5_isOfKind 4 = .ok (.iaload, 1) := by decide +kernel
theorem dX5_isOfKind_5 : decode cX5_isOfKind 5 = .ok (.iload_n 1, 1) := by decide +kernel
theorem dX5_isOfKind_6 : decode cX5_isOfKind 6 = .ok (.ishr, 1) := by decide +kernel
theorem dX5_isOfKind_7 : decode cX5_isOfKind 7 = .ok (.iconst 1, 1) := by decide +kernel
theorem dX5_isOfKind_8 : decode cX5_isOfKind 8 = .ok (.iand, 1) := by decide +kernel
theorem dX5_isOfKind_9 : decode cX5_isOfKind 9 = .ok (.ifCond .eq 7, 3) := by decide +kernel
theorem dX5_isOfKind_12 : decode cX5_isOfKind 12 = .ok (.iconst 1, 1) := by decide +kernel
theorem dX5_isOfKind_13 : decode cX5_isOfKind 13 = .ok (.goto 4, 3) := by decide +kernel
theorem dX5_isOfKind_16 : decode cX5_isOfKind 16 = .ok (.iconst 0, 1) := by decide +kernel
theorem dX5_isOfKind_17 : decode cX5_isOfKind 17 = .ok (.ireturn, 1) := by decide +kernel
theorem dX5_isTurn_0 : decode cX5_isTurn 0 = .ok (.iload_n 0, 1) := by decide +kernel
theorem dX5_isTurn_1 : decode cX5_isTurn 1 = .ok (.ifCond .lt 12, 3) := by decide +kernel
theorem dX5_isTurn_4 : decode cX5_isTurn 4 = .ok (.iload_n 0, 1) := by decide +kernel
theorem dX5_isTurn_5 : decode cX5_isTurn 5 = .ok (.iload_n 1, 1) := by decide +kernel
theorem dX5_isTurn_6 : decode cX5_isTurn 6 = .ok (.if_icmp .eq 7, 3) := by decide +kernel
theorem dX5_isTurn_9 : decode cX5_isTurn 9 = .ok (.iconst 1, 1) := by decide +kernel
theorem dX5_isTurn_10 : decode cX5_isTurn 10 = .ok (.goto 4, 3) := by decide +kernel
theorem dX5_isTurn_13 : decode cX5_isTurn 13 = .ok (.iconst 0, 1) := by decide +kernel
theorem dX5_isTurn_14 : decode cX5_isTurn 14 = .ok (.ireturn, 1) := by decide +kernel
set_option maxRecDepth 20000 in
theorem ggX5_mayStep_X5_isTurn : GoodIn wsX5_mayStep wsX5_isTurn := goodIn_r _ [4] (by decide +kernel) (by decide +kernel)
set_option maxRecDepth 20000 in
theorem gX5_mayStep_X5_isTurn : GoodIn wsX5_mayStep (va_wsS RX5 276 yX5_isTurn wsX5_isTurn) := goodIn_app (goodIn_of _ (by decide +kernel)) ggX5_mayStep_X5_isTurn
set_option maxRecDepth 20000 in
theorem ggX5_mayStep_X5_isOfKind : GoodIn wsX5_mayStep wsX5_isOfKind := goodIn_r _ [7, 8] (by decide +kernel) (by decide +kernel)
set_option maxRecDepth 20000 in
theorem gX5_mayStep_X5_isOfKind : GoodIn wsX5_mayStep (va_wsS RX5 128 yX5_isOfKind wsX5_isOfKind) := goodIn_app (goodIn_of _ (by decide +kernel)) ggX5_mayStep_X5_isOfKind
set_option maxRecDepth 20000 in
theorem ggX5_mayStep_X5_holds : GoodIn wsX5_mayStep wsX5_holds := goodIn_r _ [11] (by decide +kernel) (by decide +kernel)
set_option maxRecDepth 20000 in
theorem gX5_mayStep_X5_holds : GoodIn wsX5_mayStep (va_wsS RX5 100 yX5_holds wsX5_holds) := goodIn_app (goodIn_of _ (by decide +kernel)) ggX5_mayStep_X5_holds
theorem dX5_mayStep_0 : decode cX5_mayStep 0 = .ok (.iload_n 3, 1) := by decide +kernel
theorem dX5_mayStep_1 : decode cX5_mayStep 1 = .ok (.iload 4, 2) := by decide +kernel
theorem dX5_mayStep_3 : decode cX5_mayStep 3 = .ok (.invokestatic 276, 3) := by decide +kernel
theorem dX5_mayStep_6 : decode cX5_mayStep 6 = .ok (.ifCond .eq 58, 3) := by decide +kernel
theorem dX5_mayStep_9 : decode cX5_mayStep 9 = .ok (.iload 4, 2) := by decide +kernel
theorem dX5_mayStep_11 : decode cX5_mayStep 11 = .ok (.iload_n 3, 1) := by decide +kernel
theorem dX5_mayStep_12 : decode cX5_mayStep 12 = .ok (.isub, 1) := by decide +kernel
theorem dX5_mayStep_13 : decode cX5_mayStep 13 = .ok (.iconst 3, 1) := by decide +kernel
theorem dX5_mayStep_14 : decode cX5_mayStep 14 = .ok (.iand, 1) := by decide +kernel
theorem dX5_mayStep_15 : decode cX5_mayStep 15 = .ok (.istore 6, 2) := by decide +kernel
theorem dX5_mayStep_17 : decode cX5_mayStep 17 = .ok (.iload 6, 2) := by decide +kernel
theorem dX5_mayStep_19 : decode cX5_mayStep 19 = .ok (.iconst 1, 1) := by decide +kernel
theorem dX5_mayStep_20 : decode cX5_mayStep 20 = .ok (.if_icmp .ne 13, 3) := by decide +kernel
theorem dX5_mayStep_23 : decode cX5_mayStep 23 = .ok (.iload_n 0, 1) := by decide +kernel
theorem dX5_mayStep_24 : decode cX5_mayStep 24 = .ok (.iconst 1, 1) := by decide +kernel
theorem dX5_mayStep_25 : decode cX5_mayStep 25 = .ok (.invokestatic 128, 3) := by decide +kernel
theorem dX5_mayStep_28 : decode cX5_mayStep 28 = .ok (.ifCond .eq 5, 3) := by decide +kernel
theorem dX5_mayStep_31 : decode cX5_mayStep 31 = .ok (.iconst 0, 1) := by decide +kernel
theorem dX5_mayStep_32 : decode cX5_mayStep 32 = .ok (.ireturn, 1) := by decide +kernel
theorem dX5_mayStep_33 : decode cX5_mayStep 33 = .ok (.iload 6, 2) := by decide +kernel
theorem dX5_mayStep_35 : decode cX5_mayStep 35 = .ok (.iconst 3, 1) := by decide +kernel
theorem dX5_mayStep_36 : decode cX5_mayStep 36 = .ok (.if_icmp .ne 13, 3) := by decide +kernel
theorem dX5_mayStep_39 : decode cX5_mayStep 39 = .ok (.iload_n 0, 1) := by decide +kernel
theorem dX5_mayStep_40 : decode cX5_mayStep 40 = .ok (.iconst 2, 1) := by decide +kernel
theorem dX5_mayStep_41 : decode cX5_mayStep 41 = .ok (.invokestatic 128, 3) := by decide +kernel
theorem dX5_mayStep_44 : decode cX5_mayStep 44 = .ok (.ifCond .eq 5, 3) := by decide +kernel
theorem dX5_mayStep_47 : decode cX5_mayStep 47 = .ok (.iconst 0, 1) := by decide +kernel
theorem dX5_mayStep_48 : decode cX5_mayStep 48 = .ok (.ireturn, 1) := by decide +kernel
theorem dX5_mayStep_49 : decode cX5_mayStep 49 = .ok (.iload 5, 2) := by decide +kernel
theorem dX5_mayStep_51 : decode cX5_mayStep 51 = .ok (.ifCond .eq 13, 3) := by decide +kernel
theorem dX5_mayStep_54 : decode cX5_mayStep 54 = .ok (.iload_n 0, 1) := by decide +kernel
theorem dX5_mayStep_55 : decode cX5_mayStep 55 = .ok (.iconst 3, 1) := by decide +kernel
theorem dX5_mayStep_56 : decode cX5_mayStep 56 = .ok (.invokestatic 128, 3) := by decide +kernel
theorem dX5_mayStep_59 : decode cX5_mayStep 59 = .ok (.ifCond .eq 5, 3) := by decide +kernel
theorem dX5_mayStep_62 : decode cX5_mayStep 62 = .ok (.iconst 0, 1) := by decide +kernel
theorem dX5_mayStep_63 : decode cX5_mayStep 63 = .ok (.ireturn, 1) := by decide +kernel
theorem dX5_mayStep_64 : decode cX5_mayStep 64 = .ok (.iload_n 1, 1) := by decide +kernel
theorem dX5_mayStep_65 : decode cX5_mayStep 65 = .ok (.iload_n 2, 1) := by decide +kernel
theorem dX5_mayStep_66 : decode cX5_mayStep 66 = .ok (.invokestatic 100, 3) := by decide +kernel
theorem dX5_mayStep_69 : decode cX5_mayStep 69 = .ok (.ifCond .eq 11, 3) := by decide +kernel
theorem dX5_mayStep_72 : decode cX5_mayStep 72 = .ok (.iload_n 0, 1) := by decide +kernel
theorem dX5_mayStep_73 : decode cX5_mayStep 73 = .ok (.iconst 4, 1) := by decide +kernel
theorem dX5_mayStep_74 : decode cX5_mayStep 74 = .ok (.invokestatic 128, 3) := by decide +kernel
theorem dX5_mayStep_77 : decode cX5_mayStep 77 = .ok (.ifCond .ne 7, 3) := by decide +kernel
theorem dX5_mayStep_80 : decode cX5_mayStep 80 = .ok (.iconst 1, 1) := by decide +kernel
theorem dX5_mayStep_81 : decode cX5_mayStep 81 = .ok (.goto 4, 3) := by decide +kernel
theorem dX5_mayStep_84 : decode cX5_mayStep 84 = .ok (.iconst 0, 1) := by decide +kernel
theorem dX5_mayStep_85 : decode cX5_mayStep 85 = .ok (.ireturn, 1) := by decide +kernel
