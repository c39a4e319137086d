theorem dX0_init_0 : decode cX0_init 0 = .ok (.aload_n 0, 1) := by decide +kernel
theorem dX0_init_1 : decode cX0_init 1 = .ok (.invokespecial 3, 3) := by decide +kernel
theorem dX0_init_4 : decode cX0_init 4 = .ok (.aload_n 0, 1) := by decide +kernel
theorem dX0_init_5 : decode cX0_init 5 = .ok (.iconst (-1), 1) := by decide +kernel
theorem dX0_init_6 : decode cX0_init 6 = .ok (.putfield 9, 3) := by decide +kernel
theorem dX0_init_9 : decode cX0_init 9 = .ok (.aload_n 0, 1) := by decide +kernel
theorem dX0_init_10 : decode cX0_init 10 = .ok (.bipush 16, 2) := by decide +kernel
theorem dX0_init_12 : decode cX0_init 12 = .ok (.newarray .int, 2) := by decide +kernel
theorem dX0_init_14 : decode cX0_init 14 = .ok (.putfield 15, 3) := by decide +kernel
theorem dX0_init_17 : decode cX0_init 17 = .ok (.aload_n 0, 1) := by decide +kernel
theorem dX0_init_18 : decode cX0_init 18 = .ok (.bipush 16, 2) := by decide +kernel
theorem dX0_init_20 : decode cX0_init 20 = .ok (.newarray .int, 2) := by decide +kernel
theorem dX0_init_22 : decode cX0_init 22 = .ok (.putfield 19, 3) := by decide +kernel
theorem dX0_init_25 : decode cX0_init 25 = .ok (.aload_n 0, 1) := by decide +kernel
theorem dX0_init_26 : decode cX0_init 26 = .ok (.bipush 16, 2) := by decide +kernel
theorem dX0_init_28 : decode cX0_init 28 = .ok (.newarray .int, 2) := by decide +kernel
theorem dX0_init_30 : decode cX0_init 30 = .ok (.putfield 22, 3) := by decide +kernel
theorem dX0_init_33 : decode cX0_init 33 = .ok (.aload_n 0, 1) := by decide +kernel
theorem dX0_init_34 : decode cX0_init 34 = .ok (.bipush 16, 2) := by decide +kernel
theorem dX0_init_36 : decode cX0_init 36 = .ok (.newarray .int, 2) := by decide +kernel
theorem dX0_init_38 : decode cX0_init 38 = .ok (.putfield 25, 3) := by decide +kernel
theorem dX0_init_41 : decode cX0_init 41 = .ok (.return_, 1) := by decide +kernel
set_option maxRecDepth 20000 in
theorem ggX0_ask_X5_isOfKind : GoodIn wsX0_ask wsX5_isOfKind := goodIn_r _ [10, 11] (by decide +kernel) (by decide +kernel)
set_option maxRecDepth 20000 in
theorem gX0_ask_X5_isOfKind_n28 : GoodIn wsX0_ask (wsX5_isOfKind) := ggX0_ask_X5_isOfKind
set_option maxRecDepth 20000 in
theorem ggX0_ask_X5_cellsBeside : GoodIn wsX0_ask wsX5_cellsBeside := goodIn_r _ [13, 14, 15] (by decide +kernel) (by decide +kernel)
set_option maxRecDepth 20000 in
theorem gX0_ask_X5_cellsBeside_n32 : GoodIn wsX0_ask (wsX5_cellsBeside) := ggX0_ask_X5_cellsBeside
set_option maxRecDepth 20000 in
theorem ggX0_ask_J6_bitCount_0f7a4 : GoodIn wsX0_ask wsJ6_bitCount_0f7a4 := goodIn_r _ [19, 20, 21, 22] (by decide +kernel) (by decide +kernel)
set_option maxRecDepth 20000 in
theorem gX0_ask_J6_bitCount_0f7a4 : GoodIn wsX0_ask (va_wsS RX0 48 yJ6_bitCount_0f7a4 wsJ6_bitCount_0f7a4) := goodIn_app (goodIn_of _ (by decide +kernel)) ggX0_ask_J6_bitCount_0f7a4
set_option maxRecDepth 20000 in
theorem ggX0_ask_X0_searchWhole : GoodIn wsX0_ask wsX0_searchWhole := goodIn_r _ [27, 28, 29, 30, 31, 1, 4, 32, 33, 34, 35, 36, 37, 38, 39, 26, 40, 3, 41, 9, 42, 43, 44, 45, 46, 47, 48, 49, 50, 17, 18, 19, 20, 21, 22, 51, 52, 53, 54, 55, 56, 57, 58, 59, 5, 2, 60, 61, 62, 63, 64, 65, 66, 67, 68, 69, 70, 71, 72, 73, 74, 75, 76, 77, 78, 79, 80, 81, 82, 83, 84, 8, 10, 11, 85, 86, 87, 88, 89, 90, 91, 92, 93, 94, 95, 96, 97, 98] (by decide +kernel) (by decide +kernel)
set_option maxRecDepth 20000 in
theorem gX0_ask_X0_searchWhole : GoodIn wsX0_ask (wsV RX0 59 RX0 yX0_searchWhole wsX0_searchWhole) := goodIn_app (goodIn_of _ (by decide +kernel)) ggX0_ask_X0_searchWhole
theorem dX0_ask_0 : decode cX0_ask 0 = .ok (.iload_n 1, 1) := by decide +kernel
theorem dX0_ask_1 : decode cX0_ask 1 = .ok (.iconst 4, 1) := by decide +kernel
theorem dX0_ask_2 : decode cX0_ask 2 = .ok (.invokestatic 28, 3) := by decide +kernel
theorem dX0_ask_5 : decode cX0_ask 5 = .ok (.ifCond .eq 10, 3) := by decide +kernel
theorem dX0_ask_8 : decode cX0_ask 8 = .ok (.iload_n 3, 1) := by decide +kernel
theorem dX0_ask_9 : decode cX0_ask 9 = .ok (.invokestatic 32, 3) := by decide +kernel
theorem dX0_ask_12 : decode cX0_ask 12 = .ok (.goto 4, 3) := by decide +kernel
theorem dX0_ask_15 : decode cX0_ask 15 = .ok (.iconst 0, 1) := by decide +kernel
theorem dX0_ask_16 : decode cX0_ask 16 = .ok (.istore 6, 2) := by decide +kernel
theorem dX0_ask_18 : decode cX0_ask 18 = .ok (.iload_n 2, 1) := by decide +kernel
theorem dX0_ask_19 : decode cX0_ask 19 = .ok (.aload_n 0, 1) := by decide +kernel
theorem dX0_ask_20 : decode cX0_ask 20 = .ok (.getfield 36, 3) := by decide +kernel
theorem dX0_ask_23 : decode cX0_ask 23 = .ok (.if_icmp .ne 34, 3) := by decide +kernel
theorem dX0_ask_26 : decode cX0_ask 26 = .ok (.iload 6, 2) := by decide +kernel
theorem dX0_ask_28 : decode cX0_ask 28 = .ok (.aload_n 0, 1) := by decide +kernel
theorem dX0_ask_29 : decode cX0_ask 29 = .ok (.getfield 39, 3) := by decide +kernel
theorem dX0_ask_32 : decode cX0_ask 32 = .ok (.if_icmp .ne 25, 3) := by decide +kernel
theorem dX0_ask_35 : decode cX0_ask 35 = .ok (.iload 4, 2) := by decide +kernel
theorem dX0_ask_37 : decode cX0_ask 37 = .ok (.aload_n 0, 1) := by decide +kernel
theorem dX0_ask_38 : decode cX0_ask 38 = .ok (.getfield 42, 3) := by decide +kernel
theorem dX0_ask_41 : decode cX0_ask 41 = .ok (.if_icmp .ne 16, 3) := by decide +kernel
theorem dX0_ask_44 : decode cX0_ask 44 = .ok (.iload 5, 2) := by decide +kernel
theorem dX0_ask_46 : decode cX0_ask 46 = .ok (.aload_n 0, 1) := by decide +kernel
theorem dX0_ask_47 : decode cX0_ask 47 = .ok (.getfield 45, 3) := by decide +kernel
theorem dX0_ask_50 : decode cX0_ask 50 = .ok (.if_icmp .ne 7, 3) := by decide +kernel
theorem dX0_ask_53 : decode cX0_ask 53 = .ok (.iconst 1, 1) := by decide +kernel
theorem dX0_ask_54 : decode cX0_ask 54 = .ok (.goto 4, 3) := by decide +kernel
theorem dX0_ask_57 : decode cX0_ask 57 = .ok (.iconst 0, 1) := by decide +kernel
theorem dX0_ask_58 : decode cX0_ask 58 = .ok (.istore 7, 2) := by decide +kernel
theorem dX0_ask_60 : decode cX0_ask 60 = .ok (.iload_n 1, 1) := by decide +kernel
theorem dX0_ask_61 : decode cX0_ask 61 = .ok (.aload_n 0, 1) := by decide +kernel
theorem dX0_ask_62 : decode cX0_ask 62 = .ok (.getfield 9, 3) := by decide +kernel
theorem dX0_ask_65 : decode cX0_ask 65 = .ok (.if_icmp .ne 9, 3) := by decide +kernel
theorem dX0_ask_68 : decode cX0_ask 68 = .ok (.iload 7, 2) := by decide +kernel
theorem dX0_ask_70 : decode cX0_ask 70 = .ok (.ifCond .eq 4, 3) := by decide +kernel
theorem dX0_ask_73 : decode cX0_ask 73 = .ok (.return_, 1) := by decide +kernel
theorem dX0_ask_74 : decode cX0_ask 74 = .ok (.aload_n 0, 1) := by decide +kernel
theorem dX0_ask_75 : decode cX0_ask 75 = .ok (.iload_n 1, 1) := by decide +kernel
theorem dX0_ask_76 : decode cX0_ask 76 = .ok (.putfield 9, 3) := by decide +kernel
theorem dX0_ask_79 : decode cX0_ask 79 = .ok (.aload_n 0, 1) := by decide +kernel
theorem dX0_ask_80 : decode cX0_ask 80 = .ok (.iload_n 2, 1) := by decide +kernel
theorem dX0_ask_81 : decode cX0_ask 81 = .ok (.putfield 36, 3) := by decide +kernel
theorem dX0_ask_84 : decode cX0_ask 84 = .ok (.aload_n 0, 1) := by decide +kernel
theorem dX0_ask_85 : decode cX0_ask 85 = .ok (.iload 6, 2) := by decide +kernel
theorem dX0_ask_87 : decode cX0_ask 87 = .ok (.putfield 39, 3) := by decide +kernel
theorem dX0_ask_90 : decode cX0_ask 90 = .ok (.aload_n 0, 1) := by decide +kernel
theorem dX0_ask_91 : decode cX0_ask 91 = .ok (.iload 4, 2) := by decide +kernel
theorem dX0_ask_93 : decode cX0_ask 93 = .ok (.putfield 42, 3) := by decide +kernel
theorem dX0_ask_96 : decode cX0_ask 96 = .ok (.aload_n 0, 1) := by decide +kernel
theorem dX0_ask_97 : decode cX0_ask 97 = .ok (.iload 5, 2) := by decide +kernel
theorem dX0_ask_99 : decode cX0_ask 99 = .ok (.putfield 45, 3) := by decide +kernel
theorem dX0_ask_102 : decode cX0_ask 102 = .ok (.aload_n 0, 1) := by decide +kernel
theorem dX0_ask_103 : decode cX0_ask 103 = .ok (.aload_n 0, 1) := by decide +kernel
theorem dX0_ask_104 : decode cX0_ask 104 = .ok (.getfield 36, 3) := by decide +kernel
theorem dX0_ask_107 : decode cX0_ask 107 = .ok (.invokestatic 48, 3) := by decide +kernel
theorem dX0_ask_110 : decode cX0_ask 110 = .ok (.putfield 53, 3) := by decide +kernel
theorem dX0_ask_113 : decode cX0_ask 113 = .ok (.aload_n 0, 1) := by decide +kernel
theorem dX0_ask_114 : decode cX0_ask 114 = .ok (.iconst (-1), 1) := by decide +kernel
theorem dX0_ask_115 : decode cX0_ask 115 = .ok (.putfield 56, 3) := by decide +kernel
theorem dX0_ask_118 : decode cX0_ask 118 = .ok (.aload_n 0, 1) := by decide +kernel
theorem dX0_ask_119 : decode cX0_ask 119 = .ok (.invokevirtual 59, 3) := by decide +kernel
theorem dX0_ask_122 : decode cX0_ask 122 = .ok (.return_, 1) := by decide +kernel
set_option maxRecDepth 20000 in
theorem ggX0_searchWhole_J7_fill_53178 : GoodIn wsX0_searchWhole wsJ7_fill_53178 := goodIn_r _ [11] (by decide +kernel) (by decide +kernel)
set_option maxRecDepth 20000 in
theorem gX0_searchWhole_J7_fill_53178 : GoodIn wsX0_searchWhole (va_wsS RX0 68 yJ7_fill_53178 wsJ7_fill_53178) := goodIn_app (goodIn_of _ (by decide +kernel)) ggX0_searchWhole_J7_fill_53178
set_option maxRecDepth 20000 in
theorem ggX0_searchWhole_X0_mayBegin : GoodIn wsX0_searchWhole wsX0_mayBegin := goodIn_r _ [16, 6, 5, 17, 18, 19, 20, 74, 75, 76, 77, 78, 79, 80, 81, 82, 83, 84, 85, 86, 87] (by decide +kernel) (by decide +kernel)
set_option maxRecDepth 20000 in
theorem gX0_searchWhole_X0_mayBegin : GoodIn wsX0_searchWhole (wsV RX0 74 RX0 yX0_mayBegin wsX0_mayBegin) := goodIn_app (goodIn_of _ (by decide +kernel)) ggX0_searchWhole_X0_mayBegin
set_option maxRecDepth 20000 in
theorem ggX0_searchWhole_X5_barOf : GoodIn wsX0_searchWhole wsX5_barOf := goodIn_r _ [22, 23, 24, 19, 25, 26, 27, 28, 29, 30, 31, 32, 33, 34, 35, 36, 37, 38, 18, 20] (by decide +kernel) (by decide +kernel)
set_option maxRecDepth 20000 in
theorem gX0_searchWhole_X5_barOf_n78 : GoodIn wsX0_searchWhole (wsX5_barOf) := ggX0_searchWhole_X5_barOf
set_option maxRecDepth 20000 in
theorem ggX0_searchWhole_X0_plough : GoodIn wsX0_searchWhole wsX0_plough := goodIn_r _ [42, 43, 44, 45, 7, 46, 47, 48, 15, 49, 6, 1, 2, 50, 51, 52, 53, 54, 3, 4, 55, 56, 57, 58, 59, 60, 61, 62, 18, 19, 20, 63, 64, 65, 66, 67, 68, 69, 70, 71, 72, 73, 38, 39, 40, 41, 74, 75, 76, 77, 78, 79, 80, 81, 82, 83, 84, 85, 86, 87] (by decide +kernel) (by decide +kernel)
set_option maxRecDepth 20000 in
theorem gX0_searchWhole_X0_plough : GoodIn wsX0_searchWhole (wsV RX0 82 RX0 yX0_plough wsX0_plough) := goodIn_app (goodIn_of _ (by decide +kernel)) ggX0_searchWhole_X0_plough
theorem dX0_searchWhole_0 : decode cX0_searchWhole 0 = .ok (.aload_n 0, 1) := by decide +kernel
theorem dX0_searchWhole_1 : decode cX0_searchWhole 1 = .ok (.iconst 0, 1) := by decide +kernel
theorem dX0_searchWhole_2 : decode cX0_searchWhole 2 = .ok (.putfield 62, 3) := by decide +kernel
theorem dX0_searchWhole_5 : decode cX0_searchWhole 5 = .ok (.aload_n 0, 1) := by decide +kernel
theorem dX0_searchWhole_6 : decode cX0_searchWhole 6 = .ok (.iconst 0, 1) := by decide +kernel
theorem dX0_searchWhole_7 : decode cX0_searchWhole 7 = .ok (.putfield 65, 3) := by decide +kernel
theorem dX0_searchWhole_10 : decode cX0_searchWhole 10 = .ok (.aload_n 0, 1) := by decide +kernel
theorem dX0_searchWhole_11 : decode cX0_searchWhole 11 = .ok (.getfield 19, 3) := by decide +kernel
theorem dX0_searchWhole_14 : decode cX0_searchWhole 14 = .ok (.iconst (-1), 1) := by decide +kernel
theorem dX0_searchWhole_15 : decode cX0_searchWhole 15 = .ok (.invokestatic 68, 3) := by decide +kernel
theorem dX0_searchWhole_18 : decode cX0_searchWhole 18 = .ok (.aload_n 0, 1) := by decide +kernel
theorem dX0_searchWhole_19 : decode cX0_searchWhole 19 = .ok (.getfield 22, 3) := by decide +kernel
theorem dX0_searchWhole_22 : decode cX0_searchWhole 22 = .ok (.iconst (-1), 1) := by decide +kernel
theorem dX0_searchWhole_23 : decode cX0_searchWhole 23 = .ok (.invokestatic 68, 3) := by decide +kernel
theorem dX0_searchWhole_26 : decode cX0_searchWhole 26 = .ok (.iconst 0, 1) := by decide +kernel
theorem dX0_searchWhole_27 : decode cX0_searchWhole 27 = .ok (.istore_n 1, 1) := by decide +kernel
theorem dX0_searchWhole_28 : decode cX0_searchWhole 28 = .ok (.iload_n 1, 1) := by decide +kernel
theorem dX0_searchWhole_29 : decode cX0_searchWhole 29 = .ok (.bipush 16, 2) := by decide +kernel
theorem dX0_searchWhole_31 : decode cX0_searchWhole 31 = .ok (.if_icmp .ge 58, 3) := by decide +kernel
theorem dX0_searchWhole_34 : decode cX0_searchWhole 34 = .ok (.aload_n 0, 1) := by decide +kernel
theorem dX0_searchWhole_35 : decode cX0_searchWhole 35 = .ok (.iload_n 1, 1) := by decide +kernel
theorem dX0_searchWhole_36 : decode cX0_searchWhole 36 = .ok (.invokevirtual 74, 3) := by decide +kernel
theorem dX0_searchWhole_39 : decode cX0_searchWhole 39 = .ok (.ifCond .eq 44, 3) := by decide +kernel
theorem dX0_searchWhole_42 : decode cX0_searchWhole 42 = .ok (.aload_n 0, 1) := by decide +kernel
theorem dX0_searchWhole_43 : decode cX0_searchWhole 43 = .ok (.getfield 36, 3) := by decide +kernel
theorem dX0_searchWhole_46 : decode cX0_searchWhole 46 = .ok (.iload_n 1, 1) := by decide +kernel
theorem dX0_searchWhole_47 : decode cX0_searchWhole 47 = .ok (.aload_n 0, 1) := by decide +kernel
theorem dX0_searchWhole_48 : decode cX0_searchWhole 48 = .ok (.getfield 45, 3) := by decide +kernel
theorem dX0_searchWhole_51 : decode cX0_searchWhole 51 = .ok (.invokestatic 78, 3) := by decide +kernel
theorem dX0_searchWhole_54 : decode cX0_searchWhole 54 = .ok (.ifCond .ne 29, 3) := by decide +kernel
theorem dX0_searchWhole_57 : decode cX0_searchWhole 57 = .ok (.aload_n 0, 1) := by decide +kernel
theorem dX0_searchWhole_58 : decode cX0_searchWhole 58 = .ok (.getfield 25, 3) := by decide +kernel
theorem dX0_searchWhole_61 : decode cX0_searchWhole 61 = .ok (.iconst 0, 1) := by decide +kernel
theorem dX0_searchWhole_62 : decode cX0_searchWhole 62 = .ok (.iload_n 1, 1) := by decide +kernel
theorem dX0_searchWhole_63 : decode cX0_searchWhole 63 = .ok (.iastore, 1) := by decide +kernel
theorem dX0_searchWhole_64 : decode cX0_searchWhole 64 = .ok (.aload_n 0, 1) := by decide +kernel
theorem dX0_searchWhole_65 : decode cX0_searchWhole 65 = .ok (.iconst 1, 1) := by decide +kernel
theorem dX0_searchWhole_66 : decode cX0_searchWhole 66 = .ok (.iload_n 1, 1) := by decide +kernel
theorem dX0_searchWhole_67 : decode cX0_searchWhole 67 = .ok (.aload_n 0, 1) := by decide +kernel
theorem dX0_searchWhole_68 : decode cX0_searchWhole 68 = .ok (.getfield 36, 3) := by decide +kernel
theorem dX0_searchWhole_71 : decode cX0_searchWhole 71 = .ok (.iconst 1, 1) := by decide +kernel
theorem dX0_searchWhole_72 : decode cX0_searchWhole 72 = .ok (.iload_n 1, 1) := by decide +kernel
theorem dX0_searchWhole_73 : decode cX0_searchWhole 73 = .ok (.ishl, 1) := by decide +kernel
theorem dX0_searchWhole_74 : decode cX0_searchWhole 74 = .ok (.iconst (-1), 1) := by decide +kernel
theorem dX0_searchWhole_75 : decode cX0_searchWhole 75 = .ok (.ixor, 1) := by decide +kernel
theorem dX0_searchWhole_76 : decode cX0_searchWhole 76 = .ok (.iand, 1) := by decide +kernel
theorem dX0_searchWhole_77 : decode cX0_searchWhole 77 = .ok (.iconst (-1), 1) := by decide +kernel
theorem dX0_searchWhole_78 : decode cX0_searchWhole 78 = .ok (.iconst 0, 1) := by decide +kernel
theorem dX0_searchWhole_79 : decode cX0_searchWhole 79 = .ok (.iconst 0, 1) := by decide +kernel
theorem dX0_searchWhole_80 : decode cX0_searchWhole 80 = .ok (.invokevirtual 82, 3) := by decide +kernel
theorem dX0_searchWhole_83 : decode cX0_searchWhole 83 = .ok (.iinc 1 1, 3) := by decide +kernel
theorem dX0_searchWhole_86 : decode cX0_searchWhole 86 = .ok (.goto (-58), 3) := by decide +kernel
theorem dX0_searchWhole_89 : decode cX0_searchWhole 89 = .ok (.return_, 1) := by decide +kernel
set_option maxRecDepth 20000 in
theorem ggX0_mayBegin_X5_holds : GoodIn wsX0_mayBegin wsX5_holds := goodIn_r _ [6] (by decide +kernel) (by decide +kernel)
set_option maxRecDepth 20000 in
theorem gX0_mayBegin_X5_holds_n86 : GoodIn wsX0_mayBegin (wsX5_holds) := ggX0_mayBegin_X5_holds
theorem dX0_mayBegin_0 : decode cX0_mayBegin 0 = .ok (.aload_n 0, 1) := by decide +kernel
theorem dX0_mayBegin_1 : decode cX0_mayBegin 1 = .ok (.getfield 45, 3) := by decide +kernel
theorem dX0_mayBegin_4 : decode cX0_mayBegin 4 = .ok (.ifCond .lt 17, 3) := by decide +kernel
theorem dX0_mayBegin_7 : decode cX0_mayBegin 7 = .ok (.aload_n 0, 1) := by decide +kernel
theorem dX0_mayBegin_8 : decode cX0_mayBegin 8 = .ok (.getfield 36, 3) := by decide +kernel
theorem dX0_mayBegin_11 : decode cX0_mayBegin 11 = .ok (.aload_n 0, 1) := by decide +kernel
theorem dX0_mayBegin_12 : decode cX0_mayBegin 12 = .ok (.getfield 45, 3) := by decide +kernel
theorem dX0_mayBegin_15 : decode cX0_mayBegin 15 = .ok (.invokestatic 86, 3) := by decide +kernel
theorem dX0_mayBegin_18 : decode cX0_mayBegin 18 = .ok (.ifCond .eq 7, 3) := by decide +kernel
theorem dX0_mayBegin_21 : decode cX0_mayBegin 21 = .ok (.iconst 1, 1) := by decide +kernel
theorem dX0_mayBegin_22 : decode cX0_mayBegin 22 = .ok (.goto 4, 3) := by decide +kernel
theorem dX0_mayBegin_25 : decode cX0_mayBegin 25 = .ok (.iconst 0, 1) := by decide +kernel
theorem dX0_mayBegin_26 : decode cX0_mayBegin 26 = .ok (.istore_n 2, 1) := by decide +kernel
theorem dX0_mayBegin_27 : decode cX0_mayBegin 27 = .ok (.aload_n 0, 1) := by decide +kernel
theorem dX0_mayBegin_28 : decode cX0_mayBegin 28 = .ok (.getfield 36, 3) := by decide +kernel
theorem dX0_mayBegin_31 : decode cX0_mayBegin 31 = .ok (.iload_n 1, 1) := by decide +kernel
theorem dX0_mayBegin_32 : decode cX0_mayBegin 32 = .ok (.invokestatic 86, 3) := by decide +kernel
theorem dX0_mayBegin_35 : decode cX0_mayBegin 35 = .ok (.ifCond .eq 26, 3) := by decide +kernel
theorem dX0_mayBegin_38 : decode cX0_mayBegin 38 = .ok (.aload_n 0, 1) := by decide +kernel
theorem dX0_mayBegin_39 : decode cX0_mayBegin 39 = .ok (.getfield 42, 3) := by decide +kernel
theorem dX0_mayBegin_42 : decode cX0_mayBegin 42 = .ok (.ifCond .lt 11, 3) := by decide +kernel
theorem dX0_mayBegin_45 : decode cX0_mayBegin 45 = .ok (.aload_n 0, 1) := by decide +kernel
theorem dX0_mayBegin_46 : decode cX0_mayBegin 46 = .ok (.getfield 42, 3) := by decide +kernel
theorem dX0_mayBegin_49 : decode cX0_mayBegin 49 = .ok (.iload_n 1, 1) := by decide +kernel
theorem dX0_mayBegin_50 : decode cX0_mayBegin 50 = .ok (.if_icmp .ne 11, 3) := by decide +kernel
theorem dX0_mayBegin_53 : decode cX0_mayBegin 53 = .ok (.iload_n 2, 1) := by decide +kernel
theorem dX0_mayBegin_54 : decode cX0_mayBegin 54 = .ok (.ifCond .eq 7, 3) := by decide +kernel
theorem dX0_mayBegin_57 : decode cX0_mayBegin 57 = .ok (.iconst 1, 1) := by decide +kernel
theorem dX0_mayBegin_58 : decode cX0_mayBegin 58 = .ok (.goto 4, 3) := by decide +kernel
theorem dX0_mayBegin_61 : decode cX0_mayBegin 61 = .ok (.iconst 0, 1) := by decide +kernel
theorem dX0_mayBegin_62 : decode cX0_mayBegin 62 = .ok (.ireturn, 1) := by decide +kernel
set_option maxRecDepth 20000 in
theorem ggX0_plough_X0_keep : GoodIn wsX0_plough wsX0_keep := goodIn_r _ [9, 10, 11, 12, 4, 13, 14, 15, 16, 17, 18, 19, 20, 21, 8, 22, 46, 47, 48, 49, 50, 51, 52, 53, 54, 55, 56, 57, 58, 59] (by decide +kernel) (by decide +kernel)
set_option maxRecDepth 20000 in
theorem gX0_plough_X0_keep : GoodIn wsX0_plough (wsV RX0 89 RX0 yX0_keep wsX0_keep) := goodIn_app (goodIn_of _ (by decide +kernel)) ggX0_plough_X0_keep
set_option maxRecDepth 20000 in
theorem ggX0_plough_X0_isHopeless : GoodIn wsX0_plough wsX0_isHopeless := goodIn_r _ [26, 27, 10, 28, 29, 30, 46, 47, 48, 49, 50, 51, 52, 53, 54, 55, 56, 57, 58, 59] (by decide +kernel) (by decide +kernel)
set_option maxRecDepth 20000 in
theorem gX0_plough_X0_isHopeless : GoodIn wsX0_plough (wsV RX0 93 RX0 yX0_isHopeless wsX0_isHopeless) := goodIn_app (goodIn_of _ (by decide +kernel)) ggX0_plough_X0_isHopeless
set_option maxRecDepth 20000 in
theorem ggX0_plough_X5_cellTowards : GoodIn wsX0_plough wsX5_cellTowards := goodIn_r _ [32] (by decide +kernel) (by decide +kernel)
set_option maxRecDepth 20000 in
theorem gX0_plough_X5_cellTowards_n99 : GoodIn wsX0_plough (wsX5_cellTowards) := ggX0_plough_X5_cellTowards
set_option maxRecDepth 20000 in
theorem ggX0_plough_X5_holds : GoodIn wsX0_plough wsX5_holds := goodIn_r _ [30] (by decide +kernel) (by decide +kernel)
set_option maxRecDepth 20000 in
theorem gX0_plough_X5_holds_n86 : GoodIn wsX0_plough (wsX5_holds) := ggX0_plough_X5_holds
set_option maxRecDepth 20000 in
theorem ggX0_plough_X5_mayStep : GoodIn wsX0_plough wsX5_mayStep := goodIn_r _ [34, 35, 36, 29, 37, 38, 39, 40, 41, 42, 28, 30] (by decide +kernel) (by decide +kernel)
set_option maxRecDepth 20000 in
theorem gX0_plough_X5_mayStep_n103 : GoodIn wsX0_plough (wsX5_mayStep) := ggX0_plough_X5_mayStep
set_option maxRecDepth 20000 in
theorem ggX0_plough_X5_isTurn : GoodIn wsX0_plough wsX5_isTurn := goodIn_r _ [37] (by decide +kernel) (by decide +kernel)
set_option maxRecDepth 20000 in
theorem gX0_plough_X5_isTurn_n107 : GoodIn wsX0_plough (wsX5_isTurn) := ggX0_plough_X5_isTurn
set_option maxRecDepth 20000 in
theorem ggX0_plough_X0_plough : GoodIn wsX0_plough wsX0_plough := goodIn_r _ [0, 1, 2, 3, 4, 5, 6, 7, 8, 9, 10, 11, 12, 13, 14, 15, 16, 17, 18, 19, 20, 21, 22, 23, 24, 25, 26, 27, 28, 29, 30, 31, 32, 33, 34, 35, 36, 37, 38, 39, 40, 41, 42, 43, 44, 45, 46, 47, 48, 49, 50, 51, 52, 53, 54, 55, 56, 57, 58, 59] (by decide +kernel) (by decide +kernel)
set_option maxRecDepth 20000 in
theorem gX0_plough_X0_plough : GoodIn wsX0_plough (wsV RX0 82 RX0 yX0_plough wsX0_plough) := goodIn_app (goodIn_of _ (by decide +kernel)) ggX0_plough_X0_plough
theorem dX0_plough_0 : decode cX0_plough 0 = .ok (.iload_n 3, 1) := by decide +kernel
theorem dX0_plough_1 : decode cX0_plough 1 = .ok (.ifCond .ne 11, 3) := by decide +kernel
theorem dX0_plough_4 : decode cX0_plough 4 = .ok (.aload_n 0, 1) := by decide +kernel
theorem dX0_plough_5 : decode cX0_plough 5 = .ok (.iload_n 2, 1) := by decide +kernel
theorem dX0_plough_6 : decode cX0_plough 6 = .ok (.iload 6, 2) := by decide +kernel
theorem dX0_plough_8 : decode cX0_plough 8 = .ok (.invokevirtual 89, 3) := by decide +kernel
theorem dX0_plough_11 : decode cX0_plough 11 = .ok (.return_, 1) := by decide +kernel
theorem dX0_plough_12 : decode cX0_plough 12 = .ok (.iload_n 1, 1) := by decide +kernel
theorem dX0_plough_13 : decode cX0_plough 13 = .ok (.bipush 16, 2) := by decide +kernel
theorem dX0_plough_15 : decode cX0_plough 15 = .ok (.if_icmp .ge 12, 3) := by decide +kernel
theorem dX0_plough_18 : decode cX0_plough 18 = .ok (.aload_n 0, 1) := by decide +kernel
theorem dX0_plough_19 : decode cX0_plough 19 = .ok (.iload_n 2, 1) := by decide +kernel
theorem dX0_plough_20 : decode cX0_plough 20 = .ok (.iload_n 3, 1) := by decide +kernel
theorem dX0_plough_21 : decode cX0_plough 21 = .ok (.invokevirtual 93, 3) := by decide +kernel
theorem dX0_plough_24 : decode cX0_plough 24 = .ok (.ifCond .eq 4, 3) := by decide +kernel
theorem dX0_plough_27 : decode cX0_plough 27 = .ok (.return_, 1) := by decide +kernel
theorem dX0_plough_28 : decode cX0_plough 28 = .ok (.iconst 0, 1) := by decide +kernel
theorem dX0_plough_29 : decode cX0_plough 29 = .ok (.istore 7, 2) := by decide +kernel
theorem dX0_plough_31 : decode cX0_plough 31 = .ok (.iload 7, 2) := by decide +kernel
theorem dX0_plough_33 : decode cX0_plough 33 = .ok (.iconst 4, 1) := by decide +kernel
theorem dX0_plough_34 : decode cX0_plough 34 = .ok (.if_icmp .ge 116, 3) := by decide +kernel
theorem dX0_plough_37 : decode cX0_plough 37 = .ok (.getstatic 96, 3) := by decide +kernel
theorem dX0_plough_40 : decode cX0_plough 40 = .ok (.iload 7, 2) := by decide +kernel
theorem dX0_plough_42 : decode cX0_plough 42 = .ok (.iaload, 1) := by decide +kernel
theorem dX0_plough_43 : decode cX0_plough 43 = .ok (.istore 8, 2) := by decide +kernel
theorem dX0_plough_45 : decode cX0_plough 45 = .ok (.iload_n 2, 1) := by decide +kernel
theorem dX0_plough_46 : decode cX0_plough 46 = .ok (.iload 8, 2) := by decide +kernel
theorem dX0_plough_48 : decode cX0_plough 48 = .ok (.invokestatic 99, 3) := by decide +kernel
theorem dX0_plough_51 : decode cX0_plough 51 = .ok (.istore 9, 2) := by decide +kernel
theorem dX0_plough_53 : decode cX0_plough 53 = .ok (.iload 9, 2) := by decide +kernel
theorem dX0_plough_55 : decode cX0_plough 55 = .ok (.ifCond .lt 89, 3) := by decide +kernel
theorem dX0_plough_58 : decode cX0_plough 58 = .ok (.iload_n 3, 1) := by decide +kernel
theorem dX0_plough_59 : decode cX0_plough 59 = .ok (.iload 9, 2) := by decide +kernel
theorem dX0_plough_61 : decode cX0_plough 61 = .ok (.invokestatic 86, 3) := by decide +kernel
theorem dX0_plough_64 : decode cX0_plough 64 = .ok (.ifCond .ne 6, 3) := by decide +kernel
theorem dX0_plough_67 : decode cX0_plough 67 = .ok (.goto 77, 3) := by decide +kernel
theorem dX0_plough_70 : decode cX0_plough 70 = .ok (.aload_n 0, 1) := by decide +kernel
theorem dX0_plough_71 : decode cX0_plough 71 = .ok (.getfield 9, 3) := by decide +kernel
theorem dX0_plough_74 : decode cX0_plough 74 = .ok (.aload_n 0, 1) := by decide +kernel
theorem dX0_plough_75 : decode cX0_plough 75 = .ok (.getfield 39, 3) := by decide +kernel
theorem dX0_plough_78 : decode cX0_plough 78 = .ok (.iload 9, 2) := by decide +kernel
theorem dX0_plough_80 : decode cX0_plough 80 = .ok (.iload 4, 2) := by decide +kernel
theorem dX0_plough_82 : decode cX0_plough 82 = .ok (.iload 8, 2) := by decide +kernel
theorem dX0_plough_84 : decode cX0_plough 84 = .ok (.iload 5, 2) := by decide +kernel
theorem dX0_plough_86 : decode cX0_plough 86 = .ok (.invokestatic 103, 3) := by decide +kernel
theorem dX0_plough_89 : decode cX0_plough 89 = .ok (.ifCond .eq 55, 3) := by decide +kernel
theorem dX0_plough_92 : decode cX0_plough 92 = .ok (.iload 4, 2) := by decide +kernel
theorem dX0_plough_94 : decode cX0_plough 94 = .ok (.iload 8, 2) := by decide +kernel
theorem dX0_plough_96 : decode cX0_plough 96 = .ok (.invokestatic 107, 3) := by decide +kernel
theorem dX0_plough_99 : decode cX0_plough 99 = .ok (.istore 10, 2) := by decide +kernel
theorem dX0_plough_101 : decode cX0_plough 101 = .ok (.aload_n 0, 1) := by decide +kernel
theorem dX0_plough_102 : decode cX0_plough 102 = .ok (.getfield 25, 3) := by decide +kernel
theorem dX0_plough_105 : decode cX0_plough 105 = .ok (.iload_n 1, 1) := by decide +kernel
theorem dX0_plough_106 : decode cX0_plough 106 = .ok (.iload 9, 2) := by decide +kernel
theorem dX0_plough_108 : decode cX0_plough 108 = .ok (.iastore, 1) := by decide +kernel
theorem dX0_plough_109 : decode cX0_plough 109 = .ok (.aload_n 0, 1) := by decide +kernel
theorem dX0_plough_110 : decode cX0_plough 110 = .ok (.iload_n 1, 1) := by decide +kernel
theorem dX0_plough_111 : decode cX0_plough 111 = .ok (.iconst 1, 1) := by decide +kernel
theorem dX0_plough_112 : decode cX0_plough 112 = .ok (.iadd, 1) := by decide +kernel
theorem dX0_plough_113 : decode cX0_plough 113 = .ok (.iload 9, 2) := by decide +kernel
theorem dX0_plough_115 : decode cX0_plough 115 = .ok (.iload_n 3, 1) := by decide +kernel
theorem dX0_plough_116 : decode cX0_plough 116 = .ok (.iconst 1, 1) := by decide +kernel
theorem dX0_plough_117 : decode cX0_plough 117 = .ok (.iload 9, 2) := by decide +kernel
theorem dX0_plough_119 : decode cX0_plough 119 = .ok (.ishl, 1) := by decide +kernel
theorem dX0_plough_120 : decode cX0_plough 120 = .ok (.iconst (-1), 1) := by decide +kernel
theorem dX0_plough_121 : decode cX0_plough 121 = .ok (.ixor, 1) := by decide +kernel
theorem dX0_plough_122 : decode cX0_plough 122 = .ok (.iand, 1) := by decide +kernel
theorem dX0_plough_123 : decode cX0_plough 123 = .ok (.iload 8, 2) := by decide +kernel
theorem dX0_plough_125 : decode cX0_plough 125 = .ok (.iload 10, 2) := by decide +kernel
theorem dX0_plough_127 : decode cX0_plough 127 = .ok (.iload 10, 2) := by decide +kernel
theorem dX0_plough_129 : decode cX0_plough 129 = .ok (.ifCond .eq 10, 3) := by decide +kernel
theorem dX0_plough_132 : decode cX0_plough 132 = .ok (.iload 6, 2) := by decide +kernel
theorem dX0_plough_134 : decode cX0_plough 134 = .ok (.iconst 1, 1) := by decide +kernel
theorem dX0_plough_135 : decode cX0_plough 135 = .ok (.iadd, 1) := by decide +kernel
theorem dX0_plough_136 : decode cX0_plough 136 = .ok (.goto 5, 3) := by decide +kernel
theorem dX0_plough_139 : decode cX0_plough 139 = .ok (.iload 6, 2) := by decide +kernel
theorem dX0_plough_141 : decode cX0_plough 141 = .ok (.invokevirtual 82, 3) := by decide +kernel
theorem dX0_plough_144 : decode cX0_plough 144 = .ok (.iinc 7 1, 3) := by decide +kernel
theorem dX0_plough_147 : decode cX0_plough 147 = .ok (.goto (-116), 3) := by decide +kernel
theorem dX0_plough_150 : decode cX0_plough 150 = .ok (.return_, 1) := by decide +kernel
set_option maxRecDepth 20000 in
theorem ggX0_keep_X0_keepLeast : GoodIn wsX0_keep wsX0_keepLeast := goodIn_r _ [15] (by decide +kernel) (by decide +kernel)
set_option maxRecDepth 20000 in
theorem gX0_keep_X0_keepLeast : GoodIn wsX0_keep (va_wsS RX0 116 yX0_keepLeast wsX0_keepLeast) := goodIn_app (goodIn_of _ (by decide +kernel)) ggX0_keep_X0_keepLeast
theorem dX0_keep_0 : decode cX0_keep 0 = .ok (.aload_n 0, 1) := by decide +kernel
theorem dX0_keep_1 : decode cX0_keep 1 = .ok (.getfield 45, 3) := by decide +kernel
theorem dX0_keep_4 : decode cX0_keep 4 = .ok (.ifCond .lt 12, 3) := by decide +kernel
theorem dX0_keep_7 : decode cX0_keep 7 = .ok (.iload_n 1, 1) := by decide +kernel
theorem dX0_keep_8 : decode cX0_keep 8 = .ok (.aload_n 0, 1) := by decide +kernel
theorem dX0_keep_9 : decode cX0_keep 9 = .ok (.getfield 45, 3) := by decide +kernel
theorem dX0_keep_12 : decode cX0_keep 12 = .ok (.if_icmp .eq 4, 3) := by decide +kernel
theorem dX0_keep_15 : decode cX0_keep 15 = .ok (.return_, 1) := by decide +kernel
theorem dX0_keep_16 : decode cX0_keep 16 = .ok (.aload_n 0, 1) := by decide +kernel
theorem dX0_keep_17 : decode cX0_keep 17 = .ok (.getfield 62, 3) := by decide +kernel
theorem dX0_keep_20 : decode cX0_keep 20 = .ok (.ifCond .eq 11, 3) := by decide +kernel
theorem dX0_keep_23 : decode cX0_keep 23 = .ok (.iload_n 2, 1) := by decide +kernel
theorem dX0_keep_24 : decode cX0_keep 24 = .ok (.aload_n 0, 1) := by decide +kernel
theorem dX0_keep_25 : decode cX0_keep 25 = .ok (.getfield 65, 3) := by decide +kernel
theorem dX0_keep_28 : decode cX0_keep 28 = .ok (.if_icmp .ge 23, 3) := by decide +kernel
theorem dX0_keep_31 : decode cX0_keep 31 = .ok (.aload_n 0, 1) := by decide +kernel
theorem dX0_keep_32 : decode cX0_keep 32 = .ok (.iload_n 2, 1) := by decide +kernel
theorem dX0_keep_33 : decode cX0_keep 33 = .ok (.putfield 65, 3) := by decide +kernel
theorem dX0_keep_36 : decode cX0_keep 36 = .ok (.aload_n 0, 1) := by decide +kernel
theorem dX0_keep_37 : decode cX0_keep 37 = .ok (.getfield 25, 3) := by decide +kernel
theorem dX0_keep_40 : decode cX0_keep 40 = .ok (.iconst 0, 1) := by decide +kernel
theorem dX0_keep_41 : decode cX0_keep 41 = .ok (.aload_n 0, 1) := by decide +kernel
theorem dX0_keep_42 : decode cX0_keep 42 = .ok (.getfield 15, 3) := by decide +kernel
theorem dX0_keep_45 : decode cX0_keep 45 = .ok (.iconst 0, 1) := by decide +kernel
theorem dX0_keep_46 : decode cX0_keep 46 = .ok (.bipush 16, 2) := by decide +kernel
theorem dX0_keep_48 : decode cX0_keep 48 = .ok (.invokestatic 110, 3) := by decide +kernel
theorem dX0_keep_51 : decode cX0_keep 51 = .ok (.aload_n 0, 1) := by decide +kernel
theorem dX0_keep_52 : decode cX0_keep 52 = .ok (.dup, 1) := by decide +kernel
theorem dX0_keep_53 : decode cX0_keep 53 = .ok (.getfield 62, 3) := by decide +kernel
theorem dX0_keep_56 : decode cX0_keep 56 = .ok (.iconst 1, 1) := by decide +kernel
theorem dX0_keep_57 : decode cX0_keep 57 = .ok (.iadd, 1) := by decide +kernel
theorem dX0_keep_58 : decode cX0_keep 58 = .ok (.putfield 62, 3) := by decide +kernel
theorem dX0_keep_61 : decode cX0_keep 61 = .ok (.aload_n 0, 1) := by decide +kernel
theorem dX0_keep_62 : decode cX0_keep 62 = .ok (.getfield 19, 3) := by decide +kernel
theorem dX0_keep_65 : decode cX0_keep 65 = .ok (.aload_n 0, 1) := by decide +kernel
theorem dX0_keep_66 : decode cX0_keep 66 = .ok (.getfield 25, 3) := by decide +kernel
theorem dX0_keep_69 : decode cX0_keep 69 = .ok (.iconst 0, 1) := by decide +kernel
theorem dX0_keep_70 : decode cX0_keep 70 = .ok (.iaload, 1) := by decide +kernel
theorem dX0_keep_71 : decode cX0_keep 71 = .ok (.iload_n 2, 1) := by decide +kernel
theorem dX0_keep_72 : decode cX0_keep 72 = .ok (.invokestatic 116, 3) := by decide +kernel
theorem dX0_keep_75 : decode cX0_keep 75 = .ok (.aload_n 0, 1) := by decide +kernel
theorem dX0_keep_76 : decode cX0_keep 76 = .ok (.getfield 22, 3) := by decide +kernel
theorem dX0_keep_79 : decode cX0_keep 79 = .ok (.iload_n 1, 1) := by decide +kernel
theorem dX0_keep_80 : decode cX0_keep 80 = .ok (.iload_n 2, 1) := by decide +kernel
theorem dX0_keep_81 : decode cX0_keep 81 = .ok (.invokestatic 116, 3) := by decide +kernel
theorem dX0_keep_84 : decode cX0_keep 84 = .ok (.return_, 1) := by decide +kernel
theorem dX0_keepLeast_0 : decode cX0_keepLeast 0 = .ok (.aload_n 0, 1) := by decide +kernel
theorem dX0_keepLeast_1 : decode cX0_keepLeast 1 = .ok (.iload_n 1, 1) := by decide +kernel
theorem dX0_keepLeast_2 : decode cX0_keepLeast 2 = .ok (.iaload, 1) := by decide +kernel
theorem dX0_keepLeast_3 : decode cX0_keepLeast 3 = .ok (.ifCond .lt 10, 3) := by decide +kernel
theorem dX0_keepLeast_6 : decode cX0_keepLeast 6 = .ok (.iload_n 2, 1) := by decide +kernel
theorem dX0_keepLeast_7 : decode cX0_keepLeast 7 = .ok (.aload_n 0, 1) := by decide +kernel
theorem dX0_keepLeast_8 : decode cX0_keepLeast 8 = .ok (.iload_n 1, 1) := by decide +kernel
theorem dX0_keepLeast_9 : decode cX0_keepLeast 9 = .ok (.iaload, 1) := by decide +kernel
theorem dX0_keepLeast_10 : decode cX0_keepLeast 10 = .ok (.if_icmp .ge 7, 3) := by decide +kernel
theorem dX0_keepLeast_13 : decode cX0_keepLeast 13 = .ok (.aload_n 0, 1) := by decide +kernel
theorem dX0_keepLeast_14 : decode cX0_keepLeast 14 = .ok (.iload_n 1, 1) := by decide +kernel
theorem dX0_keepLeast_15 : decode cX0_keepLeast 15 = .ok (.iload_n 2, 1) := by decide +kernel
theorem dX0_keepLeast_16 : decode cX0_keepLeast 16 = .ok (.iastore, 1) := by decide +kernel
theorem dX0_keepLeast_17 : decode cX0_keepLeast 17 = .ok (.return_, 1) := by decide +kernel
set_option maxRecDepth 20000 in
theorem ggX0_isHopeless_X5_holds : GoodIn wsX0_isHopeless wsX5_holds := goodIn_r _ [5] (by decide +kernel) (by decide +kernel)
set_option maxRecDepth 20000 in
theorem gX0_isHopeless_X5_holds_n86 : GoodIn wsX0_isHopeless (wsX5_holds) := ggX0_isHopeless_X5_holds
theorem dX0_isHopeless_0 : decode cX0_isHopeless 0 = .ok (.iload_n 2, 1) := by decide +kernel
theorem dX0_isHopeless_1 : decode cX0_isHopeless 1 = .ok (.iconst 1, 1) := by decide +kernel
theorem dX0_isHopeless_2 : decode cX0_isHopeless 2 = .ok (.iload_n 1, 1) := by decide +kernel
theorem dX0_isHopeless_3 : decode cX0_isHopeless 3 = .ok (.ishl, 1) := by decide +kernel
theorem dX0_isHopeless_4 : decode cX0_isHopeless 4 = .ok (.ior, 1) := by decide +kernel
theorem dX0_isHopeless_5 : decode cX0_isHopeless 5 = .ok (.istore_n 3, 1) := by decide +kernel
theorem dX0_isHopeless_6 : decode cX0_isHopeless 6 = .ok (.iload_n 3, 1) := by decide +kernel
theorem dX0_isHopeless_7 : decode cX0_isHopeless 7 = .ok (.iconst 4, 1) := by decide +kernel
theorem dX0_isHopeless_8 : decode cX0_isHopeless 8 = .ok (.ishl, 1) := by decide +kernel
theorem dX0_isHopeless_9 : decode cX0_isHopeless 9 = .ok (.istore 4, 2) := by decide +kernel
theorem dX0_isHopeless_11 : decode cX0_isHopeless 11 = .ok (.iload_n 3, 1) := by decide +kernel
theorem dX0_isHopeless_12 : decode cX0_isHopeless 12 = .ok (.iconst 4, 1) := by decide +kernel
theorem dX0_isHopeless_13 : decode cX0_isHopeless 13 = .ok (.ishr, 1) := by decide +kernel
theorem dX0_isHopeless_14 : decode cX0_isHopeless 14 = .ok (.istore 5, 2) := by decide +kernel
theorem dX0_isHopeless_16 : decode cX0_isHopeless 16 = .ok (.iload_n 3, 1) := by decide +kernel
theorem dX0_isHopeless_17 : decode cX0_isHopeless 17 = .ok (.sipush 30583, 3) := by decide +kernel
theorem dX0_isHopeless_20 : decode cX0_isHopeless 20 = .ok (.iand, 1) := by decide +kernel
theorem dX0_isHopeless_21 : decode cX0_isHopeless 21 = .ok (.iconst 1, 1) := by decide +kernel
theorem dX0_isHopeless_22 : decode cX0_isHopeless 22 = .ok (.ishl, 1) := by decide +kernel
theorem dX0_isHopeless_23 : decode cX0_isHopeless 23 = .ok (.istore 6, 2) := by decide +kernel
theorem dX0_isHopeless_25 : decode cX0_isHopeless 25 = .ok (.iload_n 3, 1) := by decide +kernel
theorem dX0_isHopeless_26 : decode cX0_isHopeless 26 = .ok (.ldc 120, 2) := by decide +kernel
theorem dX0_isHopeless_28 : decode cX0_isHopeless 28 = .ok (.iand, 1) := by decide +kernel
theorem dX0_isHopeless_29 : decode cX0_isHopeless 29 = .ok (.iconst 1, 1) := by decide +kernel
theorem dX0_isHopeless_30 : decode cX0_isHopeless 30 = .ok (.ishr, 1) := by decide +kernel
theorem dX0_isHopeless_31 : decode cX0_isHopeless 31 = .ok (.istore 7, 2) := by decide +kernel
theorem dX0_isHopeless_33 : decode cX0_isHopeless 33 = .ok (.iload 4, 2) := by decide +kernel
theorem dX0_isHopeless_35 : decode cX0_isHopeless 35 = .ok (.iload 5, 2) := by decide +kernel
theorem dX0_isHopeless_37 : decode cX0_isHopeless 37 = .ok (.ior, 1) := by decide +kernel
theorem dX0_isHopeless_38 : decode cX0_isHopeless 38 = .ok (.iload 6, 2) := by decide +kernel
theorem dX0_isHopeless_40 : decode cX0_isHopeless 40 = .ok (.ior, 1) := by decide +kernel
theorem dX0_isHopeless_41 : decode cX0_isHopeless 41 = .ok (.iload 7, 2) := by decide +kernel
theorem dX0_isHopeless_43 : decode cX0_isHopeless 43 = .ok (.ior, 1) := by decide +kernel
theorem dX0_isHopeless_44 : decode cX0_isHopeless 44 = .ok (.istore 8, 2) := by decide +kernel
theorem dX0_isHopeless_46 : decode cX0_isHopeless 46 = .ok (.iload 4, 2) := by decide +kernel
theorem dX0_isHopeless_48 : decode cX0_isHopeless 48 = .ok (.iload 5, 2) := by decide +kernel
theorem dX0_isHopeless_50 : decode cX0_isHopeless 50 = .ok (.iand, 1) := by decide +kernel
theorem dX0_isHopeless_51 : decode cX0_isHopeless 51 = .ok (.iload 6, 2) := by decide +kernel
theorem dX0_isHopeless_53 : decode cX0_isHopeless 53 = .ok (.iload 7, 2) := by decide +kernel
theorem dX0_isHopeless_55 : decode cX0_isHopeless 55 = .ok (.iand, 1) := by decide +kernel
theorem dX0_isHopeless_56 : decode cX0_isHopeless 56 = .ok (.ior, 1) := by decide +kernel
theorem dX0_isHopeless_57 : decode cX0_isHopeless 57 = .ok (.iload 4, 2) := by decide +kernel
theorem dX0_isHopeless_59 : decode cX0_isHopeless 59 = .ok (.iload 5, 2) := by decide +kernel
theorem dX0_isHopeless_61 : decode cX0_isHopeless 61 = .ok (.ior, 1) := by decide +kernel
theorem dX0_isHopeless_62 : decode cX0_isHopeless 62 = .ok (.iload 6, 2) := by decide +kernel
theorem dX0_isHopeless_64 : decode cX0_isHopeless 64 = .ok (.iload 7, 2) := by decide +kernel
theorem dX0_isHopeless_66 : decode cX0_isHopeless 66 = .ok (.ior, 1) := by decide +kernel
theorem dX0_isHopeless_67 : decode cX0_isHopeless 67 = .ok (.iand, 1) := by decide +kernel
theorem dX0_isHopeless_68 : decode cX0_isHopeless 68 = .ok (.ior, 1) := by decide +kernel
theorem dX0_isHopeless_69 : decode cX0_isHopeless 69 = .ok (.istore 9, 2) := by decide +kernel
theorem dX0_isHopeless_71 : decode cX0_isHopeless 71 = .ok (.iload_n 2, 1) := by decide +kernel
theorem dX0_isHopeless_72 : decode cX0_isHopeless 72 = .ok (.iload 9, 2) := by decide +kernel
theorem dX0_isHopeless_74 : decode cX0_isHopeless 74 = .ok (.iconst (-1), 1) := by decide +kernel
theorem dX0_isHopeless_75 : decode cX0_isHopeless 75 = .ok (.ixor, 1) := by decide +kernel
theorem dX0_isHopeless_76 : decode cX0_isHopeless 76 = .ok (.iand, 1) := by decide +kernel
theorem dX0_isHopeless_77 : decode cX0_isHopeless 77 = .ok (.istore 10, 2) := by decide +kernel
theorem dX0_isHopeless_79 : decode cX0_isHopeless 79 = .ok (.iload_n 2, 1) := by decide +kernel
theorem dX0_isHopeless_80 : decode cX0_isHopeless 80 = .ok (.iload 8, 2) := by decide +kernel
theorem dX0_isHopeless_82 : decode cX0_isHopeless 82 = .ok (.iconst (-1), 1) := by decide +kernel
theorem dX0_isHopeless_83 : decode cX0_isHopeless 83 = .ok (.ixor, 1) := by decide +kernel
theorem dX0_isHopeless_84 : decode cX0_isHopeless 84 = .ok (.iand, 1) := by decide +kernel
theorem dX0_isHopeless_85 : decode cX0_isHopeless 85 = .ok (.ifCond .ne 13, 3) := by decide +kernel
theorem dX0_isHopeless_88 : decode cX0_isHopeless 88 = .ok (.iload 10, 2) := by decide +kernel
theorem dX0_isHopeless_90 : decode cX0_isHopeless 90 = .ok (.iload 10, 2) := by decide +kernel
theorem dX0_isHopeless_92 : decode cX0_isHopeless 92 = .ok (.iconst 1, 1) := by decide +kernel
theorem dX0_isHopeless_93 : decode cX0_isHopeless 93 = .ok (.isub, 1) := by decide +kernel
theorem dX0_isHopeless_94 : decode cX0_isHopeless 94 = .ok (.iand, 1) := by decide +kernel
theorem dX0_isHopeless_95 : decode cX0_isHopeless 95 = .ok (.ifCond .eq 5, 3) := by decide +kernel
theorem dX0_isHopeless_98 : decode cX0_isHopeless 98 = .ok (.iconst 1, 1) := by decide +kernel
theorem dX0_isHopeless_99 : decode cX0_isHopeless 99 = .ok (.ireturn, 1) := by decide +kernel
theorem dX0_isHopeless_100 : decode cX0_isHopeless 100 = .ok (.aload_n 0, 1) := by decide +kernel
theorem dX0_isHopeless_101 : decode cX0_isHopeless 101 = .ok (.getfield 45, 3) := by decide +kernel
theorem dX0_isHopeless_104 : decode cX0_isHopeless 104 = .ok (.ifCond .lt 32, 3) := by decide +kernel
theorem dX0_isHopeless_107 : decode cX0_isHopeless 107 = .ok (.iload_n 2, 1) := by decide +kernel
theorem dX0_isHopeless_108 : decode cX0_isHopeless 108 = .ok (.aload_n 0, 1) := by decide +kernel
theorem dX0_isHopeless_109 : decode cX0_isHopeless 109 = .ok (.getfield 45, 3) := by decide +kernel
theorem dX0_isHopeless_112 : decode cX0_isHopeless 112 = .ok (.invokestatic 86, 3) := by decide +kernel
theorem dX0_isHopeless_115 : decode cX0_isHopeless 115 = .ok (.ifCond .eq 17, 3) := by decide +kernel
theorem dX0_isHopeless_118 : decode cX0_isHopeless 118 = .ok (.iload 10, 2) := by decide +kernel
theorem dX0_isHopeless_120 : decode cX0_isHopeless 120 = .ok (.iconst 1, 1) := by decide +kernel
theorem dX0_isHopeless_121 : decode cX0_isHopeless 121 = .ok (.aload_n 0, 1) := by decide +kernel
theorem dX0_isHopeless_122 : decode cX0_isHopeless 122 = .ok (.getfield 45, 3) := by decide +kernel
theorem dX0_isHopeless_125 : decode cX0_isHopeless 125 = .ok (.ishl, 1) := by decide +kernel
theorem dX0_isHopeless_126 : decode cX0_isHopeless 126 = .ok (.iconst (-1), 1) := by decide +kernel
theorem dX0_isHopeless_127 : decode cX0_isHopeless 127 = .ok (.ixor, 1) := by decide +kernel
theorem dX0_isHopeless_128 : decode cX0_isHopeless 128 = .ok (.iand, 1) := by decide +kernel
theorem dX0_isHopeless_129 : decode cX0_isHopeless 129 = .ok (.ifCond .eq 7, 3) := by decide +kernel
theorem dX0_isHopeless_132 : decode cX0_isHopeless 132 = .ok (.iconst 1, 1) := by decide +kernel
theorem dX0_isHopeless_133 : decode cX0_isHopeless 133 = .ok (.goto 4, 3) := by decide +kernel
theorem dX0_isHopeless_136 : decode cX0_isHopeless 136 = .ok (.iconst 0, 1) := by decide +kernel
theorem dX0_isHopeless_137 : decode cX0_isHopeless 137 = .ok (.ireturn, 1) := by decide +kernel
set_option maxRecDepth 20000 in
theorem ggX0_longest_X0_searchLongest : GoodIn wsX0_longest wsX0_searchLongest := goodIn_r _ [6, 7, 8, 1, 9, 10, 11, 12, 13, 14, 15, 16, 17, 18, 19, 20, 21, 22, 23, 24, 25, 5, 26, 27, 28, 29, 30, 31, 32, 33, 34, 35, 36, 37, 38, 39, 40, 41, 42, 43, 44, 45, 46, 47, 48, 49, 50, 51, 52, 53, 54, 55, 56, 57, 58, 59, 60, 61, 62, 63, 64, 65, 66, 67] (by decide +kernel) (by decide +kernel)
set_option maxRecDepth 20000 in
theorem gX0_longest_X0_searchLongest : GoodIn wsX0_longest (wsV RX0 121 RX0 yX0_searchLongest wsX0_searchLongest) := goodIn_app (goodIn_of _ (by decide +kernel)) ggX0_longest_X0_searchLongest
theorem dX0_longest_0 : decode cX0_longest 0 = .ok (.aload_n 0, 1) := by decide +kernel
theorem dX0_longest_1 : decode cX0_longest 1 = .ok (.getfield 56, 3) := by decide +kernel
theorem dX0_longest_4 : decode cX0_longest 4 = .ok (.iconst (-1), 1) := by decide +kernel
theorem dX0_longest_5 : decode cX0_longest 5 = .ok (.if_icmp .ne 7, 3) := by decide +kernel
theorem dX0_longest_8 : decode cX0_longest 8 = .ok (.aload_n 0, 1) := by decide +kernel
theorem dX0_longest_9 : decode cX0_longest 9 = .ok (.invokevirtual 121, 3) := by decide +kernel
theorem dX0_longest_12 : decode cX0_longest 12 = .ok (.aload_n 0, 1) := by decide +kernel
theorem dX0_longest_13 : decode cX0_longest 13 = .ok (.getfield 56, 3) := by decide +kernel
theorem dX0_longest_16 : decode cX0_longest 16 = .ok (.ireturn, 1) := by decide +kernel
set_option maxRecDepth 20000 in
theorem ggX0_searchLongest_J6_bitCount_0f7a4 : GoodIn wsX0_searchLongest wsJ6_bitCount_0f7a4 := goodIn_r _ [14, 15, 16, 17] (by decide +kernel) (by decide +kernel)
set_option maxRecDepth 20000 in
theorem gX0_searchLongest_J6_bitCount_0f7a4 : GoodIn wsX0_searchLongest (va_wsS RX0 48 yJ6_bitCount_0f7a4 wsJ6_bitCount_0f7a4) := goodIn_app (goodIn_of _ (by decide +kernel)) ggX0_searchLongest_J6_bitCount_0f7a4
set_option maxRecDepth 20000 in
theorem ggX0_searchLongest_X0_mayBegin : GoodIn wsX0_searchLongest wsX0_mayBegin := goodIn_r _ [22, 23, 4, 24, 25, 26, 27, 50, 51, 52, 53, 54, 55, 56, 57, 58, 59, 60, 61, 62, 63] (by decide +kernel) (by decide +kernel)
set_option maxRecDepth 20000 in
theorem gX0_searchLongest_X0_mayBegin : GoodIn wsX0_searchLongest (wsV RX0 74 RX0 yX0_mayBegin wsX0_mayBegin) := goodIn_app (goodIn_of _ (by decide +kernel)) ggX0_searchLongest_X0_mayBegin
set_option maxRecDepth 20000 in
theorem ggX0_searchLongest_X0_stretch : GoodIn wsX0_searchLongest wsX0_stretch := goodIn_r _ [31, 23, 3, 32, 33, 8, 34, 10, 35, 36, 37, 38, 26, 39, 25, 27, 40, 41, 42, 43, 44, 45, 46, 47, 48, 49, 28, 29, 30, 21, 50, 51, 52, 53, 54, 55, 56, 57, 58, 59, 60, 61, 62, 63] (by decide +kernel) (by decide +kernel)
set_option maxRecDepth 20000 in
theorem gX0_searchLongest_X0_stretch : GoodIn wsX0_searchLongest (wsV RX0 133 RX0 yX0_stretch wsX0_stretch) := goodIn_app (goodIn_of _ (by decide +kernel)) ggX0_searchLongest_X0_stretch
theorem dX0_searchLongest_0 : decode cX0_searchLongest 0 = .ok (.aload_n 0, 1) := by decide +kernel
theorem dX0_searchLongest_1 : decode cX0_searchLongest 1 = .ok (.getfield 62, 3) := by decide +kernel
theorem dX0_searchLongest_4 : decode cX0_searchLongest 4 = .ok (.ifCond .le 12, 3) := by decide +kernel
theorem dX0_searchLongest_7 : decode cX0_searchLongest 7 = .ok (.aload_n 0, 1) := by decide +kernel
theorem dX0_searchLongest_8 : decode cX0_searchLongest 8 = .ok (.aload_n 0, 1) := by decide +kernel
theorem dX0_searchLongest_9 : decode cX0_searchLongest 9 = .ok (.getfield 53, 3) := by decide +kernel
theorem dX0_searchLongest_12 : decode cX0_searchLongest 12 = .ok (.putfield 56, 3) := by decide +kernel
theorem dX0_searchLongest_15 : decode cX0_searchLongest 15 = .ok (.return_, 1) := by decide +kernel
theorem dX0_searchLongest_16 : decode cX0_searchLongest 16 = .ok (.aload_n 0, 1) := by decide +kernel
theorem dX0_searchLongest_17 : decode cX0_searchLongest 17 = .ok (.iconst 0, 1) := by decide +kernel
theorem dX0_searchLongest_18 : decode cX0_searchLongest 18 = .ok (.putfield 56, 3) := by decide +kernel
theorem dX0_searchLongest_21 : decode cX0_searchLongest 21 = .ok (.aload_n 0, 1) := by decide +kernel
theorem dX0_searchLongest_22 : decode cX0_searchLongest 22 = .ok (.getfield 36, 3) := by decide +kernel
theorem dX0_searchLongest_25 : decode cX0_searchLongest 25 = .ok (.ldc 124, 2) := by decide +kernel
theorem dX0_searchLongest_27 : decode cX0_searchLongest 27 = .ok (.iand, 1) := by decide +kernel
theorem dX0_searchLongest_28 : decode cX0_searchLongest 28 = .ok (.invokestatic 48, 3) := by decide +kernel
theorem dX0_searchLongest_31 : decode cX0_searchLongest 31 = .ok (.istore_n 1, 1) := by decide +kernel
theorem dX0_searchLongest_32 : decode cX0_searchLongest 32 = .ok (.aload_n 0, 1) := by decide +kernel
theorem dX0_searchLongest_33 : decode cX0_searchLongest 33 = .ok (.aload_n 0, 1) := by decide +kernel
theorem dX0_searchLongest_34 : decode cX0_searchLongest 34 = .ok (.getfield 53, 3) := by decide +kernel
theorem dX0_searchLongest_37 : decode cX0_searchLongest 37 = .ok (.iconst 1, 1) := by decide +kernel
theorem dX0_searchLongest_38 : decode cX0_searchLongest 38 = .ok (.isub, 1) := by decide +kernel
theorem dX0_searchLongest_39 : decode cX0_searchLongest 39 = .ok (.iconst 2, 1) := by decide +kernel
theorem dX0_searchLongest_40 : decode cX0_searchLongest 40 = .ok (.iload_n 1, 1) := by decide +kernel
theorem dX0_searchLongest_41 : decode cX0_searchLongest 41 = .ok (.aload_n 0, 1) := by decide +kernel
theorem dX0_searchLongest_42 : decode cX0_searchLongest 42 = .ok (.getfield 53, 3) := by decide +kernel
theorem dX0_searchLongest_45 : decode cX0_searchLongest 45 = .ok (.iload_n 1, 1) := by decide +kernel
theorem dX0_searchLongest_46 : decode cX0_searchLongest 46 = .ok (.isub, 1) := by decide +kernel
theorem dX0_searchLongest_47 : decode cX0_searchLongest 47 = .ok (.invokestatic 125, 3) := by decide +kernel
theorem dX0_searchLongest_50 : decode cX0_searchLongest 50 = .ok (.imul, 1) := by decide +kernel
theorem dX0_searchLongest_51 : decode cX0_searchLongest 51 = .ok (.iconst 1, 1) := by decide +kernel
theorem dX0_searchLongest_52 : decode cX0_searchLongest 52 = .ok (.iadd, 1) := by decide +kernel
theorem dX0_searchLongest_53 : decode cX0_searchLongest 53 = .ok (.invokestatic 125, 3) := by decide +kernel
theorem dX0_searchLongest_56 : decode cX0_searchLongest 56 = .ok (.putfield 130, 3) := by decide +kernel
theorem dX0_searchLongest_59 : decode cX0_searchLongest 59 = .ok (.iconst 0, 1) := by decide +kernel
theorem dX0_searchLongest_60 : decode cX0_searchLongest 60 = .ok (.istore_n 2, 1) := by decide +kernel
theorem dX0_searchLongest_61 : decode cX0_searchLongest 61 = .ok (.iload_n 2, 1) := by decide +kernel
theorem dX0_searchLongest_62 : decode cX0_searchLongest 62 = .ok (.bipush 16, 2) := by decide +kernel
theorem dX0_searchLongest_64 : decode cX0_searchLongest 64 = .ok (.if_icmp .ge 35, 3) := by decide +kernel
theorem dX0_searchLongest_67 : decode cX0_searchLongest 67 = .ok (.aload_n 0, 1) := by decide +kernel
theorem dX0_searchLongest_68 : decode cX0_searchLongest 68 = .ok (.iload_n 2, 1) := by decide +kernel
theorem dX0_searchLongest_69 : decode cX0_searchLongest 69 = .ok (.invokevirtual 74, 3) := by decide +kernel
theorem dX0_searchLongest_72 : decode cX0_searchLongest 72 = .ok (.ifCond .eq 21, 3) := by decide +kernel
theorem dX0_searchLongest_75 : decode cX0_searchLongest 75 = .ok (.aload_n 0, 1) := by decide +kernel
theorem dX0_searchLongest_76 : decode cX0_searchLongest 76 = .ok (.iconst 1, 1) := by decide +kernel
theorem dX0_searchLongest_77 : decode cX0_searchLongest 77 = .ok (.iload_n 2, 1) := by decide +kernel
theorem dX0_searchLongest_78 : decode cX0_searchLongest 78 = .ok (.aload_n 0, 1) := by decide +kernel
theorem dX0_searchLongest_79 : decode cX0_searchLongest 79 = .ok (.getfield 36, 3) := by decide +kernel
theorem dX0_searchLongest_82 : decode cX0_searchLongest 82 = .ok (.iconst 1, 1) := by decide +kernel
theorem dX0_searchLongest_83 : decode cX0_searchLongest 83 = .ok (.iload_n 2, 1) := by decide +kernel
theorem dX0_searchLongest_84 : decode cX0_searchLongest 84 = .ok (.ishl, 1) := by decide +kernel
theorem dX0_searchLongest_85 : decode cX0_searchLongest 85 = .ok (.iconst (-1), 1) := by decide +kernel
theorem dX0_searchLongest_86 : decode cX0_searchLongest 86 = .ok (.ixor, 1) := by decide +kernel
theorem dX0_searchLongest_87 : decode cX0_searchLongest 87 = .ok (.iand, 1) := by decide +kernel
theorem dX0_searchLongest_88 : decode cX0_searchLongest 88 = .ok (.iconst (-1), 1) := by decide +kernel
theorem dX0_searchLongest_89 : decode cX0_searchLongest 89 = .ok (.iconst 0, 1) := by decide +kernel
theorem dX0_searchLongest_90 : decode cX0_searchLongest 90 = .ok (.invokevirtual 133, 3) := by decide +kernel
theorem dX0_searchLongest_93 : decode cX0_searchLongest 93 = .ok (.iinc 2 1, 3) := by decide +kernel
theorem dX0_searchLongest_96 : decode cX0_searchLongest 96 = .ok (.goto (-35), 3) := by decide +kernel
theorem dX0_searchLongest_99 : decode cX0_searchLongest 99 = .ok (.return_, 1) := by decide +kernel
set_option maxRecDepth 20000 in
theorem ggX0_stretch_X5_cellTowards : GoodIn wsX0_stretch wsX5_cellTowards := goodIn_r _ [13] (by decide +kernel) (by decide +kernel)
set_option maxRecDepth 20000 in
theorem gX0_stretch_X5_cellTowards_n99 : GoodIn wsX0_stretch (wsX5_cellTowards) := ggX0_stretch_X5_cellTowards
set_option maxRecDepth 20000 in
theorem ggX0_stretch_X5_holds : GoodIn wsX0_stretch wsX5_holds := goodIn_r _ [15] (by decide +kernel) (by decide +kernel)
set_option maxRecDepth 20000 in
theorem gX0_stretch_X5_holds_n86 : GoodIn wsX0_stretch (wsX5_holds) := ggX0_stretch_X5_holds
set_option maxRecDepth 20000 in
theorem ggX0_stretch_X5_mayStep : GoodIn wsX0_stretch wsX5_mayStep := goodIn_r _ [17, 18, 19, 12, 20, 21, 22, 23, 24, 25, 14, 15] (by decide +kernel) (by decide +kernel)
set_option maxRecDepth 20000 in
theorem gX0_stretch_X5_mayStep_n103 : GoodIn wsX0_stretch (wsX5_mayStep) := ggX0_stretch_X5_mayStep
set_option maxRecDepth 20000 in
theorem ggX0_stretch_X5_isTurn : GoodIn wsX0_stretch wsX5_isTurn := goodIn_r _ [20] (by decide +kernel) (by decide +kernel)
set_option maxRecDepth 20000 in
theorem gX0_stretch_X5_isTurn_n107 : GoodIn wsX0_stretch (wsX5_isTurn) := ggX0_stretch_X5_isTurn
set_option maxRecDepth 20000 in
theorem ggX0_stretch_X0_stretch : GoodIn wsX0_stretch wsX0_stretch := goodIn_r _ [0, 1, 2, 3, 4, 5, 6, 7, 8, 9, 10, 11, 12, 13, 14, 15, 16, 17, 18, 19, 20, 21, 22, 23, 24, 25, 26, 27, 28, 29, 30, 31, 32, 33, 34, 35, 36, 37, 38, 39, 40, 41, 42, 43] (by decide +kernel) (by decide +kernel)
set_option maxRecDepth 20000 in
theorem gX0_stretch_X0_stretch : GoodIn wsX0_stretch (wsV RX0 133 RX0 yX0_stretch wsX0_stretch) := goodIn_app (goodIn_of _ (by decide +kernel)) ggX0_stretch_X0_stretch
theorem dX0_stretch_0 : decode cX0_stretch 0 = .ok (.aload_n 0, 1) := by decide +kernel
theorem dX0_stretch_1 : decode cX0_stretch 1 = .ok (.getfield 45, 3) := by decide +kernel
theorem dX0_stretch_4 : decode cX0_stretch 4 = .ok (.ifCond .lt 11, 3) := by decide +kernel
theorem dX0_stretch_7 : decode cX0_stretch 7 = .ok (.iload_n 2, 1) := by decide +kernel
theorem dX0_stretch_8 : decode cX0_stretch 8 = .ok (.aload_n 0, 1) := by decide +kernel
theorem dX0_stretch_9 : decode cX0_stretch 9 = .ok (.getfield 45, 3) := by decide +kernel
theorem dX0_stretch_12 : decode cX0_stretch 12 = .ok (.if_icmp .ne 15, 3) := by decide +kernel
theorem dX0_stretch_15 : decode cX0_stretch 15 = .ok (.aload_n 0, 1) := by decide +kernel
theorem dX0_stretch_16 : decode cX0_stretch 16 = .ok (.aload_n 0, 1) := by decide +kernel
theorem dX0_stretch_17 : decode cX0_stretch 17 = .ok (.getfield 56, 3) := by decide +kernel
theorem dX0_stretch_20 : decode cX0_stretch 20 = .ok (.iload_n 1, 1) := by decide +kernel
theorem dX0_stretch_21 : decode cX0_stretch 21 = .ok (.invokestatic 137, 3) := by decide +kernel
theorem dX0_stretch_24 : decode cX0_stretch 24 = .ok (.putfield 56, 3) := by decide +kernel
theorem dX0_stretch_27 : decode cX0_stretch 27 = .ok (.iload_n 2, 1) := by decide +kernel
theorem dX0_stretch_28 : decode cX0_stretch 28 = .ok (.aload_n 0, 1) := by decide +kernel
theorem dX0_stretch_29 : decode cX0_stretch 29 = .ok (.getfield 45, 3) := by decide +kernel
theorem dX0_stretch_32 : decode cX0_stretch 32 = .ok (.if_icmp .eq 20, 3) := by decide +kernel
theorem dX0_stretch_35 : decode cX0_stretch 35 = .ok (.iload_n 1, 1) := by decide +kernel
theorem dX0_stretch_36 : decode cX0_stretch 36 = .ok (.bipush 16, 2) := by decide +kernel
theorem dX0_stretch_38 : decode cX0_stretch 38 = .ok (.if_icmp .ge 14, 3) := by decide +kernel
theorem dX0_stretch_41 : decode cX0_stretch 41 = .ok (.aload_n 0, 1) := by decide +kernel
theorem dX0_stretch_42 : decode cX0_stretch 42 = .ok (.getfield 56, 3) := by decide +kernel
theorem dX0_stretch_45 : decode cX0_stretch 45 = .ok (.aload_n 0, 1) := by decide +kernel
theorem dX0_stretch_46 : decode cX0_stretch 46 = .ok (.getfield 130, 3) := by decide +kernel
theorem dX0_stretch_49 : decode cX0_stretch 49 = .ok (.if_icmp .lt 4, 3) := by decide +kernel
theorem dX0_stretch_52 : decode cX0_stretch 52 = .ok (.return_, 1) := by decide +kernel
theorem dX0_stretch_53 : decode cX0_stretch 53 = .ok (.iconst 0, 1) := by decide +kernel
theorem dX0_stretch_54 : decode cX0_stretch 54 = .ok (.istore 6, 2) := by decide +kernel
theorem dX0_stretch_56 : decode cX0_stretch 56 = .ok (.iload 6, 2) := by decide +kernel
theorem dX0_stretch_58 : decode cX0_stretch 58 = .ok (.iconst 4, 1) := by decide +kernel
theorem dX0_stretch_59 : decode cX0_stretch 59 = .ok (.if_icmp .ge 90, 3) := by decide +kernel
theorem dX0_stretch_62 : decode cX0_stretch 62 = .ok (.getstatic 96, 3) := by decide +kernel
theorem dX0_stretch_65 : decode cX0_stretch 65 = .ok (.iload 6, 2) := by decide +kernel
theorem dX0_stretch_67 : decode cX0_stretch 67 = .ok (.iaload, 1) := by decide +kernel
theorem dX0_stretch_68 : decode cX0_stretch 68 = .ok (.istore 7, 2) := by decide +kernel
theorem dX0_stretch_70 : decode cX0_stretch 70 = .ok (.iload_n 2, 1) := by decide +kernel
theorem dX0_stretch_71 : decode cX0_stretch 71 = .ok (.iload 7, 2) := by decide +kernel
theorem dX0_stretch_73 : decode cX0_stretch 73 = .ok (.invokestatic 99, 3) := by decide +kernel
theorem dX0_stretch_76 : decode cX0_stretch 76 = .ok (.istore 8, 2) := by decide +kernel
theorem dX0_stretch_78 : decode cX0_stretch 78 = .ok (.iload 8, 2) := by decide +kernel
theorem dX0_stretch_80 : decode cX0_stretch 80 = .ok (.ifCond .lt 63, 3) := by decide +kernel
theorem dX0_stretch_83 : decode cX0_stretch 83 = .ok (.iload_n 3, 1) := by decide +kernel
theorem dX0_stretch_84 : decode cX0_stretch 84 = .ok (.iload 8, 2) := by decide +kernel
theorem dX0_stretch_86 : decode cX0_stretch 86 = .ok (.invokestatic 86, 3) := by decide +kernel
theorem dX0_stretch_89 : decode cX0_stretch 89 = .ok (.ifCond .ne 6, 3) := by decide +kernel
theorem dX0_stretch_92 : decode cX0_stretch 92 = .ok (.goto 51, 3) := by decide +kernel
theorem dX0_stretch_95 : decode cX0_stretch 95 = .ok (.aload_n 0, 1) := by decide +kernel
theorem dX0_stretch_96 : decode cX0_stretch 96 = .ok (.getfield 9, 3) := by decide +kernel
theorem dX0_stretch_99 : decode cX0_stretch 99 = .ok (.aload_n 0, 1) := by decide +kernel
theorem dX0_stretch_100 : decode cX0_stretch 100 = .ok (.getfield 39, 3) := by decide +kernel
theorem dX0_stretch_103 : decode cX0_stretch 103 = .ok (.iload 8, 2) := by decide +kernel
theorem dX0_stretch_105 : decode cX0_stretch 105 = .ok (.iload 4, 2) := by decide +kernel
theorem dX0_stretch_107 : decode cX0_stretch 107 = .ok (.iload 7, 2) := by decide +kernel
theorem dX0_stretch_109 : decode cX0_stretch 109 = .ok (.iload 5, 2) := by decide +kernel
theorem dX0_stretch_111 : decode cX0_stretch 111 = .ok (.invokestatic 103, 3) := by decide +kernel
theorem dX0_stretch_114 : decode cX0_stretch 114 = .ok (.ifCond .eq 29, 3) := by decide +kernel
theorem dX0_stretch_117 : decode cX0_stretch 117 = .ok (.aload_n 0, 1) := by decide +kernel
theorem dX0_stretch_118 : decode cX0_stretch 118 = .ok (.iload_n 1, 1) := by decide +kernel
theorem dX0_stretch_119 : decode cX0_stretch 119 = .ok (.iconst 1, 1) := by decide +kernel
theorem dX0_stretch_120 : decode cX0_stretch 120 = .ok (.iadd, 1) := by decide +kernel
theorem dX0_stretch_121 : decode cX0_stretch 121 = .ok (.iload 8, 2) := by decide +kernel
theorem dX0_stretch_123 : decode cX0_stretch 123 = .ok (.iload_n 3, 1) := by decide +kernel
theorem dX0_stretch_124 : decode cX0_stretch 124 = .ok (.iconst 1, 1) := by decide +kernel
theorem dX0_stretch_125 : decode cX0_stretch 125 = .ok (.iload 8, 2) := by decide +kernel
theorem dX0_stretch_127 : decode cX0_stretch 127 = .ok (.ishl, 1) := by decide +kernel
theorem dX0_stretch_128 : decode cX0_stretch 128 = .ok (.iconst (-1), 1) := by decide +kernel
theorem dX0_stretch_129 : decode cX0_stretch 129 = .ok (.ixor, 1) := by decide +kernel
theorem dX0_stretch_130 : decode cX0_stretch 130 = .ok (.iand, 1) := by decide +kernel
theorem dX0_stretch_131 : decode cX0_stretch 131 = .ok (.iload 7, 2) := by decide +kernel
theorem dX0_stretch_133 : decode cX0_stretch 133 = .ok (.iload 4, 2) := by decide +kernel
theorem dX0_stretch_135 : decode cX0_stretch 135 = .ok (.iload 7, 2) := by decide +kernel
theorem dX0_stretch_137 : decode cX0_stretch 137 = .ok (.invokestatic 107, 3) := by decide +kernel
theorem dX0_stretch_140 : decode cX0_stretch 140 = .ok (.invokevirtual 133, 3) := by decide +kernel
theorem dX0_stretch_143 : decode cX0_stretch 143 = .ok (.iinc 6 1, 3) := by decide +kernel
theorem dX0_stretch_146 : decode cX0_stretch 146 = .ok (.goto (-90), 3) := by decide +kernel
theorem dX0_stretch_149 : decode cX0_stretch 149 = .ok (.return_, 1) := by decide +kernel
theorem dX1_init_0 : decode cX1_init 0 = .ok (.aload_n 0, 1) := by decide +kernel
theorem dX1_init_1 : decode cX1_init 1 = .ok (.invokespecial 3, 3) := by decide +kernel
theorem dX1_init_4 : decode cX1_init 4 = .ok (.aload_n 0, 1) := by decide +kernel
theorem dX1_init_5 : decode cX1_init 5 = .ok (.bipush 36, 2) := by decide +kernel
theorem dX1_init_7 : decode cX1_init 7 = .ok (.newarray .int, 2) := by decide +kernel
theorem dX1_init_9 : decode cX1_init 9 = .ok (.putfield 9, 3) := by decide +kernel
theorem dX1_init_12 : decode cX1_init 12 = .ok (.aload_n 0, 1) := by decide +kernel
theorem dX1_init_13 : decode cX1_init 13 = .ok (.bipush 6, 2) := by decide +kernel
theorem dX1_init_15 : decode cX1_init 15 = .ok (.newarray .int, 2) := by decide +kernel
theorem dX1_init_17 : decode cX1_init 17 = .ok (.putfield 15, 3) := by decide +kernel
theorem dX1_init_20 : decode cX1_init 20 = .ok (.aload_n 0, 1) := by decide +kernel
theorem dX1_init_21 : decode cX1_init 21 = .ok (.bipush 6, 2) := by decide +kernel
theorem dX1_init_23 : decode cX1_init 23 = .ok (.newarray .int, 2) := by decide +kernel
theorem dX1_init_25 : decode cX1_init 25 = .ok (.putfield 18, 3) := by decide +kernel
theorem dX1_init_28 : decode cX1_init 28 = .ok (.aload_n 0, 1) := by decide +kernel
theorem dX1_init_29 : decode cX1_init 29 = .ok (.bipush 6, 2) := by decide +kernel
theorem dX1_init_31 : decode cX1_init 31 = .ok (.newarray .int, 2) := by decide +kernel
theorem dX1_init_33 : decode cX1_init 33 = .ok (.putfield 21, 3) := by decide +kernel
theorem dX1_init_36 : decode cX1_init 36 = .ok (.return_, 1) := by decide +kernel
theorem dX1_hasField_0 : decode cX1_hasField 0 = .ok (.iload_n 1, 1) := by decide +kernel
theorem dX1_hasField_1 : decode cX1_hasField 1 = .ok (.ifCond .lt 15, 3) := by decide +kernel
theorem dX1_hasField_4 : decode cX1_hasField 4 = .ok (.iload_n 1, 1) := by decide +kernel
theorem dX1_hasField_5 : decode cX1_hasField 5 = .ok (.aload_n 0, 1) := by decide +kernel
theorem dX1_hasField_6 : decode cX1_hasField 6 = .ok (.getfield 24, 3) := by decide +kernel
theorem dX1_hasField_9 : decode cX1_hasField 9 = .ok (.if_icmp .ge 7, 3) := by decide +kernel
theorem dX1_hasField_12 : decode cX1_hasField 12 = .ok (.iconst 1, 1) := by decide +kernel
theorem dX1_hasField_13 : decode cX1_hasField 13 = .ok (.goto 4, 3) := by decide +kernel
theorem dX1_hasField_16 : decode cX1_hasField 16 = .ok (.iconst 0, 1) := by decide +kernel
theorem dX1_hasField_17 : decode cX1_hasField 17 = .ok (.ireturn, 1) := by decide +kernel
theorem dX1_hasTeam_0 : decode cX1_hasTeam 0 = .ok (.iload_n 1, 1) := by decide +kernel
theorem dX1_hasTeam_1 : decode cX1_hasTeam 1 = .ok (.ifCond .lt 15, 3) := by decide +kernel
theorem dX1_hasTeam_4 : decode cX1_hasTeam 4 = .ok (.iload_n 1, 1) := by decide +kernel
theorem dX1_hasTeam_5 : decode cX1_hasTeam 5 = .ok (.aload_n 0, 1) := by decide +kernel
theorem dX1_hasTeam_6 : decode cX1_hasTeam 6 = .ok (.getfield 28, 3) := by decide +kernel
theorem dX1_hasTeam_9 : decode cX1_hasTeam 9 = .ok (.if_icmp .ge 7, 3) := by decide +kernel
theorem dX1_hasTeam_12 : decode cX1_hasTeam 12 = .ok (.iconst 1, 1) := by decide +kernel
theorem dX1_hasTeam_13 : decode cX1_hasTeam 13 = .ok (.goto 4, 3) := by decide +kernel
theorem dX1_hasTeam_16 : decode cX1_hasTeam 16 = .ok (.iconst 0, 1) := by decide +kernel
theorem dX1_hasTeam_17 : decode cX1_hasTeam 17 = .ok (.ireturn, 1) := by decide +kernel
theorem dX1_mark_0 : decode cX1_mark 0 = .ok (.aload_n 0, 1) := by decide +kernel
theorem dX1_mark_1 : decode cX1_mark 1 = .ok (.getfield 9, 3) := by decide +kernel
theorem dX1_mark_4 : decode cX1_mark 4 = .ok (.iload_n 1, 1) := by decide +kernel
theorem dX1_mark_5 : decode cX1_mark 5 = .ok (.bipush 6, 2) := by decide +kernel
theorem dX1_mark_7 : decode cX1_mark 7 = .ok (.imul, 1) := by decide +kernel
theorem dX1_mark_8 : decode cX1_mark 8 = .ok (.iload_n 2, 1) := by decide +kernel
theorem dX1_mark_9 : decode cX1_mark 9 = .ok (.iadd, 1) := by decide +kernel
theorem dX1_mark_10 : decode cX1_mark 10 = .ok (.iaload, 1) := by decide +kernel
theorem dX1_mark_11 : decode cX1_mark 11 = .ok (.ireturn, 1) := by decide +kernel
theorem dX1_putMark_0 : decode cX1_putMark 0 = .ok (.aload_n 0, 1) := by decide +kernel
theorem dX1_putMark_1 : decode cX1_putMark 1 = .ok (.getfield 9, 3) := by decide +kernel
theorem dX1_putMark_4 : decode cX1_putMark 4 = .ok (.iload_n 1, 1) := by decide +kernel
theorem dX1_putMark_5 : decode cX1_putMark 5 = .ok (.bipush 6, 2) := by decide +kernel
theorem dX1_putMark_7 : decode cX1_putMark 7 = .ok (.imul, 1) := by decide +kernel
theorem dX1_putMark_8 : decode cX1_putMark 8 = .ok (.iload_n 2, 1) := by decide +kernel
theorem dX1_putMark_9 : decode cX1_putMark 9 = .ok (.iadd, 1) := by decide +kernel
theorem dX1_putMark_10 : decode cX1_putMark 10 = .ok (.iload_n 3, 1) := by decide +kernel
theorem dX1_putMark_11 : decode cX1_putMark 11 = .ok (.iastore, 1) := by decide +kernel
theorem dX1_putMark_12 : decode cX1_putMark 12 = .ok (.return_, 1) := by decide +kernel
set_option maxRecDepth 20000 in
theorem ggX1_earth_X1_mark : GoodIn wsX1_earth wsX1_mark := goodIn_r _ [6, 7, 8, 9, 10, 11, 12, 13] (by decide +kernel) (by decide +kernel)
set_option maxRecDepth 20000 in
theorem gX1_earth_X1_mark : GoodIn wsX1_earth (wsV RX1 32 RX1 yX1_mark wsX1_mark) := goodIn_app (goodIn_of _ (by decide +kernel)) ggX1_earth_X1_mark
theorem dX1_earth_0 : decode cX1_earth 0 = .ok (.ldc 31, 2) := by decide +kernel
theorem dX1_earth_2 : decode cX1_earth 2 = .ok (.aload_n 0, 1) := by decide +kernel
theorem dX1_earth_3 : decode cX1_earth 3 = .ok (.iload_n 1, 1) := by decide +kernel
theorem dX1_earth_4 : decode cX1_earth 4 = .ok (.iconst 0, 1) := by decide +kernel
theorem dX1_earth_5 : decode cX1_earth 5 = .ok (.invokevirtual 32, 3) := by decide +kernel
theorem dX1_earth_8 : decode cX1_earth 8 = .ok (.aload_n 0, 1) := by decide +kernel
theorem dX1_earth_9 : decode cX1_earth 9 = .ok (.iload_n 1, 1) := by decide +kernel
theorem dX1_earth_10 : decode cX1_earth 10 = .ok (.iconst 1, 1) := by decide +kernel
theorem dX1_earth_11 : decode cX1_earth 11 = .ok (.invokevirtual 32, 3) := by decide +kernel
theorem dX1_earth_14 : decode cX1_earth 14 = .ok (.ior, 1) := by decide +kernel
theorem dX1_earth_15 : decode cX1_earth 15 = .ok (.iconst (-1), 1) := by decide +kernel
theorem dX1_earth_16 : decode cX1_earth 16 = .ok (.ixor, 1) := by decide +kernel
theorem dX1_earth_17 : decode cX1_earth 17 = .ok (.iand, 1) := by decide +kernel
theorem dX1_earth_18 : decode cX1_earth 18 = .ok (.ireturn, 1) := by decide +kernel
set_option maxRecDepth 20000 in
theorem ggX1_addField_X1_putMark : GoodIn wsX1_addField wsX1_putMark := goodIn_r _ [7, 8, 9, 10, 11, 12, 13, 14] (by decide +kernel) (by decide +kernel)
set_option maxRecDepth 20000 in
theorem gX1_addField_X1_putMark : GoodIn wsX1_addField (wsV RX1 39 RX1 yX1_putMark wsX1_putMark) := goodIn_app (goodIn_of _ (by decide +kernel)) ggX1_addField_X1_putMark
theorem dX1_addField_0 : decode cX1_addField 0 = .ok (.aload_n 0, 1) := by decide +kernel
theorem dX1_addField_1 : decode cX1_addField 1 = .ok (.getfield 24, 3) := by decide +kernel
theorem dX1_addField_4 : decode cX1_addField 4 = .ok (.istore_n 1, 1) := by decide +kernel
theorem dX1_addField_5 : decode cX1_addField 5 = .ok (.iconst 0, 1) := by decide +kernel
theorem dX1_addField_6 : decode cX1_addField 6 = .ok (.istore_n 2, 1) := by decide +kernel
theorem dX1_addField_7 : decode cX1_addField 7 = .ok (.iload_n 2, 1) := by decide +kernel
theorem dX1_addField_8 : decode cX1_addField 8 = .ok (.bipush 6, 2) := by decide +kernel
theorem dX1_addField_10 : decode cX1_addField 10 = .ok (.if_icmp .ge 20, 3) := by decide +kernel
theorem dX1_addField_13 : decode cX1_addField 13 = .ok (.aload_n 0, 1) := by decide +kernel
theorem dX1_addField_14 : decode cX1_addField 14 = .ok (.iload_n 1, 1) := by decide +kernel
theorem dX1_addField_15 : decode cX1_addField 15 = .ok (.iload_n 2, 1) := by decide +kernel
theorem dX1_addField_16 : decode cX1_addField 16 = .ok (.getstatic 36, 3) := by decide +kernel
theorem dX1_addField_19 : decode cX1_addField 19 = .ok (.iload_n 2, 1) := by decide +kernel
theorem dX1_addField_20 : decode cX1_addField 20 = .ok (.iaload, 1) := by decide +kernel
theorem dX1_addField_21 : decode cX1_addField 21 = .ok (.invokevirtual 39, 3) := by decide +kernel
theorem dX1_addField_24 : decode cX1_addField 24 = .ok (.iinc 2 1, 3) := by decide +kernel
theorem dX1_addField_27 : decode cX1_addField 27 = .ok (.goto (-20), 3) := by decide +kernel
theorem dX1_addField_30 : decode cX1_addField 30 = .ok (.aload_n 0, 1) := by decide +kernel
theorem dX1_addField_31 : decode cX1_addField 31 = .ok (.getfield 15, 3) := by decide +kernel
theorem dX1_addField_34 : decode cX1_addField 34 = .ok (.iload_n 1, 1) := by decide +kernel
theorem dX1_addField_35 : decode cX1_addField 35 = .ok (.iconst 0, 1) := by decide +kernel
theorem dX1_addField_36 : decode cX1_addField 36 = .ok (.iastore, 1) := by decide +kernel
theorem dX1_addField_37 : decode cX1_addField 37 = .ok (.aload_n 0, 1) := by decide +kernel
theorem dX1_addField_38 : decode cX1_addField 38 = .ok (.dup, 1) := by decide +kernel
theorem dX1_addField_39 : decode cX1_addField 39 = .ok (.getfield 24, 3) := by decide +kernel
theorem dX1_addField_42 : decode cX1_addField 42 = .ok (.iconst 1, 1) := by decide +kernel
theorem dX1_addField_43 : decode cX1_addField 43 = .ok (.iadd, 1) := by decide +kernel
theorem dX1_addField_44 : decode cX1_addField 44 = .ok (.putfield 24, 3) := by decide +kernel
theorem dX1_addField_47 : decode cX1_addField 47 = .ok (.iload_n 1, 1) := by decide +kernel
theorem dX1_addField_48 : decode cX1_addField 48 = .ok (.ireturn, 1) := by decide +kernel
theorem dX1_addTeam_0 : decode cX1_addTeam 0 = .ok (.aload_n 0, 1) := by decide +kernel
theorem dX1_addTeam_1 : decode cX1_addTeam 1 = .ok (.getfield 28, 3) := by decide +kernel
theorem dX1_addTeam_4 : decode cX1_addTeam 4 = .ok (.istore_n 3, 1) := by decide +kernel
theorem dX1_addTeam_5 : decode cX1_addTeam 5 = .ok (.aload_n 0, 1) := by decide +kernel
theorem dX1_addTeam_6 : decode cX1_addTeam 6 = .ok (.getfield 18, 3) := by decide +kernel
theorem dX1_addTeam_9 : decode cX1_addTeam 9 = .ok (.iload_n 3, 1) := by decide +kernel
theorem dX1_addTeam_10 : decode cX1_addTeam 10 = .ok (.iload_n 1, 1) := by decide +kernel
theorem dX1_addTeam_11 : decode cX1_addTeam 11 = .ok (.iastore, 1) := by decide +kernel
theorem dX1_addTeam_12 : decode cX1_addTeam 12 = .ok (.aload_n 0, 1) := by decide +kernel
theorem dX1_addTeam_13 : decode cX1_addTeam 13 = .ok (.getfield 21, 3) := by decide +kernel
theorem dX1_addTeam_16 : decode cX1_addTeam 16 = .ok (.iload_n 3, 1) := by decide +kernel
theorem dX1_addTeam_17 : decode cX1_addTeam 17 = .ok (.iload_n 2, 1) := by decide +kernel
theorem dX1_addTeam_18 : decode cX1_addTeam 18 = .ok (.iastore, 1) := by decide +kernel
theorem dX1_addTeam_19 : decode cX1_addTeam 19 = .ok (.aload_n 0, 1) := by decide +kernel
theorem dX1_addTeam_20 : decode cX1_addTeam 20 = .ok (.dup, 1) := by decide +kernel
theorem dX1_addTeam_21 : decode cX1_addTeam 21 = .ok (.getfield 28, 3) := by decide +kernel
theorem dX1_addTeam_24 : decode cX1_addTeam 24 = .ok (.iconst 1, 1) := by decide +kernel
theorem dX1_addTeam_25 : decode cX1_addTeam 25 = .ok (.iadd, 1) := by decide +kernel
theorem dX1_addTeam_26 : decode cX1_addTeam 26 = .ok (.putfield 28, 3) := by decide +kernel
theorem dX1_addTeam_29 : decode cX1_addTeam 29 = .ok (.iload_n 3, 1) := by decide +kernel
theorem dX1_addTeam_30 : decode cX1_addTeam 30 = .ok (.ireturn, 1) := by decide +kernel
set_option maxRecDepth 20000 in
theorem ggX1_layCell_X1_mark : GoodIn wsX1_layCell wsX1_mark := goodIn_r _ [5, 6, 11, 12, 13, 14, 15, 16] (by decide +kernel) (by decide +kernel)
set_option maxRecDepth 20000 in
theorem gX1_layCell_X1_mark : GoodIn wsX1_layCell (wsV RX1 32 RX1 yX1_mark wsX1_mark) := goodIn_app (goodIn_of _ (by decide +kernel)) ggX1_layCell_X1_mark
set_option maxRecDepth 20000 in
theorem ggX1_layCell_X1_putMark : GoodIn wsX1_layCell wsX1_putMark := goodIn_r _ [10, 6, 11, 12, 13, 14, 15, 16] (by decide +kernel) (by decide +kernel)
set_option maxRecDepth 20000 in
theorem gX1_layCell_X1_putMark : GoodIn wsX1_layCell (wsV RX1 39 RX1 yX1_putMark wsX1_putMark) := goodIn_app (goodIn_of _ (by decide +kernel)) ggX1_layCell_X1_putMark
theorem dX1_layCell_0 : decode cX1_layCell 0 = .ok (.iconst 1, 1) := by decide +kernel
theorem dX1_layCell_1 : decode cX1_layCell 1 = .ok (.iload_n 2, 1) := by decide +kernel
theorem dX1_layCell_2 : decode cX1_layCell 2 = .ok (.ishl, 1) := by decide +kernel
theorem dX1_layCell_3 : decode cX1_layCell 3 = .ok (.iconst (-1), 1) := by decide +kernel
theorem dX1_layCell_4 : decode cX1_layCell 4 = .ok (.ixor, 1) := by decide +kernel
theorem dX1_layCell_5 : decode cX1_layCell 5 = .ok (.istore 5, 2) := by decide +kernel
theorem dX1_layCell_7 : decode cX1_layCell 7 = .ok (.iload_n 3, 1) := by decide +kernel
theorem dX1_layCell_8 : decode cX1_layCell 8 = .ok (.ifCond .eq 9, 3) := by decide +kernel
theorem dX1_layCell_11 : decode cX1_layCell 11 = .ok (.iconst 1, 1) := by decide +kernel
theorem dX1_layCell_12 : decode cX1_layCell 12 = .ok (.iload_n 2, 1) := by decide +kernel
theorem dX1_layCell_13 : decode cX1_layCell 13 = .ok (.ishl, 1) := by decide +kernel
theorem dX1_layCell_14 : decode cX1_layCell 14 = .ok (.goto 4, 3) := by decide +kernel
theorem dX1_layCell_17 : decode cX1_layCell 17 = .ok (.iconst 0, 1) := by decide +kernel
theorem dX1_layCell_18 : decode cX1_layCell 18 = .ok (.istore 6, 2) := by decide +kernel
theorem dX1_layCell_20 : decode cX1_layCell 20 = .ok (.iload 4, 2) := by decide +kernel
theorem dX1_layCell_22 : decode cX1_layCell 22 = .ok (.ifCond .eq 9, 3) := by decide +kernel
theorem dX1_layCell_25 : decode cX1_layCell 25 = .ok (.iconst 1, 1) := by decide +kernel
theorem dX1_layCell_26 : decode cX1_layCell 26 = .ok (.iload_n 2, 1) := by decide +kernel
theorem dX1_layCell_27 : decode cX1_layCell 27 = .ok (.ishl, 1) := by decide +kernel
theorem dX1_layCell_28 : decode cX1_layCell 28 = .ok (.goto 4, 3) := by decide +kernel
theorem dX1_layCell_31 : decode cX1_layCell 31 = .ok (.iconst 0, 1) := by decide +kernel
theorem dX1_layCell_32 : decode cX1_layCell 32 = .ok (.istore 7, 2) := by decide +kernel
theorem dX1_layCell_34 : decode cX1_layCell 34 = .ok (.aload_n 0, 1) := by decide +kernel
theorem dX1_layCell_35 : decode cX1_layCell 35 = .ok (.iload_n 1, 1) := by decide +kernel
theorem dX1_layCell_36 : decode cX1_layCell 36 = .ok (.iconst 0, 1) := by decide +kernel
theorem dX1_layCell_37 : decode cX1_layCell 37 = .ok (.aload_n 0, 1) := by decide +kernel
theorem dX1_layCell_38 : decode cX1_layCell 38 = .ok (.iload_n 1, 1) := by decide +kernel
theorem dX1_layCell_39 : decode cX1_layCell 39 = .ok (.iconst 0, 1) := by decide +kernel
theorem dX1_layCell_40 : decode cX1_layCell 40 = .ok (.invokevirtual 32, 3) := by decide +kernel
theorem dX1_layCell_43 : decode cX1_layCell 43 = .ok (.iload 5, 2) := by decide +kernel
theorem dX1_layCell_45 : decode cX1_layCell 45 = .ok (.iand, 1) := by decide +kernel
theorem dX1_layCell_46 : decode cX1_layCell 46 = .ok (.iload 6, 2) := by decide +kernel
theorem dX1_layCell_48 : decode cX1_layCell 48 = .ok (.ior, 1) := by decide +kernel
theorem dX1_layCell_49 : decode cX1_layCell 49 = .ok (.invokevirtual 39, 3) := by decide +kernel
theorem dX1_layCell_52 : decode cX1_layCell 52 = .ok (.aload_n 0, 1) := by decide +kernel
theorem dX1_layCell_53 : decode cX1_layCell 53 = .ok (.iload_n 1, 1) := by decide +kernel
theorem dX1_layCell_54 : decode cX1_layCell 54 = .ok (.iconst 1, 1) := by decide +kernel
theorem dX1_layCell_55 : decode cX1_layCell 55 = .ok (.aload_n 0, 1) := by decide +kernel
theorem dX1_layCell_56 : decode cX1_layCell 56 = .ok (.iload_n 1, 1) := by decide +kernel
theorem dX1_layCell_57 : decode cX1_layCell 57 = .ok (.iconst 1, 1) := by decide +kernel
theorem dX1_layCell_58 : decode cX1_layCell 58 = .ok (.invokevirtual 32, 3) := by decide +kernel
theorem dX1_layCell_61 : decode cX1_layCell 61 = .ok (.iload 5, 2) := by decide +kernel
theorem dX1_layCell_63 : decode cX1_layCell 63 = .ok (.iand, 1) := by decide +kernel
theorem dX1_layCell_64 : decode cX1_layCell 64 = .ok (.iload 7, 2) := by decide +kernel
theorem dX1_layCell_66 : decode cX1_layCell 66 = .ok (.ior, 1) := by decide +kernel
theorem dX1_layCell_67 : decode cX1_layCell 67 = .ok (.invokevirtual 39, 3) := by decide +kernel
theorem dX1_layCell_70 : decode cX1_layCell 70 = .ok (.return_, 1) := by decide +kernel
set_option maxRecDepth 20000 in
theorem ggX1_allEarth_X1_earth : GoodIn wsX1_allEarth wsX1_earth := goodIn_r _ [6, 7, 8, 9, 10, 5, 11, 12, 20, 21, 22, 23, 24, 25] (by decide +kernel) (by decide +kernel)
set_option maxRecDepth 20000 in
theorem gX1_allEarth_X1_earth : GoodIn wsX1_allEarth (wsV RX1 43 RX1 yX1_earth wsX1_earth) := goodIn_app (goodIn_of _ (by decide +kernel)) ggX1_allEarth_X1_earth
set_option maxRecDepth 20000 in
theorem ggX1_allEarth_J6_bitCount_0f7a4 : GoodIn wsX1_allEarth wsJ6_bitCount_0f7a4 := goodIn_r _ [16, 17, 18, 19] (by decide +kernel) (by decide +kernel)
set_option maxRecDepth 20000 in
theorem gX1_allEarth_J6_bitCount_0f7a4 : GoodIn wsX1_allEarth (va_wsS RX1 47 yJ6_bitCount_0f7a4 wsJ6_bitCount_0f7a4) := goodIn_app (goodIn_of _ (by decide +kernel)) ggX1_allEarth_J6_bitCount_0f7a4
theorem dX1_allEarth_0 : decode cX1_allEarth 0 = .ok (.iconst 0, 1) := by decide +kernel
theorem dX1_allEarth_1 : decode cX1_allEarth 1 = .ok (.istore_n 1, 1) := by decide +kernel
theorem dX1_allEarth_2 : decode cX1_allEarth 2 = .ok (.iconst 0, 1) := by decide +kernel
theorem dX1_allEarth_3 : decode cX1_allEarth 3 = .ok (.istore_n 2, 1) := by decide +kernel
theorem dX1_allEarth_4 : decode cX1_allEarth 4 = .ok (.iload_n 2, 1) := by decide +kernel
theorem dX1_allEarth_5 : decode cX1_allEarth 5 = .ok (.aload_n 0, 1) := by decide +kernel
theorem dX1_allEarth_6 : decode cX1_allEarth 6 = .ok (.getfield 24, 3) := by decide +kernel
theorem dX1_allEarth_9 : decode cX1_allEarth 9 = .ok (.if_icmp .ge 20, 3) := by decide +kernel
theorem dX1_allEarth_12 : decode cX1_allEarth 12 = .ok (.iload_n 1, 1) := by decide +kernel
theorem dX1_allEarth_13 : decode cX1_allEarth 13 = .ok (.aload_n 0, 1) := by decide +kernel
theorem dX1_allEarth_14 : decode cX1_allEarth 14 = .ok (.iload_n 2, 1) := by decide +kernel
theorem dX1_allEarth_15 : decode cX1_allEarth 15 = .ok (.invokevirtual 43, 3) := by decide +kernel
theorem dX1_allEarth_18 : decode cX1_allEarth 18 = .ok (.invokestatic 47, 3) := by decide +kernel
theorem dX1_allEarth_21 : decode cX1_allEarth 21 = .ok (.iadd, 1) := by decide +kernel
theorem dX1_allEarth_22 : decode cX1_allEarth 22 = .ok (.istore_n 1, 1) := by decide +kernel
theorem dX1_allEarth_23 : decode cX1_allEarth 23 = .ok (.iinc 2 1, 3) := by decide +kernel
theorem dX1_allEarth_26 : decode cX1_allEarth 26 = .ok (.goto (-22), 3) := by decide +kernel
theorem dX1_allEarth_29 : decode cX1_allEarth 29 = .ok (.iload_n 1, 1) := by decide +kernel
theorem dX1_allEarth_30 : decode cX1_allEarth 30 = .ok (.ireturn, 1) := by decide +kernel
set_option maxRecDepth 20000 in
theorem ggX1_allJoins_J6_bitCount_0f7a4 : GoodIn wsX1_allJoins wsJ6_bitCount_0f7a4 := goodIn_r _ [6, 7, 8, 9] (by decide +kernel) (by decide +kernel)
set_option maxRecDepth 20000 in
theorem gX1_allJoins_J6_bitCount_0f7a4 : GoodIn wsX1_allJoins (va_wsS RX1 47 yJ6_bitCount_0f7a4 wsJ6_bitCount_0f7a4) := goodIn_app (goodIn_of _ (by decide +kernel)) ggX1_allJoins_J6_bitCount_0f7a4
theorem dX1_allJoins_0 : decode cX1_allJoins 0 = .ok (.iconst 0, 1) := by decide +kernel
theorem dX1_allJoins_1 : decode cX1_allJoins 1 = .ok (.istore_n 1, 1) := by decide +kernel
theorem dX1_allJoins_2 : decode cX1_allJoins 2 = .ok (.iconst 0, 1) := by decide +kernel
theorem dX1_allJoins_3 : decode cX1_allJoins 3 = .ok (.istore_n 2, 1) := by decide +kernel
theorem dX1_allJoins_4 : decode cX1_allJoins 4 = .ok (.iload_n 2, 1) := by decide +kernel
theorem dX1_allJoins_5 : decode cX1_allJoins 5 = .ok (.aload_n 0, 1) := by decide +kernel
theorem dX1_allJoins_6 : decode cX1_allJoins 6 = .ok (.getfield 24, 3) := by decide +kernel
theorem dX1_allJoins_9 : decode cX1_allJoins 9 = .ok (.if_icmp .ge 21, 3) := by decide +kernel
theorem dX1_allJoins_12 : decode cX1_allJoins 12 = .ok (.iload_n 1, 1) := by decide +kernel
theorem dX1_allJoins_13 : decode cX1_allJoins 13 = .ok (.aload_n 0, 1) := by decide +kernel
theorem dX1_allJoins_14 : decode cX1_allJoins 14 = .ok (.getfield 15, 3) := by decide +kernel
theorem dX1_allJoins_17 : decode cX1_allJoins 17 = .ok (.iload_n 2, 1) := by decide +kernel
theorem dX1_allJoins_18 : decode cX1_allJoins 18 = .ok (.iaload, 1) := by decide +kernel
theorem dX1_allJoins_19 : decode cX1_allJoins 19 = .ok (.invokestatic 47, 3) := by decide +kernel
theorem dX1_allJoins_22 : decode cX1_allJoins 22 = .ok (.iadd, 1) := by decide +kernel
theorem dX1_allJoins_23 : decode cX1_allJoins 23 = .ok (.istore_n 1, 1) := by decide +kernel
theorem dX1_allJoins_24 : decode cX1_allJoins 24 = .ok (.iinc 2 1, 3) := by decide +kernel
theorem dX1_allJoins_27 : decode cX1_allJoins 27 = .ok (.goto (-23), 3) := by decide +kernel
theorem dX1_allJoins_30 : decode cX1_allJoins 30 = .ok (.iload_n 1, 1) := by decide +kernel
theorem dX1_allJoins_31 : decode cX1_allJoins 31 = .ok (.ireturn, 1) := by decide +kernel
theorem dX1_takeFrom_0 : decode cX1_takeFrom 0 = .ok (.aload_n 0, 1) := by decide +kernel
theorem dX1_takeFrom_1 : decode cX1_takeFrom 1 = .ok (.aload_n 1, 1) := by decide +kernel
theorem dX1_takeFrom_2 : decode cX1_takeFrom 2 = .ok (.getfield 24, 3) := by decide +kernel
theorem dX1_takeFrom_5 : decode cX1_takeFrom 5 = .ok (.putfield 24, 3) := by decide +kernel
theorem dX1_takeFrom_8 : decode cX1_takeFrom 8 = .ok (.aload_n 0, 1) := by decide +kernel
theorem dX1_takeFrom_9 : decode cX1_takeFrom 9 = .ok (.aload_n 1, 1) := by decide +kernel
theorem dX1_takeFrom_10 : decode cX1_takeFrom 10 = .ok (.getfield 28, 3) := by decide +kernel
theorem dX1_takeFrom_13 : decode cX1_takeFrom 13 = .ok (.putfield 28, 3) := by decide +kernel
theorem dX1_takeFrom_16 : decode cX1_takeFrom 16 = .ok (.aload_n 1, 1) := by decide +kernel
theorem dX1_takeFrom_17 : decode cX1_takeFrom 17 = .ok (.getfield 9, 3) := by decide +kernel
theorem dX1_takeFrom_20 : decode cX1_takeFrom 20 = .ok (.iconst 0, 1) := by decide +kernel
theorem dX1_takeFrom_21 : decode cX1_takeFrom 21 = .ok (.aload_n 0, 1) := by decide +kernel
theorem dX1_takeFrom_22 : decode cX1_takeFrom 22 = .ok (.getfield 9, 3) := by decide +kernel
theorem dX1_takeFrom_25 : decode cX1_takeFrom 25 = .ok (.iconst 0, 1) := by decide +kernel
theorem dX1_takeFrom_26 : decode cX1_takeFrom 26 = .ok (.aload_n 0, 1) := by decide +kernel
theorem dX1_takeFrom_27 : decode cX1_takeFrom 27 = .ok (.getfield 9, 3) := by decide +kernel
theorem dX1_takeFrom_30 : decode cX1_takeFrom 30 = .ok (.arraylength, 1) := by decide +kernel
theorem dX1_takeFrom_31 : decode cX1_takeFrom 31 = .ok (.invokestatic 52, 3) := by decide +kernel
theorem dX1_takeFrom_34 : decode cX1_takeFrom 34 = .ok (.aload_n 1, 1) := by decide +kernel
theorem dX1_takeFrom_35 : decode cX1_takeFrom 35 = .ok (.getfield 15, 3) := by decide +kernel
theorem dX1_takeFrom_38 : decode cX1_takeFrom 38 = .ok (.iconst 0, 1) := by decide +kernel
theorem dX1_takeFrom_39 : decode cX1_takeFrom 39 = .ok (.aload_n 0, 1) := by decide +kernel
theorem dX1_takeFrom_40 : decode cX1_takeFrom 40 = .ok (.getfield 15, 3) := by decide +kernel
theorem dX1_takeFrom_43 : decode cX1_takeFrom 43 = .ok (.iconst 0, 1) := by decide +kernel
theorem dX1_takeFrom_44 : decode cX1_takeFrom 44 = .ok (.aload_n 0, 1) := by decide +kernel
theorem dX1_takeFrom_45 : decode cX1_takeFrom 45 = .ok (.getfield 15, 3) := by decide +kernel
theorem dX1_takeFrom_48 : decode cX1_takeFrom 48 = .ok (.arraylength, 1) := by decide +kernel
theorem dX1_takeFrom_49 : decode cX1_takeFrom 49 = .ok (.invokestatic 52, 3) := by decide +kernel
theorem dX1_takeFrom_52 : decode cX1_takeFrom 52 = .ok (.aload_n 1, 1) := by decide +kernel
theorem dX1_takeFrom_53 : decode cX1_takeFrom 53 = .ok (.getfield 18, 3) := by decide +kernel
theorem dX1_takeFrom_56 : decode cX1_takeFrom 56 = .ok (.iconst 0, 1) := by decide +kernel
theorem dX1_takeFrom_57 : decode cX1_takeFrom 57 = .ok (.aload_n 0, 1) := by decide +kernel
theorem dX1_takeFrom_58 : decode cX1_takeFrom 58 = .ok (.getfield 18, 3) := by decide +kernel
theorem dX1_takeFrom_61 : decode cX1_takeFrom 61 = .ok (.iconst 0, 1) := by decide +kernel
theorem dX1_takeFrom_62 : decode cX1_takeFrom 62 = .ok (.aload_n 0, 1) := by decide +kernel
theorem dX1_takeFrom_63 : decode cX1_takeFrom 63 = .ok (.getfield 18, 3) := by decide +kernel
theorem dX1_takeFrom_66 : decode cX1_takeFrom 66 = .ok (.arraylength, 1) := by decide +kernel
theorem dX1_takeFrom_67 : decode cX1_takeFrom 67 = .ok (.invokestatic 52, 3) := by decide +kernel
theorem dX1_takeFrom_70 : decode cX1_takeFrom 70 = .ok (.aload_n 1, 1) := by decide +kernel
theorem dX1_takeFrom_71 : decode cX1_takeFrom 71 = .ok (.getfield 21, 3) := by decide +kernel
theorem dX1_takeFrom_74 : decode cX1_takeFrom 74 = .ok (.iconst 0, 1) := by decide +kernel
theorem dX1_takeFrom_75 : decode cX1_takeFrom 75 = .ok (.aload_n 0, 1) := by decide +kernel
theorem dX1_takeFrom_76 : decode cX1_takeFrom 76 = .ok (.getfield 21, 3) := by decide +kernel
theorem dX1_takeFrom_79 : decode cX1_takeFrom 79 = .ok (.iconst 0, 1) := by decide +kernel
theorem dX1_takeFrom_80 : decode cX1_takeFrom 80 = .ok (.aload_n 0, 1) := by decide +kernel
theorem dX1_takeFrom_81 : decode cX1_takeFrom 81 = .ok (.getfield 21, 3) := by decide +kernel
theorem dX1_takeFrom_84 : decode cX1_takeFrom 84 = .ok (.arraylength, 1) := by decide +kernel
theorem dX1_takeFrom_85 : decode cX1_takeFrom 85 = .ok (.invokestatic 52, 3) := by decide +kernel
theorem dX1_takeFrom_88 : decode cX1_takeFrom 88 = .ok (.return_, 1) := by decide +kernel
theorem dX2_init_0 : decode cX2_init 0 = .ok (.aload_n 0, 1) := by decide +kernel
theorem dX2_init_1 : decode cX2_init 1 = .ok (.invokespecial 3, 3) := by decide +kernel
theorem dX2_init_4 : decode cX2_init 4 = .ok (.aload_n 0, 1) := by decide +kernel
theorem dX2_init_5 : decode cX2_init 5 = .ok (.bipush 6, 2) := by decide +kernel
theorem dX2_init_7 : decode cX2_init 7 = .ok (.newarray .int, 2) := by decide +kernel
theorem dX2_init_9 : decode cX2_init 9 = .ok (.putfield 9, 3) := by decide +kernel
theorem dX2_init_12 : decode cX2_init 12 = .ok (.aload_n 0, 1) := by decide +kernel
theorem dX2_init_13 : decode cX2_init 13 = .ok (.bipush 6, 2) := by decide +kernel
theorem dX2_init_15 : decode cX2_init 15 = .ok (.newarray .int, 2) := by decide +kernel
theorem dX2_init_17 : decode cX2_init 17 = .ok (.putfield 15, 3) := by decide +kernel
theorem dX2_init_20 : decode cX2_init 20 = .ok (.aload_n 0, 1) := by decide +kernel
theorem dX2_init_21 : decode cX2_init 21 = .ok (.bipush 6, 2) := by decide +kernel
theorem dX2_init_23 : decode cX2_init 23 = .ok (.newarray .int, 2) := by decide +kernel
theorem dX2_init_25 : decode cX2_init 25 = .ok (.putfield 18, 3) := by decide +kernel
theorem dX2_init_28 : decode cX2_init 28 = .ok (.aload_n 0, 1) := by decide +kernel
theorem dX2_init_29 : decode cX2_init 29 = .ok (.bipush 6, 2) := by decide +kernel
theorem dX2_init_31 : decode cX2_init 31 = .ok (.newarray .int, 2) := by decide +kernel
theorem dX2_init_33 : decode cX2_init 33 = .ok (.putfield 21, 3) := by decide +kernel
theorem dX2_init_36 : decode cX2_init 36 = .ok (.aload_n 0, 1) := by decide +kernel
theorem dX2_init_37 : decode cX2_init 37 = .ok (.bipush 6, 2) := by decide +kernel
theorem dX2_init_39 : decode cX2_init 39 = .ok (.newarray .int, 2) := by decide +kernel
theorem dX2_init_41 : decode cX2_init 41 = .ok (.putfield 24, 3) := by decide +kernel
theorem dX2_init_44 : decode cX2_init 44 = .ok (.aload_n 0, 1) := by decide +kernel
theorem dX2_init_45 : decode cX2_init 45 = .ok (.bipush 6, 2) := by decide +kernel
theorem dX2_init_47 : decode cX2_init 47 = .ok (.newarray .int, 2) := by decide +kernel
theorem dX2_init_49 : decode cX2_init 49 = .ok (.putfield 27, 3) := by decide +kernel
theorem dX2_init_52 : decode cX2_init 52 = .ok (.aload_n 0, 1) := by decide +kernel
theorem dX2_init_53 : decode cX2_init 53 = .ok (.bipush 6, 2) := by decide +kernel
theorem dX2_init_55 : decode cX2_init 55 = .ok (.newarray .int, 2) := by decide +kernel
theorem dX2_init_57 : decode cX2_init 57 = .ok (.putfield 30, 3) := by decide +kernel
theorem dX2_init_60 : decode cX2_init 60 = .ok (.aload_n 0, 1) := by decide +kernel
theorem dX2_init_61 : decode cX2_init 61 = .ok (.bipush 6, 2) := by decide +kernel
theorem dX2_init_63 : decode cX2_init 63 = .ok (.newarray .int, 2) := by decide +kernel
theorem dX2_init_65 : decode cX2_init 65 = .ok (.putfield 33, 3) := by decide +kernel
theorem dX2_init_68 : decode cX2_init 68 = .ok (.return_, 1) := by decide +kernel
set_option maxRecDepth 20000 in
theorem ggX2_search_X2_goOn : GoodIn wsX2_search wsX2_goOn := goodIn_r _ [9, 2, 10, 11, 12, 13, 14, 3, 15, 16, 17, 18, 19, 20, 21, 8, 22, 1, 23, 24, 25, 26, 27, 28, 29, 30, 31, 32, 33, 34, 5, 6, 7, 35, 36, 37, 38, 39, 40, 41, 42, 43, 44, 45, 46, 47] (by decide +kernel) (by decide +kernel)
set_option maxRecDepth 20000 in
theorem gX2_search_X2_goOn : GoodIn wsX2_search (wsV RX2 44 RX2 yX2_goOn wsX2_goOn) := goodIn_app (goodIn_of _ (by decide +kernel)) ggX2_search_X2_goOn
theorem dX2_search_0 : decode cX2_search 0 = .ok (.aload_n 0, 1) := by decide +kernel
theorem dX2_search_1 : decode cX2_search 1 = .ok (.iconst 0, 1) := by decide +kernel
theorem dX2_search_2 : decode cX2_search 2 = .ok (.putfield 36, 3) := by decide +kernel
theorem dX2_search_5 : decode cX2_search 5 = .ok (.iconst 0, 1) := by decide +kernel
theorem dX2_search_6 : decode cX2_search 6 = .ok (.istore_n 1, 1) := by decide +kernel
theorem dX2_search_7 : decode cX2_search 7 = .ok (.iload_n 1, 1) := by decide +kernel
theorem dX2_search_8 : decode cX2_search 8 = .ok (.aload_n 0, 1) := by decide +kernel
theorem dX2_search_9 : decode cX2_search 9 = .ok (.getfield 40, 3) := by decide +kernel
theorem dX2_search_12 : decode cX2_search 12 = .ok (.if_icmp .ge 21, 3) := by decide +kernel
theorem dX2_search_15 : decode cX2_search 15 = .ok (.aload_n 0, 1) := by decide +kernel
theorem dX2_search_16 : decode cX2_search 16 = .ok (.getfield 9, 3) := by decide +kernel
theorem dX2_search_19 : decode cX2_search 19 = .ok (.iload_n 1, 1) := by decide +kernel
theorem dX2_search_20 : decode cX2_search 20 = .ok (.iaload, 1) := by decide +kernel
theorem dX2_search_21 : decode cX2_search 21 = .ok (.ldc 43, 2) := by decide +kernel
theorem dX2_search_23 : decode cX2_search 23 = .ok (.if_icmp .ne 4, 3) := by decide +kernel
theorem dX2_search_26 : decode cX2_search 26 = .ok (.return_, 1) := by decide +kernel
theorem dX2_search_27 : decode cX2_search 27 = .ok (.iinc 1 1, 3) := by decide +kernel
theorem dX2_search_30 : decode cX2_search 30 = .ok (.goto (-23), 3) := by decide +kernel
theorem dX2_search_33 : decode cX2_search 33 = .ok (.iconst 1, 1) := by decide +kernel
theorem dX2_search_34 : decode cX2_search 34 = .ok (.aload_n 0, 1) := by decide +kernel
theorem dX2_search_35 : decode cX2_search 35 = .ok (.getfield 40, 3) := by decide +kernel
theorem dX2_search_38 : decode cX2_search 38 = .ok (.ishl, 1) := by decide +kernel
theorem dX2_search_39 : decode cX2_search 39 = .ok (.iconst 1, 1) := by decide +kernel
theorem dX2_search_40 : decode cX2_search 40 = .ok (.isub, 1) := by decide +kernel
theorem dX2_search_41 : decode cX2_search 41 = .ok (.istore_n 1, 1) := by decide +kernel
theorem dX2_search_42 : decode cX2_search 42 = .ok (.aload_n 0, 1) := by decide +kernel
theorem dX2_search_43 : decode cX2_search 43 = .ok (.iconst 0, 1) := by decide +kernel
theorem dX2_search_44 : decode cX2_search 44 = .ok (.iload_n 1, 1) := by decide +kernel
theorem dX2_search_45 : decode cX2_search 45 = .ok (.iload_n 1, 1) := by decide +kernel
theorem dX2_search_46 : decode cX2_search 46 = .ok (.iconst 0, 1) := by decide +kernel
theorem dX2_search_47 : decode cX2_search 47 = .ok (.iconst 0, 1) := by decide +kernel
theorem dX2_search_48 : decode cX2_search 48 = .ok (.invokevirtual 44, 3) := by decide +kernel
theorem dX2_search_51 : decode cX2_search 51 = .ok (.return_, 1) := by decide +kernel
set_option maxRecDepth 20000 in
theorem ggX2_goOn_X2_keep : GoodIn wsX2_goOn wsX2_keep := goodIn_r _ [16, 9, 8, 17, 18, 19, 20, 21, 22, 23, 24, 25, 26, 3, 4, 5, 6, 33, 34, 35, 36, 37, 38, 39, 40, 41, 42, 43, 44, 45] (by decide +kernel) (by decide +kernel)
set_option maxRecDepth 20000 in
theorem gX2_goOn_X2_keep : GoodIn wsX2_goOn (wsV RX2 48 RX2 yX2_keep wsX2_keep) := goodIn_app (goodIn_of _ (by decide +kernel)) ggX2_goOn_X2_keep
set_option maxRecDepth 20000 in
theorem ggX2_goOn_X5_holds : GoodIn wsX2_goOn wsX5_holds := goodIn_r _ [29] (by decide +kernel) (by decide +kernel)
set_option maxRecDepth 20000 in
theorem gX2_goOn_X5_holds_n52 : GoodIn wsX2_goOn (wsX5_holds) := ggX2_goOn_X5_holds
set_option maxRecDepth 20000 in
theorem ggX2_goOn_X2_goOn : GoodIn wsX2_goOn wsX2_goOn := goodIn_r _ [0, 1, 2, 3, 4, 5, 6, 7, 8, 9, 10, 11, 12, 13, 14, 15, 16, 17, 18, 19, 20, 21, 22, 23, 24, 25, 26, 27, 28, 29, 30, 31, 32, 33, 34, 35, 36, 37, 38, 39, 40, 41, 42, 43, 44, 45] (by decide +kernel) (by decide +kernel)
set_option maxRecDepth 20000 in
theorem gX2_goOn_X2_goOn : GoodIn wsX2_goOn (wsV RX2 44 RX2 yX2_goOn wsX2_goOn) := goodIn_app (goodIn_of _ (by decide +kernel)) ggX2_goOn_X2_goOn
theorem dX2_goOn_0 : decode cX2_goOn 0 = .ok (.iload_n 1, 1) := by decide +kernel
theorem dX2_goOn_1 : decode cX2_goOn 1 = .ok (.aload_n 0, 1) := by decide +kernel
theorem dX2_goOn_2 : decode cX2_goOn 2 = .ok (.getfield 40, 3) := by decide +kernel
theorem dX2_goOn_5 : decode cX2_goOn 5 = .ok (.if_icmp .lt 11, 3) := by decide +kernel
theorem dX2_goOn_8 : decode cX2_goOn 8 = .ok (.aload_n 0, 1) := by decide +kernel
theorem dX2_goOn_9 : decode cX2_goOn 9 = .ok (.iload_n 1, 1) := by decide +kernel
theorem dX2_goOn_10 : decode cX2_goOn 10 = .ok (.iload 5, 2) := by decide +kernel
theorem dX2_goOn_12 : decode cX2_goOn 12 = .ok (.invokevirtual 48, 3) := by decide +kernel
theorem dX2_goOn_15 : decode cX2_goOn 15 = .ok (.return_, 1) := by decide +kernel
theorem dX2_goOn_16 : decode cX2_goOn 16 = .ok (.iconst 0, 1) := by decide +kernel
theorem dX2_goOn_17 : decode cX2_goOn 17 = .ok (.istore 6, 2) := by decide +kernel
theorem dX2_goOn_19 : decode cX2_goOn 19 = .ok (.iload 6, 2) := by decide +kernel
theorem dX2_goOn_21 : decode cX2_goOn 21 = .ok (.aload_n 0, 1) := by decide +kernel
theorem dX2_goOn_22 : decode cX2_goOn 22 = .ok (.getfield 40, 3) := by decide +kernel
theorem dX2_goOn_25 : decode cX2_goOn 25 = .ok (.if_icmp .ge 121, 3) := by decide +kernel
theorem dX2_goOn_28 : decode cX2_goOn 28 = .ok (.iload_n 2, 1) := by decide +kernel
theorem dX2_goOn_29 : decode cX2_goOn 29 = .ok (.iload_n 3, 1) := by decide +kernel
theorem dX2_goOn_30 : decode cX2_goOn 30 = .ok (.iand, 1) := by decide +kernel
theorem dX2_goOn_31 : decode cX2_goOn 31 = .ok (.iload 6, 2) := by decide +kernel
theorem dX2_goOn_33 : decode cX2_goOn 33 = .ok (.invokestatic 52, 3) := by decide +kernel
theorem dX2_goOn_36 : decode cX2_goOn 36 = .ok (.ifCond .ne 6, 3) := by decide +kernel
theorem dX2_goOn_39 : decode cX2_goOn 39 = .ok (.goto 101, 3) := by decide +kernel
theorem dX2_goOn_42 : decode cX2_goOn 42 = .ok (.iload 4, 2) := by decide +kernel
theorem dX2_goOn_44 : decode cX2_goOn 44 = .ok (.aload_n 0, 1) := by decide +kernel
theorem dX2_goOn_45 : decode cX2_goOn 45 = .ok (.getfield 15, 3) := by decide +kernel
theorem dX2_goOn_48 : decode cX2_goOn 48 = .ok (.iload 6, 2) := by decide +kernel
theorem dX2_goOn_50 : decode cX2_goOn 50 = .ok (.iaload, 1) := by decide +kernel
theorem dX2_goOn_51 : decode cX2_goOn 51 = .ok (.bipush 8, 2) := by decide +kernel
theorem dX2_goOn_53 : decode cX2_goOn 53 = .ok (.imul, 1) := by decide +kernel
theorem dX2_goOn_54 : decode cX2_goOn 54 = .ok (.invokestatic 56, 3) := by decide +kernel
theorem dX2_goOn_57 : decode cX2_goOn 57 = .ok (.aload_n 0, 1) := by decide +kernel
theorem dX2_goOn_58 : decode cX2_goOn 58 = .ok (.getfield 9, 3) := by decide +kernel
theorem dX2_goOn_61 : decode cX2_goOn 61 = .ok (.iload 6, 2) := by decide +kernel
theorem dX2_goOn_63 : decode cX2_goOn 63 = .ok (.iaload, 1) := by decide +kernel
theorem dX2_goOn_64 : decode cX2_goOn 64 = .ok (.iadd, 1) := by decide +kernel
theorem dX2_goOn_65 : decode cX2_goOn 65 = .ok (.istore 7, 2) := by decide +kernel
theorem dX2_goOn_67 : decode cX2_goOn 67 = .ok (.iload 7, 2) := by decide +kernel
theorem dX2_goOn_69 : decode cX2_goOn 69 = .ok (.iconst 1, 1) := by decide +kernel
theorem dX2_goOn_70 : decode cX2_goOn 70 = .ok (.isub, 1) := by decide +kernel
theorem dX2_goOn_71 : decode cX2_goOn 71 = .ok (.bipush 8, 2) := by decide +kernel
theorem dX2_goOn_73 : decode cX2_goOn 73 = .ok (.idiv, 1) := by decide +kernel
theorem dX2_goOn_74 : decode cX2_goOn 74 = .ok (.istore 8, 2) := by decide +kernel
theorem dX2_goOn_76 : decode cX2_goOn 76 = .ok (.aload_n 0, 1) := by decide +kernel
theorem dX2_goOn_77 : decode cX2_goOn 77 = .ok (.getfield 30, 3) := by decide +kernel
theorem dX2_goOn_80 : decode cX2_goOn 80 = .ok (.iload_n 1, 1) := by decide +kernel
theorem dX2_goOn_81 : decode cX2_goOn 81 = .ok (.iload 6, 2) := by decide +kernel
theorem dX2_goOn_83 : decode cX2_goOn 83 = .ok (.iastore, 1) := by decide +kernel
theorem dX2_goOn_84 : decode cX2_goOn 84 = .ok (.aload_n 0, 1) := by decide +kernel
theorem dX2_goOn_85 : decode cX2_goOn 85 = .ok (.getfield 33, 3) := by decide +kernel
theorem dX2_goOn_88 : decode cX2_goOn 88 = .ok (.iload 6, 2) := by decide +kernel
theorem dX2_goOn_90 : decode cX2_goOn 90 = .ok (.iload 8, 2) := by decide +kernel
theorem dX2_goOn_92 : decode cX2_goOn 92 = .ok (.iastore, 1) := by decide +kernel
theorem dX2_goOn_93 : decode cX2_goOn 93 = .ok (.iconst 0, 1) := by decide +kernel
theorem dX2_goOn_94 : decode cX2_goOn 94 = .ok (.aload_n 0, 1) := by decide +kernel
theorem dX2_goOn_95 : decode cX2_goOn 95 = .ok (.getfield 18, 3) := by decide +kernel
theorem dX2_goOn_98 : decode cX2_goOn 98 = .ok (.iload 6, 2) := by decide +kernel
theorem dX2_goOn_100 : decode cX2_goOn 100 = .ok (.iaload, 1) := by decide +kernel
theorem dX2_goOn_101 : decode cX2_goOn 101 = .ok (.iconst 3, 1) := by decide +kernel
theorem dX2_goOn_102 : decode cX2_goOn 102 = .ok (.iload 8, 2) := by decide +kernel
theorem dX2_goOn_104 : decode cX2_goOn 104 = .ok (.imul, 1) := by decide +kernel
theorem dX2_goOn_105 : decode cX2_goOn 105 = .ok (.isub, 1) := by decide +kernel
theorem dX2_goOn_106 : decode cX2_goOn 106 = .ok (.invokestatic 56, 3) := by decide +kernel
theorem dX2_goOn_109 : decode cX2_goOn 109 = .ok (.istore 9, 2) := by decide +kernel
theorem dX2_goOn_111 : decode cX2_goOn 111 = .ok (.aload_n 0, 1) := by decide +kernel
theorem dX2_goOn_112 : decode cX2_goOn 112 = .ok (.iload_n 1, 1) := by decide +kernel
theorem dX2_goOn_113 : decode cX2_goOn 113 = .ok (.iconst 1, 1) := by decide +kernel
theorem dX2_goOn_114 : decode cX2_goOn 114 = .ok (.iadd, 1) := by decide +kernel
theorem dX2_goOn_115 : decode cX2_goOn 115 = .ok (.iload_n 2, 1) := by decide +kernel
theorem dX2_goOn_116 : decode cX2_goOn 116 = .ok (.iconst 1, 1) := by decide +kernel
theorem dX2_goOn_117 : decode cX2_goOn 117 = .ok (.iload 6, 2) := by decide +kernel
theorem dX2_goOn_119 : decode cX2_goOn 119 = .ok (.ishl, 1) := by decide +kernel
theorem dX2_goOn_120 : decode cX2_goOn 120 = .ok (.iconst (-1), 1) := by decide +kernel
theorem dX2_goOn_121 : decode cX2_goOn 121 = .ok (.ixor, 1) := by decide +kernel
theorem dX2_goOn_122 : decode cX2_goOn 122 = .ok (.iand, 1) := by decide +kernel
theorem dX2_goOn_123 : decode cX2_goOn 123 = .ok (.aload_n 0, 1) := by decide +kernel
theorem dX2_goOn_124 : decode cX2_goOn 124 = .ok (.getfield 21, 3) := by decide +kernel
theorem dX2_goOn_127 : decode cX2_goOn 127 = .ok (.iload 6, 2) := by decide +kernel
theorem dX2_goOn_129 : decode cX2_goOn 129 = .ok (.iaload, 1) := by decide +kernel
theorem dX2_goOn_130 : decode cX2_goOn 130 = .ok (.iload 7, 2) := by decide +kernel
theorem dX2_goOn_132 : decode cX2_goOn 132 = .ok (.iload 5, 2) := by decide +kernel
theorem dX2_goOn_134 : decode cX2_goOn 134 = .ok (.iload 9, 2) := by decide +kernel
theorem dX2_goOn_136 : decode cX2_goOn 136 = .ok (.iadd, 1) := by decide +kernel
theorem dX2_goOn_137 : decode cX2_goOn 137 = .ok (.invokevirtual 44, 3) := by decide +kernel
theorem dX2_goOn_140 : decode cX2_goOn 140 = .ok (.iinc 6 1, 3) := by decide +kernel
theorem dX2_goOn_143 : decode cX2_goOn 143 = .ok (.goto (-124), 3) := by decide +kernel
theorem dX2_goOn_146 : decode cX2_goOn 146 = .ok (.return_, 1) := by decide +kernel
theorem dX2_keep_0 : decode cX2_keep 0 = .ok (.iload_n 1, 1) := by decide +kernel
theorem dX2_keep_1 : decode cX2_keep 1 = .ok (.ifCond .ne 4, 3) := by decide +kernel
theorem dX2_keep_4 : decode cX2_keep 4 = .ok (.return_, 1) := by decide +kernel
theorem dX2_keep_5 : decode cX2_keep 5 = .ok (.aload_n 0, 1) := by decide +kernel
theorem dX2_keep_6 : decode cX2_keep 6 = .ok (.getfield 33, 3) := by decide +kernel
theorem dX2_keep_9 : decode cX2_keep 9 = .ok (.aload_n 0, 1) := by decide +kernel
theorem dX2_keep_10 : decode cX2_keep 10 = .ok (.getfield 30, 3) := by decide +kernel
theorem dX2_keep_13 : decode cX2_keep 13 = .ok (.iload_n 1, 1) := by decide +kernel
theorem dX2_keep_14 : decode cX2_keep 14 = .ok (.iconst 1, 1) := by decide +kernel
theorem dX2_keep_15 : decode cX2_keep 15 = .ok (.isub, 1) := by decide +kernel
theorem dX2_keep_16 : decode cX2_keep 16 = .ok (.iaload, 1) := by decide +kernel
theorem dX2_keep_17 : decode cX2_keep 17 = .ok (.iaload, 1) := by decide +kernel
theorem dX2_keep_18 : decode cX2_keep 18 = .ok (.istore_n 3, 1) := by decide +kernel
theorem dX2_keep_19 : decode cX2_keep 19 = .ok (.aload_n 0, 1) := by decide +kernel
theorem dX2_keep_20 : decode cX2_keep 20 = .ok (.getfield 36, 3) := by decide +kernel
theorem dX2_keep_23 : decode cX2_keep 23 = .ok (.ifCond .eq 11, 3) := by decide +kernel
theorem dX2_keep_26 : decode cX2_keep 26 = .ok (.iload_n 3, 1) := by decide +kernel
theorem dX2_keep_27 : decode cX2_keep 27 = .ok (.aload_n 0, 1) := by decide +kernel
theorem dX2_keep_28 : decode cX2_keep 28 = .ok (.getfield 62, 3) := by decide +kernel
theorem dX2_keep_31 : decode cX2_keep 31 = .ok (.if_icmp .ge 43, 3) := by decide +kernel
theorem dX2_keep_34 : decode cX2_keep 34 = .ok (.aload_n 0, 1) := by decide +kernel
theorem dX2_keep_35 : decode cX2_keep 35 = .ok (.iload_n 3, 1) := by decide +kernel
theorem dX2_keep_36 : decode cX2_keep 36 = .ok (.putfield 62, 3) := by decide +kernel
theorem dX2_keep_39 : decode cX2_keep 39 = .ok (.aload_n 0, 1) := by decide +kernel
theorem dX2_keep_40 : decode cX2_keep 40 = .ok (.iload_n 2, 1) := by decide +kernel
theorem dX2_keep_41 : decode cX2_keep 41 = .ok (.putfield 65, 3) := by decide +kernel
theorem dX2_keep_44 : decode cX2_keep 44 = .ok (.aload_n 0, 1) := by decide +kernel
theorem dX2_keep_45 : decode cX2_keep 45 = .ok (.getfield 30, 3) := by decide +kernel
theorem dX2_keep_48 : decode cX2_keep 48 = .ok (.iconst 0, 1) := by decide +kernel
theorem dX2_keep_49 : decode cX2_keep 49 = .ok (.aload_n 0, 1) := by decide +kernel
theorem dX2_keep_50 : decode cX2_keep 50 = .ok (.getfield 24, 3) := by decide +kernel
theorem dX2_keep_53 : decode cX2_keep 53 = .ok (.iconst 0, 1) := by decide +kernel
theorem dX2_keep_54 : decode cX2_keep 54 = .ok (.bipush 6, 2) := by decide +kernel
theorem dX2_keep_56 : decode cX2_keep 56 = .ok (.invokestatic 68, 3) := by decide +kernel
theorem dX2_keep_59 : decode cX2_keep 59 = .ok (.aload_n 0, 1) := by decide +kernel
theorem dX2_keep_60 : decode cX2_keep 60 = .ok (.getfield 33, 3) := by decide +kernel
theorem dX2_keep_63 : decode cX2_keep 63 = .ok (.iconst 0, 1) := by decide +kernel
theorem dX2_keep_64 : decode cX2_keep 64 = .ok (.aload_n 0, 1) := by decide +kernel
theorem dX2_keep_65 : decode cX2_keep 65 = .ok (.getfield 27, 3) := by decide +kernel
theorem dX2_keep_68 : decode cX2_keep 68 = .ok (.iconst 0, 1) := by decide +kernel
theorem dX2_keep_69 : decode cX2_keep 69 = .ok (.bipush 6, 2) := by decide +kernel
theorem dX2_keep_71 : decode cX2_keep 71 = .ok (.invokestatic 68, 3) := by decide +kernel
theorem dX2_keep_74 : decode cX2_keep 74 = .ok (.aload_n 0, 1) := by decide +kernel
theorem dX2_keep_75 : decode cX2_keep 75 = .ok (.aload_n 0, 1) := by decide +kernel
theorem dX2_keep_76 : decode cX2_keep 76 = .ok (.getfield 36, 3) := by decide +kernel
theorem dX2_keep_79 : decode cX2_keep 79 = .ok (.ifCond .ne 7, 3) := by decide +kernel
theorem dX2_keep_82 : decode cX2_keep 82 = .ok (.iload_n 2, 1) := by decide +kernel
theorem dX2_keep_83 : decode cX2_keep 83 = .ok (.goto 11, 3) := by decide +kernel
theorem dX2_keep_86 : decode cX2_keep 86 = .ok (.aload_n 0, 1) := by decide +kernel
theorem dX2_keep_87 : decode cX2_keep 87 = .ok (.getfield 74, 3) := by decide +kernel
theorem dX2_keep_90 : decode cX2_keep 90 = .ok (.iload_n 2, 1) := by decide +kernel
theorem dX2_keep_91 : decode cX2_keep 91 = .ok (.invokestatic 56, 3) := by decide +kernel
theorem dX2_keep_94 : decode cX2_keep 94 = .ok (.putfield 74, 3) := by decide +kernel
theorem dX2_keep_97 : decode cX2_keep 97 = .ok (.aload_n 0, 1) := by decide +kernel
theorem dX2_keep_98 : decode cX2_keep 98 = .ok (.dup, 1) := by decide +kernel
theorem dX2_keep_99 : decode cX2_keep 99 = .ok (.getfield 36, 3) := by decide +kernel
theorem dX2_keep_102 : decode cX2_keep 102 = .ok (.iconst 1, 1) := by decide +kernel
theorem dX2_keep_103 : decode cX2_keep 103 = .ok (.iadd, 1) := by decide +kernel
theorem dX2_keep_104 : decode cX2_keep 104 = .ok (.putfield 36, 3) := by decide +kernel
theorem dX2_keep_107 : decode cX2_keep 107 = .ok (.return_, 1) := by decide +kernel
theorem dX3_init_0 : decode cX3_init 0 = .ok (.aload_n 0, 1) := by decide +kernel
theorem dX3_init_1 : decode cX3_init 1 = .ok (.invokespecial 1, 3) := by decide +kernel
theorem dX3_init_4 : decode cX3_init 4 = .ok (.aload_n 0, 1) := by decide +kernel
theorem dX3_init_5 : decode cX3_init 5 = .ok (.bipush 40, 2) := by decide +kernel
theorem dX3_init_7 : decode cX3_init 7 = .ok (.newarray .long, 2) := by decide +kernel
theorem dX3_init_9 : decode cX3_init 9 = .ok (.putfield 9, 3) := by decide +kernel
theorem dX3_init_12 : decode cX3_init 12 = .ok (.return_, 1) := by decide +kernel
set_option maxRecDepth 20000 in
theorem ggX3_begin_J7_fill_d0a16 : GoodIn wsX3_begin wsJ7_fill_d0a16 := goodIn_r _ [7] (by decide +kernel) (by decide +kernel)
set_option maxRecDepth 20000 in
theorem gX3_begin_J7_fill_d0a16 : GoodIn wsX3_begin (va_wsS RX3 20 yJ7_fill_d0a16 wsJ7_fill_d0a16) := goodIn_app (goodIn_of _ (by decide +kernel)) ggX3_begin_J7_fill_d0a16
theorem dX3_begin_0 : decode cX3_begin 0 = .ok (.aload_n 0, 1) := by decide +kernel
theorem dX3_begin_1 : decode cX3_begin 1 = .ok (.iload_n 1, 1) := by decide +kernel
theorem dX3_begin_2 : decode cX3_begin 2 = .ok (.putfield 13, 3) := by decide +kernel
theorem dX3_begin_5 : decode cX3_begin 5 = .ok (.aload_n 0, 1) := by decide +kernel
theorem dX3_begin_6 : decode cX3_begin 6 = .ok (.iload_n 1, 1) := by decide +kernel
theorem dX3_begin_7 : decode cX3_begin 7 = .ok (.ifCond .ne 7, 3) := by decide +kernel
theorem dX3_begin_10 : decode cX3_begin 10 = .ok (.iconst 0, 1) := by decide +kernel
theorem dX3_begin_11 : decode cX3_begin 11 = .ok (.goto 4, 3) := by decide +kernel
theorem dX3_begin_14 : decode cX3_begin 14 = .ok (.iload_n 2, 1) := by decide +kernel
theorem dX3_begin_15 : decode cX3_begin 15 = .ok (.putfield 17, 3) := by decide +kernel
theorem dX3_begin_18 : decode cX3_begin 18 = .ok (.aload_n 0, 1) := by decide +kernel
theorem dX3_begin_19 : decode cX3_begin 19 = .ok (.getfield 9, 3) := by decide +kernel
theorem dX3_begin_22 : decode cX3_begin 22 = .ok (.lconst 0, 1) := by decide +kernel
theorem dX3_begin_23 : decode cX3_begin 23 = .ok (.invokestatic 20, 3) := by decide +kernel
theorem dX3_begin_26 : decode cX3_begin 26 = .ok (.return_, 1) := by decide +kernel
theorem dX3_hasNumbers_0 : decode cX3_hasNumbers 0 = .ok (.iload_n 1, 1) := by decide +kernel
theorem dX3_hasNumbers_1 : decode cX3_hasNumbers 1 = .ok (.ifCond .lt 29, 3) := by decide +kernel
theorem dX3_hasNumbers_4 : decode cX3_hasNumbers 4 = .ok (.iload_n 2, 1) := by decide +kernel
theorem dX3_hasNumbers_5 : decode cX3_hasNumbers 5 = .ok (.ifCond .lt 25, 3) := by decide +kernel
theorem dX3_hasNumbers_8 : decode cX3_hasNumbers 8 = .ok (.iload_n 1, 1) := by decide +kernel
theorem dX3_hasNumbers_9 : decode cX3_hasNumbers 9 = .ok (.aload_n 0, 1) := by decide +kernel
theorem dX3_hasNumbers_10 : decode cX3_hasNumbers 10 = .ok (.getfield 17, 3) := by decide +kernel
theorem dX3_hasNumbers_13 : decode cX3_hasNumbers 13 = .ok (.if_icmp .gt 17, 3) := by decide +kernel
theorem dX3_hasNumbers_16 : decode cX3_hasNumbers 16 = .ok (.iload_n 2, 1) := by decide +kernel
theorem dX3_hasNumbers_17 : decode cX3_hasNumbers 17 = .ok (.aload_n 0, 1) := by decide +kernel
theorem dX3_hasNumbers_18 : decode cX3_hasNumbers 18 = .ok (.getfield 17, 3) := by decide +kernel
theorem dX3_hasNumbers_21 : decode cX3_hasNumbers 21 = .ok (.iload_n 1, 1) := by decide +kernel
theorem dX3_hasNumbers_22 : decode cX3_hasNumbers 22 = .ok (.isub, 1) := by decide +kernel
theorem dX3_hasNumbers_23 : decode cX3_hasNumbers 23 = .ok (.if_icmp .gt 7, 3) := by decide +kernel
theorem dX3_hasNumbers_26 : decode cX3_hasNumbers 26 = .ok (.iconst 1, 1) := by decide +kernel
theorem dX3_hasNumbers_27 : decode cX3_hasNumbers 27 = .ok (.goto 4, 3) := by decide +kernel
theorem dX3_hasNumbers_30 : decode cX3_hasNumbers 30 = .ok (.iconst 0, 1) := by decide +kernel
theorem dX3_hasNumbers_31 : decode cX3_hasNumbers 31 = .ok (.ireturn, 1) := by decide +kernel
theorem dX3_put_0 : decode cX3_put 0 = .ok (.aload_n 0, 1) := by decide +kernel
theorem dX3_put_1 : decode cX3_put 1 = .ok (.getfield 13, 3) := by decide +kernel
theorem dX3_put_4 : decode cX3_put 4 = .ok (.bipush 8, 2) := by decide +kernel
theorem dX3_put_6 : decode cX3_put 6 = .ok (.if_icmp .ne 16, 3) := by decide +kernel
theorem dX3_put_9 : decode cX3_put 9 = .ok (.aload_n 0, 1) := by decide +kernel
theorem dX3_put_10 : decode cX3_put 10 = .ok (.getfield 9, 3) := by decide +kernel
theorem dX3_put_13 : decode cX3_put 13 = .ok (.iload_n 1, 1) := by decide +kernel
theorem dX3_put_14 : decode cX3_put 14 = .ok (.lload_n 2, 1) := by decide +kernel
theorem dX3_put_15 : decode cX3_put 15 = .ok (.l2i, 1) := by decide +kernel
theorem dX3_put_16 : decode cX3_put 16 = .ok (.i2b, 1) := by decide +kernel
theorem dX3_put_17 : decode cX3_put 17 = .ok (.i2l, 1) := by decide +kernel
theorem dX3_put_18 : decode cX3_put 18 = .ok (.lastore, 1) := by decide +kernel
theorem dX3_put_19 : decode cX3_put 19 = .ok (.goto 32, 3) := by decide +kernel
theorem dX3_put_22 : decode cX3_put 22 = .ok (.aload_n 0, 1) := by decide +kernel
theorem dX3_put_23 : decode cX3_put 23 = .ok (.getfield 13, 3) := by decide +kernel
theorem dX3_put_26 : decode cX3_put 26 = .ok (.bipush 16, 2) := by decide +kernel
theorem dX3_put_28 : decode cX3_put 28 = .ok (.if_icmp .ne 16, 3) := by decide +kernel
theorem dX3_put_31 : decode cX3_put 31 = .ok (.aload_n 0, 1) := by decide +kernel
theorem dX3_put_32 : decode cX3_put 32 = .ok (.getfield 9, 3) := by decide +kernel
theorem dX3_put_35 : decode cX3_put 35 = .ok (.iload_n 1, 1) := by decide +kernel
theorem dX3_put_36 : decode cX3_put 36 = .ok (.lload_n 2, 1) := by decide +kernel
theorem dX3_put_37 : decode cX3_put 37 = .ok (.l2i, 1) := by decide +kernel
theorem dX3_put_38 : decode cX3_put 38 = .ok (.i2s, 1) := by decide +kernel
theorem dX3_put_39 : decode cX3_put 39 = .ok (.i2l, 1) := by decide +kernel
theorem dX3_put_40 : decode cX3_put 40 = .ok (.lastore, 1) := by decide +kernel
theorem dX3_put_41 : decode cX3_put 41 = .ok (.goto 10, 3) := by decide +kernel
theorem dX3_put_44 : decode cX3_put 44 = .ok (.aload_n 0, 1) := by decide +kernel
theorem dX3_put_45 : decode cX3_put 45 = .ok (.getfield 9, 3) := by decide +kernel
theorem dX3_put_48 : decode cX3_put 48 = .ok (.iload_n 1, 1) := by decide +kernel
theorem dX3_put_49 : decode cX3_put 49 = .ok (.lload_n 2, 1) := by decide +kernel
theorem dX3_put_50 : decode cX3_put 50 = .ok (.lastore, 1) := by decide +kernel
theorem dX3_put_51 : decode cX3_put 51 = .ok (.return_, 1) := by decide +kernel
theorem dX4_init_0 : decode cX4_init 0 = .ok (.aload_n 0, 1) := by decide +kernel
theorem dX4_init_1 : decode cX4_init 1 = .ok (.invokespecial 3, 3) := by decide +kernel
theorem dX4_init_4 : decode cX4_init 4 = .ok (.aload_n 0, 1) := by decide +kernel
theorem dX4_init_5 : decode cX4_init 5 = .ok (.bipush 120, 2) := by decide +kernel
theorem dX4_init_7 : decode cX4_init 7 = .ok (.newarray .int, 2) := by decide +kernel
theorem dX4_init_9 : decode cX4_init 9 = .ok (.putfield 11, 3) := by decide +kernel
theorem dX4_init_12 : decode cX4_init 12 = .ok (.return_, 1) := by decide +kernel
theorem dX4_append_0 : decode cX4_append 0 = .ok (.aload_n 0, 1) := by decide +kernel
theorem dX4_append_1 : decode cX4_append 1 = .ok (.getfield 15, 3) := by decide +kernel
theorem dX4_append_4 : decode cX4_append 4 = .ok (.bipush 120, 2) := by decide +kernel
theorem dX4_append_6 : decode cX4_append 6 = .ok (.if_icmp .ge 23, 3) := by decide +kernel
theorem dX4_append_9 : decode cX4_append 9 = .ok (.aload_n 0, 1) := by decide +kernel
theorem dX4_append_10 : decode cX4_append 10 = .ok (.getfield 11, 3) := by decide +kernel
theorem dX4_append_13 : decode cX4_append 13 = .ok (.aload_n 0, 1) := by decide +kernel
theorem dX4_append_14 : decode cX4_append 14 = .ok (.getfield 15, 3) := by decide +kernel
theorem dX4_append_17 : decode cX4_append 17 = .ok (.iload_n 1, 1) := by decide +kernel
theorem dX4_append_18 : decode cX4_append 18 = .ok (.iastore, 1) := by decide +kernel
theorem dX4_append_19 : decode cX4_append 19 = .ok (.aload_n 0, 1) := by decide +kernel
theorem dX4_append_20 : decode cX4_append 20 = .ok (.dup, 1) := by decide +kernel
theorem dX4_append_21 : decode cX4_append 21 = .ok (.getfield 15, 3) := by decide +kernel
theorem dX4_append_24 : decode cX4_append 24 = .ok (.iconst 1, 1) := by decide +kernel
theorem dX4_append_25 : decode cX4_append 25 = .ok (.iadd, 1) := by decide +kernel
theorem dX4_append_26 : decode cX4_append 26 = .ok (.putfield 15, 3) := by decide +kernel
theorem dX4_append_29 : decode cX4_append 29 = .ok (.return_, 1) := by decide +kernel
set_option maxRecDepth 20000 in
theorem ggX4_tellOnto_X4_takeToken : GoodIn wsX4_tellOnto wsX4_takeToken := goodIn_r _ [8, 1, 3, 9, 10, 2, 11, 12, 7, 13, 14, 15, 16, 17, 18, 19, 20, 21, 22, 23, 24, 25, 128, 129, 130, 131, 132, 133] (by decide +kernel) (by decide +kernel)
set_option maxRecDepth 20000 in
theorem gX4_tellOnto_X4_takeToken : GoodIn wsX4_tellOnto (wsV RX4 22 RX4 yX4_takeToken wsX4_takeToken) := goodIn_app (goodIn_of _ (by decide +kernel)) ggX4_tellOnto_X4_takeToken
set_option maxRecDepth 20000 in
theorem ggX4_tellOnto_X4_takeItem : GoodIn wsX4_tellOnto wsX4_takeItem := goodIn_r _ [29, 30, 31, 32, 7, 33, 2, 1, 3, 10, 34, 35, 36, 37, 38, 39, 40, 41, 42, 43, 44, 45, 46, 47, 48, 49, 50, 51, 52, 53, 54, 55, 56, 57, 58, 59, 60, 61, 62, 63, 64, 65, 66, 67, 68, 69, 70, 71, 72, 73, 74, 75, 76, 77, 78, 79, 80, 81, 82, 83, 84, 85, 86, 87, 88, 89, 90, 91, 92, 93, 94, 95, 96, 97, 4, 5, 6, 8, 9, 11, 12, 13, 14, 15, 16, 17, 18, 19, 20, 21, 22, 23, 24, 25, 98, 99, 100, 101, 102, 103, 104, 105, 106, 107, 108, 109, 110, 111, 112, 113, 114, 115, 116, 117, 118, 119, 120, 121, 122, 123, 124, 125, 126, 127, 128, 129, 130, 131, 132, 133, 134, 135, 136, 137, 138, 139] (by decide +kernel) (by decide +kernel)
set_option maxRecDepth 20000 in
theorem gX4_tellOnto_X4_takeItem : GoodIn wsX4_tellOnto (wsV RX4 25 RX4 yX4_takeItem wsX4_takeItem) := goodIn_app (goodIn_of _ (by decide +kernel)) ggX4_tellOnto_X4_takeItem
theorem dX4_tellOnto_0 : decode cX4_tellOnto 0 = .ok (.aload_n 0, 1) := by decide +kernel
theorem dX4_tellOnto_1 : decode cX4_tellOnto 1 = .ok (.iconst 0, 1) := by decide +kernel
theorem dX4_tellOnto_2 : decode cX4_tellOnto 2 = .ok (.putfield 19, 3) := by decide +kernel
theorem dX4_tellOnto_5 : decode cX4_tellOnto 5 = .ok (.aload_n 0, 1) := by decide +kernel
theorem dX4_tellOnto_6 : decode cX4_tellOnto 6 = .ok (.invokevirtual 22, 3) := by decide +kernel
theorem dX4_tellOnto_9 : decode cX4_tellOnto 9 = .ok (.iconst 1, 1) := by decide +kernel
theorem dX4_tellOnto_10 : decode cX4_tellOnto 10 = .ok (.istore_n 2, 1) := by decide +kernel
theorem dX4_tellOnto_11 : decode cX4_tellOnto 11 = .ok (.iload_n 2, 1) := by decide +kernel
theorem dX4_tellOnto_12 : decode cX4_tellOnto 12 = .ok (.bipush 120, 2) := by decide +kernel
theorem dX4_tellOnto_14 : decode cX4_tellOnto 14 = .ok (.if_icmp .gt 44, 3) := by decide +kernel
theorem dX4_tellOnto_17 : decode cX4_tellOnto 17 = .ok (.aload_n 0, 1) := by decide +kernel
theorem dX4_tellOnto_18 : decode cX4_tellOnto 18 = .ok (.aload_n 1, 1) := by decide +kernel
theorem dX4_tellOnto_19 : decode cX4_tellOnto 19 = .ok (.invokevirtual 25, 3) := by decide +kernel
theorem dX4_tellOnto_22 : decode cX4_tellOnto 22 = .ok (.ifCond .ne 6, 3) := by decide +kernel
theorem dX4_tellOnto_25 : decode cX4_tellOnto 25 = .ok (.goto 33, 3) := by decide +kernel
theorem dX4_tellOnto_28 : decode cX4_tellOnto 28 = .ok (.aload_n 0, 1) := by decide +kernel
theorem dX4_tellOnto_29 : decode cX4_tellOnto 29 = .ok (.getfield 29, 3) := by decide +kernel
theorem dX4_tellOnto_32 : decode cX4_tellOnto 32 = .ok (.ifCond .ne 5, 3) := by decide +kernel
theorem dX4_tellOnto_35 : decode cX4_tellOnto 35 = .ok (.iload_n 2, 1) := by decide +kernel
theorem dX4_tellOnto_36 : decode cX4_tellOnto 36 = .ok (.ireturn, 1) := by decide +kernel
theorem dX4_tellOnto_37 : decode cX4_tellOnto 37 = .ok (.aload_n 0, 1) := by decide +kernel
theorem dX4_tellOnto_38 : decode cX4_tellOnto 38 = .ok (.getfield 29, 3) := by decide +kernel
theorem dX4_tellOnto_41 : decode cX4_tellOnto 41 = .ok (.iconst 3, 1) := by decide +kernel
theorem dX4_tellOnto_42 : decode cX4_tellOnto 42 = .ok (.if_icmp .eq 6, 3) := by decide +kernel
theorem dX4_tellOnto_45 : decode cX4_tellOnto 45 = .ok (.goto 13, 3) := by decide +kernel
theorem dX4_tellOnto_48 : decode cX4_tellOnto 48 = .ok (.aload_n 0, 1) := by decide +kernel
theorem dX4_tellOnto_49 : decode cX4_tellOnto 49 = .ok (.invokevirtual 22, 3) := by decide +kernel
theorem dX4_tellOnto_52 : decode cX4_tellOnto 52 = .ok (.iinc 2 1, 3) := by decide +kernel
theorem dX4_tellOnto_55 : decode cX4_tellOnto 55 = .ok (.goto (-44), 3) := by decide +kernel
theorem dX4_tellOnto_58 : decode cX4_tellOnto 58 = .ok (.iconst (-1), 1) := by decide +kernel
theorem dX4_tellOnto_59 : decode cX4_tellOnto 59 = .ok (.aload_n 0, 1) := by decide +kernel
theorem dX4_tellOnto_60 : decode cX4_tellOnto 60 = .ok (.getfield 32, 3) := by decide +kernel
theorem dX4_tellOnto_63 : decode cX4_tellOnto 63 = .ok (.isub, 1) := by decide +kernel
theorem dX4_tellOnto_64 : decode cX4_tellOnto 64 = .ok (.ireturn, 1) := by decide +kernel
set_option maxRecDepth 20000 in
theorem ggX4_takeItem_X4_isWord : GoodIn wsX4_takeItem wsX4_isWord := goodIn_r _ [5, 6, 7, 8, 9, 10, 11, 12, 13, 14, 15, 16, 17, 18, 19, 20, 21, 22, 23, 24, 25, 26, 27, 28, 29, 30, 31, 32, 33, 34, 35, 36, 37, 38, 39, 40, 41, 42, 43, 44, 45, 46, 47, 48, 49, 50, 51, 52, 53, 54, 55, 56, 57, 58, 124, 125, 126, 127, 128, 129] (by decide +kernel) (by decide +kernel)
set_option maxRecDepth 20000 in
theorem gX4_takeItem_X4_isWord : GoodIn wsX4_takeItem (wsV RX4 37 RX4 yX4_isWord wsX4_isWord) := goodIn_app (goodIn_of _ (by decide +kernel)) ggX4_takeItem_X4_isWord
set_option maxRecDepth 20000 in
theorem ggX4_takeItem_X4_takeField : GoodIn wsX4_takeItem wsX4_takeField := goodIn_r _ [62, 63, 64, 65, 66, 67, 68, 69, 70, 71, 72, 73, 74, 75, 76, 4, 77, 7, 8, 78, 9, 6, 79, 80, 81, 82, 83, 84, 85, 86, 87, 88, 89, 90, 91, 92, 93, 94, 95, 96, 97, 1, 2, 3, 5, 10, 11, 12, 13, 14, 15, 16, 17, 18, 19, 20, 21, 22, 23, 24, 25, 26, 27, 28, 29, 30, 31, 32, 33, 34, 35, 36, 37, 38, 39, 40, 41, 42, 43, 44, 45, 46, 47, 48, 49, 50, 51, 52, 53, 54, 55, 56, 57, 58, 98, 99, 100, 101, 102, 103, 104, 105, 130, 131, 132, 133, 134, 135, 124, 125, 126, 127, 128, 129] (by decide +kernel) (by decide +kernel)
set_option maxRecDepth 20000 in
theorem gX4_takeItem_X4_takeField : GoodIn wsX4_takeItem (wsV RX4 41 RX4 yX4_takeField wsX4_takeField) := goodIn_app (goodIn_of _ (by decide +kernel)) ggX4_takeItem_X4_takeField
set_option maxRecDepth 20000 in
theorem ggX4_takeItem_X4_takeJoin : GoodIn wsX4_takeItem wsX4_takeJoin := goodIn_r _ [109, 89, 74, 75, 76, 4, 77, 7, 8, 78, 9, 6, 79, 80, 81, 82, 83, 84, 85, 86, 87, 88, 90, 91, 92, 93, 98, 99, 100, 101, 130, 131, 132, 133, 134, 135, 124, 125, 126, 127, 128, 129] (by decide +kernel) (by decide +kernel)
set_option maxRecDepth 20000 in
theorem gX4_takeItem_X4_takeJoin : GoodIn wsX4_takeItem (wsV RX4 46 RX4 yX4_takeJoin wsX4_takeJoin) := goodIn_app (goodIn_of _ (by decide +kernel)) ggX4_takeItem_X4_takeJoin
set_option maxRecDepth 20000 in
theorem ggX4_takeItem_X4_kindInHand : GoodIn wsX4_takeItem wsX4_kindInHand := goodIn_r _ [113, 1, 2, 3, 4, 5, 6, 7, 8, 9, 10, 11, 12, 13, 14, 15, 16, 17, 18, 19, 20, 21, 22, 23, 24, 25, 26, 27, 28, 29, 30, 31, 32, 33, 34, 35, 36, 37, 38, 39, 40, 41, 42, 43, 44, 45, 46, 47, 48, 49, 50, 51, 52, 53, 54, 55, 56, 57, 58, 124, 125, 126, 127, 128, 129] (by decide +kernel) (by decide +kernel)
set_option maxRecDepth 20000 in
theorem gX4_takeItem_X4_kindInHand : GoodIn wsX4_takeItem (wsV RX4 49 RX4 yX4_kindInHand wsX4_kindInHand) := goodIn_app (goodIn_of _ (by decide +kernel)) ggX4_takeItem_X4_kindInHand
set_option maxRecDepth 20000 in
theorem ggX4_takeItem_X4_takeTeam : GoodIn wsX4_takeItem wsX4_takeTeam := goodIn_r _ [117, 89, 74, 75, 76, 4, 77, 7, 8, 78, 9, 6, 79, 80, 81, 82, 83, 84, 85, 86, 87, 88, 90, 91, 92, 93, 1, 2, 3, 5, 10, 11, 12, 13, 14, 15, 16, 17, 18, 19, 20, 21, 22, 23, 24, 25, 26, 27, 28, 29, 30, 31, 32, 33, 34, 35, 36, 37, 38, 39, 40, 41, 42, 43, 44, 45, 46, 47, 48, 49, 50, 51, 52, 53, 54, 55, 56, 57, 58, 98, 99, 100, 101, 118, 64, 119, 120, 121, 122, 123, 130, 131, 132, 133, 134, 135, 124, 125, 126, 127, 128, 129] (by decide +kernel) (by decide +kernel)
set_option maxRecDepth 20000 in
theorem gX4_takeItem_X4_takeTeam : GoodIn wsX4_takeItem (wsV RX4 53 RX4 yX4_takeTeam wsX4_takeTeam) := goodIn_app (goodIn_of _ (by decide +kernel)) ggX4_takeItem_X4_takeTeam
theorem dX4_takeItem_0 : decode cX4_takeItem 0 = .ok (.aload_n 0, 1) := by decide +kernel
theorem dX4_takeItem_1 : decode cX4_takeItem 1 = .ok (.ldc 35, 2) := by decide +kernel
theorem dX4_takeItem_3 : decode cX4_takeItem 3 = .ok (.invokevirtual 37, 3) := by decide +kernel
theorem dX4_takeItem_6 : decode cX4_takeItem 6 = .ok (.ifCond .eq 9, 3) := by decide +kernel
theorem dX4_takeItem_9 : decode cX4_takeItem 9 = .ok (.aload_n 0, 1) := by decide +kernel
theorem dX4_takeItem_10 : decode cX4_takeItem 10 = .ok (.aload_n 1, 1) := by decide +kernel
theorem dX4_takeItem_11 : decode cX4_takeItem 11 = .ok (.invokevirtual 41, 3) := by decide +kernel
theorem dX4_takeItem_14 : decode cX4_takeItem 14 = .ok (.ireturn, 1) := by decide +kernel
theorem dX4_takeItem_15 : decode cX4_takeItem 15 = .ok (.aload_n 0, 1) := by decide +kernel
theorem dX4_takeItem_16 : decode cX4_takeItem 16 = .ok (.ldc 44, 2) := by decide +kernel
theorem dX4_takeItem_18 : decode cX4_takeItem 18 = .ok (.invokevirtual 37, 3) := by decide +kernel
theorem dX4_takeItem_21 : decode cX4_takeItem 21 = .ok (.ifCond .eq 9, 3) := by decide +kernel
theorem dX4_takeItem_24 : decode cX4_takeItem 24 = .ok (.aload_n 0, 1) := by decide +kernel
theorem dX4_takeItem_25 : decode cX4_takeItem 25 = .ok (.aload_n 1, 1) := by decide +kernel
theorem dX4_takeItem_26 : decode cX4_takeItem 26 = .ok (.invokevirtual 46, 3) := by decide +kernel
theorem dX4_takeItem_29 : decode cX4_takeItem 29 = .ok (.ireturn, 1) := by decide +kernel
theorem dX4_takeItem_30 : decode cX4_takeItem 30 = .ok (.aload_n 0, 1) := by decide +kernel
theorem dX4_takeItem_31 : decode cX4_takeItem 31 = .ok (.invokevirtual 49, 3) := by decide +kernel
theorem dX4_takeItem_34 : decode cX4_takeItem 34 = .ok (.istore_n 2, 1) := by decide +kernel
theorem dX4_takeItem_35 : decode cX4_takeItem 35 = .ok (.iload_n 2, 1) := by decide +kernel
theorem dX4_takeItem_36 : decode cX4_takeItem 36 = .ok (.ifCond .lt 16, 3) := by decide +kernel
theorem dX4_takeItem_39 : decode cX4_takeItem 39 = .ok (.aload_n 0, 1) := by decide +kernel
theorem dX4_takeItem_40 : decode cX4_takeItem 40 = .ok (.aload_n 1, 1) := by decide +kernel
theorem dX4_takeItem_41 : decode cX4_takeItem 41 = .ok (.iload_n 2, 1) := by decide +kernel
theorem dX4_takeItem_42 : decode cX4_takeItem 42 = .ok (.invokevirtual 53, 3) := by decide +kernel
theorem dX4_takeItem_45 : decode cX4_takeItem 45 = .ok (.ifCond .eq 7, 3) := by decide +kernel
theorem dX4_takeItem_48 : decode cX4_takeItem 48 = .ok (.iconst 1, 1) := by decide +kernel
theorem dX4_takeItem_49 : decode cX4_takeItem 49 = .ok (.goto 4, 3) := by decide +kernel
theorem dX4_takeItem_52 : decode cX4_takeItem 52 = .ok (.iconst 0, 1) := by decide +kernel
theorem dX4_takeItem_53 : decode cX4_takeItem 53 = .ok (.ireturn, 1) := by decide +kernel
set_option maxRecDepth 20000 in
theorem ggX4_takeField_X1_addField : GoodIn wsX4_takeField wsX1_addField := goodIn_r _ [4, 5, 6, 7, 8, 9, 2, 10, 11, 102, 103, 104, 105, 106, 107] (by decide +kernel) (by decide +kernel)
set_option maxRecDepth 20000 in
theorem gX4_takeField_X1_addField_n62 : GoodIn wsX4_takeField (wsX1_addField) := ggX4_takeField_X1_addField
set_option maxRecDepth 20000 in
theorem ggX4_takeField_X4_takeToken : GoodIn wsX4_takeField wsX4_takeToken := goodIn_r _ [16, 17, 18, 19, 20, 21, 22, 23, 15, 24, 25, 26, 27, 28, 29, 30, 31, 32, 33, 34, 35, 36, 108, 109, 110, 111, 112, 113] (by decide +kernel) (by decide +kernel)
set_option maxRecDepth 20000 in
theorem gX4_takeField_X4_takeToken : GoodIn wsX4_takeField (wsV RX4 22 RX4 yX4_takeToken wsX4_takeToken) := goodIn_app (goodIn_of _ (by decide +kernel)) ggX4_takeField_X4_takeToken
set_option maxRecDepth 20000 in
theorem ggX4_takeField_X4_takeCells : GoodIn wsX4_takeField wsX4_takeCells := goodIn_r _ [40, 21, 32, 41, 42, 43, 15, 44, 17, 18, 20, 45, 46, 47, 48, 49, 50, 51, 52, 53, 54, 55, 56, 57, 58, 59, 60, 61, 62, 63, 64, 65, 66, 67, 68, 69, 70, 71, 72, 73, 74, 75, 76, 77, 78, 79, 80, 81, 82, 83, 84, 85, 86, 87, 88, 89, 90, 91, 92, 93, 12, 13, 14, 16, 19, 22, 23, 24, 25, 26, 27, 28, 29, 30, 31, 33, 34, 35, 36, 94, 95, 96, 97, 8, 2, 9, 10, 11, 108, 109, 110, 111, 112, 113, 102, 103, 104, 105, 106, 107] (by decide +kernel) (by decide +kernel)
set_option maxRecDepth 20000 in
theorem gX4_takeField_X4_takeCells : GoodIn wsX4_takeField (wsV RX4 67 RX4 yX4_takeCells wsX4_takeCells) := goodIn_app (goodIn_of _ (by decide +kernel)) ggX4_takeField_X4_takeCells
set_option maxRecDepth 20000 in
theorem ggX4_takeField_X4_takeMark : GoodIn wsX4_takeField wsX4_takeMark := goodIn_r _ [101, 32, 41, 42, 43, 15, 44, 21, 17, 18, 20, 45, 46, 47, 48, 49, 50, 51, 52, 53, 54, 55, 56, 57, 58, 59, 60, 61, 62, 63, 64, 65, 66, 67, 68, 69, 70, 71, 72, 73, 74, 75, 76, 77, 78, 79, 80, 81, 82, 83, 84, 85, 86, 87, 88, 89, 90, 91, 92, 93, 12, 13, 14, 16, 19, 22, 23, 24, 25, 26, 27, 28, 29, 30, 31, 33, 34, 35, 36, 94, 95, 96, 97, 8, 2, 9, 10, 11, 108, 109, 110, 111, 112, 113, 102, 103, 104, 105, 106, 107] (by decide +kernel) (by decide +kernel)
set_option maxRecDepth 20000 in
theorem gX4_takeField_X4_takeMark : GoodIn wsX4_takeField (wsV RX4 75 RX4 yX4_takeMark wsX4_takeMark) := goodIn_app (goodIn_of _ (by decide +kernel)) ggX4_takeField_X4_takeMark
theorem dX4_takeField_0 : decode cX4_takeField 0 = .ok (.aload_n 1, 1) := by decide +kernel
theorem dX4_takeField_1 : decode cX4_takeField 1 = .ok (.getfield 57, 3) := by decide +kernel
theorem dX4_takeField_4 : decode cX4_takeField 4 = .ok (.bipush 6, 2) := by decide +kernel
theorem dX4_takeField_6 : decode cX4_takeField 6 = .ok (.if_icmp .lt 5, 3) := by decide +kernel
theorem dX4_takeField_9 : decode cX4_takeField 9 = .ok (.iconst 0, 1) := by decide +kernel
theorem dX4_takeField_10 : decode cX4_takeField 10 = .ok (.ireturn, 1) := by decide +kernel
theorem dX4_takeField_11 : decode cX4_takeField 11 = .ok (.aload_n 1, 1) := by decide +kernel
theorem dX4_takeField_12 : decode cX4_takeField 12 = .ok (.invokevirtual 62, 3) := by decide +kernel
theorem dX4_takeField_15 : decode cX4_takeField 15 = .ok (.istore_n 2, 1) := by decide +kernel
theorem dX4_takeField_16 : decode cX4_takeField 16 = .ok (.aload_n 0, 1) := by decide +kernel
theorem dX4_takeField_17 : decode cX4_takeField 17 = .ok (.invokevirtual 22, 3) := by decide +kernel
theorem dX4_takeField_20 : decode cX4_takeField 20 = .ok (.aload_n 0, 1) := by decide +kernel
theorem dX4_takeField_21 : decode cX4_takeField 21 = .ok (.aload_n 1, 1) := by decide +kernel
theorem dX4_takeField_22 : decode cX4_takeField 22 = .ok (.iload_n 2, 1) := by decide +kernel
theorem dX4_takeField_23 : decode cX4_takeField 23 = .ok (.ldc 65, 2) := by decide +kernel
theorem dX4_takeField_25 : decode cX4_takeField 25 = .ok (.iconst 0, 1) := by decide +kernel
theorem dX4_takeField_26 : decode cX4_takeField 26 = .ok (.invokevirtual 67, 3) := by decide +kernel
theorem dX4_takeField_29 : decode cX4_takeField 29 = .ok (.ifCond .eq 55, 3) := by decide +kernel
theorem dX4_takeField_32 : decode cX4_takeField 32 = .ok (.aload_n 0, 1) := by decide +kernel
theorem dX4_takeField_33 : decode cX4_takeField 33 = .ok (.aload_n 1, 1) := by decide +kernel
theorem dX4_takeField_34 : decode cX4_takeField 34 = .ok (.iload_n 2, 1) := by decide +kernel
theorem dX4_takeField_35 : decode cX4_takeField 35 = .ok (.ldc 71, 2) := by decide +kernel
theorem dX4_takeField_37 : decode cX4_takeField 37 = .ok (.iconst 1, 1) := by decide +kernel
theorem dX4_takeField_38 : decode cX4_takeField 38 = .ok (.invokevirtual 67, 3) := by decide +kernel
theorem dX4_takeField_41 : decode cX4_takeField 41 = .ok (.ifCond .eq 43, 3) := by decide +kernel
theorem dX4_takeField_44 : decode cX4_takeField 44 = .ok (.aload_n 0, 1) := by decide +kernel
theorem dX4_takeField_45 : decode cX4_takeField 45 = .ok (.aload_n 1, 1) := by decide +kernel
theorem dX4_takeField_46 : decode cX4_takeField 46 = .ok (.iload_n 2, 1) := by decide +kernel
theorem dX4_takeField_47 : decode cX4_takeField 47 = .ok (.ldc 73, 2) := by decide +kernel
theorem dX4_takeField_49 : decode cX4_takeField 49 = .ok (.iconst 2, 1) := by decide +kernel
theorem dX4_takeField_50 : decode cX4_takeField 50 = .ok (.invokevirtual 75, 3) := by decide +kernel
theorem dX4_takeField_53 : decode cX4_takeField 53 = .ok (.ifCond .eq 31, 3) := by decide +kernel
theorem dX4_takeField_56 : decode cX4_takeField 56 = .ok (.aload_n 0, 1) := by decide +kernel
theorem dX4_takeField_57 : decode cX4_takeField 57 = .ok (.aload_n 1, 1) := by decide +kernel
theorem dX4_takeField_58 : decode cX4_takeField 58 = .ok (.iload_n 2, 1) := by decide +kernel
theorem dX4_takeField_59 : decode cX4_takeField 59 = .ok (.ldc 78, 2) := by decide +kernel
theorem dX4_takeField_61 : decode cX4_takeField 61 = .ok (.iconst 3, 1) := by decide +kernel
theorem dX4_takeField_62 : decode cX4_takeField 62 = .ok (.invokevirtual 75, 3) := by decide +kernel
theorem dX4_takeField_65 : decode cX4_takeField 65 = .ok (.ifCond .eq 19, 3) := by decide +kernel
theorem dX4_takeField_68 : decode cX4_takeField 68 = .ok (.aload_n 0, 1) := by decide +kernel
theorem dX4_takeField_69 : decode cX4_takeField 69 = .ok (.aload_n 1, 1) := by decide +kernel
theorem dX4_takeField_70 : decode cX4_takeField 70 = .ok (.iload_n 2, 1) := by decide +kernel
theorem dX4_takeField_71 : decode cX4_takeField 71 = .ok (.ldc 80, 2) := by decide +kernel
theorem dX4_takeField_73 : decode cX4_takeField 73 = .ok (.iconst 4, 1) := by decide +kernel
theorem dX4_takeField_74 : decode cX4_takeField 74 = .ok (.invokevirtual 75, 3) := by decide +kernel
theorem dX4_takeField_77 : decode cX4_takeField 77 = .ok (.ifCond .eq 7, 3) := by decide +kernel
theorem dX4_takeField_80 : decode cX4_takeField 80 = .ok (.iconst 1, 1) := by decide +kernel
theorem dX4_takeField_81 : decode cX4_takeField 81 = .ok (.goto 4, 3) := by decide +kernel
theorem dX4_takeField_84 : decode cX4_takeField 84 = .ok (.iconst 0, 1) := by decide +kernel
theorem dX4_takeField_85 : decode cX4_takeField 85 = .ok (.ireturn, 1) := by decide +kernel
set_option maxRecDepth 20000 in
theorem ggX4_takeCells_X4_isWord : GoodIn wsX4_takeCells wsX4_isWord := goodIn_r _ [7, 1, 8, 9, 10, 11, 12, 13, 14, 15, 16, 17, 18, 19, 20, 21, 22, 23, 24, 25, 26, 27, 28, 29, 30, 31, 32, 33, 34, 35, 36, 37, 38, 39, 40, 41, 42, 43, 44, 45, 46, 47, 48, 49, 50, 51, 52, 53, 54, 55, 56, 57, 58, 59, 88, 89, 90, 91, 92, 93] (by decide +kernel) (by decide +kernel)
set_option maxRecDepth 20000 in
theorem gX4_takeCells_X4_isWord : GoodIn wsX4_takeCells (wsV RX4 37 RX4 yX4_isWord wsX4_isWord) := goodIn_app (goodIn_of _ (by decide +kernel)) ggX4_takeCells_X4_isWord
set_option maxRecDepth 20000 in
theorem ggX4_takeCells_X4_takeToken : GoodIn wsX4_takeCells wsX4_takeToken := goodIn_r _ [63, 8, 9, 64, 10, 1, 65, 66, 6, 67, 68, 69, 70, 71, 72, 73, 74, 2, 75, 76, 77, 78, 88, 89, 90, 91, 92, 93] (by decide +kernel) (by decide +kernel)
set_option maxRecDepth 20000 in
theorem gX4_takeCells_X4_takeToken : GoodIn wsX4_takeCells (wsV RX4 22 RX4 yX4_takeToken wsX4_takeToken) := goodIn_app (goodIn_of _ (by decide +kernel)) ggX4_takeCells_X4_takeToken
set_option maxRecDepth 20000 in
theorem ggX4_takeCells_X4_isNumber : GoodIn wsX4_takeCells wsX4_isNumber := goodIn_r _ [82, 1, 2, 88, 89, 90, 91, 92, 93] (by decide +kernel) (by decide +kernel)
set_option maxRecDepth 20000 in
theorem gX4_takeCells_X4_isNumber : GoodIn wsX4_takeCells (wsV RX4 82 RX4 yX4_isNumber wsX4_isNumber) := goodIn_app (goodIn_of _ (by decide +kernel)) ggX4_takeCells_X4_isNumber
set_option maxRecDepth 20000 in
theorem ggX4_takeCells_X1_putMark : GoodIn wsX4_takeCells wsX1_putMark := goodIn_r _ [86, 87, 94, 95, 96, 97, 98, 99] (by decide +kernel) (by decide +kernel)
set_option maxRecDepth 20000 in
theorem gX4_takeCells_X1_putMark_n89 : GoodIn wsX4_takeCells (wsX1_putMark) := ggX4_takeCells_X1_putMark
theorem dX4_takeCells_0 : decode cX4_takeCells 0 = .ok (.aload_n 0, 1) := by decide +kernel
theorem dX4_takeCells_1 : decode cX4_takeCells 1 = .ok (.aload_n 3, 1) := by decide +kernel
theorem dX4_takeCells_2 : decode cX4_takeCells 2 = .ok (.invokevirtual 37, 3) := by decide +kernel
theorem dX4_takeCells_5 : decode cX4_takeCells 5 = .ok (.ifCond .ne 5, 3) := by decide +kernel
theorem dX4_takeCells_8 : decode cX4_takeCells 8 = .ok (.iconst 1, 1) := by decide +kernel
theorem dX4_takeCells_9 : decode cX4_takeCells 9 = .ok (.ireturn, 1) := by decide +kernel
theorem dX4_takeCells_10 : decode cX4_takeCells 10 = .ok (.aload_n 0, 1) := by decide +kernel
theorem dX4_takeCells_11 : decode cX4_takeCells 11 = .ok (.invokevirtual 22, 3) := by decide +kernel
theorem dX4_takeCells_14 : decode cX4_takeCells 14 = .ok (.iconst 0, 1) := by decide +kernel
theorem dX4_takeCells_15 : decode cX4_takeCells 15 = .ok (.istore 5, 2) := by decide +kernel
theorem dX4_takeCells_17 : decode cX4_takeCells 17 = .ok (.iconst 0, 1) := by decide +kernel
theorem dX4_takeCells_18 : decode cX4_takeCells 18 = .ok (.istore 6, 2) := by decide +kernel
theorem dX4_takeCells_20 : decode cX4_takeCells 20 = .ok (.iconst 0, 1) := by decide +kernel
theorem dX4_takeCells_21 : decode cX4_takeCells 21 = .ok (.istore 7, 2) := by decide +kernel
theorem dX4_takeCells_23 : decode cX4_takeCells 23 = .ok (.iload 7, 2) := by decide +kernel
theorem dX4_takeCells_25 : decode cX4_takeCells 25 = .ok (.bipush 16, 2) := by decide +kernel
theorem dX4_takeCells_27 : decode cX4_takeCells 27 = .ok (.if_icmp .gt 61, 3) := by decide +kernel
theorem dX4_takeCells_30 : decode cX4_takeCells 30 = .ok (.iload 7, 2) := by decide +kernel
theorem dX4_takeCells_32 : decode cX4_takeCells 32 = .ok (.ifCond .le 14, 3) := by decide +kernel
theorem dX4_takeCells_35 : decode cX4_takeCells 35 = .ok (.aload_n 0, 1) := by decide +kernel
theorem dX4_takeCells_36 : decode cX4_takeCells 36 = .ok (.getfield 29, 3) := by decide +kernel
theorem dX4_takeCells_39 : decode cX4_takeCells 39 = .ok (.iconst 2, 1) := by decide +kernel
theorem dX4_takeCells_40 : decode cX4_takeCells 40 = .ok (.if_icmp .eq 6, 3) := by decide +kernel
theorem dX4_takeCells_43 : decode cX4_takeCells 43 = .ok (.goto 45, 3) := by decide +kernel
theorem dX4_takeCells_46 : decode cX4_takeCells 46 = .ok (.aload_n 0, 1) := by decide +kernel
theorem dX4_takeCells_47 : decode cX4_takeCells 47 = .ok (.iload 6, 2) := by decide +kernel
theorem dX4_takeCells_49 : decode cX4_takeCells 49 = .ok (.bipush 15, 2) := by decide +kernel
theorem dX4_takeCells_51 : decode cX4_takeCells 51 = .ok (.invokevirtual 82, 3) := by decide +kernel
theorem dX4_takeCells_54 : decode cX4_takeCells 54 = .ok (.ifCond .ne 5, 3) := by decide +kernel
theorem dX4_takeCells_57 : decode cX4_takeCells 57 = .ok (.iconst 0, 1) := by decide +kernel
theorem dX4_takeCells_58 : decode cX4_takeCells 58 = .ok (.ireturn, 1) := by decide +kernel
theorem dX4_takeCells_59 : decode cX4_takeCells 59 = .ok (.iload 5, 2) := by decide +kernel
theorem dX4_takeCells_61 : decode cX4_takeCells 61 = .ok (.iconst 1, 1) := by decide +kernel
theorem dX4_takeCells_62 : decode cX4_takeCells 62 = .ok (.aload_n 0, 1) := by decide +kernel
theorem dX4_takeCells_63 : decode cX4_takeCells 63 = .ok (.getfield 86, 3) := by decide +kernel
theorem dX4_takeCells_66 : decode cX4_takeCells 66 = .ok (.ishl, 1) := by decide +kernel
theorem dX4_takeCells_67 : decode cX4_takeCells 67 = .ok (.ior, 1) := by decide +kernel
theorem dX4_takeCells_68 : decode cX4_takeCells 68 = .ok (.istore 5, 2) := by decide +kernel
theorem dX4_takeCells_70 : decode cX4_takeCells 70 = .ok (.aload_n 0, 1) := by decide +kernel
theorem dX4_takeCells_71 : decode cX4_takeCells 71 = .ok (.getfield 86, 3) := by decide +kernel
theorem dX4_takeCells_74 : decode cX4_takeCells 74 = .ok (.iconst 1, 1) := by decide +kernel
theorem dX4_takeCells_75 : decode cX4_takeCells 75 = .ok (.iadd, 1) := by decide +kernel
theorem dX4_takeCells_76 : decode cX4_takeCells 76 = .ok (.istore 6, 2) := by decide +kernel
theorem dX4_takeCells_78 : decode cX4_takeCells 78 = .ok (.aload_n 0, 1) := by decide +kernel
theorem dX4_takeCells_79 : decode cX4_takeCells 79 = .ok (.invokevirtual 22, 3) := by decide +kernel
theorem dX4_takeCells_82 : decode cX4_takeCells 82 = .ok (.iinc 7 1, 3) := by decide +kernel
theorem dX4_takeCells_85 : decode cX4_takeCells 85 = .ok (.goto (-62), 3) := by decide +kernel
theorem dX4_takeCells_88 : decode cX4_takeCells 88 = .ok (.aload_n 1, 1) := by decide +kernel
theorem dX4_takeCells_89 : decode cX4_takeCells 89 = .ok (.iload_n 2, 1) := by decide +kernel
theorem dX4_takeCells_90 : decode cX4_takeCells 90 = .ok (.iload 4, 2) := by decide +kernel
theorem dX4_takeCells_92 : decode cX4_takeCells 92 = .ok (.iload 5, 2) := by decide +kernel
theorem dX4_takeCells_94 : decode cX4_takeCells 94 = .ok (.invokevirtual 89, 3) := by decide +kernel
theorem dX4_takeCells_97 : decode cX4_takeCells 97 = .ok (.iconst 1, 1) := by decide +kernel
theorem dX4_takeCells_98 : decode cX4_takeCells 98 = .ok (.ireturn, 1) := by decide +kernel
set_option maxRecDepth 20000 in
theorem ggX4_takeMark_X4_isWord : GoodIn wsX4_takeMark wsX4_isWord := goodIn_r _ [6, 7, 8, 9, 10, 11, 12, 13, 14, 15, 16, 17, 18, 19, 20, 21, 22, 23, 24, 25, 26, 27, 28, 29, 30, 31, 32, 33, 34, 35, 36, 37, 38, 39, 40, 41, 42, 43, 44, 45, 46, 47, 48, 49, 50, 51, 52, 53, 54, 55, 56, 57, 58, 59, 88, 89, 90, 91, 92, 93] (by decide +kernel) (by decide +kernel)
set_option maxRecDepth 20000 in
theorem gX4_takeMark_X4_isWord : GoodIn wsX4_takeMark (wsV RX4 37 RX4 yX4_isWord wsX4_isWord) := goodIn_app (goodIn_of _ (by decide +kernel)) ggX4_takeMark_X4_isWord
set_option maxRecDepth 20000 in
theorem ggX4_takeMark_X4_takeToken : GoodIn wsX4_takeMark wsX4_takeToken := goodIn_r _ [63, 8, 9, 64, 10, 7, 65, 66, 5, 67, 68, 69, 70, 71, 72, 73, 74, 1, 75, 76, 77, 78, 88, 89, 90, 91, 92, 93] (by decide +kernel) (by decide +kernel)
set_option maxRecDepth 20000 in
theorem gX4_takeMark_X4_takeToken : GoodIn wsX4_takeMark (wsV RX4 22 RX4 yX4_takeToken wsX4_takeToken) := goodIn_app (goodIn_of _ (by decide +kernel)) ggX4_takeMark_X4_takeToken
set_option maxRecDepth 20000 in
theorem ggX4_takeMark_X4_isNumber : GoodIn wsX4_takeMark wsX4_isNumber := goodIn_r _ [82, 7, 1, 88, 89, 90, 91, 92, 93] (by decide +kernel) (by decide +kernel)
set_option maxRecDepth 20000 in
theorem gX4_takeMark_X4_isNumber : GoodIn wsX4_takeMark (wsV RX4 82 RX4 yX4_isNumber wsX4_isNumber) := goodIn_app (goodIn_of _ (by decide +kernel)) ggX4_takeMark_X4_isNumber
set_option maxRecDepth 20000 in
theorem ggX4_takeMark_X1_putMark : GoodIn wsX4_takeMark wsX1_putMark := goodIn_r _ [86, 87, 94, 95, 96, 97, 98, 99] (by decide +kernel) (by decide +kernel)
set_option maxRecDepth 20000 in
theorem gX4_takeMark_X1_putMark_n89 : GoodIn wsX4_takeMark (wsX1_putMark) := ggX4_takeMark_X1_putMark
theorem dX4_takeMark_0 : decode cX4_takeMark 0 = .ok (.aload_n 0, 1) := by decide +kernel
theorem dX4_takeMark_1 : decode cX4_takeMark 1 = .ok (.aload_n 3, 1) := by decide +kernel
theorem dX4_takeMark_2 : decode cX4_takeMark 2 = .ok (.invokevirtual 37, 3) := by decide +kernel
theorem dX4_takeMark_5 : decode cX4_takeMark 5 = .ok (.ifCond .ne 5, 3) := by decide +kernel
theorem dX4_takeMark_8 : decode cX4_takeMark 8 = .ok (.iconst 1, 1) := by decide +kernel
theorem dX4_takeMark_9 : decode cX4_takeMark 9 = .ok (.ireturn, 1) := by decide +kernel
theorem dX4_takeMark_10 : decode cX4_takeMark 10 = .ok (.aload_n 0, 1) := by decide +kernel
theorem dX4_takeMark_11 : decode cX4_takeMark 11 = .ok (.invokevirtual 22, 3) := by decide +kernel
theorem dX4_takeMark_14 : decode cX4_takeMark 14 = .ok (.aload_n 0, 1) := by decide +kernel
theorem dX4_takeMark_15 : decode cX4_takeMark 15 = .ok (.iconst 0, 1) := by decide +kernel
theorem dX4_takeMark_16 : decode cX4_takeMark 16 = .ok (.getstatic 93, 3) := by decide +kernel
theorem dX4_takeMark_19 : decode cX4_takeMark 19 = .ok (.iload 4, 2) := by decide +kernel
theorem dX4_takeMark_21 : decode cX4_takeMark 21 = .ok (.iaload, 1) := by decide +kernel
theorem dX4_takeMark_22 : decode cX4_takeMark 22 = .ok (.invokevirtual 82, 3) := by decide +kernel
theorem dX4_takeMark_25 : decode cX4_takeMark 25 = .ok (.ifCond .ne 5, 3) := by decide +kernel
theorem dX4_takeMark_28 : decode cX4_takeMark 28 = .ok (.iconst 0, 1) := by decide +kernel
theorem dX4_takeMark_29 : decode cX4_takeMark 29 = .ok (.ireturn, 1) := by decide +kernel
theorem dX4_takeMark_30 : decode cX4_takeMark 30 = .ok (.aload_n 1, 1) := by decide +kernel
theorem dX4_takeMark_31 : decode cX4_takeMark 31 = .ok (.iload_n 2, 1) := by decide +kernel
theorem dX4_takeMark_32 : decode cX4_takeMark 32 = .ok (.iload 4, 2) := by decide +kernel
theorem dX4_takeMark_34 : decode cX4_takeMark 34 = .ok (.aload_n 0, 1) := by decide +kernel
theorem dX4_takeMark_35 : decode cX4_takeMark 35 = .ok (.getfield 86, 3) := by decide +kernel
theorem dX4_takeMark_38 : decode cX4_takeMark 38 = .ok (.invokevirtual 89, 3) := by decide +kernel
theorem dX4_takeMark_41 : decode cX4_takeMark 41 = .ok (.aload_n 0, 1) := by decide +kernel
theorem dX4_takeMark_42 : decode cX4_takeMark 42 = .ok (.invokevirtual 22, 3) := by decide +kernel
theorem dX4_takeMark_45 : decode cX4_takeMark 45 = .ok (.iconst 1, 1) := by decide +kernel
theorem dX4_takeMark_46 : decode cX4_takeMark 46 = .ok (.ireturn, 1) := by decide +kernel
set_option maxRecDepth 20000 in
theorem ggX4_takeJoin_X4_takeToken : GoodIn wsX4_takeJoin wsX4_takeToken := goodIn_r _ [6, 7, 8, 9, 10, 11, 12, 13, 5, 14, 15, 16, 17, 18, 19, 20, 21, 1, 22, 23, 24, 25, 36, 37, 38, 39, 40, 41] (by decide +kernel) (by decide +kernel)
set_option maxRecDepth 20000 in
theorem gX4_takeJoin_X4_takeToken : GoodIn wsX4_takeJoin (wsV RX4 22 RX4 yX4_takeToken wsX4_takeToken) := goodIn_app (goodIn_of _ (by decide +kernel)) ggX4_takeJoin_X4_takeToken
set_option maxRecDepth 20000 in
theorem ggX4_takeJoin_X4_isNumber : GoodIn wsX4_takeJoin wsX4_isNumber := goodIn_r _ [29, 11, 1, 36, 37, 38, 39, 40, 41] (by decide +kernel) (by decide +kernel)
set_option maxRecDepth 20000 in
theorem gX4_takeJoin_X4_isNumber : GoodIn wsX4_takeJoin (wsV RX4 82 RX4 yX4_isNumber wsX4_isNumber) := goodIn_app (goodIn_of _ (by decide +kernel)) ggX4_takeJoin_X4_isNumber
theorem dX4_takeJoin_0 : decode cX4_takeJoin 0 = .ok (.aload_n 0, 1) := by decide +kernel
theorem dX4_takeJoin_1 : decode cX4_takeJoin 1 = .ok (.invokevirtual 22, 3) := by decide +kernel
theorem dX4_takeJoin_4 : decode cX4_takeJoin 4 = .ok (.aload_n 0, 1) := by decide +kernel
theorem dX4_takeJoin_5 : decode cX4_takeJoin 5 = .ok (.iconst 0, 1) := by decide +kernel
theorem dX4_takeJoin_6 : decode cX4_takeJoin 6 = .ok (.aload_n 1, 1) := by decide +kernel
theorem dX4_takeJoin_7 : decode cX4_takeJoin 7 = .ok (.getfield 57, 3) := by decide +kernel
theorem dX4_takeJoin_10 : decode cX4_takeJoin 10 = .ok (.iconst 1, 1) := by decide +kernel
theorem dX4_takeJoin_11 : decode cX4_takeJoin 11 = .ok (.isub, 1) := by decide +kernel
theorem dX4_takeJoin_12 : decode cX4_takeJoin 12 = .ok (.invokevirtual 82, 3) := by decide +kernel
theorem dX4_takeJoin_15 : decode cX4_takeJoin 15 = .ok (.ifCond .ne 5, 3) := by decide +kernel
theorem dX4_takeJoin_18 : decode cX4_takeJoin 18 = .ok (.iconst 0, 1) := by decide +kernel
theorem dX4_takeJoin_19 : decode cX4_takeJoin 19 = .ok (.ireturn, 1) := by decide +kernel
theorem dX4_takeJoin_20 : decode cX4_takeJoin 20 = .ok (.aload_n 0, 1) := by decide +kernel
theorem dX4_takeJoin_21 : decode cX4_takeJoin 21 = .ok (.getfield 86, 3) := by decide +kernel
theorem dX4_takeJoin_24 : decode cX4_takeJoin 24 = .ok (.istore_n 2, 1) := by decide +kernel
theorem dX4_takeJoin_25 : decode cX4_takeJoin 25 = .ok (.aload_n 0, 1) := by decide +kernel
theorem dX4_takeJoin_26 : decode cX4_takeJoin 26 = .ok (.invokevirtual 22, 3) := by decide +kernel
theorem dX4_takeJoin_29 : decode cX4_takeJoin 29 = .ok (.aload_n 0, 1) := by decide +kernel
theorem dX4_takeJoin_30 : decode cX4_takeJoin 30 = .ok (.iconst 0, 1) := by decide +kernel
theorem dX4_takeJoin_31 : decode cX4_takeJoin 31 = .ok (.aload_n 1, 1) := by decide +kernel
theorem dX4_takeJoin_32 : decode cX4_takeJoin 32 = .ok (.getfield 57, 3) := by decide +kernel
theorem dX4_takeJoin_35 : decode cX4_takeJoin 35 = .ok (.iconst 1, 1) := by decide +kernel
theorem dX4_takeJoin_36 : decode cX4_takeJoin 36 = .ok (.isub, 1) := by decide +kernel
theorem dX4_takeJoin_37 : decode cX4_takeJoin 37 = .ok (.invokevirtual 82, 3) := by decide +kernel
theorem dX4_takeJoin_40 : decode cX4_takeJoin 40 = .ok (.ifCond .eq 11, 3) := by decide +kernel
theorem dX4_takeJoin_43 : decode cX4_takeJoin 43 = .ok (.aload_n 0, 1) := by decide +kernel
theorem dX4_takeJoin_44 : decode cX4_takeJoin 44 = .ok (.getfield 86, 3) := by decide +kernel
theorem dX4_takeJoin_47 : decode cX4_takeJoin 47 = .ok (.iload_n 2, 1) := by decide +kernel
theorem dX4_takeJoin_48 : decode cX4_takeJoin 48 = .ok (.if_icmp .ne 5, 3) := by decide +kernel
theorem dX4_takeJoin_51 : decode cX4_takeJoin 51 = .ok (.iconst 0, 1) := by decide +kernel
theorem dX4_takeJoin_52 : decode cX4_takeJoin 52 = .ok (.ireturn, 1) := by decide +kernel
theorem dX4_takeJoin_53 : decode cX4_takeJoin 53 = .ok (.aload_n 1, 1) := by decide +kernel
theorem dX4_takeJoin_54 : decode cX4_takeJoin 54 = .ok (.getfield 96, 3) := by decide +kernel
theorem dX4_takeJoin_57 : decode cX4_takeJoin 57 = .ok (.iload_n 2, 1) := by decide +kernel
theorem dX4_takeJoin_58 : decode cX4_takeJoin 58 = .ok (.dup2, 1) := by decide +kernel
theorem dX4_takeJoin_59 : decode cX4_takeJoin 59 = .ok (.iaload, 1) := by decide +kernel
theorem dX4_takeJoin_60 : decode cX4_takeJoin 60 = .ok (.iconst 1, 1) := by decide +kernel
theorem dX4_takeJoin_61 : decode cX4_takeJoin 61 = .ok (.aload_n 0, 1) := by decide +kernel
theorem dX4_takeJoin_62 : decode cX4_takeJoin 62 = .ok (.getfield 86, 3) := by decide +kernel
theorem dX4_takeJoin_65 : decode cX4_takeJoin 65 = .ok (.ishl, 1) := by decide +kernel
theorem dX4_takeJoin_66 : decode cX4_takeJoin 66 = .ok (.ior, 1) := by decide +kernel
theorem dX4_takeJoin_67 : decode cX4_takeJoin 67 = .ok (.iastore, 1) := by decide +kernel
theorem dX4_takeJoin_68 : decode cX4_takeJoin 68 = .ok (.aload_n 0, 1) := by decide +kernel
theorem dX4_takeJoin_69 : decode cX4_takeJoin 69 = .ok (.invokevirtual 22, 3) := by decide +kernel
theorem dX4_takeJoin_72 : decode cX4_takeJoin 72 = .ok (.iconst 1, 1) := by decide +kernel
theorem dX4_takeJoin_73 : decode cX4_takeJoin 73 = .ok (.ireturn, 1) := by decide +kernel
set_option maxRecDepth 20000 in
theorem ggX4_takeTeam_X4_takeToken : GoodIn wsX4_takeTeam wsX4_takeToken := goodIn_r _ [6, 7, 8, 9, 10, 11, 12, 13, 5, 14, 15, 16, 17, 18, 19, 20, 21, 1, 22, 23, 24, 25, 96, 97, 98, 99, 100, 101] (by decide +kernel) (by decide +kernel)
set_option maxRecDepth 20000 in
theorem gX4_takeTeam_X4_takeToken : GoodIn wsX4_takeTeam (wsV RX4 22 RX4 yX4_takeToken wsX4_takeToken) := goodIn_app (goodIn_of _ (by decide +kernel)) ggX4_takeTeam_X4_takeToken
set_option maxRecDepth 20000 in
theorem ggX4_takeTeam_X4_isWord : GoodIn wsX4_takeTeam wsX4_isWord := goodIn_r _ [29, 11, 7, 8, 10, 30, 31, 32, 33, 34, 35, 36, 37, 38, 39, 40, 41, 42, 43, 44, 45, 46, 47, 48, 49, 50, 51, 52, 53, 54, 55, 56, 57, 58, 59, 60, 61, 62, 63, 64, 65, 66, 67, 68, 69, 70, 71, 72, 73, 74, 75, 76, 77, 78, 96, 97, 98, 99, 100, 101] (by decide +kernel) (by decide +kernel)
set_option maxRecDepth 20000 in
theorem gX4_takeTeam_X4_isWord : GoodIn wsX4_takeTeam (wsV RX4 37 RX4 yX4_isWord wsX4_isWord) := goodIn_app (goodIn_of _ (by decide +kernel)) ggX4_takeTeam_X4_isWord
set_option maxRecDepth 20000 in
theorem ggX4_takeTeam_X4_isNumber : GoodIn wsX4_takeTeam wsX4_isNumber := goodIn_r _ [82, 11, 1, 96, 97, 98, 99, 100, 101] (by decide +kernel) (by decide +kernel)
set_option maxRecDepth 20000 in
theorem gX4_takeTeam_X4_isNumber : GoodIn wsX4_takeTeam (wsV RX4 82 RX4 yX4_isNumber wsX4_isNumber) := goodIn_app (goodIn_of _ (by decide +kernel)) ggX4_takeTeam_X4_isNumber
set_option maxRecDepth 20000 in
theorem ggX4_takeTeam_X1_addTeam : GoodIn wsX4_takeTeam wsX1_addTeam := goodIn_r _ [86, 87, 88, 89, 90, 91, 92, 93, 94, 95] (by decide +kernel) (by decide +kernel)
set_option maxRecDepth 20000 in
theorem gX4_takeTeam_X1_addTeam_n104 : GoodIn wsX4_takeTeam (wsX1_addTeam) := ggX4_takeTeam_X1_addTeam
theorem dX4_takeTeam_0 : decode cX4_takeTeam 0 = .ok (.aload_n 1, 1) := by decide +kernel
theorem dX4_takeTeam_1 : decode cX4_takeTeam 1 = .ok (.getfield 99, 3) := by decide +kernel
theorem dX4_takeTeam_4 : decode cX4_takeTeam 4 = .ok (.bipush 6, 2) := by decide +kernel
theorem dX4_takeTeam_6 : decode cX4_takeTeam 6 = .ok (.if_icmp .lt 5, 3) := by decide +kernel
theorem dX4_takeTeam_9 : decode cX4_takeTeam 9 = .ok (.iconst 0, 1) := by decide +kernel
theorem dX4_takeTeam_10 : decode cX4_takeTeam 10 = .ok (.ireturn, 1) := by decide +kernel
theorem dX4_takeTeam_11 : decode cX4_takeTeam 11 = .ok (.iconst 1, 1) := by decide +kernel
theorem dX4_takeTeam_12 : decode cX4_takeTeam 12 = .ok (.istore_n 3, 1) := by decide +kernel
theorem dX4_takeTeam_13 : decode cX4_takeTeam 13 = .ok (.aload_n 0, 1) := by decide +kernel
theorem dX4_takeTeam_14 : decode cX4_takeTeam 14 = .ok (.invokevirtual 22, 3) := by decide +kernel
theorem dX4_takeTeam_17 : decode cX4_takeTeam 17 = .ok (.aload_n 0, 1) := by decide +kernel
theorem dX4_takeTeam_18 : decode cX4_takeTeam 18 = .ok (.ldc 102, 2) := by decide +kernel
theorem dX4_takeTeam_20 : decode cX4_takeTeam 20 = .ok (.invokevirtual 37, 3) := by decide +kernel
theorem dX4_takeTeam_23 : decode cX4_takeTeam 23 = .ok (.ifCond .eq 28, 3) := by decide +kernel
theorem dX4_takeTeam_26 : decode cX4_takeTeam 26 = .ok (.aload_n 0, 1) := by decide +kernel
theorem dX4_takeTeam_27 : decode cX4_takeTeam 27 = .ok (.invokevirtual 22, 3) := by decide +kernel
theorem dX4_takeTeam_30 : decode cX4_takeTeam 30 = .ok (.aload_n 0, 1) := by decide +kernel
theorem dX4_takeTeam_31 : decode cX4_takeTeam 31 = .ok (.iconst 1, 1) := by decide +kernel
theorem dX4_takeTeam_32 : decode cX4_takeTeam 32 = .ok (.bipush 9, 2) := by decide +kernel
theorem dX4_takeTeam_34 : decode cX4_takeTeam 34 = .ok (.invokevirtual 82, 3) := by decide +kernel
theorem dX4_takeTeam_37 : decode cX4_takeTeam 37 = .ok (.ifCond .ne 5, 3) := by decide +kernel
theorem dX4_takeTeam_40 : decode cX4_takeTeam 40 = .ok (.iconst 0, 1) := by decide +kernel
theorem dX4_takeTeam_41 : decode cX4_takeTeam 41 = .ok (.ireturn, 1) := by decide +kernel
theorem dX4_takeTeam_42 : decode cX4_takeTeam 42 = .ok (.aload_n 0, 1) := by decide +kernel
theorem dX4_takeTeam_43 : decode cX4_takeTeam 43 = .ok (.getfield 86, 3) := by decide +kernel
theorem dX4_takeTeam_46 : decode cX4_takeTeam 46 = .ok (.istore_n 3, 1) := by decide +kernel
theorem dX4_takeTeam_47 : decode cX4_takeTeam 47 = .ok (.aload_n 0, 1) := by decide +kernel
theorem dX4_takeTeam_48 : decode cX4_takeTeam 48 = .ok (.invokevirtual 22, 3) := by decide +kernel
theorem dX4_takeTeam_51 : decode cX4_takeTeam 51 = .ok (.aload_n 1, 1) := by decide +kernel
theorem dX4_takeTeam_52 : decode cX4_takeTeam 52 = .ok (.iload_n 2, 1) := by decide +kernel
theorem dX4_takeTeam_53 : decode cX4_takeTeam 53 = .ok (.iload_n 3, 1) := by decide +kernel
theorem dX4_takeTeam_54 : decode cX4_takeTeam 54 = .ok (.invokevirtual 104, 3) := by decide +kernel
theorem dX4_takeTeam_57 : decode cX4_takeTeam 57 = .ok (.pop, 1) := by decide +kernel
theorem dX4_takeTeam_58 : decode cX4_takeTeam 58 = .ok (.iconst 1, 1) := by decide +kernel
theorem dX4_takeTeam_59 : decode cX4_takeTeam 59 = .ok (.ireturn, 1) := by decide +kernel
set_option maxRecDepth 20000 in
theorem ggX4_kindInHand_X4_isWord : GoodIn wsX4_kindInHand wsX4_isWord := goodIn_r _ [5, 6, 7, 8, 9, 10, 11, 12, 13, 14, 15, 16, 17, 18, 19, 20, 21, 22, 23, 24, 25, 26, 27, 28, 29, 30, 31, 32, 33, 34, 35, 36, 37, 38, 39, 40, 41, 42, 43, 44, 45, 46, 47, 48, 49, 50, 51, 52, 53, 54, 55, 56, 57, 58, 59, 60, 61, 62, 63, 64] (by decide +kernel) (by decide +kernel)
set_option maxRecDepth 20000 in
theorem gX4_kindInHand_X4_isWord : GoodIn wsX4_kindInHand (wsV RX4 37 RX4 yX4_isWord wsX4_isWord) := goodIn_app (goodIn_of _ (by decide +kernel)) ggX4_kindInHand_X4_isWord
theorem dX4_kindInHand_0 : decode cX4_kindInHand 0 = .ok (.aload_n 0, 1) := by decide +kernel
theorem dX4_kindInHand_1 : decode cX4_kindInHand 1 = .ok (.ldc 108, 2) := by decide +kernel
theorem dX4_kindInHand_3 : decode cX4_kindInHand 3 = .ok (.invokevirtual 37, 3) := by decide +kernel
theorem dX4_kindInHand_6 : decode cX4_kindInHand 6 = .ok (.ifCond .eq 5, 3) := by decide +kernel
theorem dX4_kindInHand_9 : decode cX4_kindInHand 9 = .ok (.iconst 0, 1) := by decide +kernel
theorem dX4_kindInHand_10 : decode cX4_kindInHand 10 = .ok (.ireturn, 1) := by decide +kernel
theorem dX4_kindInHand_11 : decode cX4_kindInHand 11 = .ok (.aload_n 0, 1) := by decide +kernel
theorem dX4_kindInHand_12 : decode cX4_kindInHand 12 = .ok (.ldc 110, 2) := by decide +kernel
theorem dX4_kindInHand_14 : decode cX4_kindInHand 14 = .ok (.invokevirtual 37, 3) := by decide +kernel
theorem dX4_kindInHand_17 : decode cX4_kindInHand 17 = .ok (.ifCond .eq 5, 3) := by decide +kernel
theorem dX4_kindInHand_20 : decode cX4_kindInHand 20 = .ok (.iconst 1, 1) := by decide +kernel
theorem dX4_kindInHand_21 : decode cX4_kindInHand 21 = .ok (.ireturn, 1) := by decide +kernel
theorem dX4_kindInHand_22 : decode cX4_kindInHand 22 = .ok (.aload_n 0, 1) := by decide +kernel
theorem dX4_kindInHand_23 : decode cX4_kindInHand 23 = .ok (.ldc 112, 2) := by decide +kernel
theorem dX4_kindInHand_25 : decode cX4_kindInHand 25 = .ok (.invokevirtual 37, 3) := by decide +kernel
theorem dX4_kindInHand_28 : decode cX4_kindInHand 28 = .ok (.ifCond .eq 5, 3) := by decide +kernel
theorem dX4_kindInHand_31 : decode cX4_kindInHand 31 = .ok (.iconst 2, 1) := by decide +kernel
theorem dX4_kindInHand_32 : decode cX4_kindInHand 32 = .ok (.ireturn, 1) := by decide +kernel
theorem dX4_kindInHand_33 : decode cX4_kindInHand 33 = .ok (.aload_n 0, 1) := by decide +kernel
theorem dX4_kindInHand_34 : decode cX4_kindInHand 34 = .ok (.ldc 114, 2) := by decide +kernel
theorem dX4_kindInHand_36 : decode cX4_kindInHand 36 = .ok (.invokevirtual 37, 3) := by decide +kernel
theorem dX4_kindInHand_39 : decode cX4_kindInHand 39 = .ok (.ifCond .eq 5, 3) := by decide +kernel
theorem dX4_kindInHand_42 : decode cX4_kindInHand 42 = .ok (.iconst 3, 1) := by decide +kernel
theorem dX4_kindInHand_43 : decode cX4_kindInHand 43 = .ok (.ireturn, 1) := by decide +kernel
theorem dX4_kindInHand_44 : decode cX4_kindInHand 44 = .ok (.aload_n 0, 1) := by decide +kernel
theorem dX4_kindInHand_45 : decode cX4_kindInHand 45 = .ok (.ldc 116, 2) := by decide +kernel
theorem dX4_kindInHand_47 : decode cX4_kindInHand 47 = .ok (.invokevirtual 37, 3) := by decide +kernel
theorem dX4_kindInHand_50 : decode cX4_kindInHand 50 = .ok (.ifCond .eq 5, 3) := by decide +kernel
theorem dX4_kindInHand_53 : decode cX4_kindInHand 53 = .ok (.iconst 4, 1) := by decide +kernel
theorem dX4_kindInHand_54 : decode cX4_kindInHand 54 = .ok (.ireturn, 1) := by decide +kernel
theorem dX4_kindInHand_55 : decode cX4_kindInHand 55 = .ok (.aload_n 0, 1) := by decide +kernel
theorem dX4_kindInHand_56 : decode cX4_kindInHand 56 = .ok (.ldc 118, 2) := by decide +kernel
theorem dX4_kindInHand_58 : decode cX4_kindInHand 58 = .ok (.invokevirtual 37, 3) := by decide +kernel
theorem dX4_kindInHand_61 : decode cX4_kindInHand 61 = .ok (.ifCond .eq 7, 3) := by decide +kernel
theorem dX4_kindInHand_64 : decode cX4_kindInHand 64 = .ok (.iconst 5, 1) := by decide +kernel
theorem dX4_kindInHand_65 : decode cX4_kindInHand 65 = .ok (.goto 4, 3) := by decide +kernel
theorem dX4_kindInHand_68 : decode cX4_kindInHand 68 = .ok (.iconst (-1), 1) := by decide +kernel
theorem dX4_kindInHand_69 : decode cX4_kindInHand 69 = .ok (.ireturn, 1) := by decide +kernel
theorem dX4_isNumber_0 : decode cX4_isNumber 0 = .ok (.aload_n 0, 1) := by decide +kernel
theorem dX4_isNumber_1 : decode cX4_isNumber 1 = .ok (.getfield 29, 3) := by decide +kernel
theorem dX4_isNumber_4 : decode cX4_isNumber 4 = .ok (.iconst 2, 1) := by decide +kernel
theorem dX4_isNumber_5 : decode cX4_isNumber 5 = .ok (.if_icmp .ne 23, 3) := by decide +kernel
theorem dX4_isNumber_8 : decode cX4_isNumber 8 = .ok (.aload_n 0, 1) := by decide +kernel
theorem dX4_isNumber_9 : decode cX4_isNumber 9 = .ok (.getfield 86, 3) := by decide +kernel
theorem dX4_isNumber_12 : decode cX4_isNumber 12 = .ok (.iload_n 1, 1) := by decide +kernel
theorem dX4_isNumber_13 : decode cX4_isNumber 13 = .ok (.if_icmp .lt 15, 3) := by decide +kernel
theorem dX4_isNumber_16 : decode cX4_isNumber 16 = .ok (.aload_n 0, 1) := by decide +kernel
theorem dX4_isNumber_17 : decode cX4_isNumber 17 = .ok (.getfield 86, 3) := by decide +kernel
theorem dX4_isNumber_20 : decode cX4_isNumber 20 = .ok (.iload_n 2, 1) := by decide +kernel
theorem dX4_isNumber_21 : decode cX4_isNumber 21 = .ok (.if_icmp .gt 7, 3) := by decide +kernel
theorem dX4_isNumber_24 : decode cX4_isNumber 24 = .ok (.iconst 1, 1) := by decide +kernel
theorem dX4_isNumber_25 : decode cX4_isNumber 25 = .ok (.goto 4, 3) := by decide +kernel
theorem dX4_isNumber_28 : decode cX4_isNumber 28 = .ok (.iconst 0, 1) := by decide +kernel
theorem dX4_isNumber_29 : decode cX4_isNumber 29 = .ok (.ireturn, 1) := by decide +kernel
set_option maxRecDepth 20000 in
theorem ggX4_isWord_J0_length_8abf5 : GoodIn wsX4_isWord wsJ0_length_8abf5 := goodIn_r _ [9, 10, 11, 12, 13, 8, 14, 15, 16] (by decide +kernel) (by decide +kernel)
set_option maxRecDepth 20000 in
theorem gX4_isWord_J0_length_8abf5 : GoodIn wsX4_isWord (wsV RX4 120 RJ0 yJ0_length_8abf5 wsJ0_length_8abf5) := goodIn_app (goodIn_of _ (by decide +kernel)) ggX4_isWord_J0_length_8abf5
set_option maxRecDepth 20000 in
theorem ggX4_isWord_J0_charAt_5068e : GoodIn wsX4_isWord wsJ0_charAt_5068e := goodIn_r _ [20, 10, 21, 22, 23, 8, 24, 15, 16, 25, 26, 27, 28, 29, 30, 31, 32, 33, 34, 35, 36, 37, 38, 39, 40, 41, 42, 43, 44, 45, 46, 47, 48, 49, 50, 51, 52, 53] (by decide +kernel) (by decide +kernel)
set_option maxRecDepth 20000 in
theorem gX4_isWord_J0_charAt_5068e : GoodIn wsX4_isWord (wsV RX4 124 RJ0 yJ0_charAt_5068e wsJ0_charAt_5068e) := goodIn_app (goodIn_of _ (by decide +kernel)) ggX4_isWord_J0_charAt_5068e
theorem dX4_isWord_0 : decode cX4_isWord 0 = .ok (.aload_n 0, 1) := by decide +kernel
theorem dX4_isWord_1 : decode cX4_isWord 1 = .ok (.getfield 29, 3) := by decide +kernel
theorem dX4_isWord_4 : decode cX4_isWord 4 = .ok (.iconst 1, 1) := by decide +kernel
theorem dX4_isWord_5 : decode cX4_isWord 5 = .ok (.if_icmp .ne 19, 3) := by decide +kernel
theorem dX4_isWord_8 : decode cX4_isWord 8 = .ok (.aload_n 0, 1) := by decide +kernel
theorem dX4_isWord_9 : decode cX4_isWord 9 = .ok (.getfield 19, 3) := by decide +kernel
theorem dX4_isWord_12 : decode cX4_isWord 12 = .ok (.aload_n 0, 1) := by decide +kernel
theorem dX4_isWord_13 : decode cX4_isWord 13 = .ok (.getfield 32, 3) := by decide +kernel
theorem dX4_isWord_16 : decode cX4_isWord 16 = .ok (.isub, 1) := by decide +kernel
theorem dX4_isWord_17 : decode cX4_isWord 17 = .ok (.aload_n 1, 1) := by decide +kernel
theorem dX4_isWord_18 : decode cX4_isWord 18 = .ok (.invokevirtual 120, 3) := by decide +kernel
theorem dX4_isWord_21 : decode cX4_isWord 21 = .ok (.if_icmp .eq 5, 3) := by decide +kernel
theorem dX4_isWord_24 : decode cX4_isWord 24 = .ok (.iconst 0, 1) := by decide +kernel
theorem dX4_isWord_25 : decode cX4_isWord 25 = .ok (.ireturn, 1) := by decide +kernel
theorem dX4_isWord_26 : decode cX4_isWord 26 = .ok (.iconst 0, 1) := by decide +kernel
theorem dX4_isWord_27 : decode cX4_isWord 27 = .ok (.istore_n 2, 1) := by decide +kernel
theorem dX4_isWord_28 : decode cX4_isWord 28 = .ok (.iload_n 2, 1) := by decide +kernel
theorem dX4_isWord_29 : decode cX4_isWord 29 = .ok (.aload_n 1, 1) := by decide +kernel
theorem dX4_isWord_30 : decode cX4_isWord 30 = .ok (.invokevirtual 120, 3) := by decide +kernel
theorem dX4_isWord_33 : decode cX4_isWord 33 = .ok (.if_icmp .ge 30, 3) := by decide +kernel
theorem dX4_isWord_36 : decode cX4_isWord 36 = .ok (.aload_n 0, 1) := by decide +kernel
theorem dX4_isWord_37 : decode cX4_isWord 37 = .ok (.getfield 11, 3) := by decide +kernel
theorem dX4_isWord_40 : decode cX4_isWord 40 = .ok (.aload_n 0, 1) := by decide +kernel
theorem dX4_isWord_41 : decode cX4_isWord 41 = .ok (.getfield 32, 3) := by decide +kernel
theorem dX4_isWord_44 : decode cX4_isWord 44 = .ok (.iload_n 2, 1) := by decide +kernel
theorem dX4_isWord_45 : decode cX4_isWord 45 = .ok (.iadd, 1) := by decide +kernel
theorem dX4_isWord_46 : decode cX4_isWord 46 = .ok (.iaload, 1) := by decide +kernel
theorem dX4_isWord_47 : decode cX4_isWord 47 = .ok (.aload_n 1, 1) := by decide +kernel
theorem dX4_isWord_48 : decode cX4_isWord 48 = .ok (.iload_n 2, 1) := by decide +kernel
theorem dX4_isWord_49 : decode cX4_isWord 49 = .ok (.invokevirtual 124, 3) := by decide +kernel
theorem dX4_isWord_52 : decode cX4_isWord 52 = .ok (.if_icmp .eq 5, 3) := by decide +kernel
theorem dX4_isWord_55 : decode cX4_isWord 55 = .ok (.iconst 0, 1) := by decide +kernel
theorem dX4_isWord_56 : decode cX4_isWord 56 = .ok (.ireturn, 1) := by decide +kernel
theorem dX4_isWord_57 : decode cX4_isWord 57 = .ok (.iinc 2 1, 3) := by decide +kernel
theorem dX4_isWord_60 : decode cX4_isWord 60 = .ok (.goto (-32), 3) := by decide +kernel
theorem dX4_isWord_63 : decode cX4_isWord 63 = .ok (.iconst 1, 1) := by decide +kernel
theorem dX4_isWord_64 : decode cX4_isWord 64 = .ok (.ireturn, 1) := by decide +kernel
set_option maxRecDepth 20000 in
theorem ggX4_takeToken_X4_isLetter : GoodIn wsX4_takeToken wsX4_isLetter := goodIn_r _ [9] (by decide +kernel) (by decide +kernel)
set_option maxRecDepth 20000 in
theorem gX4_takeToken_X4_isLetter : GoodIn wsX4_takeToken (va_wsS RX4 128 yX4_isLetter wsX4_isLetter) := goodIn_app (goodIn_of _ (by decide +kernel)) ggX4_takeToken_X4_isLetter
set_option maxRecDepth 20000 in
theorem ggX4_takeToken_X4_isDigit : GoodIn wsX4_takeToken wsX4_isDigit := goodIn_r _ [12] (by decide +kernel) (by decide +kernel)
set_option maxRecDepth 20000 in
theorem gX4_takeToken_X4_isDigit : GoodIn wsX4_takeToken (va_wsS RX4 132 yX4_isDigit wsX4_isDigit) := goodIn_app (goodIn_of _ (by decide +kernel)) ggX4_takeToken_X4_isDigit
set_option maxRecDepth 20000 in
theorem ggX4_takeToken_X4_takeDigits : GoodIn wsX4_takeToken wsX4_takeDigits := goodIn_r _ [16, 17, 1, 3, 4, 18, 19, 20, 21, 10, 11, 8, 12, 22, 23, 24, 25, 26, 27] (by decide +kernel) (by decide +kernel)
set_option maxRecDepth 20000 in
theorem gX4_takeToken_X4_takeDigits : GoodIn wsX4_takeToken (wsV RX4 135 RX4 yX4_takeDigits wsX4_takeDigits) := goodIn_app (goodIn_of _ (by decide +kernel)) ggX4_takeToken_X4_takeDigits
theorem dX4_takeToken_0 : decode cX4_takeToken 0 = .ok (.aload_n 0, 1) := by decide +kernel
theorem dX4_takeToken_1 : decode cX4_takeToken 1 = .ok (.aload_n 0, 1) := by decide +kernel
theorem dX4_takeToken_2 : decode cX4_takeToken 2 = .ok (.getfield 19, 3) := by decide +kernel
theorem dX4_takeToken_5 : decode cX4_takeToken 5 = .ok (.putfield 32, 3) := by decide +kernel
theorem dX4_takeToken_8 : decode cX4_takeToken 8 = .ok (.aload_n 0, 1) := by decide +kernel
theorem dX4_takeToken_9 : decode cX4_takeToken 9 = .ok (.getfield 32, 3) := by decide +kernel
theorem dX4_takeToken_12 : decode cX4_takeToken 12 = .ok (.aload_n 0, 1) := by decide +kernel
theorem dX4_takeToken_13 : decode cX4_takeToken 13 = .ok (.getfield 15, 3) := by decide +kernel
theorem dX4_takeToken_16 : decode cX4_takeToken 16 = .ok (.if_icmp .ge 30, 3) := by decide +kernel
theorem dX4_takeToken_19 : decode cX4_takeToken 19 = .ok (.aload_n 0, 1) := by decide +kernel
theorem dX4_takeToken_20 : decode cX4_takeToken 20 = .ok (.getfield 11, 3) := by decide +kernel
theorem dX4_takeToken_23 : decode cX4_takeToken 23 = .ok (.aload_n 0, 1) := by decide +kernel
theorem dX4_takeToken_24 : decode cX4_takeToken 24 = .ok (.getfield 32, 3) := by decide +kernel
theorem dX4_takeToken_27 : decode cX4_takeToken 27 = .ok (.iaload, 1) := by decide +kernel
theorem dX4_takeToken_28 : decode cX4_takeToken 28 = .ok (.bipush 32, 2) := by decide +kernel
theorem dX4_takeToken_30 : decode cX4_takeToken 30 = .ok (.if_icmp .ne 16, 3) := by decide +kernel
theorem dX4_takeToken_33 : decode cX4_takeToken 33 = .ok (.aload_n 0, 1) := by decide +kernel
theorem dX4_takeToken_34 : decode cX4_takeToken 34 = .ok (.dup, 1) := by decide +kernel
theorem dX4_takeToken_35 : decode cX4_takeToken 35 = .ok (.getfield 32, 3) := by decide +kernel
theorem dX4_takeToken_38 : decode cX4_takeToken 38 = .ok (.iconst 1, 1) := by decide +kernel
theorem dX4_takeToken_39 : decode cX4_takeToken 39 = .ok (.iadd, 1) := by decide +kernel
theorem dX4_takeToken_40 : decode cX4_takeToken 40 = .ok (.putfield 32, 3) := by decide +kernel
theorem dX4_takeToken_43 : decode cX4_takeToken 43 = .ok (.goto (-35), 3) := by decide +kernel
theorem dX4_takeToken_46 : decode cX4_takeToken 46 = .ok (.aload_n 0, 1) := by decide +kernel
theorem dX4_takeToken_47 : decode cX4_takeToken 47 = .ok (.aload_n 0, 1) := by decide +kernel
theorem dX4_takeToken_48 : decode cX4_takeToken 48 = .ok (.getfield 32, 3) := by decide +kernel
theorem dX4_takeToken_51 : decode cX4_takeToken 51 = .ok (.putfield 19, 3) := by decide +kernel
theorem dX4_takeToken_54 : decode cX4_takeToken 54 = .ok (.aload_n 0, 1) := by decide +kernel
theorem dX4_takeToken_55 : decode cX4_takeToken 55 = .ok (.getfield 32, 3) := by decide +kernel
theorem dX4_takeToken_58 : decode cX4_takeToken 58 = .ok (.aload_n 0, 1) := by decide +kernel
theorem dX4_takeToken_59 : decode cX4_takeToken 59 = .ok (.getfield 15, 3) := by decide +kernel
theorem dX4_takeToken_62 : decode cX4_takeToken 62 = .ok (.if_icmp .lt 11, 3) := by decide +kernel
theorem dX4_takeToken_65 : decode cX4_takeToken 65 = .ok (.aload_n 0, 1) := by decide +kernel
theorem dX4_takeToken_66 : decode cX4_takeToken 66 = .ok (.iconst 0, 1) := by decide +kernel
theorem dX4_takeToken_67 : decode cX4_takeToken 67 = .ok (.putfield 29, 3) := by decide +kernel
theorem dX4_takeToken_70 : decode cX4_takeToken 70 = .ok (.goto 122, 3) := by decide +kernel
theorem dX4_takeToken_73 : decode cX4_takeToken 73 = .ok (.aload_n 0, 1) := by decide +kernel
theorem dX4_takeToken_74 : decode cX4_takeToken 74 = .ok (.getfield 11, 3) := by decide +kernel
theorem dX4_takeToken_77 : decode cX4_takeToken 77 = .ok (.aload_n 0, 1) := by decide +kernel
theorem dX4_takeToken_78 : decode cX4_takeToken 78 = .ok (.getfield 32, 3) := by decide +kernel
theorem dX4_takeToken_81 : decode cX4_takeToken 81 = .ok (.iaload, 1) := by decide +kernel
theorem dX4_takeToken_82 : decode cX4_takeToken 82 = .ok (.invokestatic 128, 3) := by decide +kernel
theorem dX4_takeToken_85 : decode cX4_takeToken 85 = .ok (.ifCond .eq 47, 3) := by decide +kernel
theorem dX4_takeToken_88 : decode cX4_takeToken 88 = .ok (.aload_n 0, 1) := by decide +kernel
theorem dX4_takeToken_89 : decode cX4_takeToken 89 = .ok (.iconst 1, 1) := by decide +kernel
theorem dX4_takeToken_90 : decode cX4_takeToken 90 = .ok (.putfield 29, 3) := by decide +kernel
theorem dX4_takeToken_93 : decode cX4_takeToken 93 = .ok (.aload_n 0, 1) := by decide +kernel
theorem dX4_takeToken_94 : decode cX4_takeToken 94 = .ok (.getfield 19, 3) := by decide +kernel
theorem dX4_takeToken_97 : decode cX4_takeToken 97 = .ok (.aload_n 0, 1) := by decide +kernel
theorem dX4_takeToken_98 : decode cX4_takeToken 98 = .ok (.getfield 15, 3) := by decide +kernel
theorem dX4_takeToken_101 : decode cX4_takeToken 101 = .ok (.if_icmp .ge 91, 3) := by decide +kernel
theorem dX4_takeToken_104 : decode cX4_takeToken 104 = .ok (.aload_n 0, 1) := by decide +kernel
theorem dX4_takeToken_105 : decode cX4_takeToken 105 = .ok (.getfield 11, 3) := by decide +kernel
theorem dX4_takeToken_108 : decode cX4_takeToken 108 = .ok (.aload_n 0, 1) := by decide +kernel
theorem dX4_takeToken_109 : decode cX4_takeToken 109 = .ok (.getfield 19, 3) := by decide +kernel
theorem dX4_takeToken_112 : decode cX4_takeToken 112 = .ok (.iaload, 1) := by decide +kernel
theorem dX4_takeToken_113 : decode cX4_takeToken 113 = .ok (.invokestatic 128, 3) := by decide +kernel
theorem dX4_takeToken_116 : decode cX4_takeToken 116 = .ok (.ifCond .eq 76, 3) := by decide +kernel
theorem dX4_takeToken_119 : decode cX4_takeToken 119 = .ok (.aload_n 0, 1) := by decide +kernel
theorem dX4_takeToken_120 : decode cX4_takeToken 120 = .ok (.dup, 1) := by decide +kernel
theorem dX4_takeToken_121 : decode cX4_takeToken 121 = .ok (.getfield 19, 3) := by decide +kernel
theorem dX4_takeToken_124 : decode cX4_takeToken 124 = .ok (.iconst 1, 1) := by decide +kernel
theorem dX4_takeToken_125 : decode cX4_takeToken 125 = .ok (.iadd, 1) := by decide +kernel
theorem dX4_takeToken_126 : decode cX4_takeToken 126 = .ok (.putfield 19, 3) := by decide +kernel
theorem dX4_takeToken_129 : decode cX4_takeToken 129 = .ok (.goto (-36), 3) := by decide +kernel
theorem dX4_takeToken_132 : decode cX4_takeToken 132 = .ok (.aload_n 0, 1) := by decide +kernel
theorem dX4_takeToken_133 : decode cX4_takeToken 133 = .ok (.getfield 11, 3) := by decide +kernel
theorem dX4_takeToken_136 : decode cX4_takeToken 136 = .ok (.aload_n 0, 1) := by decide +kernel
theorem dX4_takeToken_137 : decode cX4_takeToken 137 = .ok (.getfield 32, 3) := by decide +kernel
theorem dX4_takeToken_140 : decode cX4_takeToken 140 = .ok (.iaload, 1) := by decide +kernel
theorem dX4_takeToken_141 : decode cX4_takeToken 141 = .ok (.invokestatic 132, 3) := by decide +kernel
theorem dX4_takeToken_144 : decode cX4_takeToken 144 = .ok (.ifCond .eq 15, 3) := by decide +kernel
theorem dX4_takeToken_147 : decode cX4_takeToken 147 = .ok (.aload_n 0, 1) := by decide +kernel
theorem dX4_takeToken_148 : decode cX4_takeToken 148 = .ok (.iconst 2, 1) := by decide +kernel
theorem dX4_takeToken_149 : decode cX4_takeToken 149 = .ok (.putfield 29, 3) := by decide +kernel
theorem dX4_takeToken_152 : decode cX4_takeToken 152 = .ok (.aload_n 0, 1) := by decide +kernel
theorem dX4_takeToken_153 : decode cX4_takeToken 153 = .ok (.invokevirtual 135, 3) := by decide +kernel
theorem dX4_takeToken_156 : decode cX4_takeToken 156 = .ok (.goto 36, 3) := by decide +kernel
theorem dX4_takeToken_159 : decode cX4_takeToken 159 = .ok (.aload_n 0, 1) := by decide +kernel
theorem dX4_takeToken_160 : decode cX4_takeToken 160 = .ok (.aload_n 0, 1) := by decide +kernel
theorem dX4_takeToken_161 : decode cX4_takeToken 161 = .ok (.getfield 11, 3) := by decide +kernel
theorem dX4_takeToken_164 : decode cX4_takeToken 164 = .ok (.aload_n 0, 1) := by decide +kernel
theorem dX4_takeToken_165 : decode cX4_takeToken 165 = .ok (.getfield 32, 3) := by decide +kernel
theorem dX4_takeToken_168 : decode cX4_takeToken 168 = .ok (.iaload, 1) := by decide +kernel
theorem dX4_takeToken_169 : decode cX4_takeToken 169 = .ok (.bipush 59, 2) := by decide +kernel
theorem dX4_takeToken_171 : decode cX4_takeToken 171 = .ok (.if_icmp .ne 7, 3) := by decide +kernel
theorem dX4_takeToken_174 : decode cX4_takeToken 174 = .ok (.iconst 3, 1) := by decide +kernel
theorem dX4_takeToken_175 : decode cX4_takeToken 175 = .ok (.goto 4, 3) := by decide +kernel
theorem dX4_takeToken_178 : decode cX4_takeToken 178 = .ok (.iconst 4, 1) := by decide +kernel
theorem dX4_takeToken_179 : decode cX4_takeToken 179 = .ok (.putfield 29, 3) := by decide +kernel
theorem dX4_takeToken_182 : decode cX4_takeToken 182 = .ok (.aload_n 0, 1) := by decide +kernel
theorem dX4_takeToken_183 : decode cX4_takeToken 183 = .ok (.dup, 1) := by decide +kernel
theorem dX4_takeToken_184 : decode cX4_takeToken 184 = .ok (.getfield 19, 3) := by decide +kernel
theorem dX4_takeToken_187 : decode cX4_takeToken 187 = .ok (.iconst 1, 1) := by decide +kernel
theorem dX4_takeToken_188 : decode cX4_takeToken 188 = .ok (.iadd, 1) := by decide +kernel
theorem dX4_takeToken_189 : decode cX4_takeToken 189 = .ok (.putfield 19, 3) := by decide +kernel
theorem dX4_takeToken_192 : decode cX4_takeToken 192 = .ok (.return_, 1) := by decide +kernel
set_option maxRecDepth 20000 in
theorem ggX4_takeDigits_X4_isDigit : GoodIn wsX4_takeDigits wsX4_isDigit := goodIn_r _ [12] (by decide +kernel) (by decide +kernel)
set_option maxRecDepth 20000 in
theorem gX4_takeDigits_X4_isDigit : GoodIn wsX4_takeDigits (va_wsS RX4 132 yX4_isDigit wsX4_isDigit) := goodIn_app (goodIn_of _ (by decide +kernel)) ggX4_takeDigits_X4_isDigit
theorem dX4_takeDigits_0 : decode cX4_takeDigits 0 = .ok (.aload_n 0, 1) := by decide +kernel
theorem dX4_takeDigits_1 : decode cX4_takeDigits 1 = .ok (.iconst 0, 1) := by decide +kernel
theorem dX4_takeDigits_2 : decode cX4_takeDigits 2 = .ok (.putfield 86, 3) := by decide +kernel
theorem dX4_takeDigits_5 : decode cX4_takeDigits 5 = .ok (.aload_n 0, 1) := by decide +kernel
theorem dX4_takeDigits_6 : decode cX4_takeDigits 6 = .ok (.getfield 19, 3) := by decide +kernel
theorem dX4_takeDigits_9 : decode cX4_takeDigits 9 = .ok (.aload_n 0, 1) := by decide +kernel
theorem dX4_takeDigits_10 : decode cX4_takeDigits 10 = .ok (.getfield 15, 3) := by decide +kernel
theorem dX4_takeDigits_13 : decode cX4_takeDigits 13 = .ok (.if_icmp .ge 61, 3) := by decide +kernel
theorem dX4_takeDigits_16 : decode cX4_takeDigits 16 = .ok (.aload_n 0, 1) := by decide +kernel
theorem dX4_takeDigits_17 : decode cX4_takeDigits 17 = .ok (.getfield 11, 3) := by decide +kernel
theorem dX4_takeDigits_20 : decode cX4_takeDigits 20 = .ok (.aload_n 0, 1) := by decide +kernel
theorem dX4_takeDigits_21 : decode cX4_takeDigits 21 = .ok (.getfield 19, 3) := by decide +kernel
theorem dX4_takeDigits_24 : decode cX4_takeDigits 24 = .ok (.iaload, 1) := by decide +kernel
theorem dX4_takeDigits_25 : decode cX4_takeDigits 25 = .ok (.invokestatic 132, 3) := by decide +kernel
theorem dX4_takeDigits_28 : decode cX4_takeDigits 28 = .ok (.ifCond .eq 46, 3) := by decide +kernel
theorem dX4_takeDigits_31 : decode cX4_takeDigits 31 = .ok (.aload_n 0, 1) := by decide +kernel
theorem dX4_takeDigits_32 : decode cX4_takeDigits 32 = .ok (.sipush 1000, 3) := by decide +kernel
theorem dX4_takeDigits_35 : decode cX4_takeDigits 35 = .ok (.bipush 10, 2) := by decide +kernel
theorem dX4_takeDigits_37 : decode cX4_takeDigits 37 = .ok (.aload_n 0, 1) := by decide +kernel
theorem dX4_takeDigits_38 : decode cX4_takeDigits 38 = .ok (.getfield 86, 3) := by decide +kernel
theorem dX4_takeDigits_41 : decode cX4_takeDigits 41 = .ok (.imul, 1) := by decide +kernel
theorem dX4_takeDigits_42 : decode cX4_takeDigits 42 = .ok (.aload_n 0, 1) := by decide +kernel
theorem dX4_takeDigits_43 : decode cX4_takeDigits 43 = .ok (.getfield 11, 3) := by decide +kernel
theorem dX4_takeDigits_46 : decode cX4_takeDigits 46 = .ok (.aload_n 0, 1) := by decide +kernel
theorem dX4_takeDigits_47 : decode cX4_takeDigits 47 = .ok (.getfield 19, 3) := by decide +kernel
theorem dX4_takeDigits_50 : decode cX4_takeDigits 50 = .ok (.iaload, 1) := by decide +kernel
theorem dX4_takeDigits_51 : decode cX4_takeDigits 51 = .ok (.iadd, 1) := by decide +kernel
theorem dX4_takeDigits_52 : decode cX4_takeDigits 52 = .ok (.bipush 48, 2) := by decide +kernel
theorem dX4_takeDigits_54 : decode cX4_takeDigits 54 = .ok (.isub, 1) := by decide +kernel
theorem dX4_takeDigits_55 : decode cX4_takeDigits 55 = .ok (.invokestatic 138, 3) := by decide +kernel
theorem dX4_takeDigits_58 : decode cX4_takeDigits 58 = .ok (.putfield 86, 3) := by decide +kernel
theorem dX4_takeDigits_61 : decode cX4_takeDigits 61 = .ok (.aload_n 0, 1) := by decide +kernel
theorem dX4_takeDigits_62 : decode cX4_takeDigits 62 = .ok (.dup, 1) := by decide +kernel
theorem dX4_takeDigits_63 : decode cX4_takeDigits 63 = .ok (.getfield 19, 3) := by decide +kernel
theorem dX4_takeDigits_66 : decode cX4_takeDigits 66 = .ok (.iconst 1, 1) := by decide +kernel
theorem dX4_takeDigits_67 : decode cX4_takeDigits 67 = .ok (.iadd, 1) := by decide +kernel
theorem dX4_takeDigits_68 : decode cX4_takeDigits 68 = .ok (.putfield 19, 3) := by decide +kernel
theorem dX4_takeDigits_71 : decode cX4_takeDigits 71 = .ok (.goto (-66), 3) := by decide +kernel
theorem dX4_takeDigits_74 : decode cX4_takeDigits 74 = .ok (.return_, 1) := by decide +kernel
theorem dX4_isLetter_0 : decode cX4_isLetter 0 = .ok (.iload_n 0, 1) := by decide +kernel
theorem dX4_isLetter_1 : decode cX4_isLetter 1 = .ok (.bipush 97, 2) := by decide +kernel
theorem dX4_isLetter_3 : decode cX4_isLetter 3 = .ok (.if_icmp .lt 13, 3) := by decide +kernel
theorem dX4_isLetter_6 : decode cX4_isLetter 6 = .ok (.iload_n 0, 1) := by decide +kernel
theorem dX4_isLetter_7 : decode cX4_isLetter 7 = .ok (.bipush 122, 2) := by decide +kernel
theorem dX4_isLetter_9 : decode cX4_isLetter 9 = .ok (.if_icmp .gt 7, 3) := by decide +kernel
theorem dX4_isLetter_12 : decode cX4_isLetter 12 = .ok (.iconst 1, 1) := by decide +kernel
theorem dX4_isLetter_13 : decode cX4_isLetter 13 = .ok (.goto 4, 3) := by decide +kernel
theorem dX4_isLetter_16 : decode cX4_isLetter 16 = .ok (.iconst 0, 1) := by decide +kernel
theorem dX4_isLetter_17 : decode cX4_isLetter 17 = .ok (.ireturn, 1) := by decide +kernel
theorem dX4_isDigit_0 : decode cX4_isDigit 0 = .ok (.iload_n 0, 1) := by decide +kernel
theorem dX4_isDigit_1 : decode cX4_isDigit 1 = .ok (.bipush 48, 2) := by decide +kernel
theorem dX4_isDigit_3 : decode cX4_isDigit 3 = .ok (.if_icmp .lt 13, 3) := by decide +kernel
theorem dX4_isDigit_6 : decode cX4_isDigit 6 = .ok (.iload_n 0, 1) := by decide +kernel
theorem dX4_isDigit_7 : decode cX4_isDigit 7 = .ok (.bipush 57, 2) := by decide +kernel
theorem dX4_isDigit_9 : decode cX4_isDigit 9 = .ok (.if_icmp .gt 7, 3) := by decide +kernel
theorem dX4_isDigit_12 : decode cX4_isDigit 12 = .ok (.iconst 1, 1) := by decide +kernel
theorem dX4_isDigit_13 : decode cX4_isDigit 13 = .ok (.goto 4, 3) := by decide +kernel
theorem dX4_isDigit_16 : decode cX4_isDigit 16 = .ok (.iconst 0, 1) := by decide +kernel
theorem dX4_isDigit_17 : decode cX4_isDigit 17 = .ok (.ireturn, 1) := by decide +kernel
theorem dJ6_bitCount_0f7a4_0 : decode cJ6_bitCount_0f7a4 0 = .ok (.iload_n 0, 1) := by decide +kernel
theorem dJ6_bitCount_0f7a4_1 : decode cJ6_bitCount_0f7a4 1 = .ok (.iload_n 0, 1) := by decide +kernel
theorem dJ6_bitCount_0f7a4_2 : decode cJ6_bitCount_0f7a4 2 = .ok (.iconst 1, 1) := by decide +kernel
theorem dJ6_bitCount_0f7a4_3 : decode cJ6_bitCount_0f7a4 3 = .ok (.iushr, 1) := by decide +kernel
theorem dJ6_bitCount_0f7a4_4 : decode cJ6_bitCount_0f7a4 4 = .ok (.ldc_w 265, 3) := by decide +kernel
theorem dJ6_bitCount_0f7a4_7 : decode cJ6_bitCount_0f7a4 7 = .ok (.iand, 1) := by decide +kernel
theorem dJ6_bitCount_0f7a4_8 : decode cJ6_bitCount_0f7a4 8 = .ok (.isub, 1) := by decide +kernel
theorem dJ6_bitCount_0f7a4_9 : decode cJ6_bitCount_0f7a4 9 = .ok (.istore_n 0, 1) := by decide +kernel
theorem dJ6_bitCount_0f7a4_10 : decode cJ6_bitCount_0f7a4 10 = .ok (.iload_n 0, 1) := by decide +kernel
theorem dJ6_bitCount_0f7a4_11 : decode cJ6_bitCount_0f7a4 11 = .ok (.ldc_w 266, 3) := by decide +kernel
theorem dJ6_bitCount_0f7a4_14 : decode cJ6_bitCount_0f7a4 14 = .ok (.iand, 1) := by decide +kernel
theorem dJ6_bitCount_0f7a4_15 : decode cJ6_bitCount_0f7a4 15 = .ok (.iload_n 0, 1) := by decide +kernel
theorem dJ6_bitCount_0f7a4_16 : decode cJ6_bitCount_0f7a4 16 = .ok (.iconst 2, 1) := by decide +kernel
theorem dJ6_bitCount_0f7a4_17 : decode cJ6_bitCount_0f7a4 17 = .ok (.iushr, 1) := by decide +kernel
theorem dJ6_bitCount_0f7a4_18 : decode cJ6_bitCount_0f7a4 18 = .ok (.ldc_w 266, 3) := by decide +kernel
theorem dJ6_bitCount_0f7a4_21 : decode cJ6_bitCount_0f7a4 21 = .ok (.iand, 1) := by decide +kernel
theorem dJ6_bitCount_0f7a4_22 : decode cJ6_bitCount_0f7a4 22 = .ok (.iadd, 1) := by decide +kernel
theorem dJ6_bitCount_0f7a4_23 : decode cJ6_bitCount_0f7a4 23 = .ok (.istore_n 0, 1) := by decide +kernel
theorem dJ6_bitCount_0f7a4_24 : decode cJ6_bitCount_0f7a4 24 = .ok (.iload_n 0, 1) := by decide +kernel
theorem dJ6_bitCount_0f7a4_25 : decode cJ6_bitCount_0f7a4 25 = .ok (.iload_n 0, 1) := by decide +kernel
theorem dJ6_bitCount_0f7a4_26 : decode cJ6_bitCount_0f7a4 26 = .ok (.iconst 4, 1) := by decide +kernel
theorem dJ6_bitCount_0f7a4_27 : decode cJ6_bitCount_0f7a4 27 = .ok (.iushr, 1) := by decide +kernel
theorem dJ6_bitCount_0f7a4_28 : decode cJ6_bitCount_0f7a4 28 = .ok (.iadd, 1) := by decide +kernel
theorem dJ6_bitCount_0f7a4_29 : decode cJ6_bitCount_0f7a4 29 = .ok (.ldc_w 267, 3) := by decide +kernel
theorem dJ6_bitCount_0f7a4_32 : decode cJ6_bitCount_0f7a4 32 = .ok (.iand, 1) := by decide +kernel
theorem dJ6_bitCount_0f7a4_33 : decode cJ6_bitCount_0f7a4 33 = .ok (.istore_n 0, 1) := by decide +kernel
theorem dJ6_bitCount_0f7a4_34 : decode cJ6_bitCount_0f7a4 34 = .ok (.iload_n 0, 1) := by decide +kernel
theorem dJ6_bitCount_0f7a4_35 : decode cJ6_bitCount_0f7a4 35 = .ok (.iload_n 0, 1) := by decide +kernel
theorem dJ6_bitCount_0f7a4_36 : decode cJ6_bitCount_0f7a4 36 = .ok (.bipush 8, 2) := by decide +kernel
theorem dJ6_bitCount_0f7a4_38 : decode cJ6_bitCount_0f7a4 38 = .ok (.iushr, 1) := by decide +kernel
theorem dJ6_bitCount_0f7a4_39 : decode cJ6_bitCount_0f7a4 39 = .ok (.iadd, 1) := by decide +kernel
theorem dJ6_bitCount_0f7a4_40 : decode cJ6_bitCount_0f7a4 40 = .ok (.istore_n 0, 1) := by decide +kernel
theorem dJ6_bitCount_0f7a4_41 : decode cJ6_bitCount_0f7a4 41 = .ok (.iload_n 0, 1) := by decide +kernel
theorem dJ6_bitCount_0f7a4_42 : decode cJ6_bitCount_0f7a4 42 = .ok (.iload_n 0, 1) := by decide +kernel
theorem dJ6_bitCount_0f7a4_43 : decode cJ6_bitCount_0f7a4 43 = .ok (.bipush 16, 2) := by decide +kernel
theorem dJ6_bitCount_0f7a4_45 : decode cJ6_bitCount_0f7a4 45 = .ok (.iushr, 1) := by decide +kernel
theorem dJ6_bitCount_0f7a4_46 : decode cJ6_bitCount_0f7a4 46 = .ok (.iadd, 1) := by decide +kernel
theorem dJ6_bitCount_0f7a4_47 : decode cJ6_bitCount_0f7a4 47 = .ok (.istore_n 0, 1) := by decide +kernel
theorem dJ6_bitCount_0f7a4_48 : decode cJ6_bitCount_0f7a4 48 = .ok (.iload_n 0, 1) := by decide +kernel
theorem dJ6_bitCount_0f7a4_49 : decode cJ6_bitCount_0f7a4 49 = .ok (.bipush 63, 2) := by decide +kernel
theorem dJ6_bitCount_0f7a4_51 : decode cJ6_bitCount_0f7a4 51 = .ok (.iand, 1) := by decide +kernel
theorem dJ6_bitCount_0f7a4_52 : decode cJ6_bitCount_0f7a4 52 = .ok (.ireturn, 1) := by decide +kernel
theorem dJ9_max_7cf53_0 : decode cJ9_max_7cf53 0 = .ok (.iload_n 0, 1) := by decide +kernel
theorem dJ9_max_7cf53_1 : decode cJ9_max_7cf53 1 = .ok (.iload_n 1, 1) := by decide +kernel
theorem dJ9_max_7cf53_2 : decode cJ9_max_7cf53 2 = .ok (.if_icmp .lt 7, 3) := by decide +kernel
theorem dJ9_max_7cf53_5 : decode cJ9_max_7cf53 5 = .ok (.iload_n 0, 1) := by decide +kernel
theorem dJ9_max_7cf53_6 : decode cJ9_max_7cf53 6 = .ok (.goto 4, 3) := by decide +kernel
theorem dJ9_max_7cf53_9 : decode cJ9_max_7cf53 9 = .ok (.iload_n 1, 1) := by decide +kernel
theorem dJ9_max_7cf53_10 : decode cJ9_max_7cf53 10 = .ok (.ireturn, 1) := by decide +kernel
theorem dJ9_min_7cf53_0 : decode cJ9_min_7cf53 0 = .ok (.iload_n 0, 1) := by decide +kernel
theorem dJ9_min_7cf53_1 : decode cJ9_min_7cf53 1 = .ok (.iload_n 1, 1) := by decide +kernel
theorem dJ9_min_7cf53_2 : decode cJ9_min_7cf53 2 = .ok (.if_icmp .gt 7, 3) := by decide +kernel
theorem dJ9_min_7cf53_5 : decode cJ9_min_7cf53 5 = .ok (.iload_n 0, 1) := by decide +kernel
theorem dJ9_min_7cf53_6 : decode cJ9_min_7cf53 6 = .ok (.goto 4, 3) := by decide +kernel
theorem dJ9_min_7cf53_9 : decode cJ9_min_7cf53 9 = .ok (.iload_n 1, 1) := by decide +kernel
theorem dJ9_min_7cf53_10 : decode cJ9_min_7cf53 10 = .ok (.ireturn, 1) := by decide +kernel
set_option maxRecDepth 20000 in
theorem ggJ0_length_8abf5_J0_coder_7d493 : GoodIn wsJ0_length_8abf5 wsJ0_coder_7d493 := goodIn_r _ [6, 7, 8] (by decide +kernel) (by decide +kernel)
set_option maxRecDepth 20000 in
theorem gJ0_length_8abf5_J0_coder_7d493 : GoodIn wsJ0_length_8abf5 (wsV RJ0 335 RJ0 yJ0_coder_7d493 wsJ0_coder_7d493) := goodIn_app (goodIn_of _ (by decide +kernel)) ggJ0_length_8abf5_J0_coder_7d493
theorem dJ0_length_8abf5_0 : decode cJ0_length_8abf5 0 = .ok (.aload_n 0, 1) := by decide +kernel
theorem dJ0_length_8abf5_1 : decode cJ0_length_8abf5 1 = .ok (.getfield 9, 3) := by decide +kernel
theorem dJ0_length_8abf5_4 : decode cJ0_length_8abf5 4 = .ok (.arraylength, 1) := by decide +kernel
theorem dJ0_length_8abf5_5 : decode cJ0_length_8abf5 5 = .ok (.aload_n 0, 1) := by decide +kernel
theorem dJ0_length_8abf5_6 : decode cJ0_length_8abf5 6 = .ok (.invokevirtual 335, 3) := by decide +kernel
theorem dJ0_length_8abf5_9 : decode cJ0_length_8abf5 9 = .ok (.ishr, 1) := by decide +kernel
theorem dJ0_length_8abf5_10 : decode cJ0_length_8abf5 10 = .ok (.ireturn, 1) := by decide +kernel
set_option maxRecDepth 20000 in
theorem ggJ0_charAt_5068e_J0_isLatin1_aae02 : GoodIn wsJ0_charAt_5068e wsJ0_isLatin1_aae02 := goodIn_r _ [6, 7, 8] (by decide +kernel) (by decide +kernel)
set_option maxRecDepth 20000 in
theorem gJ0_charAt_5068e_J0_isLatin1_aae02 : GoodIn wsJ0_charAt_5068e (wsV RJ0 492 RJ0 yJ0_isLatin1_aae02 wsJ0_isLatin1_aae02) := goodIn_app (goodIn_of _ (by decide +kernel)) ggJ0_charAt_5068e_J0_isLatin1_aae02
set_option maxRecDepth 20000 in
theorem ggJ0_charAt_5068e_J1_charAt_3b067 : GoodIn wsJ0_charAt_5068e wsJ1_charAt_3b067 := goodIn_r _ [12, 13, 14, 5, 15, 16, 17, 18, 19, 20] (by decide +kernel) (by decide +kernel)
set_option maxRecDepth 20000 in
theorem gJ0_charAt_5068e_J1_charAt_3b067 : GoodIn wsJ0_charAt_5068e (va_wsS RJ0 495 yJ1_charAt_3b067 wsJ1_charAt_3b067) := goodIn_app (goodIn_of _ (by decide +kernel)) ggJ0_charAt_5068e_J1_charAt_3b067
set_option maxRecDepth 20000 in
theorem ggJ0_charAt_5068e_J2_charAt_3b067 : GoodIn wsJ0_charAt_5068e wsJ2_charAt_3b067 := goodIn_r _ [24, 25, 26, 23, 27, 28, 29, 30, 31, 14, 5, 15, 16, 17, 18, 19, 20, 32, 33, 34, 35, 36, 37] (by decide +kernel) (by decide +kernel)
set_option maxRecDepth 20000 in
theorem gJ0_charAt_5068e_J2_charAt_3b067 : GoodIn wsJ0_charAt_5068e (va_wsS RJ0 498 yJ2_charAt_3b067 wsJ2_charAt_3b067) := goodIn_app (goodIn_of _ (by decide +kernel)) ggJ0_charAt_5068e_J2_charAt_3b067
theorem dJ0_charAt_5068e_0 : decode cJ0_charAt_5068e 0 = .ok (.aload_n 0, 1) := by decide +kernel
theorem dJ0_charAt_5068e_1 : decode cJ0_charAt_5068e 1 = .ok (.invokevirtual 492, 3) := by decide +kernel
theorem dJ0_charAt_5068e_4 : decode cJ0_charAt_5068e 4 = .ok (.ifCond .eq 12, 3) := by decide +kernel
theorem dJ0_charAt_5068e_7 : decode cJ0_charAt_5068e 7 = .ok (.aload_n 0, 1) := by decide +kernel
theorem dJ0_charAt_5068e_8 : decode cJ0_charAt_5068e 8 = .ok (.getfield 9, 3) := by decide +kernel
theorem dJ0_charAt_5068e_11 : decode cJ0_charAt_5068e 11 = .ok (.iload_n 1, 1) := by decide +kernel
theorem dJ0_charAt_5068e_12 : decode cJ0_charAt_5068e 12 = .ok (.invokestatic 495, 3) := by decide +kernel
theorem dJ0_charAt_5068e_15 : decode cJ0_charAt_5068e 15 = .ok (.ireturn, 1) := by decide +kernel
theorem dJ0_charAt_5068e_16 : decode cJ0_charAt_5068e 16 = .ok (.aload_n 0, 1) := by decide +kernel
theorem dJ0_charAt_5068e_17 : decode cJ0_charAt_5068e 17 = .ok (.getfield 9, 3) := by decide +kernel
theorem dJ0_charAt_5068e_20 : decode cJ0_charAt_5068e 20 = .ok (.iload_n 1, 1) := by decide +kernel
theorem dJ0_charAt_5068e_21 : decode cJ0_charAt_5068e 21 = .ok (.invokestatic 498, 3) := by decide +kernel
theorem dJ0_charAt_5068e_24 : decode cJ0_charAt_5068e 24 = .ok (.ireturn, 1) := by decide +kernel
theorem dJ0_coder_7d493_0 : decode cJ0_coder_7d493 0 = .ok (.getstatic 38, 3) := by decide +kernel
theorem dJ0_coder_7d493_3 : decode cJ0_coder_7d493 3 = .ok (.ifCond .eq 10, 3) := by decide +kernel
theorem dJ0_coder_7d493_6 : decode cJ0_coder_7d493 6 = .ok (.aload_n 0, 1) := by decide +kernel
theorem dJ0_coder_7d493_7 : decode cJ0_coder_7d493 7 = .ok (.getfield 15, 3) := by decide +kernel
theorem dJ0_coder_7d493_10 : decode cJ0_coder_7d493 10 = .ok (.goto 4, 3) := by decide +kernel
theorem dJ0_coder_7d493_13 : decode cJ0_coder_7d493 13 = .ok (.iconst 1, 1) := by decide +kernel
theorem dJ0_coder_7d493_14 : decode cJ0_coder_7d493 14 = .ok (.ireturn, 1) := by decide +kernel
theorem dJ0_isLatin1_aae02_0 : decode cJ0_isLatin1_aae02 0 = .ok (.getstatic 38, 3) := by decide +kernel
theorem dJ0_isLatin1_aae02_3 : decode cJ0_isLatin1_aae02 3 = .ok (.ifCond .eq 14, 3) := by decide +kernel
theorem dJ0_isLatin1_aae02_6 : decode cJ0_isLatin1_aae02 6 = .ok (.aload_n 0, 1) := by decide +kernel
theorem dJ0_isLatin1_aae02_7 : decode cJ0_isLatin1_aae02 7 = .ok (.getfield 15, 3) := by decide +kernel
theorem dJ0_isLatin1_aae02_10 : decode cJ0_isLatin1_aae02 10 = .ok (.ifCond .ne 7, 3) := by decide +kernel
theorem dJ0_isLatin1_aae02_13 : decode cJ0_isLatin1_aae02 13 = .ok (.iconst 1, 1) := by decide +kernel
theorem dJ0_isLatin1_aae02_14 : decode cJ0_isLatin1_aae02 14 = .ok (.goto 4, 3) := by decide +kernel
theorem dJ0_isLatin1_aae02_17 : decode cJ0_isLatin1_aae02 17 = .ok (.iconst 0, 1) := by decide +kernel
theorem dJ0_isLatin1_aae02_18 : decode cJ0_isLatin1_aae02 18 = .ok (.ireturn, 1) := by decide +kernel
set_option maxRecDepth 20000 in
theorem ggJ0_checkIndex_df160_J3_checkIndex_8e157 : GoodIn wsJ0_checkIndex_df160 wsJ3_checkIndex_8e157 := goodIn_r _ [5] (by decide +kernel) (by decide +kernel)
set_option maxRecDepth 20000 in
theorem gJ0_checkIndex_df160_J3_checkIndex_8e157 : GoodIn wsJ0_checkIndex_df160 (va_wsS RJ0 1059 yJ3_checkIndex_8e157 wsJ3_checkIndex_8e157) := goodIn_app (goodIn_of _ (by decide +kernel)) ggJ0_checkIndex_df160_J3_checkIndex_8e157
theorem dJ0_checkIndex_df160_0 : decode cJ0_checkIndex_df160 0 = .ok (.iload_n 0, 1) := by decide +kernel
theorem dJ0_checkIndex_df160_1 : decode cJ0_checkIndex_df160 1 = .ok (.iload_n 1, 1) := by decide +kernel
theorem dJ0_checkIndex_df160_2 : decode cJ0_checkIndex_df160 2 = .ok (.getstatic 1053, 3) := by decide +kernel
theorem dJ0_checkIndex_df160_5 : decode cJ0_checkIndex_df160 5 = .ok (.invokestatic 1059, 3) := by decide +kernel
theorem dJ0_checkIndex_df160_8 : decode cJ0_checkIndex_df160 8 = .ok (.pop, 1) := by decide +kernel
theorem dJ0_checkIndex_df160_9 : decode cJ0_checkIndex_df160 9 = .ok (.return_, 1) := by decide +kernel
set_option maxRecDepth 20000 in
theorem ggJ1_charAt_3b067_J0_checkIndex_df160 : GoodIn wsJ1_charAt_3b067 wsJ0_checkIndex_df160 := goodIn_r _ [4, 5, 6, 7, 8, 9] (by decide +kernel) (by decide +kernel)
set_option maxRecDepth 20000 in
theorem gJ1_charAt_3b067_J0_checkIndex_df160 : GoodIn wsJ1_charAt_3b067 (va_wsS RJ1 9 yJ0_checkIndex_df160 wsJ0_checkIndex_df160) := goodIn_app (goodIn_of _ (by decide +kernel)) ggJ1_charAt_3b067_J0_checkIndex_df160
theorem dJ1_charAt_3b067_0 : decode cJ1_charAt_3b067 0 = .ok (.iload_n 1, 1) := by decide +kernel
theorem dJ1_charAt_3b067_1 : decode cJ1_charAt_3b067 1 = .ok (.aload_n 0, 1) := by decide +kernel
theorem dJ1_charAt_3b067_2 : decode cJ1_charAt_3b067 2 = .ok (.arraylength, 1) := by decide +kernel
theorem dJ1_charAt_3b067_3 : decode cJ1_charAt_3b067 3 = .ok (.invokestatic 9, 3) := by decide +kernel
theorem dJ1_charAt_3b067_6 : decode cJ1_charAt_3b067 6 = .ok (.aload_n 0, 1) := by decide +kernel
theorem dJ1_charAt_3b067_7 : decode cJ1_charAt_3b067 7 = .ok (.iload_n 1, 1) := by decide +kernel
theorem dJ1_charAt_3b067_8 : decode cJ1_charAt_3b067 8 = .ok (.baload, 1) := by decide +kernel
theorem dJ1_charAt_3b067_9 : decode cJ1_charAt_3b067 9 = .ok (.sipush 255, 3) := by decide +kernel
theorem dJ1_charAt_3b067_12 : decode cJ1_charAt_3b067 12 = .ok (.iand, 1) := by decide +kernel
theorem dJ1_charAt_3b067_13 : decode cJ1_charAt_3b067 13 = .ok (.i2c, 1) := by decide +kernel
theorem dJ1_charAt_3b067_14 : decode cJ1_charAt_3b067 14 = .ok (.ireturn, 1) := by decide +kernel
set_option maxRecDepth 20000 in
theorem ggJ2_getChar_3b067_J2_length_9d52b : GoodIn wsJ2_getChar_3b067 wsJ2_length_9d52b := goodIn_r _ [7] (by decide +kernel) (by decide +kernel)
set_option maxRecDepth 20000 in
theorem gJ2_getChar_3b067_J2_length_9d52b : GoodIn wsJ2_getChar_3b067 (va_wsS RJ2 48 yJ2_length_9d52b wsJ2_length_9d52b) := goodIn_app (goodIn_of _ (by decide +kernel)) ggJ2_getChar_3b067_J2_length_9d52b
theorem dJ2_getChar_3b067_0 : decode cJ2_getChar_3b067 0 = .ok (.getstatic 44, 3) := by decide +kernel
theorem dJ2_getChar_3b067_3 : decode cJ2_getChar_3b067 3 = .ok (.ifCond .ne 25, 3) := by decide +kernel
theorem dJ2_getChar_3b067_6 : decode cJ2_getChar_3b067 6 = .ok (.iload_n 1, 1) := by decide +kernel
theorem dJ2_getChar_3b067_7 : decode cJ2_getChar_3b067 7 = .ok (.ifCond .lt 11, 3) := by decide +kernel
theorem dJ2_getChar_3b067_10 : decode cJ2_getChar_3b067 10 = .ok (.iload_n 1, 1) := by decide +kernel
theorem dJ2_getChar_3b067_11 : decode cJ2_getChar_3b067 11 = .ok (.aload_n 0, 1) := by decide +kernel
theorem dJ2_getChar_3b067_12 : decode cJ2_getChar_3b067 12 = .ok (.invokestatic 48, 3) := by decide +kernel
theorem dJ2_getChar_3b067_15 : decode cJ2_getChar_3b067 15 = .ok (.if_icmp .lt 13, 3) := by decide +kernel
theorem dJ2_getChar_3b067_18 : decode cJ2_getChar_3b067 18 = .ok (.new 52, 3) := by decide +kernel
theorem dJ2_getChar_3b067_21 : decode cJ2_getChar_3b067 21 = .ok (.dup, 1) := by decide +kernel
theorem dJ2_getChar_3b067_22 : decode cJ2_getChar_3b067 22 = .ok (.ldc 54, 2) := by decide +kernel
theorem dJ2_getChar_3b067_24 : decode cJ2_getChar_3b067 24 = .ok (.invokespecial 56, 3) := by decide +kernel
theorem dJ2_getChar_3b067_27 : decode cJ2_getChar_3b067 27 = .ok (.athrow, 1) := by decide +kernel
theorem dJ2_getChar_3b067_28 : decode cJ2_getChar_3b067 28 = .ok (.iload_n 1, 1) := by decide +kernel
theorem dJ2_getChar_3b067_29 : decode cJ2_getChar_3b067 29 = .ok (.iconst 1, 1) := by decide +kernel
theorem dJ2_getChar_3b067_30 : decode cJ2_getChar_3b067 30 = .ok (.ishl, 1) := by decide +kernel
theorem dJ2_getChar_3b067_31 : decode cJ2_getChar_3b067 31 = .ok (.istore_n 1, 1) := by decide +kernel
theorem dJ2_getChar_3b067_32 : decode cJ2_getChar_3b067 32 = .ok (.aload_n 0, 1) := by decide +kernel
theorem dJ2_getChar_3b067_33 : decode cJ2_getChar_3b067 33 = .ok (.iload_n 1, 1) := by decide +kernel
theorem dJ2_getChar_3b067_34 : decode cJ2_getChar_3b067 34 = .ok (.iinc 1 1, 3) := by decide +kernel
theorem dJ2_getChar_3b067_37 : decode cJ2_getChar_3b067 37 = .ok (.baload, 1) := by decide +kernel
theorem dJ2_getChar_3b067_38 : decode cJ2_getChar_3b067 38 = .ok (.sipush 255, 3) := by decide +kernel
theorem dJ2_getChar_3b067_41 : decode cJ2_getChar_3b067 41 = .ok (.iand, 1) := by decide +kernel
theorem dJ2_getChar_3b067_42 : decode cJ2_getChar_3b067 42 = .ok (.getstatic 59, 3) := by decide +kernel
theorem dJ2_getChar_3b067_45 : decode cJ2_getChar_3b067 45 = .ok (.ishl, 1) := by decide +kernel
theorem dJ2_getChar_3b067_46 : decode cJ2_getChar_3b067 46 = .ok (.aload_n 0, 1) := by decide +kernel
theorem dJ2_getChar_3b067_47 : decode cJ2_getChar_3b067 47 = .ok (.iload_n 1, 1) := by decide +kernel
theorem dJ2_getChar_3b067_48 : decode cJ2_getChar_3b067 48 = .ok (.baload, 1) := by decide +kernel
theorem dJ2_getChar_3b067_49 : decode cJ2_getChar_3b067 49 = .ok (.sipush 255, 3) := by decide +kernel
theorem dJ2_getChar_3b067_52 : decode cJ2_getChar_3b067 52 = .ok (.iand, 1) := by decide +kernel
theorem dJ2_getChar_3b067_53 : decode cJ2_getChar_3b067 53 = .ok (.getstatic 63, 3) := by decide +kernel
theorem dJ2_getChar_3b067_56 : decode cJ2_getChar_3b067 56 = .ok (.ishl, 1) := by decide +kernel
theorem dJ2_getChar_3b067_57 : decode cJ2_getChar_3b067 57 = .ok (.ior, 1) := by decide +kernel
theorem dJ2_getChar_3b067_58 : decode cJ2_getChar_3b067 58 = .ok (.i2c, 1) := by decide +kernel
theorem dJ2_getChar_3b067_59 : decode cJ2_getChar_3b067 59 = .ok (.ireturn, 1) := by decide +kernel
theorem dJ2_length_9d52b_0 : decode cJ2_length_9d52b 0 = .ok (.aload_n 0, 1) := by decide +kernel
theorem dJ2_length_9d52b_1 : decode cJ2_length_9d52b 1 = .ok (.arraylength, 1) := by decide +kernel
theorem dJ2_length_9d52b_2 : decode cJ2_length_9d52b 2 = .ok (.iconst 1, 1) := by decide +kernel
theorem dJ2_length_9d52b_3 : decode cJ2_length_9d52b 3 = .ok (.ishr, 1) := by decide +kernel
theorem dJ2_length_9d52b_4 : decode cJ2_length_9d52b 4 = .ok (.ireturn, 1) := by decide +kernel
set_option maxRecDepth 20000 in
theorem ggJ2_charAt_3b067_J2_checkIndex_2214a : GoodIn wsJ2_charAt_3b067 wsJ2_checkIndex_2214a := goodIn_r _ [4, 5, 6, 3, 7, 8, 9, 10, 11, 12, 13, 14, 15, 16] (by decide +kernel) (by decide +kernel)
set_option maxRecDepth 20000 in
theorem gJ2_charAt_3b067_J2_checkIndex_2214a : GoodIn wsJ2_charAt_3b067 (va_wsS RJ2 67 yJ2_checkIndex_2214a wsJ2_checkIndex_2214a) := goodIn_app (goodIn_of _ (by decide +kernel)) ggJ2_charAt_3b067_J2_checkIndex_2214a
set_option maxRecDepth 20000 in
theorem ggJ2_charAt_3b067_J2_getChar_3b067 : GoodIn wsJ2_charAt_3b067 wsJ2_getChar_3b067 := goodIn_r _ [19, 20, 21, 22, 5, 6, 3, 7] (by decide +kernel) (by decide +kernel)
set_option maxRecDepth 20000 in
theorem gJ2_charAt_3b067_J2_getChar_3b067 : GoodIn wsJ2_charAt_3b067 (va_wsS RJ2 71 yJ2_getChar_3b067 wsJ2_getChar_3b067) := goodIn_app (goodIn_of _ (by decide +kernel)) ggJ2_charAt_3b067_J2_getChar_3b067
theorem dJ2_charAt_3b067_0 : decode cJ2_charAt_3b067 0 = .ok (.iload_n 1, 1) := by decide +kernel
theorem dJ2_charAt_3b067_1 : decode cJ2_charAt_3b067 1 = .ok (.aload_n 0, 1) := by decide +kernel
theorem dJ2_charAt_3b067_2 : decode cJ2_charAt_3b067 2 = .ok (.invokestatic 67, 3) := by decide +kernel
theorem dJ2_charAt_3b067_5 : decode cJ2_charAt_3b067 5 = .ok (.aload_n 0, 1) := by decide +kernel
theorem dJ2_charAt_3b067_6 : decode cJ2_charAt_3b067 6 = .ok (.iload_n 1, 1) := by decide +kernel
theorem dJ2_charAt_3b067_7 : decode cJ2_charAt_3b067 7 = .ok (.invokestatic 71, 3) := by decide +kernel
theorem dJ2_charAt_3b067_10 : decode cJ2_charAt_3b067 10 = .ok (.ireturn, 1) := by decide +kernel
set_option maxRecDepth 20000 in
theorem ggJ2_checkIndex_2214a_J2_length_9d52b : GoodIn wsJ2_checkIndex_2214a wsJ2_length_9d52b := goodIn_r _ [4] (by decide +kernel) (by decide +kernel)
set_option maxRecDepth 20000 in
theorem gJ2_checkIndex_2214a_J2_length_9d52b : GoodIn wsJ2_checkIndex_2214a (va_wsS RJ2 48 yJ2_length_9d52b wsJ2_length_9d52b) := goodIn_app (goodIn_of _ (by decide +kernel)) ggJ2_checkIndex_2214a_J2_length_9d52b
set_option maxRecDepth 20000 in
theorem ggJ2_checkIndex_2214a_J0_checkIndex_df160 : GoodIn wsJ2_checkIndex_2214a wsJ0_checkIndex_df160 := goodIn_r _ [8, 9, 10, 11, 12, 13] (by decide +kernel) (by decide +kernel)
set_option maxRecDepth 20000 in
theorem gJ2_checkIndex_2214a_J0_checkIndex_df160 : GoodIn wsJ2_checkIndex_2214a (va_wsS RJ2 414 yJ0_checkIndex_df160 wsJ0_checkIndex_df160) := goodIn_app (goodIn_of _ (by decide +kernel)) ggJ2_checkIndex_2214a_J0_checkIndex_df160
theorem dJ2_checkIndex_2214a_0 : decode cJ2_checkIndex_2214a 0 = .ok (.iload_n 0, 1) := by decide +kernel
theorem dJ2_checkIndex_2214a_1 : decode cJ2_checkIndex_2214a 1 = .ok (.aload_n 1, 1) := by decide +kernel
theorem dJ2_checkIndex_2214a_2 : decode cJ2_checkIndex_2214a 2 = .ok (.invokestatic 48, 3) := by decide +kernel
theorem dJ2_checkIndex_2214a_5 : decode cJ2_checkIndex_2214a 5 = .ok (.invokestatic 414, 3) := by decide +kernel
theorem dJ2_checkIndex_2214a_8 : decode cJ2_checkIndex_2214a 8 = .ok (.return_, 1) := by decide +kernel
theorem dJ7_fill_d0a16_0 : decode cJ7_fill_d0a16 0 = .ok (.iconst 0, 1) := by decide +kernel
theorem dJ7_fill_d0a16_1 : decode cJ7_fill_d0a16 1 = .ok (.istore_n 3, 1) := by decide +kernel
theorem dJ7_fill_d0a16_2 : decode cJ7_fill_d0a16 2 = .ok (.aload_n 0, 1) := by decide +kernel
theorem dJ7_fill_d0a16_3 : decode cJ7_fill_d0a16 3 = .ok (.arraylength, 1) := by decide +kernel
theorem dJ7_fill_d0a16_4 : decode cJ7_fill_d0a16 4 = .ok (.istore 4, 2) := by decide +kernel
theorem dJ7_fill_d0a16_6 : decode cJ7_fill_d0a16 6 = .ok (.iload_n 3, 1) := by decide +kernel
theorem dJ7_fill_d0a16_7 : decode cJ7_fill_d0a16 7 = .ok (.iload 4, 2) := by decide +kernel
theorem dJ7_fill_d0a16_9 : decode cJ7_fill_d0a16 9 = .ok (.if_icmp .ge 13, 3) := by decide +kernel
theorem dJ7_fill_d0a16_12 : decode cJ7_fill_d0a16 12 = .ok (.aload_n 0, 1) := by decide +kernel
theorem dJ7_fill_d0a16_13 : decode cJ7_fill_d0a16 13 = .ok (.iload_n 3, 1) := by decide +kernel
theorem dJ7_fill_d0a16_14 : decode cJ7_fill_d0a16 14 = .ok (.lload_n 1, 1) := by decide +kernel
theorem dJ7_fill_d0a16_15 : decode cJ7_fill_d0a16 15 = .ok (.lastore, 1) := by decide +kernel
theorem dJ7_fill_d0a16_16 : decode cJ7_fill_d0a16 16 = .ok (.iinc 3 1, 3) := by decide +kernel
theorem dJ7_fill_d0a16_19 : decode cJ7_fill_d0a16 19 = .ok (.goto (-13), 3) := by decide +kernel
theorem dJ7_fill_d0a16_22 : decode cJ7_fill_d0a16 22 = .ok (.return_, 1) := by decide +kernel
theorem dJ7_fill_53178_0 : decode cJ7_fill_53178 0 = .ok (.iconst 0, 1) := by decide +kernel
theorem dJ7_fill_53178_1 : decode cJ7_fill_53178 1 = .ok (.istore_n 2, 1) := by decide +kernel
theorem dJ7_fill_53178_2 : decode cJ7_fill_53178 2 = .ok (.aload_n 0, 1) := by decide +kernel
theorem dJ7_fill_53178_3 : decode cJ7_fill_53178 3 = .ok (.arraylength, 1) := by decide +kernel
theorem dJ7_fill_53178_4 : decode cJ7_fill_53178 4 = .ok (.istore_n 3, 1) := by decide +kernel
theorem dJ7_fill_53178_5 : decode cJ7_fill_53178 5 = .ok (.iload_n 2, 1) := by decide +kernel
theorem dJ7_fill_53178_6 : decode cJ7_fill_53178 6 = .ok (.iload_n 3, 1) := by decide +kernel
theorem dJ7_fill_53178_7 : decode cJ7_fill_53178 7 = .ok (.if_icmp .ge 13, 3) := by decide +kernel
theorem dJ7_fill_53178_10 : decode cJ7_fill_53178 10 = .ok (.aload_n 0, 1) := by decide +kernel
theorem dJ7_fill_53178_11 : decode cJ7_fill_53178 11 = .ok (.iload_n 2, 1) := by decide +kernel
theorem dJ7_fill_53178_12 : decode cJ7_fill_53178 12 = .ok (.iload_n 1, 1) := by decide +kernel
theorem dJ7_fill_53178_13 : decode cJ7_fill_53178 13 = .ok (.iastore, 1) := by decide +kernel
theorem dJ7_fill_53178_14 : decode cJ7_fill_53178 14 = .ok (.iinc 2 1, 3) := by decide +kernel
theorem dJ7_fill_53178_17 : decode cJ7_fill_53178 17 = .ok (.goto (-12), 3) := by decide +kernel
theorem dJ7_fill_53178_20 : decode cJ7_fill_53178 20 = .ok (.return_, 1) := by decide +kernel
theorem dJ3_checkIndex_8e157_0 : decode cJ3_checkIndex_8e157 0 = .ok (.iload_n 0, 1) := by decide +kernel
theorem dJ3_checkIndex_8e157_1 : decode cJ3_checkIndex_8e157 1 = .ok (.ifCond .lt 8, 3) := by decide +kernel
theorem dJ3_checkIndex_8e157_4 : decode cJ3_checkIndex_8e157 4 = .ok (.iload_n 0, 1) := by decide +kernel
theorem dJ3_checkIndex_8e157_5 : decode cJ3_checkIndex_8e157 5 = .ok (.iload_n 1, 1) := by decide +kernel
theorem dJ3_checkIndex_8e157_6 : decode cJ3_checkIndex_8e157 6 = .ok (.if_icmp .lt 10, 3) := by decide +kernel
theorem dJ3_checkIndex_8e157_9 : decode cJ3_checkIndex_8e157 9 = .ok (.aload_n 2, 1) := by decide +kernel
theorem dJ3_checkIndex_8e157_10 : decode cJ3_checkIndex_8e157 10 = .ok (.iload_n 0, 1) := by decide +kernel
theorem dJ3_checkIndex_8e157_11 : decode cJ3_checkIndex_8e157 11 = .ok (.iload_n 1, 1) := by decide +kernel
theorem dJ3_checkIndex_8e157_12 : decode cJ3_checkIndex_8e157 12 = .ok (.invokestatic 95, 3) := by decide +kernel
theorem dJ3_checkIndex_8e157_15 : decode cJ3_checkIndex_8e157 15 = .ok (.athrow, 1) := by decide +kernel
theorem dJ3_checkIndex_8e157_16 : decode cJ3_checkIndex_8e157 16 = .ok (.iload_n 0, 1) := by decide +kernel
theorem dJ3_checkIndex_8e157_17 : decode cJ3_checkIndex_8e157 17 = .ok (.ireturn, 1) := by decide +kernel
