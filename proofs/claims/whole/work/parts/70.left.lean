theorem dX0_init_0 : decode cX0_init 0 = .ok (.aload_n 0, 1) := by decide +kernel
theorem dX0_init_1 : decode cX0_init 1 = .ok (.invokespecial 3, 3) := by decide +kernel
theorem dX0_init_4 : decode cX0_init 4 = .ok (.aload_n 0, 1) := by decide +kernel
theorem dX0_init_5 : decode cX0_init 5 = .ok (.bipush 60, 2) := by decide +kernel
theorem dX0_init_7 : decode cX0_init 7 = .ok (.newarray .int, 2) := by decide +kernel
theorem dX0_init_9 : decode cX0_init 9 = .ok (.putfield 9, 3) := by decide +kernel
theorem dX0_init_12 : decode cX0_init 12 = .ok (.aload_n 0, 1) := by decide +kernel
theorem dX0_init_13 : decode cX0_init 13 = .ok (.iconst 0, 1) := by decide +kernel
theorem dX0_init_14 : decode cX0_init 14 = .ok (.putfield 15, 3) := by decide +kernel
theorem dX0_init_17 : decode cX0_init 17 = .ok (.aload_n 0, 1) := by decide +kernel
theorem dX0_init_18 : decode cX0_init 18 = .ok (.iconst 0, 1) := by decide +kernel
theorem dX0_init_19 : decode cX0_init 19 = .ok (.putfield 19, 3) := by decide +kernel
theorem dX0_init_22 : decode cX0_init 22 = .ok (.return_, 1) := by decide +kernel
theorem dX1_init_0 : decode cX1_init 0 = .ok (.aload_n 0, 1) := by decide +kernel
theorem dX1_init_1 : decode cX1_init 1 = .ok (.invokespecial 3, 3) := by decide +kernel
theorem dX1_init_4 : decode cX1_init 4 = .ok (.aload_n 0, 1) := by decide +kernel
theorem dX1_init_5 : decode cX1_init 5 = .ok (.bipush 56, 2) := by decide +kernel
theorem dX1_init_7 : decode cX1_init 7 = .ok (.newarray .int, 2) := by decide +kernel
theorem dX1_init_9 : decode cX1_init 9 = .ok (.putfield 9, 3) := by decide +kernel
theorem dX1_init_12 : decode cX1_init 12 = .ok (.aload_n 0, 1) := by decide +kernel
theorem dX1_init_13 : decode cX1_init 13 = .ok (.bipush 56, 2) := by decide +kernel
theorem dX1_init_15 : decode cX1_init 15 = .ok (.newarray .int, 2) := by decide +kernel
theorem dX1_init_17 : decode cX1_init 17 = .ok (.putfield 15, 3) := by decide +kernel
theorem dX1_init_20 : decode cX1_init 20 = .ok (.aload_n 0, 1) := by decide +kernel
theorem dX1_init_21 : decode cX1_init 21 = .ok (.bipush 56, 2) := by decide +kernel
theorem dX1_init_23 : decode cX1_init 23 = .ok (.newarray .int, 2) := by decide +kernel
theorem dX1_init_25 : decode cX1_init 25 = .ok (.putfield 18, 3) := by decide +kernel
theorem dX1_init_28 : decode cX1_init 28 = .ok (.aload_n 0, 1) := by decide +kernel
theorem dX1_init_29 : decode cX1_init 29 = .ok (.bipush 56, 2) := by decide +kernel
theorem dX1_init_31 : decode cX1_init 31 = .ok (.newarray .int, 2) := by decide +kernel
theorem dX1_init_33 : decode cX1_init 33 = .ok (.putfield 21, 3) := by decide +kernel
theorem dX1_init_36 : decode cX1_init 36 = .ok (.aload_n 0, 1) := by decide +kernel
theorem dX1_init_37 : decode cX1_init 37 = .ok (.bipush 56, 2) := by decide +kernel
theorem dX1_init_39 : decode cX1_init 39 = .ok (.newarray .boolean, 2) := by decide +kernel
theorem dX1_init_41 : decode cX1_init 41 = .ok (.putfield 24, 3) := by decide +kernel
theorem dX1_init_44 : decode cX1_init 44 = .ok (.aload_n 0, 1) := by decide +kernel
theorem dX1_init_45 : decode cX1_init 45 = .ok (.bipush 56, 2) := by decide +kernel
theorem dX1_init_47 : decode cX1_init 47 = .ok (.newarray .int, 2) := by decide +kernel
theorem dX1_init_49 : decode cX1_init 49 = .ok (.putfield 28, 3) := by decide +kernel
theorem dX1_init_52 : decode cX1_init 52 = .ok (.return_, 1) := by decide +kernel
theorem dX2_init_0 : decode cX2_init 0 = .ok (.aload_n 0, 1) := by decide +kernel
theorem dX2_init_1 : decode cX2_init 1 = .ok (.invokespecial 3, 3) := by decide +kernel
theorem dX2_init_4 : decode cX2_init 4 = .ok (.aload_n 0, 1) := by decide +kernel
theorem dX2_init_5 : decode cX2_init 5 = .ok (.bipush 56, 2) := by decide +kernel
theorem dX2_init_7 : decode cX2_init 7 = .ok (.newarray .int, 2) := by decide +kernel
theorem dX2_init_9 : decode cX2_init 9 = .ok (.putfield 9, 3) := by decide +kernel
theorem dX2_init_12 : decode cX2_init 12 = .ok (.aload_n 0, 1) := by decide +kernel
theorem dX2_init_13 : decode cX2_init 13 = .ok (.bipush 7, 2) := by decide +kernel
theorem dX2_init_15 : decode cX2_init 15 = .ok (.newarray .long, 2) := by decide +kernel
theorem dX2_init_17 : decode cX2_init 17 = .ok (.putfield 15, 3) := by decide +kernel
theorem dX2_init_20 : decode cX2_init 20 = .ok (.return_, 1) := by decide +kernel
theorem dX3_init_0 : decode cX3_init 0 = .ok (.aload_n 0, 1) := by decide +kernel
theorem dX3_init_1 : decode cX3_init 1 = .ok (.invokespecial 3, 3) := by decide +kernel
theorem dX3_init_4 : decode cX3_init 4 = .ok (.aload_n 0, 1) := by decide +kernel
theorem dX3_init_5 : decode cX3_init 5 = .ok (.iconst 1, 1) := by decide +kernel
theorem dX3_init_6 : decode cX3_init 6 = .ok (.putfield 9, 3) := by decide +kernel
theorem dX3_init_9 : decode cX3_init 9 = .ok (.aload_n 0, 1) := by decide +kernel
theorem dX3_init_10 : decode cX3_init 10 = .ok (.bipush 64, 2) := by decide +kernel
theorem dX3_init_12 : decode cX3_init 12 = .ok (.newarray .long, 2) := by decide +kernel
theorem dX3_init_14 : decode cX3_init 14 = .ok (.putfield 15, 3) := by decide +kernel
theorem dX3_init_17 : decode cX3_init 17 = .ok (.return_, 1) := by decide +kernel
theorem dX4_init_0 : decode cX4_init 0 = .ok (.aload_n 0, 1) := by decide +kernel
theorem dX4_init_1 : decode cX4_init 1 = .ok (.invokespecial 3, 3) := by decide +kernel
theorem dX4_init_4 : decode cX4_init 4 = .ok (.aload_n 0, 1) := by decide +kernel
theorem dX4_init_5 : decode cX4_init 5 = .ok (.iconst 4, 1) := by decide +kernel
theorem dX4_init_6 : decode cX4_init 6 = .ok (.putfield 9, 3) := by decide +kernel
theorem dX4_init_9 : decode cX4_init 9 = .ok (.aload_n 0, 1) := by decide +kernel
theorem dX4_init_10 : decode cX4_init 10 = .ok (.bipush 7, 2) := by decide +kernel
theorem dX4_init_12 : decode cX4_init 12 = .ok (.newarray .long, 2) := by decide +kernel
theorem dX4_init_14 : decode cX4_init 14 = .ok (.putfield 15, 3) := by decide +kernel
theorem dX4_init_17 : decode cX4_init 17 = .ok (.aload_n 0, 1) := by decide +kernel
theorem dX4_init_18 : decode cX4_init 18 = .ok (.bipush 56, 2) := by decide +kernel
theorem dX4_init_20 : decode cX4_init 20 = .ok (.newarray .int, 2) := by decide +kernel
theorem dX4_init_22 : decode cX4_init 22 = .ok (.putfield 19, 3) := by decide +kernel
theorem dX4_init_25 : decode cX4_init 25 = .ok (.return_, 1) := by decide +kernel
set_option maxRecDepth 20000 in
theorem ggX5_init_X4_init : GoodIn wsX5_init wsX4_init := goodIn_r _ [31, 32, 2, 3, 33, 13, 34, 35, 36, 67, 68, 69] (by decide +kernel) (by decide +kernel)
set_option maxRecDepth 20000 in
theorem gX5_init_X4_init : GoodIn wsX5_init (wsX4_init) := ggX5_init_X4_init
set_option maxRecDepth 20000 in
theorem ggX5_init_X2_init : GoodIn wsX5_init wsX2_init := goodIn_r _ [39, 40, 2, 3, 35, 41, 13, 42, 79, 80] (by decide +kernel) (by decide +kernel)
set_option maxRecDepth 20000 in
theorem gX5_init_X2_init : GoodIn wsX5_init (wsX2_init) := ggX5_init_X2_init
set_option maxRecDepth 20000 in
theorem ggX5_init_X0_init : GoodIn wsX5_init wsX0_init := goodIn_r _ [45, 46, 2, 3, 35, 47, 48, 49, 81, 82, 83] (by decide +kernel) (by decide +kernel)
set_option maxRecDepth 20000 in
theorem gX5_init_X0_init : GoodIn wsX5_init (wsX0_init) := ggX5_init_X0_init
set_option maxRecDepth 20000 in
theorem ggX5_init_X1_init : GoodIn wsX5_init wsX1_init := goodIn_r _ [52, 53, 2, 3, 35, 54, 55, 56, 57, 58, 59, 60, 84, 85, 86, 87, 88, 89, 90, 91] (by decide +kernel) (by decide +kernel)
set_option maxRecDepth 20000 in
theorem gX5_init_X1_init : GoodIn wsX5_init (wsX1_init) := ggX5_init_X1_init
set_option maxRecDepth 20000 in
theorem ggX5_init_X3_init : GoodIn wsX5_init wsX3_init := goodIn_r _ [63, 64, 2, 3, 65, 13, 66, 92, 93, 94, 95] (by decide +kernel) (by decide +kernel)
set_option maxRecDepth 20000 in
theorem gX5_init_X3_init : GoodIn wsX5_init (wsX3_init) := ggX5_init_X3_init
theorem dX5_init_0 : decode cX5_init 0 = .ok (.aload_n 0, 1) := by decide +kernel
theorem dX5_init_1 : decode cX5_init 1 = .ok (.invokespecial 3, 3) := by decide +kernel
theorem dX5_init_4 : decode cX5_init 4 = .ok (.aload_n 0, 1) := by decide +kernel
theorem dX5_init_5 : decode cX5_init 5 = .ok (.new 9, 3) := by decide +kernel
theorem dX5_init_8 : decode cX5_init 8 = .ok (.dup, 1) := by decide +kernel
theorem dX5_init_9 : decode cX5_init 9 = .ok (.invokespecial 11, 3) := by decide +kernel
theorem dX5_init_12 : decode cX5_init 12 = .ok (.putfield 12, 3) := by decide +kernel
theorem dX5_init_15 : decode cX5_init 15 = .ok (.aload_n 0, 1) := by decide +kernel
theorem dX5_init_16 : decode cX5_init 16 = .ok (.new 9, 3) := by decide +kernel
theorem dX5_init_19 : decode cX5_init 19 = .ok (.dup, 1) := by decide +kernel
theorem dX5_init_20 : decode cX5_init 20 = .ok (.invokespecial 11, 3) := by decide +kernel
theorem dX5_init_23 : decode cX5_init 23 = .ok (.putfield 16, 3) := by decide +kernel
theorem dX5_init_26 : decode cX5_init 26 = .ok (.aload_n 0, 1) := by decide +kernel
theorem dX5_init_27 : decode cX5_init 27 = .ok (.new 19, 3) := by decide +kernel
theorem dX5_init_30 : decode cX5_init 30 = .ok (.dup, 1) := by decide +kernel
theorem dX5_init_31 : decode cX5_init 31 = .ok (.invokespecial 21, 3) := by decide +kernel
theorem dX5_init_34 : decode cX5_init 34 = .ok (.putfield 22, 3) := by decide +kernel
theorem dX5_init_37 : decode cX5_init 37 = .ok (.aload_n 0, 1) := by decide +kernel
theorem dX5_init_38 : decode cX5_init 38 = .ok (.bipush 7, 2) := by decide +kernel
theorem dX5_init_40 : decode cX5_init 40 = .ok (.newarray .long, 2) := by decide +kernel
theorem dX5_init_42 : decode cX5_init 42 = .ok (.putfield 26, 3) := by decide +kernel
theorem dX5_init_45 : decode cX5_init 45 = .ok (.aload_n 0, 1) := by decide +kernel
theorem dX5_init_46 : decode cX5_init 46 = .ok (.new 30, 3) := by decide +kernel
theorem dX5_init_49 : decode cX5_init 49 = .ok (.dup, 1) := by decide +kernel
theorem dX5_init_50 : decode cX5_init 50 = .ok (.invokespecial 32, 3) := by decide +kernel
theorem dX5_init_53 : decode cX5_init 53 = .ok (.putfield 33, 3) := by decide +kernel
theorem dX5_init_56 : decode cX5_init 56 = .ok (.aload_n 0, 1) := by decide +kernel
theorem dX5_init_57 : decode cX5_init 57 = .ok (.new 37, 3) := by decide +kernel
theorem dX5_init_60 : decode cX5_init 60 = .ok (.dup, 1) := by decide +kernel
theorem dX5_init_61 : decode cX5_init 61 = .ok (.invokespecial 39, 3) := by decide +kernel
theorem dX5_init_64 : decode cX5_init 64 = .ok (.putfield 40, 3) := by decide +kernel
theorem dX5_init_67 : decode cX5_init 67 = .ok (.aload_n 0, 1) := by decide +kernel
theorem dX5_init_68 : decode cX5_init 68 = .ok (.iconst 4, 1) := by decide +kernel
theorem dX5_init_69 : decode cX5_init 69 = .ok (.anewarray 44, 3) := by decide +kernel
theorem dX5_init_72 : decode cX5_init 72 = .ok (.putfield 46, 3) := by decide +kernel
theorem dX5_init_75 : decode cX5_init 75 = .ok (.iconst 0, 1) := by decide +kernel
theorem dX5_init_76 : decode cX5_init 76 = .ok (.istore_n 1, 1) := by decide +kernel
theorem dX5_init_77 : decode cX5_init 77 = .ok (.iload_n 1, 1) := by decide +kernel
theorem dX5_init_78 : decode cX5_init 78 = .ok (.iconst 4, 1) := by decide +kernel
theorem dX5_init_79 : decode cX5_init 79 = .ok (.if_icmp .ge 22, 3) := by decide +kernel
theorem dX5_init_82 : decode cX5_init 82 = .ok (.aload_n 0, 1) := by decide +kernel
theorem dX5_init_83 : decode cX5_init 83 = .ok (.getfield 46, 3) := by decide +kernel
theorem dX5_init_86 : decode cX5_init 86 = .ok (.iload_n 1, 1) := by decide +kernel
theorem dX5_init_87 : decode cX5_init 87 = .ok (.new 44, 3) := by decide +kernel
theorem dX5_init_90 : decode cX5_init 90 = .ok (.dup, 1) := by decide +kernel
theorem dX5_init_91 : decode cX5_init 91 = .ok (.invokespecial 50, 3) := by decide +kernel
theorem dX5_init_94 : decode cX5_init 94 = .ok (.aastore, 1) := by decide +kernel
theorem dX5_init_95 : decode cX5_init 95 = .ok (.iinc 1 1, 3) := by decide +kernel
theorem dX5_init_98 : decode cX5_init 98 = .ok (.goto (-21), 3) := by decide +kernel
theorem dX5_init_101 : decode cX5_init 101 = .ok (.aload_n 0, 1) := by decide +kernel
theorem dX5_init_102 : decode cX5_init 102 = .ok (.iconst 0, 1) := by decide +kernel
theorem dX5_init_103 : decode cX5_init 103 = .ok (.putfield 51, 3) := by decide +kernel
theorem dX5_init_106 : decode cX5_init 106 = .ok (.aload_n 0, 1) := by decide +kernel
theorem dX5_init_107 : decode cX5_init 107 = .ok (.iconst 0, 1) := by decide +kernel
theorem dX5_init_108 : decode cX5_init 108 = .ok (.putfield 55, 3) := by decide +kernel
theorem dX5_init_111 : decode cX5_init 111 = .ok (.return_, 1) := by decide +kernel
theorem dX6_init_0 : decode cX6_init 0 = .ok (.aload_n 0, 1) := by decide +kernel
theorem dX6_init_1 : decode cX6_init 1 = .ok (.invokespecial 1, 3) := by decide +kernel
theorem dX6_init_4 : decode cX6_init 4 = .ok (.aload_n 0, 1) := by decide +kernel
theorem dX6_init_5 : decode cX6_init 5 = .ok (.iconst 4, 1) := by decide +kernel
theorem dX6_init_6 : decode cX6_init 6 = .ok (.putfield 7, 3) := by decide +kernel
theorem dX6_init_9 : decode cX6_init 9 = .ok (.aload_n 0, 1) := by decide +kernel
theorem dX6_init_10 : decode cX6_init 10 = .ok (.bipush 56, 2) := by decide +kernel
theorem dX6_init_12 : decode cX6_init 12 = .ok (.newarray .int, 2) := by decide +kernel
theorem dX6_init_14 : decode cX6_init 14 = .ok (.putfield 13, 3) := by decide +kernel
theorem dX6_init_17 : decode cX6_init 17 = .ok (.aload_n 0, 1) := by decide +kernel
theorem dX6_init_18 : decode cX6_init 18 = .ok (.sipush 448, 3) := by decide +kernel
theorem dX6_init_21 : decode cX6_init 21 = .ok (.newarray .boolean, 2) := by decide +kernel
theorem dX6_init_23 : decode cX6_init 23 = .ok (.putfield 17, 3) := by decide +kernel
theorem dX6_init_26 : decode cX6_init 26 = .ok (.aload_n 0, 1) := by decide +kernel
theorem dX6_init_27 : decode cX6_init 27 = .ok (.sipush 448, 3) := by decide +kernel
theorem dX6_init_30 : decode cX6_init 30 = .ok (.newarray .boolean, 2) := by decide +kernel
theorem dX6_init_32 : decode cX6_init 32 = .ok (.putfield 21, 3) := by decide +kernel
theorem dX6_init_35 : decode cX6_init 35 = .ok (.aload_n 0, 1) := by decide +kernel
theorem dX6_init_36 : decode cX6_init 36 = .ok (.sipush 448, 3) := by decide +kernel
theorem dX6_init_39 : decode cX6_init 39 = .ok (.newarray .boolean, 2) := by decide +kernel
theorem dX6_init_41 : decode cX6_init 41 = .ok (.putfield 24, 3) := by decide +kernel
theorem dX6_init_44 : decode cX6_init 44 = .ok (.aload_n 0, 1) := by decide +kernel
theorem dX6_init_45 : decode cX6_init 45 = .ok (.bipush 60, 2) := by decide +kernel
theorem dX6_init_47 : decode cX6_init 47 = .ok (.newarray .int, 2) := by decide +kernel
theorem dX6_init_49 : decode cX6_init 49 = .ok (.putfield 27, 3) := by decide +kernel
theorem dX6_init_52 : decode cX6_init 52 = .ok (.aload_n 0, 1) := by decide +kernel
theorem dX6_init_53 : decode cX6_init 53 = .ok (.sipush 448, 3) := by decide +kernel
theorem dX6_init_56 : decode cX6_init 56 = .ok (.newarray .int, 2) := by decide +kernel
theorem dX6_init_58 : decode cX6_init 58 = .ok (.putfield 30, 3) := by decide +kernel
theorem dX6_init_61 : decode cX6_init 61 = .ok (.aload_n 0, 1) := by decide +kernel
theorem dX6_init_62 : decode cX6_init 62 = .ok (.sipush 448, 3) := by decide +kernel
theorem dX6_init_65 : decode cX6_init 65 = .ok (.newarray .int, 2) := by decide +kernel
theorem dX6_init_67 : decode cX6_init 67 = .ok (.putfield 33, 3) := by decide +kernel
theorem dX6_init_70 : decode cX6_init 70 = .ok (.aload_n 0, 1) := by decide +kernel
theorem dX6_init_71 : decode cX6_init 71 = .ok (.sipush 448, 3) := by decide +kernel
theorem dX6_init_74 : decode cX6_init 74 = .ok (.newarray .boolean, 2) := by decide +kernel
theorem dX6_init_76 : decode cX6_init 76 = .ok (.putfield 36, 3) := by decide +kernel
theorem dX6_init_79 : decode cX6_init 79 = .ok (.aload_n 0, 1) := by decide +kernel
theorem dX6_init_80 : decode cX6_init 80 = .ok (.bipush 60, 2) := by decide +kernel
theorem dX6_init_82 : decode cX6_init 82 = .ok (.newarray .int, 2) := by decide +kernel
theorem dX6_init_84 : decode cX6_init 84 = .ok (.putfield 39, 3) := by decide +kernel
theorem dX6_init_87 : decode cX6_init 87 = .ok (.aload_n 0, 1) := by decide +kernel
theorem dX6_init_88 : decode cX6_init 88 = .ok (.iconst 4, 1) := by decide +kernel
theorem dX6_init_89 : decode cX6_init 89 = .ok (.newarray .int, 2) := by decide +kernel
theorem dX6_init_91 : decode cX6_init 91 = .ok (.putfield 42, 3) := by decide +kernel
theorem dX6_init_94 : decode cX6_init 94 = .ok (.aload_n 0, 1) := by decide +kernel
theorem dX6_init_95 : decode cX6_init 95 = .ok (.iconst 4, 1) := by decide +kernel
theorem dX6_init_96 : decode cX6_init 96 = .ok (.newarray .int, 2) := by decide +kernel
theorem dX6_init_98 : decode cX6_init 98 = .ok (.putfield 45, 3) := by decide +kernel
theorem dX6_init_101 : decode cX6_init 101 = .ok (.aload_n 0, 1) := by decide +kernel
theorem dX6_init_102 : decode cX6_init 102 = .ok (.sipush 256, 3) := by decide +kernel
theorem dX6_init_105 : decode cX6_init 105 = .ok (.newarray .long, 2) := by decide +kernel
theorem dX6_init_107 : decode cX6_init 107 = .ok (.putfield 48, 3) := by decide +kernel
theorem dX6_init_110 : decode cX6_init 110 = .ok (.aload_n 0, 1) := by decide +kernel
theorem dX6_init_111 : decode cX6_init 111 = .ok (.bipush 64, 2) := by decide +kernel
theorem dX6_init_113 : decode cX6_init 113 = .ok (.newarray .long, 2) := by decide +kernel
theorem dX6_init_115 : decode cX6_init 115 = .ok (.putfield 52, 3) := by decide +kernel
theorem dX6_init_118 : decode cX6_init 118 = .ok (.iconst 0, 1) := by decide +kernel
theorem dX6_init_119 : decode cX6_init 119 = .ok (.istore_n 1, 1) := by decide +kernel
theorem dX6_init_120 : decode cX6_init 120 = .ok (.iload_n 1, 1) := by decide +kernel
theorem dX6_init_121 : decode cX6_init 121 = .ok (.iconst 4, 1) := by decide +kernel
theorem dX6_init_122 : decode cX6_init 122 = .ok (.if_icmp .ge 16, 3) := by decide +kernel
theorem dX6_init_125 : decode cX6_init 125 = .ok (.aload_n 0, 1) := by decide +kernel
theorem dX6_init_126 : decode cX6_init 126 = .ok (.getfield 42, 3) := by decide +kernel
theorem dX6_init_129 : decode cX6_init 129 = .ok (.iload_n 1, 1) := by decide +kernel
theorem dX6_init_130 : decode cX6_init 130 = .ok (.iconst (-1), 1) := by decide +kernel
theorem dX6_init_131 : decode cX6_init 131 = .ok (.iastore, 1) := by decide +kernel
theorem dX6_init_132 : decode cX6_init 132 = .ok (.iinc 1 1, 3) := by decide +kernel
theorem dX6_init_135 : decode cX6_init 135 = .ok (.goto (-15), 3) := by decide +kernel
theorem dX6_init_138 : decode cX6_init 138 = .ok (.return_, 1) := by decide +kernel
theorem dJ9_max_7cf53_0 : decode cJ9_max_7cf53 0 = .ok (.iload_n 0, 1) := by decide +kernel
theorem dJ9_max_7cf53_1 : decode cJ9_max_7cf53 1 = .ok (.iload_n 1, 1) := by decide +kernel
theorem dJ9_max_7cf53_2 : decode cJ9_max_7cf53 2 = .ok (.if_icmp .lt 7, 3) := by decide +kernel
theorem dJ9_max_7cf53_5 : decode cJ9_max_7cf53 5 = .ok (.iload_n 0, 1) := by decide +kernel
theorem dJ9_max_7cf53_6 : decode cJ9_max_7cf53 6 = .ok (.goto 4, 3) := by decide +kernel
theorem dJ9_max_7cf53_9 : decode cJ9_max_7cf53 9 = .ok (.iload_n 1, 1) := by decide +kernel
theorem dJ9_max_7cf53_10 : decode cJ9_max_7cf53 10 = .ok (.ireturn, 1) := by decide +kernel
set_option maxRecDepth 20000 in
theorem ggL_law_X5_init : GoodIn wsL_law wsX5_init := goodIn_r _ [8, 9, 10, 11, 12, 13, 14, 15, 16, 17, 18, 19, 20, 21, 22, 23, 24, 25, 26, 27, 28, 29, 30, 31, 32, 33, 34, 35, 36, 37, 38, 39, 40, 41, 42, 43, 44, 45, 46, 47, 48, 49, 50, 51, 52, 53, 54, 55, 56, 57, 58, 59, 60, 61, 62, 63, 64, 65, 66, 67, 68, 69, 70, 71, 72, 73, 74, 844, 845, 846, 817, 818, 819, 820, 821, 822, 823, 824, 825, 847, 848, 849, 850, 851, 852, 853, 854, 855, 856, 857, 858, 859, 860, 861, 862, 863] (by decide +kernel) (by decide +kernel)
set_option maxRecDepth 20000 in
theorem gL_law_X5_init : GoodIn wsL_law (wsX5_init) := ggL_law_X5_init
set_option maxRecDepth 20000 in
theorem ggL_law_X6_init : GoodIn wsL_law wsX6_init := goodIn_r _ [77, 78, 10, 11, 79, 43, 80, 66, 81, 82, 83, 84, 85, 86, 87, 88, 89, 90, 21, 91, 92, 826, 827, 828, 829, 830, 831, 832, 833, 834, 835, 836, 837, 838, 839, 840, 841, 842, 843] (by decide +kernel) (by decide +kernel)
set_option maxRecDepth 20000 in
theorem gL_law_X6_init : GoodIn wsL_law (wsX6_init) := ggL_law_X6_init
set_option maxRecDepth 20000 in
theorem ggL_law_X5_blocks : GoodIn wsL_law wsX5_blocks := goodIn_r _ [96, 15, 20, 22, 26, 97, 98, 99, 14, 100, 41, 42, 44, 101, 102, 103, 104, 105, 106, 107, 108, 109, 110, 19, 111, 49, 50, 112, 113, 114, 115, 116, 117, 25, 118, 56, 57, 817, 818, 819, 820, 821, 822, 823, 824, 825, 844, 845, 846, 847, 848, 849, 850, 851] (by decide +kernel) (by decide +kernel)
set_option maxRecDepth 20000 in
theorem gL_law_X5_blocks : GoodIn wsL_law (wsV RL 13 RX5 yX5_blocks wsX5_blocks) := goodIn_app (goodIn_of _ (by decide +kernel)) ggL_law_X5_blocks
set_option maxRecDepth 20000 in
theorem ggL_law_X6_blocks : GoodIn wsL_law wsX6_blocks := goodIn_r _ [122, 79, 82, 83, 80, 123, 124, 125, 5, 126, 127, 128, 129, 130, 81, 131, 132, 133, 134, 135, 136, 137, 138, 139, 140, 141, 142, 826, 827, 828, 829, 830, 831, 832, 833, 834, 835, 836, 837, 838, 839, 840, 841, 842, 843] (by decide +kernel) (by decide +kernel)
set_option maxRecDepth 20000 in
theorem gL_law_X6_blocks : GoodIn wsL_law (wsV RL 17 RX6 yX6_blocks wsX6_blocks) := goodIn_app (goodIn_of _ (by decide +kernel)) ggL_law_X6_blocks
set_option maxRecDepth 20000 in
theorem ggL_law_X5_data : GoodIn wsL_law wsX5_data := goodIn_r _ [146, 20, 15, 147, 148, 149, 2, 150, 151, 152, 153, 154, 155, 156, 157, 158, 159, 160, 19, 161, 49, 50, 162, 163, 164, 165, 166, 167, 168, 169, 170, 171, 172, 173, 174, 175, 176, 177, 178, 179, 180, 181, 182, 817, 818, 819, 820, 821, 822, 823, 824, 825, 847, 848, 844, 845, 846] (by decide +kernel) (by decide +kernel)
set_option maxRecDepth 20000 in
theorem gL_law_X5_data : GoodIn wsL_law (wsV RL 18 RX5 yX5_data wsX5_data) := goodIn_app (goodIn_of _ (by decide +kernel)) ggL_law_X5_data
set_option maxRecDepth 20000 in
theorem ggL_law_X6_data : GoodIn wsL_law wsX6_data := goodIn_r _ [186, 80, 187, 188, 189, 5, 190, 191, 192, 193, 194, 79, 124, 125, 126, 127, 128, 129, 130, 81, 131, 132, 133, 134, 135, 136, 137, 138, 139, 140, 141, 142, 826, 827, 828, 829, 830, 831, 832, 833, 834, 835, 836, 837, 838, 839, 840, 841, 842, 843] (by decide +kernel) (by decide +kernel)
set_option maxRecDepth 20000 in
theorem gL_law_X6_data : GoodIn wsL_law (wsV RL 22 RX6 yX6_data wsX6_data) := goodIn_app (goodIn_of _ (by decide +kernel)) ggL_law_X6_data
set_option maxRecDepth 20000 in
theorem ggL_law_X5_flip : GoodIn wsL_law wsX5_flip := goodIn_r _ [198, 15, 199, 200, 201, 2, 202, 151, 152, 153, 154, 155, 156, 157, 203, 204, 205, 206, 207, 208, 209, 22, 210, 211, 212, 14, 213, 42, 44, 41, 214, 215, 216, 217, 218, 177, 178, 179, 180, 181, 182, 817, 818, 819, 820, 821, 822, 823, 824, 825, 844, 845, 846] (by decide +kernel) (by decide +kernel)
set_option maxRecDepth 20000 in
theorem gL_law_X5_flip : GoodIn wsL_law (wsV RL 23 RX5 yX5_flip wsX5_flip) := goodIn_app (goodIn_of _ (by decide +kernel)) ggL_law_X5_flip
set_option maxRecDepth 20000 in
theorem ggL_law_X6_flip : GoodIn wsL_law wsX6_flip := goodIn_r _ [222, 223, 224, 225, 5, 226, 187, 188, 189, 190, 191, 192, 193, 194, 79, 124, 125, 126, 227, 228, 229, 230, 82, 83, 231, 232, 233, 234, 826, 827, 828, 829, 830, 831, 832, 833, 834, 835, 836, 837, 838, 839, 840, 841, 842, 843] (by decide +kernel) (by decide +kernel)
set_option maxRecDepth 20000 in
theorem gL_law_X6_flip : GoodIn wsL_law (wsV RL 26 RX6 yX6_flip wsX6_flip) := goodIn_app (goodIn_of _ (by decide +kernel)) ggL_law_X6_flip
set_option maxRecDepth 20000 in
theorem ggL_law_X5_lots : GoodIn wsL_law wsX5_lots := goodIn_r _ [238, 15, 239, 203, 204, 2, 205, 206, 207, 208, 209, 22, 210, 211, 212, 14, 213, 42, 44, 41, 817, 818, 819, 820, 821, 822, 823, 824, 825, 844, 845, 846] (by decide +kernel) (by decide +kernel)
set_option maxRecDepth 20000 in
theorem gL_law_X5_lots : GoodIn wsL_law (wsV RL 27 RX5 yX5_lots wsX5_lots) := goodIn_app (goodIn_of _ (by decide +kernel)) ggL_law_X5_lots
set_option maxRecDepth 20000 in
theorem ggL_law_X6_lots : GoodIn wsL_law wsX6_lots := goodIn_r _ [243, 79, 244, 124, 125, 5, 126, 227, 228, 229, 230, 82, 83, 826, 827, 828, 829, 830, 831, 832, 833, 834, 835, 836, 837, 838, 839, 840, 841, 842, 843] (by decide +kernel) (by decide +kernel)
set_option maxRecDepth 20000 in
theorem gL_law_X6_lots : GoodIn wsL_law (wsV RL 31 RX6 yX6_lots wsX6_lots) := goodIn_app (goodIn_of _ (by decide +kernel)) ggL_law_X6_lots
set_option maxRecDepth 20000 in
theorem ggL_law_X5_read : GoodIn wsL_law wsX5_read := goodIn_r _ [248, 32, 151, 152, 153, 2, 154, 15, 249, 250, 251, 252, 253, 254, 255, 36, 206, 207, 208, 209, 22, 210, 211, 212, 14, 213, 42, 44, 41, 817, 818, 819, 820, 821, 822, 823, 824, 825, 860, 861, 862, 863, 844, 845, 846] (by decide +kernel) (by decide +kernel)
set_option maxRecDepth 20000 in
theorem gL_law_X5_read : GoodIn wsL_law (wsV RL 32 RX5 yX5_read wsX5_read) := goodIn_app (goodIn_of _ (by decide +kernel)) ggL_law_X5_read
set_option maxRecDepth 20000 in
theorem ggL_law_X6_read : GoodIn wsL_law wsX6_read := goodIn_r _ [259, 89, 90, 91, 191, 192, 193, 5, 194, 79, 124, 125, 126, 260, 261, 262, 263, 264, 265, 266, 267, 227, 228, 229, 230, 82, 83, 826, 827, 828, 829, 830, 831, 832, 833, 834, 835, 836, 837, 838, 839, 840, 841, 842, 843] (by decide +kernel) (by decide +kernel)
set_option maxRecDepth 20000 in
theorem gL_law_X6_read : GoodIn wsL_law (wsV RL 35 RX6 yX6_read wsX6_read) := goodIn_app (goodIn_of _ (by decide +kernel)) ggL_law_X6_read
set_option maxRecDepth 20000 in
theorem ggL_law_X5_rule : GoodIn wsL_law wsX5_rule := goodIn_r _ [271, 35, 272, 273, 2, 274, 817, 818, 819, 820, 821, 822, 823, 824, 825] (by decide +kernel) (by decide +kernel)
set_option maxRecDepth 20000 in
theorem gL_law_X5_rule : GoodIn wsL_law (wsV RL 36 RX5 yX5_rule wsX5_rule) := goodIn_app (goodIn_of _ (by decide +kernel)) ggL_law_X5_rule
set_option maxRecDepth 20000 in
theorem ggL_law_X6_rule : GoodIn wsL_law wsX6_rule := goodIn_r _ [278, 279, 124, 125, 5, 126, 826, 827, 828, 829, 830, 831, 832, 833, 834, 835, 836, 837, 838, 839, 840, 841, 842, 843] (by decide +kernel) (by decide +kernel)
set_option maxRecDepth 20000 in
theorem gL_law_X6_rule : GoodIn wsL_law (wsV RL 39 RX6 yX6_rule wsX6_rule) := goodIn_app (goodIn_of _ (by decide +kernel)) ggL_law_X6_rule
set_option maxRecDepth 20000 in
theorem ggL_law_X5_bit : GoodIn wsL_law wsX5_bit := goodIn_r _ [283, 20, 15, 22, 26, 199, 200, 201, 2, 202, 151, 152, 153, 154, 155, 156, 157, 284, 285, 286, 287, 288, 167, 168, 203, 204, 205, 289, 290, 291, 25, 292, 57, 293, 294, 295, 296, 55, 56, 817, 818, 819, 820, 821, 822, 823, 824, 825, 847, 848, 844, 845, 846, 849, 850, 851] (by decide +kernel) (by decide +kernel)
set_option maxRecDepth 20000 in
theorem gL_law_X5_bit : GoodIn wsL_law (wsV RL 40 RX5 yX5_bit wsX5_bit) := goodIn_app (goodIn_of _ (by decide +kernel)) ggL_law_X5_bit
set_option maxRecDepth 20000 in
theorem ggL_law_X6_bit : GoodIn wsL_law wsX6_bit := goodIn_r _ [300, 223, 224, 225, 5, 226, 187, 188, 189, 190, 191, 192, 193, 194, 79, 124, 125, 126, 301, 302, 303, 304, 81, 82, 83, 305, 306, 307, 308, 123, 84, 826, 827, 828, 829, 830, 831, 832, 833, 834, 835, 836, 837, 838, 839, 840, 841, 842, 843] (by decide +kernel) (by decide +kernel)
set_option maxRecDepth 20000 in
theorem gL_law_X6_bit : GoodIn wsL_law (wsV RL 44 RX6 yX6_bit wsX6_bit) := goodIn_app (goodIn_of _ (by decide +kernel)) ggL_law_X6_bit
set_option maxRecDepth 20000 in
theorem ggL_law_X5_row : GoodIn wsL_law wsX5_row := goodIn_r _ [312, 20, 147, 148, 149, 2, 150, 151, 152, 153, 154, 15, 155, 156, 157, 284, 285, 286, 287, 313, 314, 315, 817, 818, 819, 820, 821, 822, 823, 824, 825, 847, 848, 844, 845, 846] (by decide +kernel) (by decide +kernel)
set_option maxRecDepth 20000 in
theorem gL_law_X5_row : GoodIn wsL_law (wsV RL 45 RX5 yX5_row wsX5_row) := goodIn_app (goodIn_of _ (by decide +kernel)) ggL_law_X5_row
set_option maxRecDepth 20000 in
theorem ggL_law_X6_row : GoodIn wsL_law wsX6_row := goodIn_r _ [319, 187, 188, 189, 5, 190, 191, 192, 193, 194, 79, 124, 125, 126, 320, 321, 322, 323, 80, 301, 302, 303, 304, 81, 82, 83, 305, 306, 307, 308, 123, 84, 826, 827, 828, 829, 830, 831, 832, 833, 834, 835, 836, 837, 838, 839, 840, 841, 842, 843] (by decide +kernel) (by decide +kernel)
set_option maxRecDepth 20000 in
theorem gL_law_X6_row : GoodIn wsL_law (wsV RL 48 RX6 yX6_row wsX6_row) := goodIn_app (goodIn_of _ (by decide +kernel)) ggL_law_X6_row
set_option maxRecDepth 20000 in
theorem ggL_law_X5_block : GoodIn wsL_law wsX5_block := goodIn_r _ [327, 151, 152, 153, 2, 154, 15, 284, 285, 286, 287, 20, 817, 818, 819, 820, 821, 822, 823, 824, 825, 844, 845, 846, 847, 848] (by decide +kernel) (by decide +kernel)
set_option maxRecDepth 20000 in
theorem gL_law_X5_block : GoodIn wsL_law (wsV RL 49 RX5 yX5_block wsX5_block) := goodIn_app (goodIn_of _ (by decide +kernel)) ggL_law_X5_block
set_option maxRecDepth 20000 in
theorem ggL_law_X6_block : GoodIn wsL_law wsX6_block := goodIn_r _ [331, 191, 192, 193, 5, 194, 79, 124, 125, 126, 332, 333, 334, 335, 301, 302, 303, 304, 81, 82, 83, 305, 306, 307, 308, 123, 84, 826, 827, 828, 829, 830, 831, 832, 833, 834, 835, 836, 837, 838, 839, 840, 841, 842, 843] (by decide +kernel) (by decide +kernel)
set_option maxRecDepth 20000 in
theorem gL_law_X6_block : GoodIn wsL_law (wsV RL 53 RX6 yX6_block wsX6_block) := goodIn_app (goodIn_of _ (by decide +kernel)) ggL_law_X6_block
set_option maxRecDepth 20000 in
theorem ggL_law_X5_word : GoodIn wsL_law wsX5_word := goodIn_r _ [339, 15, 35, 340, 341, 342, 343, 147, 148, 149, 2, 150, 151, 152, 153, 154, 155, 156, 157, 344, 345, 346, 14, 347, 44, 348, 349, 350, 351, 352, 353, 354, 355, 356, 357, 358, 359, 360, 361, 362, 363, 364, 365, 366, 367, 368, 42, 314, 315, 369, 170, 171, 172, 173, 174, 175, 370, 371, 372, 373, 374, 218, 177, 178, 179, 180, 181, 182, 375, 376, 377, 378, 41, 817, 818, 819, 820, 821, 822, 823, 824, 825, 844, 845, 846] (by decide +kernel) (by decide +kernel)
set_option maxRecDepth 20000 in
theorem gL_law_X5_word : GoodIn wsL_law (wsV RL 54 RX5 yX5_word wsX5_word) := goodIn_app (goodIn_of _ (by decide +kernel)) ggL_law_X5_word
set_option maxRecDepth 20000 in
theorem ggL_law_X6_word : GoodIn wsL_law wsX6_word := goodIn_r _ [382, 187, 188, 189, 5, 190, 191, 192, 193, 194, 79, 124, 125, 126, 383, 384, 385, 386, 82, 387, 388, 389, 390, 131, 132, 133, 134, 135, 136, 137, 138, 139, 391, 392, 393, 394, 140, 141, 142, 395, 396, 397, 398, 399, 400, 401, 402, 279, 403, 404, 405, 406, 407, 408, 409, 410, 411, 412, 413, 826, 827, 828, 829, 830, 831, 832, 833, 834, 835, 836, 837, 838, 839, 840, 841, 842, 843] (by decide +kernel) (by decide +kernel)
set_option maxRecDepth 20000 in
theorem gL_law_X6_word : GoodIn wsL_law (wsV RL 57 RX6 yX6_word wsX6_word) := goodIn_app (goodIn_of _ (by decide +kernel)) ggL_law_X6_word
set_option maxRecDepth 20000 in
theorem ggL_law_X5_mend : GoodIn wsL_law wsX5_mend := goodIn_r _ [417, 15, 35, 26, 147, 148, 149, 2, 150, 151, 152, 153, 154, 155, 156, 157, 418, 419, 420, 14, 421, 360, 349, 350, 351, 44, 356, 357, 358, 359, 375, 376, 377, 378, 41, 422, 423, 424, 210, 211, 212, 213, 42, 425, 426, 427, 25, 428, 55, 56, 57, 817, 818, 819, 820, 821, 822, 823, 824, 825, 844, 845, 846, 849, 850, 851] (by decide +kernel) (by decide +kernel)
set_option maxRecDepth 20000 in
theorem gL_law_X5_mend : GoodIn wsL_law (wsV RL 58 RX5 yX5_mend wsX5_mend) := goodIn_app (goodIn_of _ (by decide +kernel)) ggL_law_X5_mend
set_option maxRecDepth 20000 in
theorem ggL_law_X6_mend : GoodIn wsL_law wsX6_mend := goodIn_r _ [432, 187, 188, 189, 5, 190, 191, 192, 193, 194, 79, 124, 125, 126, 433, 434, 435, 436, 82, 395, 396, 397, 398, 391, 392, 393, 394, 140, 141, 142, 134, 135, 136, 387, 388, 389, 390, 131, 132, 133, 137, 138, 139, 399, 400, 401, 402, 279, 403, 404, 405, 406, 407, 408, 409, 410, 411, 412, 413, 437, 438, 439, 440, 123, 84, 826, 827, 828, 829, 830, 831, 832, 833, 834, 835, 836, 837, 838, 839, 840, 841, 842, 843] (by decide +kernel) (by decide +kernel)
set_option maxRecDepth 20000 in
theorem gL_law_X6_mend : GoodIn wsL_law (wsV RL 61 RX6 yX6_mend wsX6_mend) := goodIn_app (goodIn_of _ (by decide +kernel)) ggL_law_X6_mend
set_option maxRecDepth 20000 in
theorem ggL_law_X5_turn : GoodIn wsL_law wsX5_turn := goodIn_r _ [444, 15, 35, 26, 151, 152, 153, 2, 154, 445, 446, 447, 14, 448, 449, 376, 377, 378, 44, 41, 423, 424, 450, 211, 212, 213, 42, 451, 426, 427, 25, 428, 55, 56, 57, 817, 818, 819, 820, 821, 822, 823, 824, 825, 844, 845, 846, 849, 850, 851] (by decide +kernel) (by decide +kernel)
set_option maxRecDepth 20000 in
theorem gL_law_X5_turn : GoodIn wsL_law (wsV RL 62 RX5 yX5_turn wsX5_turn) := goodIn_app (goodIn_of _ (by decide +kernel)) ggL_law_X5_turn
set_option maxRecDepth 20000 in
theorem ggL_law_X6_turn : GoodIn wsL_law wsX6_turn := goodIn_r _ [455, 191, 192, 193, 5, 194, 79, 124, 125, 126, 456, 457, 458, 459, 433, 434, 435, 436, 82, 395, 396, 397, 398, 391, 392, 393, 394, 140, 141, 142, 134, 135, 136, 387, 388, 389, 390, 131, 132, 133, 137, 138, 139, 399, 400, 401, 402, 279, 403, 404, 405, 406, 407, 408, 409, 410, 411, 412, 413, 437, 438, 439, 440, 123, 84, 826, 827, 828, 829, 830, 831, 832, 833, 834, 835, 836, 837, 838, 839, 840, 841, 842, 843] (by decide +kernel) (by decide +kernel)
set_option maxRecDepth 20000 in
theorem gL_law_X6_turn : GoodIn wsL_law (wsV RL 65 RX6 yX6_turn wsX6_turn) := goodIn_app (goodIn_of _ (by decide +kernel)) ggL_law_X6_turn
set_option maxRecDepth 20000 in
theorem ggL_law_X5_window : GoodIn wsL_law wsX5_window := goodIn_r _ [463, 15, 35, 26, 151, 152, 153, 2, 154, 464, 465, 466, 467, 468, 469, 14, 470, 471, 446, 447, 448, 449, 376, 377, 378, 44, 41, 423, 424, 450, 211, 212, 213, 42, 451, 426, 427, 25, 428, 55, 56, 57, 817, 818, 819, 820, 821, 822, 823, 824, 825, 844, 845, 846, 849, 850, 851] (by decide +kernel) (by decide +kernel)
set_option maxRecDepth 20000 in
theorem gL_law_X5_window : GoodIn wsL_law (wsV RL 66 RX5 yX5_window wsX5_window) := goodIn_app (goodIn_of _ (by decide +kernel)) ggL_law_X5_window
set_option maxRecDepth 20000 in
theorem ggL_law_X6_window : GoodIn wsL_law wsX6_window := goodIn_r _ [475, 79, 191, 192, 193, 5, 194, 124, 125, 126, 476, 477, 478, 479, 456, 457, 458, 459, 433, 434, 435, 436, 82, 395, 396, 397, 398, 391, 392, 393, 394, 140, 141, 142, 134, 135, 136, 387, 388, 389, 390, 131, 132, 133, 137, 138, 139, 399, 400, 401, 402, 279, 403, 404, 405, 406, 407, 408, 409, 410, 411, 412, 413, 437, 438, 439, 440, 123, 84, 826, 827, 828, 829, 830, 831, 832, 833, 834, 835, 836, 837, 838, 839, 840, 841, 842, 843] (by decide +kernel) (by decide +kernel)
set_option maxRecDepth 20000 in
theorem gL_law_X6_window : GoodIn wsL_law (wsV RL 69 RX6 yX6_window wsX6_window) := goodIn_app (goodIn_of _ (by decide +kernel)) ggL_law_X6_window
set_option maxRecDepth 20000 in
theorem ggL_law_X5_slide : GoodIn wsL_law wsX5_slide := goodIn_r _ [483, 15, 35, 26, 484, 485, 486, 2, 487, 464, 465, 466, 488, 489, 490, 14, 491, 41, 492, 468, 469, 470, 471, 446, 447, 448, 449, 376, 377, 378, 44, 423, 424, 450, 211, 212, 213, 42, 451, 426, 427, 25, 428, 55, 56, 57, 493, 494, 495, 496, 497, 498, 499, 500, 356, 357, 358, 359, 817, 818, 819, 820, 821, 822, 823, 824, 825, 844, 845, 846, 849, 850, 851] (by decide +kernel) (by decide +kernel)
set_option maxRecDepth 20000 in
theorem gL_law_X5_slide : GoodIn wsL_law (wsV RL 70 RX5 yX5_slide wsX5_slide) := goodIn_app (goodIn_of _ (by decide +kernel)) ggL_law_X5_slide
set_option maxRecDepth 20000 in
theorem ggL_law_X6_slide : GoodIn wsL_law wsX6_slide := goodIn_r _ [504, 79, 124, 125, 5, 126, 505, 506, 507, 508, 476, 477, 478, 479, 456, 457, 458, 459, 433, 434, 435, 436, 82, 395, 396, 397, 398, 391, 392, 393, 394, 140, 141, 142, 134, 135, 136, 387, 388, 389, 390, 131, 132, 133, 137, 138, 139, 399, 400, 401, 402, 279, 403, 404, 405, 406, 407, 408, 409, 410, 411, 412, 413, 437, 438, 439, 440, 123, 84, 509, 510, 511, 512, 826, 827, 828, 829, 830, 831, 832, 833, 834, 835, 836, 837, 838, 839, 840, 841, 842, 843] (by decide +kernel) (by decide +kernel)
set_option maxRecDepth 20000 in
theorem gL_law_X6_slide : GoodIn wsL_law (wsV RL 73 RX6 yX6_slide wsX6_slide) := goodIn_app (goodIn_of _ (by decide +kernel)) ggL_law_X6_slide
set_option maxRecDepth 20000 in
theorem ggL_law_X5_undo : GoodIn wsL_law wsX5_undo := goodIn_r _ [516, 26, 517, 518, 519, 2, 520, 15, 521, 294, 295, 25, 296, 55, 56, 210, 211, 212, 14, 213, 42, 44, 41, 522, 523, 524, 525, 57, 817, 818, 819, 820, 821, 822, 823, 824, 825, 849, 850, 851, 844, 845, 846] (by decide +kernel) (by decide +kernel)
set_option maxRecDepth 20000 in
theorem gL_law_X5_undo : GoodIn wsL_law (wsV RL 74 RX5 yX5_undo wsX5_undo) := goodIn_app (goodIn_of _ (by decide +kernel)) ggL_law_X5_undo
set_option maxRecDepth 20000 in
theorem ggL_law_X6_undo : GoodIn wsL_law wsX6_undo := goodIn_r _ [529, 123, 82, 84, 826, 827, 828, 829, 830, 831, 832, 833, 834, 835, 836, 837, 838, 839, 840, 841, 842, 843] (by decide +kernel) (by decide +kernel)
set_option maxRecDepth 20000 in
theorem gL_law_X6_undo : GoodIn wsL_law (wsV RL 78 RX6 yX6_undo wsX6_undo) := goodIn_app (goodIn_of _ (by decide +kernel)) ggL_law_X6_undo
set_option maxRecDepth 20000 in
theorem ggL_law_X5_back : GoodIn wsL_law wsX5_back := goodIn_r _ [533, 26, 15, 521, 294, 295, 25, 296, 55, 56, 534, 535, 536, 14, 537, 41, 356, 357, 358, 359, 44, 517, 518, 519, 2, 520, 210, 211, 212, 213, 42, 522, 523, 524, 525, 57, 817, 818, 819, 820, 821, 822, 823, 824, 825, 849, 850, 851, 844, 845, 846] (by decide +kernel) (by decide +kernel)
set_option maxRecDepth 20000 in
theorem gL_law_X5_back : GoodIn wsL_law (wsV RL 79 RX5 yX5_back wsX5_back) := goodIn_app (goodIn_of _ (by decide +kernel)) ggL_law_X5_back
set_option maxRecDepth 20000 in
theorem ggL_law_X6_back : GoodIn wsL_law wsX6_back := goodIn_r _ [541, 123, 84, 82, 406, 407, 408, 5, 409, 79, 410, 411, 412, 413, 391, 392, 393, 394, 140, 141, 142, 134, 135, 136, 387, 388, 389, 390, 131, 132, 133, 137, 138, 139, 826, 827, 828, 829, 830, 831, 832, 833, 834, 835, 836, 837, 838, 839, 840, 841, 842, 843] (by decide +kernel) (by decide +kernel)
set_option maxRecDepth 20000 in
theorem gL_law_X6_back : GoodIn wsL_law (wsV RL 82 RX6 yX6_back wsX6_back) := goodIn_app (goodIn_of _ (by decide +kernel)) ggL_law_X6_back
set_option maxRecDepth 20000 in
theorem ggL_law_X5_settle : GoodIn wsL_law wsX5_settle := goodIn_r _ [545, 26, 115, 116, 117, 25, 118, 56, 57, 817, 818, 819, 820, 821, 822, 823, 824, 825, 849, 850, 851] (by decide +kernel) (by decide +kernel)
set_option maxRecDepth 20000 in
theorem gL_law_X5_settle : GoodIn wsL_law (wsV RL 83 RX5 yX5_settle wsX5_settle) := goodIn_app (goodIn_of _ (by decide +kernel)) ggL_law_X5_settle
set_option maxRecDepth 20000 in
theorem ggL_law_X6_settle : GoodIn wsL_law wsX6_settle := goodIn_r _ [549, 123, 826, 827, 828, 829, 830, 831, 832, 833, 834, 835, 836, 837, 838, 839, 840, 841, 842, 843] (by decide +kernel) (by decide +kernel)
set_option maxRecDepth 20000 in
theorem gL_law_X6_settle : GoodIn wsL_law (wsV RL 86 RX6 yX6_settle wsX6_settle) := goodIn_app (goodIn_of _ (by decide +kernel)) ggL_law_X6_settle
set_option maxRecDepth 20000 in
theorem ggL_law_X5_journal : GoodIn wsL_law wsX5_journal := goodIn_r _ [553, 26, 521, 294, 295, 25, 296, 55, 56, 817, 818, 819, 820, 821, 822, 823, 824, 825, 849, 850, 851] (by decide +kernel) (by decide +kernel)
set_option maxRecDepth 20000 in
theorem gL_law_X5_journal : GoodIn wsL_law (wsV RL 87 RX5 yX5_journal wsX5_journal) := goodIn_app (goodIn_of _ (by decide +kernel)) ggL_law_X5_journal
set_option maxRecDepth 20000 in
theorem ggL_law_X6_journal : GoodIn wsL_law wsX6_journal := goodIn_r _ [557, 123, 84, 124, 125, 5, 126, 826, 827, 828, 829, 830, 831, 832, 833, 834, 835, 836, 837, 838, 839, 840, 841, 842, 843] (by decide +kernel) (by decide +kernel)
set_option maxRecDepth 20000 in
theorem gL_law_X6_journal : GoodIn wsL_law (wsV RL 90 RX6 yX6_journal wsX6_journal) := goodIn_app (goodIn_of _ (by decide +kernel)) ggL_law_X6_journal
set_option maxRecDepth 20000 in
theorem ggL_law_X5_stall : GoodIn wsL_law wsX5_stall := goodIn_r _ [561, 15, 562, 498, 499, 14, 500, 41, 418, 419, 420, 421, 360, 349, 350, 351, 44, 356, 357, 358, 359, 817, 818, 819, 820, 821, 822, 823, 824, 825, 844, 845, 846] (by decide +kernel) (by decide +kernel)
set_option maxRecDepth 20000 in
theorem gL_law_X5_stall : GoodIn wsL_law (wsV RL 91 RX5 yX5_stall wsX5_stall) := goodIn_app (goodIn_of _ (by decide +kernel)) ggL_law_X5_stall
set_option maxRecDepth 20000 in
theorem ggL_law_X6_stall : GoodIn wsL_law wsX6_stall := goodIn_r _ [566, 567, 568, 569, 5, 570, 79, 395, 396, 397, 398, 391, 392, 393, 394, 82, 140, 141, 142, 134, 135, 136, 387, 388, 389, 390, 131, 132, 133, 137, 138, 139, 826, 827, 828, 829, 830, 831, 832, 833, 834, 835, 836, 837, 838, 839, 840, 841, 842, 843] (by decide +kernel) (by decide +kernel)
set_option maxRecDepth 20000 in
theorem gL_law_X6_stall : GoodIn wsL_law (wsV RL 94 RX6 yX6_stall wsX6_stall) := goodIn_app (goodIn_of _ (by decide +kernel)) ggL_law_X6_stall
set_option maxRecDepth 20000 in
theorem ggL_law_X5_piece : GoodIn wsL_law wsX5_piece := goodIn_r _ [574, 30, 15, 575, 576, 577, 29, 578, 579, 67, 65, 580, 498, 499, 14, 500, 41, 581, 366, 367, 368, 42, 314, 2, 315, 582, 170, 171, 172, 173, 174, 175, 583, 584, 585, 586, 587, 68, 62, 63, 64, 588, 589, 590, 591, 592, 362, 363, 364, 365, 369, 370, 371, 372, 373, 374, 218, 177, 178, 179, 180, 181, 182, 593, 594, 595, 596, 597, 167, 168, 598, 599, 600, 601, 817, 818, 819, 820, 821, 822, 823, 824, 825, 852, 853, 854, 855, 856, 857, 858, 859, 844, 845, 846] (by decide +kernel) (by decide +kernel)
set_option maxRecDepth 20000 in
theorem gL_law_X5_piece : GoodIn wsL_law (wsV RL 95 RX5 yX5_piece wsX5_piece) := goodIn_app (goodIn_of _ (by decide +kernel)) ggL_law_X5_piece
set_option maxRecDepth 20000 in
theorem ggL_law_X6_piece : GoodIn wsL_law wsX6_piece := goodIn_r _ [605, 606, 607, 608, 609, 5, 610, 85, 82, 86, 79, 611, 612, 613, 614, 134, 135, 136, 124, 125, 126, 615, 616, 617, 618, 619, 620, 621, 622, 140, 141, 142, 826, 827, 828, 829, 830, 831, 832, 833, 834, 835, 836, 837, 838, 839, 840, 841, 842, 843] (by decide +kernel) (by decide +kernel)
set_option maxRecDepth 20000 in
theorem gL_law_X6_piece : GoodIn wsL_law (wsV RL 98 RX6 yX6_piece wsX6_piece) := goodIn_app (goodIn_of _ (by decide +kernel)) ggL_law_X6_piece
set_option maxRecDepth 20000 in
theorem ggL_law_X5_around : GoodIn wsL_law wsX5_around := goodIn_r _ [626, 15, 199, 200, 201, 2, 202, 151, 152, 153, 154, 155, 156, 157, 817, 818, 819, 820, 821, 822, 823, 824, 825, 844, 845, 846] (by decide +kernel) (by decide +kernel)
set_option maxRecDepth 20000 in
theorem gL_law_X5_around : GoodIn wsL_law (wsV RL 99 RX5 yX5_around wsX5_around) := goodIn_app (goodIn_of _ (by decide +kernel)) ggL_law_X5_around
set_option maxRecDepth 20000 in
theorem ggL_law_X6_around : GoodIn wsL_law wsX6_around := goodIn_r _ [630, 223, 224, 225, 5, 226, 187, 188, 189, 190, 191, 192, 193, 194, 79, 124, 125, 126, 631, 632, 633, 634, 635, 636, 637, 638, 826, 827, 828, 829, 830, 831, 832, 833, 834, 835, 836, 837, 838, 839, 840, 841, 842, 843] (by decide +kernel) (by decide +kernel)
set_option maxRecDepth 20000 in
theorem gL_law_X6_around : GoodIn wsL_law (wsV RL 102 RX6 yX6_around wsX6_around) := goodIn_app (goodIn_of _ (by decide +kernel)) ggL_law_X6_around
set_option maxRecDepth 20000 in
theorem ggL_law_X5_would : GoodIn wsL_law wsX5_would := goodIn_r _ [642, 16, 15, 484, 485, 486, 2, 487, 464, 465, 466, 272, 273, 274, 643, 644, 645, 14, 646, 41, 42, 647, 648, 649, 650, 44, 488, 489, 490, 491, 492, 468, 469, 470, 471, 446, 447, 448, 449, 376, 377, 378, 423, 424, 450, 211, 212, 213, 451, 426, 427, 25, 428, 55, 56, 57, 214, 215, 216, 217, 218, 177, 178, 179, 180, 181, 182, 817, 818, 819, 820, 821, 822, 823, 824, 825, 844, 845, 846, 849, 850, 851] (by decide +kernel) (by decide +kernel)
set_option maxRecDepth 20000 in
theorem gL_law_X5_would : GoodIn wsL_law (wsV RL 103 RX5 yX5_would wsX5_would) := goodIn_app (goodIn_of _ (by decide +kernel)) ggL_law_X5_would
set_option maxRecDepth 20000 in
theorem ggL_law_X6_would : GoodIn wsL_law wsX6_would := goodIn_r _ [654, 79, 124, 125, 5, 126, 655, 656, 657, 658, 123, 279, 87, 82, 88, 84, 505, 506, 507, 508, 476, 477, 478, 479, 456, 457, 458, 459, 433, 434, 435, 436, 395, 396, 397, 398, 391, 392, 393, 394, 140, 141, 142, 134, 135, 136, 387, 388, 389, 390, 131, 132, 133, 137, 138, 139, 399, 400, 401, 402, 403, 404, 405, 406, 407, 408, 409, 410, 411, 412, 413, 437, 438, 439, 440, 231, 232, 233, 234, 826, 827, 828, 829, 830, 831, 832, 833, 834, 835, 836, 837, 838, 839, 840, 841, 842, 843] (by decide +kernel) (by decide +kernel)
set_option maxRecDepth 20000 in
theorem gL_law_X6_would : GoodIn wsL_law (wsV RL 106 RX6 yX6_would wsX6_would) := goodIn_app (goodIn_of _ (by decide +kernel)) ggL_law_X6_would
set_option maxRecDepth 20000 in
theorem ggL_law_X5_best : GoodIn wsL_law wsX5_best := goodIn_r _ [662, 35, 15, 464, 465, 2, 466, 663, 640, 641, 642, 16, 484, 485, 486, 487, 272, 273, 274, 643, 644, 645, 14, 646, 41, 42, 647, 648, 649, 650, 44, 488, 489, 490, 491, 492, 468, 469, 470, 471, 446, 447, 448, 449, 376, 377, 378, 423, 424, 450, 211, 212, 213, 451, 426, 427, 25, 428, 55, 56, 57, 214, 215, 216, 217, 218, 177, 178, 179, 180, 181, 182, 817, 818, 819, 820, 821, 822, 823, 824, 825, 844, 845, 846, 849, 850, 851] (by decide +kernel) (by decide +kernel)
set_option maxRecDepth 20000 in
theorem gL_law_X5_best : GoodIn wsL_law (wsV RL 107 RX5 yX5_best wsX5_best) := goodIn_app (goodIn_of _ (by decide +kernel)) ggL_law_X5_best
set_option maxRecDepth 20000 in
theorem ggL_law_X6_best : GoodIn wsL_law wsX6_best := goodIn_r _ [667, 124, 125, 5, 126, 668, 669, 670, 671, 79, 279, 655, 656, 657, 658, 123, 87, 82, 88, 84, 505, 506, 507, 508, 476, 477, 478, 479, 456, 457, 458, 459, 433, 434, 435, 436, 395, 396, 397, 398, 391, 392, 393, 394, 140, 141, 142, 134, 135, 136, 387, 388, 389, 390, 131, 132, 133, 137, 138, 139, 399, 400, 401, 402, 403, 404, 405, 406, 407, 408, 409, 410, 411, 412, 413, 437, 438, 439, 440, 231, 232, 233, 234, 826, 827, 828, 829, 830, 831, 832, 833, 834, 835, 836, 837, 838, 839, 840, 841, 842, 843] (by decide +kernel) (by decide +kernel)
set_option maxRecDepth 20000 in
theorem gL_law_X6_best : GoodIn wsL_law (wsV RL 110 RX6 yX6_best wsX6_best) := goodIn_app (goodIn_of _ (by decide +kernel)) ggL_law_X6_best
set_option maxRecDepth 20000 in
theorem ggL_law_X5_sheet : GoodIn wsL_law wsX5_sheet := goodIn_r _ [675, 32, 249, 250, 2, 251, 676, 677, 678, 252, 253, 254, 255, 36, 679, 680, 681, 34, 682, 73, 683, 684, 74, 685, 102, 103, 104, 817, 818, 819, 820, 821, 822, 823, 824, 825, 860, 861, 862, 863] (by decide +kernel) (by decide +kernel)
set_option maxRecDepth 20000 in
theorem gL_law_X5_sheet : GoodIn wsL_law (wsV RL 111 RX5 yX5_sheet wsX5_sheet) := goodIn_app (goodIn_of _ (by decide +kernel)) ggL_law_X5_sheet
set_option maxRecDepth 20000 in
theorem ggL_law_X6_sheet : GoodIn wsL_law wsX6_sheet := goodIn_r _ [689, 89, 90, 91, 260, 261, 5, 262, 124, 125, 126, 263, 264, 265, 266, 267, 826, 827, 828, 829, 830, 831, 832, 833, 834, 835, 836, 837, 838, 839, 840, 841, 842, 843] (by decide +kernel) (by decide +kernel)
set_option maxRecDepth 20000 in
theorem gL_law_X6_sheet : GoodIn wsL_law (wsV RL 114 RX6 yX6_sheet wsX6_sheet) := goodIn_app (goodIn_of _ (by decide +kernel)) ggL_law_X6_sheet
set_option maxRecDepth 20000 in
theorem ggL_law_X5_lose : GoodIn wsL_law wsX5_lose := goodIn_r _ [693, 32, 249, 250, 2, 251, 252, 253, 254, 255, 36, 817, 818, 819, 820, 821, 822, 823, 824, 825, 860, 861, 862, 863] (by decide +kernel) (by decide +kernel)
set_option maxRecDepth 20000 in
theorem gL_law_X5_lose : GoodIn wsL_law (wsV RL 115 RX5 yX5_lose wsX5_lose) := goodIn_app (goodIn_of _ (by decide +kernel)) ggL_law_X5_lose
set_option maxRecDepth 20000 in
theorem ggL_law_X6_lose : GoodIn wsL_law wsX6_lose := goodIn_r _ [697, 89, 90, 260, 261, 5, 262, 124, 125, 126, 263, 264, 265, 266, 267, 826, 827, 828, 829, 830, 831, 832, 833, 834, 835, 836, 837, 838, 839, 840, 841, 842, 843] (by decide +kernel) (by decide +kernel)
set_option maxRecDepth 20000 in
theorem gL_law_X6_lose : GoodIn wsL_law (wsV RL 118 RX6 yX6_lose wsX6_lose) := goodIn_app (goodIn_of _ (by decide +kernel)) ggL_law_X6_lose
set_option maxRecDepth 20000 in
theorem ggL_law_X5_put : GoodIn wsL_law wsX5_put := goodIn_r _ [701, 32, 249, 250, 2, 251, 676, 677, 678, 252, 253, 254, 255, 36, 702, 703, 704, 34, 705, 684, 817, 818, 819, 820, 821, 822, 823, 824, 825, 860, 861, 862, 863] (by decide +kernel) (by decide +kernel)
set_option maxRecDepth 20000 in
theorem gL_law_X5_put : GoodIn wsL_law (wsV RL 119 RX5 yX5_put wsX5_put) := goodIn_app (goodIn_of _ (by decide +kernel)) ggL_law_X5_put
set_option maxRecDepth 20000 in
theorem ggL_law_X6_put : GoodIn wsL_law wsX6_put := goodIn_r _ [709, 89, 90, 91, 260, 261, 5, 262, 124, 125, 126, 263, 264, 265, 266, 267, 826, 827, 828, 829, 830, 831, 832, 833, 834, 835, 836, 837, 838, 839, 840, 841, 842, 843] (by decide +kernel) (by decide +kernel)
set_option maxRecDepth 20000 in
theorem gL_law_X6_put : GoodIn wsL_law (wsV RL 122 RX6 yX6_put wsX6_put) := goodIn_app (goodIn_of _ (by decide +kernel)) ggL_law_X6_put
set_option maxRecDepth 20000 in
theorem ggL_law_X5_get : GoodIn wsL_law wsX5_get := goodIn_r _ [713, 32, 249, 250, 2, 251, 714, 715, 716, 717, 252, 253, 254, 255, 36, 702, 703, 704, 34, 705, 684, 817, 818, 819, 820, 821, 822, 823, 824, 825, 860, 861, 862, 863] (by decide +kernel) (by decide +kernel)
set_option maxRecDepth 20000 in
theorem gL_law_X5_get : GoodIn wsL_law (wsV RL 123 RX5 yX5_get wsX5_get) := goodIn_app (goodIn_of _ (by decide +kernel)) ggL_law_X5_get
set_option maxRecDepth 20000 in
theorem ggL_law_X6_get : GoodIn wsL_law wsX6_get := goodIn_r _ [721, 89, 90, 91, 260, 261, 5, 262, 124, 125, 126, 722, 723, 724, 725, 263, 264, 265, 266, 267, 826, 827, 828, 829, 830, 831, 832, 833, 834, 835, 836, 837, 838, 839, 840, 841, 842, 843] (by decide +kernel) (by decide +kernel)
set_option maxRecDepth 20000 in
theorem gL_law_X6_get : GoodIn wsL_law (wsV RL 127 RX6 yX6_get wsX6_get) := goodIn_app (goodIn_of _ (by decide +kernel)) ggL_law_X6_get
set_option maxRecDepth 20000 in
theorem ggL_law_X5_copy : GoodIn wsL_law wsX5_copy := goodIn_r _ [729, 32, 730, 648, 649, 650, 249, 250, 2, 251, 252, 253, 254, 255, 36, 731, 732, 733, 34, 734, 684, 817, 818, 819, 820, 821, 822, 823, 824, 825, 860, 861, 862, 863] (by decide +kernel) (by decide +kernel)
set_option maxRecDepth 20000 in
theorem gL_law_X5_copy : GoodIn wsL_law (wsV RL 128 RX5 yX5_copy wsX5_copy) := goodIn_app (goodIn_of _ (by decide +kernel)) ggL_law_X5_copy
set_option maxRecDepth 20000 in
theorem ggL_law_X6_copy : GoodIn wsL_law wsX6_copy := goodIn_r _ [738, 89, 90, 92, 91, 260, 261, 5, 262, 124, 125, 126, 263, 264, 265, 266, 267, 826, 827, 828, 829, 830, 831, 832, 833, 834, 835, 836, 837, 838, 839, 840, 841, 842, 843] (by decide +kernel) (by decide +kernel)
set_option maxRecDepth 20000 in
theorem gL_law_X6_copy : GoodIn wsL_law (wsV RL 132 RX6 yX6_copy wsX6_copy) := goodIn_app (goodIn_of _ (by decide +kernel)) ggL_law_X6_copy
set_option maxRecDepth 20000 in
theorem ggL_law_X5_write : GoodIn wsL_law wsX5_write := goodIn_r _ [742, 32, 151, 152, 153, 2, 154, 15, 249, 250, 251, 252, 253, 254, 255, 36, 284, 285, 286, 287, 20, 288, 167, 168, 817, 818, 819, 820, 821, 822, 823, 824, 825, 860, 861, 862, 863, 844, 845, 846, 847, 848] (by decide +kernel) (by decide +kernel)
set_option maxRecDepth 20000 in
theorem gL_law_X5_write : GoodIn wsL_law (wsV RL 133 RX5 yX5_write wsX5_write) := goodIn_app (goodIn_of _ (by decide +kernel)) ggL_law_X5_write
set_option maxRecDepth 20000 in
theorem ggL_law_X6_write : GoodIn wsL_law wsX6_write := goodIn_r _ [746, 89, 90, 91, 191, 192, 193, 5, 194, 79, 124, 125, 126, 260, 261, 262, 263, 264, 265, 266, 267, 332, 333, 334, 335, 301, 302, 303, 304, 81, 82, 83, 305, 306, 307, 308, 123, 84, 826, 827, 828, 829, 830, 831, 832, 833, 834, 835, 836, 837, 838, 839, 840, 841, 842, 843] (by decide +kernel) (by decide +kernel)
set_option maxRecDepth 20000 in
theorem gL_law_X6_write : GoodIn wsL_law (wsV RL 136 RX6 yX6_write wsX6_write) := goodIn_app (goodIn_of _ (by decide +kernel)) ggL_law_X6_write
set_option maxRecDepth 20000 in
theorem ggL_law_X5_count : GoodIn wsL_law wsX5_count := goodIn_r _ [750, 15, 26, 30, 36, 214, 215, 216, 14, 217, 41, 42, 218, 177, 178, 179, 180, 181, 182, 493, 494, 495, 496, 497, 498, 499, 500, 356, 357, 358, 359, 44, 751, 752, 753, 754, 755, 419, 420, 421, 360, 349, 350, 351, 756, 757, 758, 2, 759, 22, 760, 761, 575, 576, 577, 29, 578, 579, 67, 65, 580, 581, 366, 367, 368, 314, 315, 582, 170, 171, 172, 173, 174, 175, 583, 584, 585, 586, 587, 68, 62, 63, 64, 588, 589, 590, 591, 592, 362, 363, 364, 365, 369, 370, 371, 372, 373, 374, 593, 594, 595, 596, 597, 167, 168, 762, 763, 764, 765, 817, 818, 819, 820, 821, 822, 823, 824, 825, 844, 845, 846, 849, 850, 851, 852, 853, 854, 855, 856, 857, 858, 859] (by decide +kernel) (by decide +kernel)
set_option maxRecDepth 20000 in
theorem gL_law_X5_count : GoodIn wsL_law (wsV RL 137 RX5 yX5_count wsX5_count) := goodIn_app (goodIn_of _ (by decide +kernel)) ggL_law_X5_count
set_option maxRecDepth 20000 in
theorem ggL_law_X6_count : GoodIn wsL_law wsX6_count := goodIn_r _ [769, 79, 123, 267, 231, 232, 233, 5, 234, 82, 509, 510, 511, 512, 395, 396, 397, 398, 391, 392, 393, 394, 140, 141, 142, 134, 135, 136, 387, 388, 389, 390, 131, 132, 133, 137, 138, 139, 770, 771, 772, 773, 83, 774, 775, 776, 777, 606, 607, 608, 609, 610, 85, 86, 611, 612, 613, 614, 778, 779, 780, 781, 615, 616, 617, 618, 619, 620, 621, 622, 826, 827, 828, 829, 830, 831, 832, 833, 834, 835, 836, 837, 838, 839, 840, 841, 842, 843] (by decide +kernel) (by decide +kernel)
set_option maxRecDepth 20000 in
theorem gL_law_X6_count : GoodIn wsL_law (wsV RL 140 RX6 yX6_count wsX6_count) := goodIn_app (goodIn_of _ (by decide +kernel)) ggL_law_X6_count
set_option maxRecDepth 20000 in
theorem ggL_law_X5_digest : GoodIn wsL_law wsX5_digest := goodIn_r _ [785, 786, 787, 15, 788, 748, 749, 2, 750, 26, 30, 36, 214, 215, 216, 14, 217, 41, 42, 218, 177, 178, 179, 180, 181, 182, 493, 494, 495, 496, 497, 498, 499, 500, 356, 357, 358, 359, 44, 751, 752, 753, 754, 755, 419, 420, 421, 360, 349, 350, 351, 756, 757, 758, 759, 22, 760, 761, 575, 576, 577, 29, 578, 579, 67, 65, 580, 581, 366, 367, 368, 314, 315, 582, 170, 171, 172, 173, 174, 175, 583, 584, 585, 586, 587, 68, 62, 63, 64, 588, 589, 590, 591, 592, 362, 363, 364, 365, 369, 370, 371, 372, 373, 374, 593, 594, 595, 596, 597, 167, 168, 762, 763, 764, 765, 789, 790, 791, 792, 793, 325, 326, 327, 151, 152, 153, 154, 284, 285, 286, 287, 20, 794, 310, 311, 312, 147, 148, 149, 150, 155, 156, 157, 313, 795, 337, 338, 339, 35, 340, 341, 342, 343, 344, 345, 346, 347, 348, 352, 353, 354, 355, 361, 375, 376, 377, 378, 796, 797, 798, 799, 521, 294, 295, 25, 296, 55, 56, 562, 418, 598, 599, 600, 601, 663, 640, 641, 642, 16, 484, 485, 486, 487, 464, 465, 466, 272, 273, 274, 643, 644, 645, 646, 647, 648, 649, 650, 488, 489, 490, 491, 492, 468, 469, 470, 471, 446, 447, 448, 449, 423, 424, 450, 211, 212, 213, 451, 426, 427, 428, 57, 800, 660, 661, 662, 801, 624, 625, 626, 199, 200, 201, 202, 817, 818, 819, 820, 821, 822, 823, 824, 825, 844, 845, 846, 849, 850, 851, 852, 853, 854, 855, 856, 857, 858, 859, 847, 848] (by decide +kernel) (by decide +kernel)
set_option maxRecDepth 20000 in
theorem gL_law_X5_digest : GoodIn wsL_law (wsV RL 141 RX5 yX5_digest wsX5_digest) := goodIn_app (goodIn_of _ (by decide +kernel)) ggL_law_X5_digest
set_option maxRecDepth 20000 in
theorem ggL_law_X6_digest : GoodIn wsL_law wsX6_digest := goodIn_r _ [805, 806, 807, 79, 123, 84, 808, 767, 768, 5, 769, 267, 231, 232, 233, 234, 82, 509, 510, 511, 512, 395, 396, 397, 398, 391, 392, 393, 394, 140, 141, 142, 134, 135, 136, 387, 388, 389, 390, 131, 132, 133, 137, 138, 139, 770, 771, 772, 773, 83, 774, 775, 776, 777, 606, 607, 608, 609, 610, 85, 86, 611, 612, 613, 614, 778, 779, 780, 781, 615, 616, 617, 618, 619, 620, 621, 622, 809, 810, 811, 812, 332, 333, 334, 335, 301, 302, 303, 304, 81, 305, 306, 307, 308, 320, 321, 322, 323, 80, 383, 384, 385, 386, 399, 400, 401, 402, 279, 403, 404, 405, 406, 407, 408, 409, 410, 411, 412, 413, 813, 814, 815, 816, 567, 568, 569, 570, 655, 656, 657, 658, 87, 88, 505, 506, 507, 508, 476, 477, 478, 479, 456, 457, 458, 459, 433, 434, 435, 436, 437, 438, 439, 440, 668, 669, 670, 671, 631, 632, 633, 634, 635, 636, 637, 638, 124, 125, 126, 826, 827, 828, 829, 830, 831, 832, 833, 834, 835, 836, 837, 838, 839, 840, 841, 842, 843] (by decide +kernel) (by decide +kernel)
set_option maxRecDepth 20000 in
theorem gL_law_X6_digest : GoodIn wsL_law (wsV RL 145 RX6 yX6_digest wsX6_digest) := goodIn_app (goodIn_of _ (by decide +kernel)) ggL_law_X6_digest
theorem dL_law_0 : decode cL_law 0 = .ok (.new 7, 3) := by decide +kernel
theorem dL_law_3 : decode cL_law 3 = .ok (.dup, 1) := by decide +kernel
theorem dL_law_4 : decode cL_law 4 = .ok (.invokespecial 9, 3) := by decide +kernel
theorem dL_law_7 : decode cL_law 7 = .ok (.astore_n 1, 1) := by decide +kernel
theorem dL_law_8 : decode cL_law 8 = .ok (.new 10, 3) := by decide +kernel
theorem dL_law_11 : decode cL_law 11 = .ok (.dup, 1) := by decide +kernel
theorem dL_law_12 : decode cL_law 12 = .ok (.invokespecial 12, 3) := by decide +kernel
theorem dL_law_15 : decode cL_law 15 = .ok (.astore_n 2, 1) := by decide +kernel
theorem dL_law_16 : decode cL_law 16 = .ok (.iconst 0, 1) := by decide +kernel
theorem dL_law_17 : decode cL_law 17 = .ok (.istore_n 3, 1) := by decide +kernel
theorem dL_law_18 : decode cL_law 18 = .ok (.iload_n 3, 1) := by decide +kernel
theorem dL_law_19 : decode cL_law 19 = .ok (.aload_n 0, 1) := by decide +kernel
theorem dL_law_20 : decode cL_law 20 = .ok (.arraylength, 1) := by decide +kernel
theorem dL_law_21 : decode cL_law 21 = .ok (.bipush 6, 2) := by decide +kernel
theorem dL_law_23 : decode cL_law 23 = .ok (.isub, 1) := by decide +kernel
theorem dL_law_24 : decode cL_law 24 = .ok (.if_icmp .gt 1170, 3) := by decide +kernel
theorem dL_law_27 : decode cL_law 27 = .ok (.aload_n 0, 1) := by decide +kernel
theorem dL_law_28 : decode cL_law 28 = .ok (.iload_n 3, 1) := by decide +kernel
theorem dL_law_29 : decode cL_law 29 = .ok (.iaload, 1) := by decide +kernel
theorem dL_law_30 : decode cL_law 30 = .ok (.bipush 31, 2) := by decide +kernel
theorem dL_law_32 : decode cL_law 32 = .ok (.iand, 1) := by decide +kernel
theorem dL_law_33 : decode cL_law 33 = .ok (.tableswitch 1155 0 30 #[139, 162, 205, 248, 281, 314, 337, 390, 433, 457, 500, 533, 566, 609, 642, 655, 668, 681, 704, 727, 760, 803, 846, 869, 912, 935, 988, 1022, 1085, 1118, 1141], 139) := by decide +kernel
theorem dL_law_172 : decode cL_law 172 = .ok (.aload_n 1, 1) := by decide +kernel
theorem dL_law_173 : decode cL_law 173 = .ok (.aload_n 0, 1) := by decide +kernel
theorem dL_law_174 : decode cL_law 174 = .ok (.iload_n 3, 1) := by decide +kernel
theorem dL_law_175 : decode cL_law 175 = .ok (.iconst 1, 1) := by decide +kernel
theorem dL_law_176 : decode cL_law 176 = .ok (.iadd, 1) := by decide +kernel
theorem dL_law_177 : decode cL_law 177 = .ok (.iaload, 1) := by decide +kernel
theorem dL_law_178 : decode cL_law 178 = .ok (.invokevirtual 13, 3) := by decide +kernel
theorem dL_law_181 : decode cL_law 181 = .ok (.aload_n 2, 1) := by decide +kernel
theorem dL_law_182 : decode cL_law 182 = .ok (.aload_n 0, 1) := by decide +kernel
theorem dL_law_183 : decode cL_law 183 = .ok (.iload_n 3, 1) := by decide +kernel
theorem dL_law_184 : decode cL_law 184 = .ok (.iconst 1, 1) := by decide +kernel
theorem dL_law_185 : decode cL_law 185 = .ok (.iadd, 1) := by decide +kernel
theorem dL_law_186 : decode cL_law 186 = .ok (.iaload, 1) := by decide +kernel
theorem dL_law_187 : decode cL_law 187 = .ok (.invokevirtual 17, 3) := by decide +kernel
theorem dL_law_190 : decode cL_law 190 = .ok (.if_icmp .eq 998, 3) := by decide +kernel
theorem dL_law_193 : decode cL_law 193 = .ok (.iconst 0, 1) := by decide +kernel
theorem dL_law_194 : decode cL_law 194 = .ok (.ireturn, 1) := by decide +kernel
theorem dL_law_195 : decode cL_law 195 = .ok (.aload_n 1, 1) := by decide +kernel
theorem dL_law_196 : decode cL_law 196 = .ok (.aload_n 0, 1) := by decide +kernel
theorem dL_law_197 : decode cL_law 197 = .ok (.iload_n 3, 1) := by decide +kernel
theorem dL_law_198 : decode cL_law 198 = .ok (.iconst 1, 1) := by decide +kernel
theorem dL_law_199 : decode cL_law 199 = .ok (.iadd, 1) := by decide +kernel
theorem dL_law_200 : decode cL_law 200 = .ok (.iaload, 1) := by decide +kernel
theorem dL_law_201 : decode cL_law 201 = .ok (.aload_n 0, 1) := by decide +kernel
theorem dL_law_202 : decode cL_law 202 = .ok (.iload_n 3, 1) := by decide +kernel
theorem dL_law_203 : decode cL_law 203 = .ok (.iconst 2, 1) := by decide +kernel
theorem dL_law_204 : decode cL_law 204 = .ok (.iadd, 1) := by decide +kernel
theorem dL_law_205 : decode cL_law 205 = .ok (.iaload, 1) := by decide +kernel
theorem dL_law_206 : decode cL_law 206 = .ok (.aload_n 0, 1) := by decide +kernel
theorem dL_law_207 : decode cL_law 207 = .ok (.iload_n 3, 1) := by decide +kernel
theorem dL_law_208 : decode cL_law 208 = .ok (.iconst 3, 1) := by decide +kernel
theorem dL_law_209 : decode cL_law 209 = .ok (.iadd, 1) := by decide +kernel
theorem dL_law_210 : decode cL_law 210 = .ok (.iaload, 1) := by decide +kernel
theorem dL_law_211 : decode cL_law 211 = .ok (.invokevirtual 18, 3) := by decide +kernel
theorem dL_law_214 : decode cL_law 214 = .ok (.aload_n 2, 1) := by decide +kernel
theorem dL_law_215 : decode cL_law 215 = .ok (.aload_n 0, 1) := by decide +kernel
theorem dL_law_216 : decode cL_law 216 = .ok (.iload_n 3, 1) := by decide +kernel
theorem dL_law_217 : decode cL_law 217 = .ok (.iconst 1, 1) := by decide +kernel
theorem dL_law_218 : decode cL_law 218 = .ok (.iadd, 1) := by decide +kernel
theorem dL_law_219 : decode cL_law 219 = .ok (.iaload, 1) := by decide +kernel
theorem dL_law_220 : decode cL_law 220 = .ok (.aload_n 0, 1) := by decide +kernel
theorem dL_law_221 : decode cL_law 221 = .ok (.iload_n 3, 1) := by decide +kernel
theorem dL_law_222 : decode cL_law 222 = .ok (.iconst 2, 1) := by decide +kernel
theorem dL_law_223 : decode cL_law 223 = .ok (.iadd, 1) := by decide +kernel
theorem dL_law_224 : decode cL_law 224 = .ok (.iaload, 1) := by decide +kernel
theorem dL_law_225 : decode cL_law 225 = .ok (.aload_n 0, 1) := by decide +kernel
theorem dL_law_226 : decode cL_law 226 = .ok (.iload_n 3, 1) := by decide +kernel
theorem dL_law_227 : decode cL_law 227 = .ok (.iconst 3, 1) := by decide +kernel
theorem dL_law_228 : decode cL_law 228 = .ok (.iadd, 1) := by decide +kernel
theorem dL_law_229 : decode cL_law 229 = .ok (.iaload, 1) := by decide +kernel
theorem dL_law_230 : decode cL_law 230 = .ok (.invokevirtual 22, 3) := by decide +kernel
theorem dL_law_233 : decode cL_law 233 = .ok (.if_icmp .eq 955, 3) := by decide +kernel
theorem dL_law_236 : decode cL_law 236 = .ok (.iconst 0, 1) := by decide +kernel
theorem dL_law_237 : decode cL_law 237 = .ok (.ireturn, 1) := by decide +kernel
theorem dL_law_238 : decode cL_law 238 = .ok (.aload_n 1, 1) := by decide +kernel
theorem dL_law_239 : decode cL_law 239 = .ok (.aload_n 0, 1) := by decide +kernel
theorem dL_law_240 : decode cL_law 240 = .ok (.iload_n 3, 1) := by decide +kernel
theorem dL_law_241 : decode cL_law 241 = .ok (.iconst 1, 1) := by decide +kernel
theorem dL_law_242 : decode cL_law 242 = .ok (.iadd, 1) := by decide +kernel
theorem dL_law_243 : decode cL_law 243 = .ok (.iaload, 1) := by decide +kernel
theorem dL_law_244 : decode cL_law 244 = .ok (.aload_n 0, 1) := by decide +kernel
theorem dL_law_245 : decode cL_law 245 = .ok (.iload_n 3, 1) := by decide +kernel
theorem dL_law_246 : decode cL_law 246 = .ok (.iconst 2, 1) := by decide +kernel
theorem dL_law_247 : decode cL_law 247 = .ok (.iadd, 1) := by decide +kernel
theorem dL_law_248 : decode cL_law 248 = .ok (.iaload, 1) := by decide +kernel
theorem dL_law_249 : decode cL_law 249 = .ok (.aload_n 0, 1) := by decide +kernel
theorem dL_law_250 : decode cL_law 250 = .ok (.iload_n 3, 1) := by decide +kernel
theorem dL_law_251 : decode cL_law 251 = .ok (.iconst 3, 1) := by decide +kernel
theorem dL_law_252 : decode cL_law 252 = .ok (.iadd, 1) := by decide +kernel
theorem dL_law_253 : decode cL_law 253 = .ok (.iaload, 1) := by decide +kernel
theorem dL_law_254 : decode cL_law 254 = .ok (.invokevirtual 23, 3) := by decide +kernel
theorem dL_law_257 : decode cL_law 257 = .ok (.aload_n 2, 1) := by decide +kernel
theorem dL_law_258 : decode cL_law 258 = .ok (.aload_n 0, 1) := by decide +kernel
theorem dL_law_259 : decode cL_law 259 = .ok (.iload_n 3, 1) := by decide +kernel
theorem dL_law_260 : decode cL_law 260 = .ok (.iconst 1, 1) := by decide +kernel
theorem dL_law_261 : decode cL_law 261 = .ok (.iadd, 1) := by decide +kernel
theorem dL_law_262 : decode cL_law 262 = .ok (.iaload, 1) := by decide +kernel
theorem dL_law_263 : decode cL_law 263 = .ok (.aload_n 0, 1) := by decide +kernel
theorem dL_law_264 : decode cL_law 264 = .ok (.iload_n 3, 1) := by decide +kernel
theorem dL_law_265 : decode cL_law 265 = .ok (.iconst 2, 1) := by decide +kernel
theorem dL_law_266 : decode cL_law 266 = .ok (.iadd, 1) := by decide +kernel
theorem dL_law_267 : decode cL_law 267 = .ok (.iaload, 1) := by decide +kernel
theorem dL_law_268 : decode cL_law 268 = .ok (.aload_n 0, 1) := by decide +kernel
theorem dL_law_269 : decode cL_law 269 = .ok (.iload_n 3, 1) := by decide +kernel
theorem dL_law_270 : decode cL_law 270 = .ok (.iconst 3, 1) := by decide +kernel
theorem dL_law_271 : decode cL_law 271 = .ok (.iadd, 1) := by decide +kernel
theorem dL_law_272 : decode cL_law 272 = .ok (.iaload, 1) := by decide +kernel
theorem dL_law_273 : decode cL_law 273 = .ok (.invokevirtual 26, 3) := by decide +kernel
theorem dL_law_276 : decode cL_law 276 = .ok (.if_icmp .eq 912, 3) := by decide +kernel
theorem dL_law_279 : decode cL_law 279 = .ok (.iconst 0, 1) := by decide +kernel
theorem dL_law_280 : decode cL_law 280 = .ok (.ireturn, 1) := by decide +kernel
theorem dL_law_281 : decode cL_law 281 = .ok (.aload_n 1, 1) := by decide +kernel
theorem dL_law_282 : decode cL_law 282 = .ok (.aload_n 0, 1) := by decide +kernel
theorem dL_law_283 : decode cL_law 283 = .ok (.iload_n 3, 1) := by decide +kernel
theorem dL_law_284 : decode cL_law 284 = .ok (.iconst 1, 1) := by decide +kernel
theorem dL_law_285 : decode cL_law 285 = .ok (.iadd, 1) := by decide +kernel
theorem dL_law_286 : decode cL_law 286 = .ok (.iaload, 1) := by decide +kernel
theorem dL_law_287 : decode cL_law 287 = .ok (.aload_n 0, 1) := by decide +kernel
theorem dL_law_288 : decode cL_law 288 = .ok (.iload_n 3, 1) := by decide +kernel
theorem dL_law_289 : decode cL_law 289 = .ok (.iconst 2, 1) := by decide +kernel
theorem dL_law_290 : decode cL_law 290 = .ok (.iadd, 1) := by decide +kernel
theorem dL_law_291 : decode cL_law 291 = .ok (.iaload, 1) := by decide +kernel
theorem dL_law_292 : decode cL_law 292 = .ok (.invokevirtual 27, 3) := by decide +kernel
theorem dL_law_295 : decode cL_law 295 = .ok (.aload_n 2, 1) := by decide +kernel
theorem dL_law_296 : decode cL_law 296 = .ok (.aload_n 0, 1) := by decide +kernel
theorem dL_law_297 : decode cL_law 297 = .ok (.iload_n 3, 1) := by decide +kernel
theorem dL_law_298 : decode cL_law 298 = .ok (.iconst 1, 1) := by decide +kernel
theorem dL_law_299 : decode cL_law 299 = .ok (.iadd, 1) := by decide +kernel
theorem dL_law_300 : decode cL_law 300 = .ok (.iaload, 1) := by decide +kernel
theorem dL_law_301 : decode cL_law 301 = .ok (.aload_n 0, 1) := by decide +kernel
theorem dL_law_302 : decode cL_law 302 = .ok (.iload_n 3, 1) := by decide +kernel
theorem dL_law_303 : decode cL_law 303 = .ok (.iconst 2, 1) := by decide +kernel
theorem dL_law_304 : decode cL_law 304 = .ok (.iadd, 1) := by decide +kernel
theorem dL_law_305 : decode cL_law 305 = .ok (.iaload, 1) := by decide +kernel
theorem dL_law_306 : decode cL_law 306 = .ok (.invokevirtual 31, 3) := by decide +kernel
theorem dL_law_309 : decode cL_law 309 = .ok (.if_icmp .eq 879, 3) := by decide +kernel
theorem dL_law_312 : decode cL_law 312 = .ok (.iconst 0, 1) := by decide +kernel
theorem dL_law_313 : decode cL_law 313 = .ok (.ireturn, 1) := by decide +kernel
theorem dL_law_314 : decode cL_law 314 = .ok (.aload_n 1, 1) := by decide +kernel
theorem dL_law_315 : decode cL_law 315 = .ok (.aload_n 0, 1) := by decide +kernel
theorem dL_law_316 : decode cL_law 316 = .ok (.iload_n 3, 1) := by decide +kernel
theorem dL_law_317 : decode cL_law 317 = .ok (.iconst 1, 1) := by decide +kernel
theorem dL_law_318 : decode cL_law 318 = .ok (.iadd, 1) := by decide +kernel
theorem dL_law_319 : decode cL_law 319 = .ok (.iaload, 1) := by decide +kernel
theorem dL_law_320 : decode cL_law 320 = .ok (.aload_n 0, 1) := by decide +kernel
theorem dL_law_321 : decode cL_law 321 = .ok (.iload_n 3, 1) := by decide +kernel
theorem dL_law_322 : decode cL_law 322 = .ok (.iconst 2, 1) := by decide +kernel
theorem dL_law_323 : decode cL_law 323 = .ok (.iadd, 1) := by decide +kernel
theorem dL_law_324 : decode cL_law 324 = .ok (.iaload, 1) := by decide +kernel
theorem dL_law_325 : decode cL_law 325 = .ok (.invokevirtual 32, 3) := by decide +kernel
theorem dL_law_328 : decode cL_law 328 = .ok (.aload_n 2, 1) := by decide +kernel
theorem dL_law_329 : decode cL_law 329 = .ok (.aload_n 0, 1) := by decide +kernel
theorem dL_law_330 : decode cL_law 330 = .ok (.iload_n 3, 1) := by decide +kernel
theorem dL_law_331 : decode cL_law 331 = .ok (.iconst 1, 1) := by decide +kernel
theorem dL_law_332 : decode cL_law 332 = .ok (.iadd, 1) := by decide +kernel
theorem dL_law_333 : decode cL_law 333 = .ok (.iaload, 1) := by decide +kernel
theorem dL_law_334 : decode cL_law 334 = .ok (.aload_n 0, 1) := by decide +kernel
theorem dL_law_335 : decode cL_law 335 = .ok (.iload_n 3, 1) := by decide +kernel
theorem dL_law_336 : decode cL_law 336 = .ok (.iconst 2, 1) := by decide +kernel
theorem dL_law_337 : decode cL_law 337 = .ok (.iadd, 1) := by decide +kernel
theorem dL_law_338 : decode cL_law 338 = .ok (.iaload, 1) := by decide +kernel
theorem dL_law_339 : decode cL_law 339 = .ok (.invokevirtual 35, 3) := by decide +kernel
theorem dL_law_342 : decode cL_law 342 = .ok (.if_icmp .eq 846, 3) := by decide +kernel
theorem dL_law_345 : decode cL_law 345 = .ok (.iconst 0, 1) := by decide +kernel
theorem dL_law_346 : decode cL_law 346 = .ok (.ireturn, 1) := by decide +kernel
theorem dL_law_347 : decode cL_law 347 = .ok (.aload_n 1, 1) := by decide +kernel
theorem dL_law_348 : decode cL_law 348 = .ok (.aload_n 0, 1) := by decide +kernel
theorem dL_law_349 : decode cL_law 349 = .ok (.iload_n 3, 1) := by decide +kernel
theorem dL_law_350 : decode cL_law 350 = .ok (.iconst 1, 1) := by decide +kernel
theorem dL_law_351 : decode cL_law 351 = .ok (.iadd, 1) := by decide +kernel
theorem dL_law_352 : decode cL_law 352 = .ok (.iaload, 1) := by decide +kernel
theorem dL_law_353 : decode cL_law 353 = .ok (.invokevirtual 36, 3) := by decide +kernel
theorem dL_law_356 : decode cL_law 356 = .ok (.aload_n 2, 1) := by decide +kernel
theorem dL_law_357 : decode cL_law 357 = .ok (.aload_n 0, 1) := by decide +kernel
theorem dL_law_358 : decode cL_law 358 = .ok (.iload_n 3, 1) := by decide +kernel
theorem dL_law_359 : decode cL_law 359 = .ok (.iconst 1, 1) := by decide +kernel
theorem dL_law_360 : decode cL_law 360 = .ok (.iadd, 1) := by decide +kernel
theorem dL_law_361 : decode cL_law 361 = .ok (.iaload, 1) := by decide +kernel
theorem dL_law_362 : decode cL_law 362 = .ok (.invokevirtual 39, 3) := by decide +kernel
theorem dL_law_365 : decode cL_law 365 = .ok (.if_icmp .eq 823, 3) := by decide +kernel
theorem dL_law_368 : decode cL_law 368 = .ok (.iconst 0, 1) := by decide +kernel
theorem dL_law_369 : decode cL_law 369 = .ok (.ireturn, 1) := by decide +kernel
theorem dL_law_370 : decode cL_law 370 = .ok (.aload_n 1, 1) := by decide +kernel
theorem dL_law_371 : decode cL_law 371 = .ok (.aload_n 0, 1) := by decide +kernel
theorem dL_law_372 : decode cL_law 372 = .ok (.iload_n 3, 1) := by decide +kernel
theorem dL_law_373 : decode cL_law 373 = .ok (.iconst 1, 1) := by decide +kernel
theorem dL_law_374 : decode cL_law 374 = .ok (.iadd, 1) := by decide +kernel
theorem dL_law_375 : decode cL_law 375 = .ok (.iaload, 1) := by decide +kernel
theorem dL_law_376 : decode cL_law 376 = .ok (.aload_n 0, 1) := by decide +kernel
theorem dL_law_377 : decode cL_law 377 = .ok (.iload_n 3, 1) := by decide +kernel
theorem dL_law_378 : decode cL_law 378 = .ok (.iconst 2, 1) := by decide +kernel
theorem dL_law_379 : decode cL_law 379 = .ok (.iadd, 1) := by decide +kernel
theorem dL_law_380 : decode cL_law 380 = .ok (.iaload, 1) := by decide +kernel
theorem dL_law_381 : decode cL_law 381 = .ok (.aload_n 0, 1) := by decide +kernel
theorem dL_law_382 : decode cL_law 382 = .ok (.iload_n 3, 1) := by decide +kernel
theorem dL_law_383 : decode cL_law 383 = .ok (.iconst 3, 1) := by decide +kernel
theorem dL_law_384 : decode cL_law 384 = .ok (.iadd, 1) := by decide +kernel
theorem dL_law_385 : decode cL_law 385 = .ok (.iaload, 1) := by decide +kernel
theorem dL_law_386 : decode cL_law 386 = .ok (.aload_n 0, 1) := by decide +kernel
theorem dL_law_387 : decode cL_law 387 = .ok (.iload_n 3, 1) := by decide +kernel
theorem dL_law_388 : decode cL_law 388 = .ok (.iconst 4, 1) := by decide +kernel
theorem dL_law_389 : decode cL_law 389 = .ok (.iadd, 1) := by decide +kernel
theorem dL_law_390 : decode cL_law 390 = .ok (.iaload, 1) := by decide +kernel
theorem dL_law_391 : decode cL_law 391 = .ok (.invokevirtual 40, 3) := by decide +kernel
theorem dL_law_394 : decode cL_law 394 = .ok (.aload_n 2, 1) := by decide +kernel
theorem dL_law_395 : decode cL_law 395 = .ok (.aload_n 0, 1) := by decide +kernel
theorem dL_law_396 : decode cL_law 396 = .ok (.iload_n 3, 1) := by decide +kernel
theorem dL_law_397 : decode cL_law 397 = .ok (.iconst 1, 1) := by decide +kernel
theorem dL_law_398 : decode cL_law 398 = .ok (.iadd, 1) := by decide +kernel
theorem dL_law_399 : decode cL_law 399 = .ok (.iaload, 1) := by decide +kernel
theorem dL_law_400 : decode cL_law 400 = .ok (.aload_n 0, 1) := by decide +kernel
theorem dL_law_401 : decode cL_law 401 = .ok (.iload_n 3, 1) := by decide +kernel
theorem dL_law_402 : decode cL_law 402 = .ok (.iconst 2, 1) := by decide +kernel
theorem dL_law_403 : decode cL_law 403 = .ok (.iadd, 1) := by decide +kernel
theorem dL_law_404 : decode cL_law 404 = .ok (.iaload, 1) := by decide +kernel
theorem dL_law_405 : decode cL_law 405 = .ok (.aload_n 0, 1) := by decide +kernel
theorem dL_law_406 : decode cL_law 406 = .ok (.iload_n 3, 1) := by decide +kernel
theorem dL_law_407 : decode cL_law 407 = .ok (.iconst 3, 1) := by decide +kernel
theorem dL_law_408 : decode cL_law 408 = .ok (.iadd, 1) := by decide +kernel
theorem dL_law_409 : decode cL_law 409 = .ok (.iaload, 1) := by decide +kernel
theorem dL_law_410 : decode cL_law 410 = .ok (.aload_n 0, 1) := by decide +kernel
theorem dL_law_411 : decode cL_law 411 = .ok (.iload_n 3, 1) := by decide +kernel
theorem dL_law_412 : decode cL_law 412 = .ok (.iconst 4, 1) := by decide +kernel
theorem dL_law_413 : decode cL_law 413 = .ok (.iadd, 1) := by decide +kernel
theorem dL_law_414 : decode cL_law 414 = .ok (.iaload, 1) := by decide +kernel
theorem dL_law_415 : decode cL_law 415 = .ok (.invokevirtual 44, 3) := by decide +kernel
theorem dL_law_418 : decode cL_law 418 = .ok (.if_icmp .eq 770, 3) := by decide +kernel
theorem dL_law_421 : decode cL_law 421 = .ok (.iconst 0, 1) := by decide +kernel
theorem dL_law_422 : decode cL_law 422 = .ok (.ireturn, 1) := by decide +kernel
theorem dL_law_423 : decode cL_law 423 = .ok (.aload_n 1, 1) := by decide +kernel
theorem dL_law_424 : decode cL_law 424 = .ok (.aload_n 0, 1) := by decide +kernel
theorem dL_law_425 : decode cL_law 425 = .ok (.iload_n 3, 1) := by decide +kernel
theorem dL_law_426 : decode cL_law 426 = .ok (.iconst 1, 1) := by decide +kernel
theorem dL_law_427 : decode cL_law 427 = .ok (.iadd, 1) := by decide +kernel
theorem dL_law_428 : decode cL_law 428 = .ok (.iaload, 1) := by decide +kernel
theorem dL_law_429 : decode cL_law 429 = .ok (.aload_n 0, 1) := by decide +kernel
theorem dL_law_430 : decode cL_law 430 = .ok (.iload_n 3, 1) := by decide +kernel
theorem dL_law_431 : decode cL_law 431 = .ok (.iconst 2, 1) := by decide +kernel
theorem dL_law_432 : decode cL_law 432 = .ok (.iadd, 1) := by decide +kernel
theorem dL_law_433 : decode cL_law 433 = .ok (.iaload, 1) := by decide +kernel
theorem dL_law_434 : decode cL_law 434 = .ok (.aload_n 0, 1) := by decide +kernel
theorem dL_law_435 : decode cL_law 435 = .ok (.iload_n 3, 1) := by decide +kernel
theorem dL_law_436 : decode cL_law 436 = .ok (.iconst 3, 1) := by decide +kernel
theorem dL_law_437 : decode cL_law 437 = .ok (.iadd, 1) := by decide +kernel
theorem dL_law_438 : decode cL_law 438 = .ok (.iaload, 1) := by decide +kernel
theorem dL_law_439 : decode cL_law 439 = .ok (.invokevirtual 45, 3) := by decide +kernel
theorem dL_law_442 : decode cL_law 442 = .ok (.aload_n 2, 1) := by decide +kernel
theorem dL_law_443 : decode cL_law 443 = .ok (.aload_n 0, 1) := by decide +kernel
theorem dL_law_444 : decode cL_law 444 = .ok (.iload_n 3, 1) := by decide +kernel
theorem dL_law_445 : decode cL_law 445 = .ok (.iconst 1, 1) := by decide +kernel
theorem dL_law_446 : decode cL_law 446 = .ok (.iadd, 1) := by decide +kernel
theorem dL_law_447 : decode cL_law 447 = .ok (.iaload, 1) := by decide +kernel
theorem dL_law_448 : decode cL_law 448 = .ok (.aload_n 0, 1) := by decide +kernel
theorem dL_law_449 : decode cL_law 449 = .ok (.iload_n 3, 1) := by decide +kernel
theorem dL_law_450 : decode cL_law 450 = .ok (.iconst 2, 1) := by decide +kernel
theorem dL_law_451 : decode cL_law 451 = .ok (.iadd, 1) := by decide +kernel
theorem dL_law_452 : decode cL_law 452 = .ok (.iaload, 1) := by decide +kernel
theorem dL_law_453 : decode cL_law 453 = .ok (.aload_n 0, 1) := by decide +kernel
theorem dL_law_454 : decode cL_law 454 = .ok (.iload_n 3, 1) := by decide +kernel
theorem dL_law_455 : decode cL_law 455 = .ok (.iconst 3, 1) := by decide +kernel
theorem dL_law_456 : decode cL_law 456 = .ok (.iadd, 1) := by decide +kernel
theorem dL_law_457 : decode cL_law 457 = .ok (.iaload, 1) := by decide +kernel
theorem dL_law_458 : decode cL_law 458 = .ok (.invokevirtual 48, 3) := by decide +kernel
theorem dL_law_461 : decode cL_law 461 = .ok (.if_icmp .eq 727, 3) := by decide +kernel
theorem dL_law_464 : decode cL_law 464 = .ok (.iconst 0, 1) := by decide +kernel
theorem dL_law_465 : decode cL_law 465 = .ok (.ireturn, 1) := by decide +kernel
theorem dL_law_466 : decode cL_law 466 = .ok (.aload_n 1, 1) := by decide +kernel
theorem dL_law_467 : decode cL_law 467 = .ok (.aload_n 0, 1) := by decide +kernel
theorem dL_law_468 : decode cL_law 468 = .ok (.iload_n 3, 1) := by decide +kernel
theorem dL_law_469 : decode cL_law 469 = .ok (.iconst 1, 1) := by decide +kernel
theorem dL_law_470 : decode cL_law 470 = .ok (.iadd, 1) := by decide +kernel
theorem dL_law_471 : decode cL_law 471 = .ok (.iaload, 1) := by decide +kernel
theorem dL_law_472 : decode cL_law 472 = .ok (.invokevirtual 49, 3) := by decide +kernel
theorem dL_law_475 : decode cL_law 475 = .ok (.aload_n 2, 1) := by decide +kernel
theorem dL_law_476 : decode cL_law 476 = .ok (.aload_n 0, 1) := by decide +kernel
theorem dL_law_477 : decode cL_law 477 = .ok (.iload_n 3, 1) := by decide +kernel
theorem dL_law_478 : decode cL_law 478 = .ok (.iconst 1, 1) := by decide +kernel
theorem dL_law_479 : decode cL_law 479 = .ok (.iadd, 1) := by decide +kernel
theorem dL_law_480 : decode cL_law 480 = .ok (.iaload, 1) := by decide +kernel
theorem dL_law_481 : decode cL_law 481 = .ok (.invokevirtual 53, 3) := by decide +kernel
theorem dL_law_484 : decode cL_law 484 = .ok (.lcmp, 1) := by decide +kernel
theorem dL_law_485 : decode cL_law 485 = .ok (.ifCond .eq 703, 3) := by decide +kernel
theorem dL_law_488 : decode cL_law 488 = .ok (.iconst 0, 1) := by decide +kernel
theorem dL_law_489 : decode cL_law 489 = .ok (.ireturn, 1) := by decide +kernel
theorem dL_law_490 : decode cL_law 490 = .ok (.aload_n 1, 1) := by decide +kernel
theorem dL_law_491 : decode cL_law 491 = .ok (.aload_n 0, 1) := by decide +kernel
theorem dL_law_492 : decode cL_law 492 = .ok (.iload_n 3, 1) := by decide +kernel
theorem dL_law_493 : decode cL_law 493 = .ok (.iconst 1, 1) := by decide +kernel
theorem dL_law_494 : decode cL_law 494 = .ok (.iadd, 1) := by decide +kernel
theorem dL_law_495 : decode cL_law 495 = .ok (.iaload, 1) := by decide +kernel
theorem dL_law_496 : decode cL_law 496 = .ok (.aload_n 0, 1) := by decide +kernel
theorem dL_law_497 : decode cL_law 497 = .ok (.iload_n 3, 1) := by decide +kernel
theorem dL_law_498 : decode cL_law 498 = .ok (.iconst 2, 1) := by decide +kernel
theorem dL_law_499 : decode cL_law 499 = .ok (.iadd, 1) := by decide +kernel
theorem dL_law_500 : decode cL_law 500 = .ok (.iaload, 1) := by decide +kernel
theorem dL_law_501 : decode cL_law 501 = .ok (.aload_n 0, 1) := by decide +kernel
theorem dL_law_502 : decode cL_law 502 = .ok (.iload_n 3, 1) := by decide +kernel
theorem dL_law_503 : decode cL_law 503 = .ok (.iconst 3, 1) := by decide +kernel
theorem dL_law_504 : decode cL_law 504 = .ok (.iadd, 1) := by decide +kernel
theorem dL_law_505 : decode cL_law 505 = .ok (.iaload, 1) := by decide +kernel
theorem dL_law_506 : decode cL_law 506 = .ok (.invokevirtual 54, 3) := by decide +kernel
theorem dL_law_509 : decode cL_law 509 = .ok (.aload_n 2, 1) := by decide +kernel
theorem dL_law_510 : decode cL_law 510 = .ok (.aload_n 0, 1) := by decide +kernel
theorem dL_law_511 : decode cL_law 511 = .ok (.iload_n 3, 1) := by decide +kernel
theorem dL_law_512 : decode cL_law 512 = .ok (.iconst 1, 1) := by decide +kernel
theorem dL_law_513 : decode cL_law 513 = .ok (.iadd, 1) := by decide +kernel
theorem dL_law_514 : decode cL_law 514 = .ok (.iaload, 1) := by decide +kernel
theorem dL_law_515 : decode cL_law 515 = .ok (.aload_n 0, 1) := by decide +kernel
theorem dL_law_516 : decode cL_law 516 = .ok (.iload_n 3, 1) := by decide +kernel
theorem dL_law_517 : decode cL_law 517 = .ok (.iconst 2, 1) := by decide +kernel
theorem dL_law_518 : decode cL_law 518 = .ok (.iadd, 1) := by decide +kernel
theorem dL_law_519 : decode cL_law 519 = .ok (.iaload, 1) := by decide +kernel
theorem dL_law_520 : decode cL_law 520 = .ok (.aload_n 0, 1) := by decide +kernel
theorem dL_law_521 : decode cL_law 521 = .ok (.iload_n 3, 1) := by decide +kernel
theorem dL_law_522 : decode cL_law 522 = .ok (.iconst 3, 1) := by decide +kernel
theorem dL_law_523 : decode cL_law 523 = .ok (.iadd, 1) := by decide +kernel
theorem dL_law_524 : decode cL_law 524 = .ok (.iaload, 1) := by decide +kernel
theorem dL_law_525 : decode cL_law 525 = .ok (.invokevirtual 57, 3) := by decide +kernel
theorem dL_law_528 : decode cL_law 528 = .ok (.if_icmp .eq 660, 3) := by decide +kernel
theorem dL_law_531 : decode cL_law 531 = .ok (.iconst 0, 1) := by decide +kernel
theorem dL_law_532 : decode cL_law 532 = .ok (.ireturn, 1) := by decide +kernel
theorem dL_law_533 : decode cL_law 533 = .ok (.aload_n 1, 1) := by decide +kernel
theorem dL_law_534 : decode cL_law 534 = .ok (.aload_n 0, 1) := by decide +kernel
theorem dL_law_535 : decode cL_law 535 = .ok (.iload_n 3, 1) := by decide +kernel
theorem dL_law_536 : decode cL_law 536 = .ok (.iconst 1, 1) := by decide +kernel
theorem dL_law_537 : decode cL_law 537 = .ok (.iadd, 1) := by decide +kernel
theorem dL_law_538 : decode cL_law 538 = .ok (.iaload, 1) := by decide +kernel
theorem dL_law_539 : decode cL_law 539 = .ok (.aload_n 0, 1) := by decide +kernel
theorem dL_law_540 : decode cL_law 540 = .ok (.iload_n 3, 1) := by decide +kernel
theorem dL_law_541 : decode cL_law 541 = .ok (.iconst 2, 1) := by decide +kernel
theorem dL_law_542 : decode cL_law 542 = .ok (.iadd, 1) := by decide +kernel
theorem dL_law_543 : decode cL_law 543 = .ok (.iaload, 1) := by decide +kernel
theorem dL_law_544 : decode cL_law 544 = .ok (.invokevirtual 58, 3) := by decide +kernel
theorem dL_law_547 : decode cL_law 547 = .ok (.aload_n 2, 1) := by decide +kernel
theorem dL_law_548 : decode cL_law 548 = .ok (.aload_n 0, 1) := by decide +kernel
theorem dL_law_549 : decode cL_law 549 = .ok (.iload_n 3, 1) := by decide +kernel
theorem dL_law_550 : decode cL_law 550 = .ok (.iconst 1, 1) := by decide +kernel
theorem dL_law_551 : decode cL_law 551 = .ok (.iadd, 1) := by decide +kernel
theorem dL_law_552 : decode cL_law 552 = .ok (.iaload, 1) := by decide +kernel
theorem dL_law_553 : decode cL_law 553 = .ok (.aload_n 0, 1) := by decide +kernel
theorem dL_law_554 : decode cL_law 554 = .ok (.iload_n 3, 1) := by decide +kernel
theorem dL_law_555 : decode cL_law 555 = .ok (.iconst 2, 1) := by decide +kernel
theorem dL_law_556 : decode cL_law 556 = .ok (.iadd, 1) := by decide +kernel
theorem dL_law_557 : decode cL_law 557 = .ok (.iaload, 1) := by decide +kernel
theorem dL_law_558 : decode cL_law 558 = .ok (.invokevirtual 61, 3) := by decide +kernel
theorem dL_law_561 : decode cL_law 561 = .ok (.if_icmp .eq 627, 3) := by decide +kernel
theorem dL_law_564 : decode cL_law 564 = .ok (.iconst 0, 1) := by decide +kernel
theorem dL_law_565 : decode cL_law 565 = .ok (.ireturn, 1) := by decide +kernel
theorem dL_law_566 : decode cL_law 566 = .ok (.aload_n 1, 1) := by decide +kernel
theorem dL_law_567 : decode cL_law 567 = .ok (.aload_n 0, 1) := by decide +kernel
theorem dL_law_568 : decode cL_law 568 = .ok (.iload_n 3, 1) := by decide +kernel
theorem dL_law_569 : decode cL_law 569 = .ok (.iconst 1, 1) := by decide +kernel
theorem dL_law_570 : decode cL_law 570 = .ok (.iadd, 1) := by decide +kernel
theorem dL_law_571 : decode cL_law 571 = .ok (.iaload, 1) := by decide +kernel
theorem dL_law_572 : decode cL_law 572 = .ok (.aload_n 0, 1) := by decide +kernel
theorem dL_law_573 : decode cL_law 573 = .ok (.iload_n 3, 1) := by decide +kernel
theorem dL_law_574 : decode cL_law 574 = .ok (.iconst 2, 1) := by decide +kernel
theorem dL_law_575 : decode cL_law 575 = .ok (.iadd, 1) := by decide +kernel
theorem dL_law_576 : decode cL_law 576 = .ok (.iaload, 1) := by decide +kernel
theorem dL_law_577 : decode cL_law 577 = .ok (.invokevirtual 62, 3) := by decide +kernel
theorem dL_law_580 : decode cL_law 580 = .ok (.aload_n 2, 1) := by decide +kernel
theorem dL_law_581 : decode cL_law 581 = .ok (.aload_n 0, 1) := by decide +kernel
theorem dL_law_582 : decode cL_law 582 = .ok (.iload_n 3, 1) := by decide +kernel
theorem dL_law_583 : decode cL_law 583 = .ok (.iconst 1, 1) := by decide +kernel
theorem dL_law_584 : decode cL_law 584 = .ok (.iadd, 1) := by decide +kernel
theorem dL_law_585 : decode cL_law 585 = .ok (.iaload, 1) := by decide +kernel
theorem dL_law_586 : decode cL_law 586 = .ok (.aload_n 0, 1) := by decide +kernel
theorem dL_law_587 : decode cL_law 587 = .ok (.iload_n 3, 1) := by decide +kernel
theorem dL_law_588 : decode cL_law 588 = .ok (.iconst 2, 1) := by decide +kernel
theorem dL_law_589 : decode cL_law 589 = .ok (.iadd, 1) := by decide +kernel
theorem dL_law_590 : decode cL_law 590 = .ok (.iaload, 1) := by decide +kernel
theorem dL_law_591 : decode cL_law 591 = .ok (.invokevirtual 65, 3) := by decide +kernel
theorem dL_law_594 : decode cL_law 594 = .ok (.if_icmp .eq 594, 3) := by decide +kernel
theorem dL_law_597 : decode cL_law 597 = .ok (.iconst 0, 1) := by decide +kernel
theorem dL_law_598 : decode cL_law 598 = .ok (.ireturn, 1) := by decide +kernel
theorem dL_law_599 : decode cL_law 599 = .ok (.aload_n 1, 1) := by decide +kernel
theorem dL_law_600 : decode cL_law 600 = .ok (.aload_n 0, 1) := by decide +kernel
theorem dL_law_601 : decode cL_law 601 = .ok (.iload_n 3, 1) := by decide +kernel
theorem dL_law_602 : decode cL_law 602 = .ok (.iconst 1, 1) := by decide +kernel
theorem dL_law_603 : decode cL_law 603 = .ok (.iadd, 1) := by decide +kernel
theorem dL_law_604 : decode cL_law 604 = .ok (.iaload, 1) := by decide +kernel
theorem dL_law_605 : decode cL_law 605 = .ok (.aload_n 0, 1) := by decide +kernel
theorem dL_law_606 : decode cL_law 606 = .ok (.iload_n 3, 1) := by decide +kernel
theorem dL_law_607 : decode cL_law 607 = .ok (.iconst 2, 1) := by decide +kernel
theorem dL_law_608 : decode cL_law 608 = .ok (.iadd, 1) := by decide +kernel
theorem dL_law_609 : decode cL_law 609 = .ok (.iaload, 1) := by decide +kernel
theorem dL_law_610 : decode cL_law 610 = .ok (.aload_n 0, 1) := by decide +kernel
theorem dL_law_611 : decode cL_law 611 = .ok (.iload_n 3, 1) := by decide +kernel
theorem dL_law_612 : decode cL_law 612 = .ok (.iconst 3, 1) := by decide +kernel
theorem dL_law_613 : decode cL_law 613 = .ok (.iadd, 1) := by decide +kernel
theorem dL_law_614 : decode cL_law 614 = .ok (.iaload, 1) := by decide +kernel
theorem dL_law_615 : decode cL_law 615 = .ok (.invokevirtual 66, 3) := by decide +kernel
theorem dL_law_618 : decode cL_law 618 = .ok (.aload_n 2, 1) := by decide +kernel
theorem dL_law_619 : decode cL_law 619 = .ok (.aload_n 0, 1) := by decide +kernel
theorem dL_law_620 : decode cL_law 620 = .ok (.iload_n 3, 1) := by decide +kernel
theorem dL_law_621 : decode cL_law 621 = .ok (.iconst 1, 1) := by decide +kernel
theorem dL_law_622 : decode cL_law 622 = .ok (.iadd, 1) := by decide +kernel
theorem dL_law_623 : decode cL_law 623 = .ok (.iaload, 1) := by decide +kernel
theorem dL_law_624 : decode cL_law 624 = .ok (.aload_n 0, 1) := by decide +kernel
theorem dL_law_625 : decode cL_law 625 = .ok (.iload_n 3, 1) := by decide +kernel
theorem dL_law_626 : decode cL_law 626 = .ok (.iconst 2, 1) := by decide +kernel
theorem dL_law_627 : decode cL_law 627 = .ok (.iadd, 1) := by decide +kernel
theorem dL_law_628 : decode cL_law 628 = .ok (.iaload, 1) := by decide +kernel
theorem dL_law_629 : decode cL_law 629 = .ok (.aload_n 0, 1) := by decide +kernel
theorem dL_law_630 : decode cL_law 630 = .ok (.iload_n 3, 1) := by decide +kernel
theorem dL_law_631 : decode cL_law 631 = .ok (.iconst 3, 1) := by decide +kernel
theorem dL_law_632 : decode cL_law 632 = .ok (.iadd, 1) := by decide +kernel
theorem dL_law_633 : decode cL_law 633 = .ok (.iaload, 1) := by decide +kernel
theorem dL_law_634 : decode cL_law 634 = .ok (.invokevirtual 69, 3) := by decide +kernel
theorem dL_law_637 : decode cL_law 637 = .ok (.if_icmp .eq 551, 3) := by decide +kernel
theorem dL_law_640 : decode cL_law 640 = .ok (.iconst 0, 1) := by decide +kernel
theorem dL_law_641 : decode cL_law 641 = .ok (.ireturn, 1) := by decide +kernel
theorem dL_law_642 : decode cL_law 642 = .ok (.aload_n 1, 1) := by decide +kernel
theorem dL_law_643 : decode cL_law 643 = .ok (.aload_n 0, 1) := by decide +kernel
theorem dL_law_644 : decode cL_law 644 = .ok (.iload_n 3, 1) := by decide +kernel
theorem dL_law_645 : decode cL_law 645 = .ok (.iconst 1, 1) := by decide +kernel
theorem dL_law_646 : decode cL_law 646 = .ok (.iadd, 1) := by decide +kernel
theorem dL_law_647 : decode cL_law 647 = .ok (.iaload, 1) := by decide +kernel
theorem dL_law_648 : decode cL_law 648 = .ok (.aload_n 0, 1) := by decide +kernel
theorem dL_law_649 : decode cL_law 649 = .ok (.iload_n 3, 1) := by decide +kernel
theorem dL_law_650 : decode cL_law 650 = .ok (.iconst 2, 1) := by decide +kernel
theorem dL_law_651 : decode cL_law 651 = .ok (.iadd, 1) := by decide +kernel
theorem dL_law_652 : decode cL_law 652 = .ok (.iaload, 1) := by decide +kernel
theorem dL_law_653 : decode cL_law 653 = .ok (.invokevirtual 70, 3) := by decide +kernel
theorem dL_law_656 : decode cL_law 656 = .ok (.aload_n 2, 1) := by decide +kernel
theorem dL_law_657 : decode cL_law 657 = .ok (.aload_n 0, 1) := by decide +kernel
theorem dL_law_658 : decode cL_law 658 = .ok (.iload_n 3, 1) := by decide +kernel
theorem dL_law_659 : decode cL_law 659 = .ok (.iconst 1, 1) := by decide +kernel
theorem dL_law_660 : decode cL_law 660 = .ok (.iadd, 1) := by decide +kernel
theorem dL_law_661 : decode cL_law 661 = .ok (.iaload, 1) := by decide +kernel
theorem dL_law_662 : decode cL_law 662 = .ok (.aload_n 0, 1) := by decide +kernel
theorem dL_law_663 : decode cL_law 663 = .ok (.iload_n 3, 1) := by decide +kernel
theorem dL_law_664 : decode cL_law 664 = .ok (.iconst 2, 1) := by decide +kernel
theorem dL_law_665 : decode cL_law 665 = .ok (.iadd, 1) := by decide +kernel
theorem dL_law_666 : decode cL_law 666 = .ok (.iaload, 1) := by decide +kernel
theorem dL_law_667 : decode cL_law 667 = .ok (.invokevirtual 73, 3) := by decide +kernel
theorem dL_law_670 : decode cL_law 670 = .ok (.if_icmp .eq 518, 3) := by decide +kernel
theorem dL_law_673 : decode cL_law 673 = .ok (.iconst 0, 1) := by decide +kernel
theorem dL_law_674 : decode cL_law 674 = .ok (.ireturn, 1) := by decide +kernel
theorem dL_law_675 : decode cL_law 675 = .ok (.aload_n 1, 1) := by decide +kernel
theorem dL_law_676 : decode cL_law 676 = .ok (.invokevirtual 74, 3) := by decide +kernel
theorem dL_law_679 : decode cL_law 679 = .ok (.aload_n 2, 1) := by decide +kernel
theorem dL_law_680 : decode cL_law 680 = .ok (.invokevirtual 78, 3) := by decide +kernel
theorem dL_law_683 : decode cL_law 683 = .ok (.if_icmp .eq 505, 3) := by decide +kernel
theorem dL_law_686 : decode cL_law 686 = .ok (.iconst 0, 1) := by decide +kernel
theorem dL_law_687 : decode cL_law 687 = .ok (.ireturn, 1) := by decide +kernel
theorem dL_law_688 : decode cL_law 688 = .ok (.aload_n 1, 1) := by decide +kernel
theorem dL_law_689 : decode cL_law 689 = .ok (.invokevirtual 79, 3) := by decide +kernel
theorem dL_law_692 : decode cL_law 692 = .ok (.aload_n 2, 1) := by decide +kernel
theorem dL_law_693 : decode cL_law 693 = .ok (.invokevirtual 82, 3) := by decide +kernel
theorem dL_law_696 : decode cL_law 696 = .ok (.if_icmp .eq 492, 3) := by decide +kernel
theorem dL_law_699 : decode cL_law 699 = .ok (.iconst 0, 1) := by decide +kernel
theorem dL_law_700 : decode cL_law 700 = .ok (.ireturn, 1) := by decide +kernel
theorem dL_law_701 : decode cL_law 701 = .ok (.aload_n 1, 1) := by decide +kernel
theorem dL_law_702 : decode cL_law 702 = .ok (.invokevirtual 83, 3) := by decide +kernel
theorem dL_law_705 : decode cL_law 705 = .ok (.aload_n 2, 1) := by decide +kernel
theorem dL_law_706 : decode cL_law 706 = .ok (.invokevirtual 86, 3) := by decide +kernel
theorem dL_law_709 : decode cL_law 709 = .ok (.if_icmp .eq 479, 3) := by decide +kernel
theorem dL_law_712 : decode cL_law 712 = .ok (.iconst 0, 1) := by decide +kernel
theorem dL_law_713 : decode cL_law 713 = .ok (.ireturn, 1) := by decide +kernel
theorem dL_law_714 : decode cL_law 714 = .ok (.aload_n 1, 1) := by decide +kernel
theorem dL_law_715 : decode cL_law 715 = .ok (.aload_n 0, 1) := by decide +kernel
theorem dL_law_716 : decode cL_law 716 = .ok (.iload_n 3, 1) := by decide +kernel
theorem dL_law_717 : decode cL_law 717 = .ok (.iconst 1, 1) := by decide +kernel
theorem dL_law_718 : decode cL_law 718 = .ok (.iadd, 1) := by decide +kernel
theorem dL_law_719 : decode cL_law 719 = .ok (.iaload, 1) := by decide +kernel
theorem dL_law_720 : decode cL_law 720 = .ok (.invokevirtual 87, 3) := by decide +kernel
theorem dL_law_723 : decode cL_law 723 = .ok (.aload_n 2, 1) := by decide +kernel
theorem dL_law_724 : decode cL_law 724 = .ok (.aload_n 0, 1) := by decide +kernel
theorem dL_law_725 : decode cL_law 725 = .ok (.iload_n 3, 1) := by decide +kernel
theorem dL_law_726 : decode cL_law 726 = .ok (.iconst 1, 1) := by decide +kernel
theorem dL_law_727 : decode cL_law 727 = .ok (.iadd, 1) := by decide +kernel
theorem dL_law_728 : decode cL_law 728 = .ok (.iaload, 1) := by decide +kernel
theorem dL_law_729 : decode cL_law 729 = .ok (.invokevirtual 90, 3) := by decide +kernel
theorem dL_law_732 : decode cL_law 732 = .ok (.if_icmp .eq 456, 3) := by decide +kernel
theorem dL_law_735 : decode cL_law 735 = .ok (.iconst 0, 1) := by decide +kernel
theorem dL_law_736 : decode cL_law 736 = .ok (.ireturn, 1) := by decide +kernel
theorem dL_law_737 : decode cL_law 737 = .ok (.aload_n 1, 1) := by decide +kernel
theorem dL_law_738 : decode cL_law 738 = .ok (.aload_n 0, 1) := by decide +kernel
theorem dL_law_739 : decode cL_law 739 = .ok (.iload_n 3, 1) := by decide +kernel
theorem dL_law_740 : decode cL_law 740 = .ok (.iconst 1, 1) := by decide +kernel
theorem dL_law_741 : decode cL_law 741 = .ok (.iadd, 1) := by decide +kernel
theorem dL_law_742 : decode cL_law 742 = .ok (.iaload, 1) := by decide +kernel
theorem dL_law_743 : decode cL_law 743 = .ok (.invokevirtual 91, 3) := by decide +kernel
theorem dL_law_746 : decode cL_law 746 = .ok (.aload_n 2, 1) := by decide +kernel
theorem dL_law_747 : decode cL_law 747 = .ok (.aload_n 0, 1) := by decide +kernel
theorem dL_law_748 : decode cL_law 748 = .ok (.iload_n 3, 1) := by decide +kernel
theorem dL_law_749 : decode cL_law 749 = .ok (.iconst 1, 1) := by decide +kernel
theorem dL_law_750 : decode cL_law 750 = .ok (.iadd, 1) := by decide +kernel
theorem dL_law_751 : decode cL_law 751 = .ok (.iaload, 1) := by decide +kernel
theorem dL_law_752 : decode cL_law 752 = .ok (.invokevirtual 94, 3) := by decide +kernel
theorem dL_law_755 : decode cL_law 755 = .ok (.if_icmp .eq 433, 3) := by decide +kernel
theorem dL_law_758 : decode cL_law 758 = .ok (.iconst 0, 1) := by decide +kernel
theorem dL_law_759 : decode cL_law 759 = .ok (.ireturn, 1) := by decide +kernel
theorem dL_law_760 : decode cL_law 760 = .ok (.aload_n 1, 1) := by decide +kernel
theorem dL_law_761 : decode cL_law 761 = .ok (.aload_n 0, 1) := by decide +kernel
theorem dL_law_762 : decode cL_law 762 = .ok (.iload_n 3, 1) := by decide +kernel
theorem dL_law_763 : decode cL_law 763 = .ok (.iconst 1, 1) := by decide +kernel
theorem dL_law_764 : decode cL_law 764 = .ok (.iadd, 1) := by decide +kernel
theorem dL_law_765 : decode cL_law 765 = .ok (.iaload, 1) := by decide +kernel
theorem dL_law_766 : decode cL_law 766 = .ok (.aload_n 0, 1) := by decide +kernel
theorem dL_law_767 : decode cL_law 767 = .ok (.iload_n 3, 1) := by decide +kernel
theorem dL_law_768 : decode cL_law 768 = .ok (.iconst 2, 1) := by decide +kernel
theorem dL_law_769 : decode cL_law 769 = .ok (.iadd, 1) := by decide +kernel
theorem dL_law_770 : decode cL_law 770 = .ok (.iaload, 1) := by decide +kernel
theorem dL_law_771 : decode cL_law 771 = .ok (.invokevirtual 95, 3) := by decide +kernel
theorem dL_law_774 : decode cL_law 774 = .ok (.aload_n 2, 1) := by decide +kernel
theorem dL_law_775 : decode cL_law 775 = .ok (.aload_n 0, 1) := by decide +kernel
theorem dL_law_776 : decode cL_law 776 = .ok (.iload_n 3, 1) := by decide +kernel
theorem dL_law_777 : decode cL_law 777 = .ok (.iconst 1, 1) := by decide +kernel
theorem dL_law_778 : decode cL_law 778 = .ok (.iadd, 1) := by decide +kernel
theorem dL_law_779 : decode cL_law 779 = .ok (.iaload, 1) := by decide +kernel
theorem dL_law_780 : decode cL_law 780 = .ok (.aload_n 0, 1) := by decide +kernel
theorem dL_law_781 : decode cL_law 781 = .ok (.iload_n 3, 1) := by decide +kernel
theorem dL_law_782 : decode cL_law 782 = .ok (.iconst 2, 1) := by decide +kernel
theorem dL_law_783 : decode cL_law 783 = .ok (.iadd, 1) := by decide +kernel
theorem dL_law_784 : decode cL_law 784 = .ok (.iaload, 1) := by decide +kernel
theorem dL_law_785 : decode cL_law 785 = .ok (.invokevirtual 98, 3) := by decide +kernel
theorem dL_law_788 : decode cL_law 788 = .ok (.if_icmp .eq 400, 3) := by decide +kernel
theorem dL_law_791 : decode cL_law 791 = .ok (.iconst 0, 1) := by decide +kernel
theorem dL_law_792 : decode cL_law 792 = .ok (.ireturn, 1) := by decide +kernel
theorem dL_law_793 : decode cL_law 793 = .ok (.aload_n 1, 1) := by decide +kernel
theorem dL_law_794 : decode cL_law 794 = .ok (.aload_n 0, 1) := by decide +kernel
theorem dL_law_795 : decode cL_law 795 = .ok (.iload_n 3, 1) := by decide +kernel
theorem dL_law_796 : decode cL_law 796 = .ok (.iconst 1, 1) := by decide +kernel
theorem dL_law_797 : decode cL_law 797 = .ok (.iadd, 1) := by decide +kernel
theorem dL_law_798 : decode cL_law 798 = .ok (.iaload, 1) := by decide +kernel
theorem dL_law_799 : decode cL_law 799 = .ok (.aload_n 0, 1) := by decide +kernel
theorem dL_law_800 : decode cL_law 800 = .ok (.iload_n 3, 1) := by decide +kernel
theorem dL_law_801 : decode cL_law 801 = .ok (.iconst 2, 1) := by decide +kernel
theorem dL_law_802 : decode cL_law 802 = .ok (.iadd, 1) := by decide +kernel
theorem dL_law_803 : decode cL_law 803 = .ok (.iaload, 1) := by decide +kernel
theorem dL_law_804 : decode cL_law 804 = .ok (.aload_n 0, 1) := by decide +kernel
theorem dL_law_805 : decode cL_law 805 = .ok (.iload_n 3, 1) := by decide +kernel
theorem dL_law_806 : decode cL_law 806 = .ok (.iconst 3, 1) := by decide +kernel
theorem dL_law_807 : decode cL_law 807 = .ok (.iadd, 1) := by decide +kernel
theorem dL_law_808 : decode cL_law 808 = .ok (.iaload, 1) := by decide +kernel
theorem dL_law_809 : decode cL_law 809 = .ok (.invokevirtual 99, 3) := by decide +kernel
theorem dL_law_812 : decode cL_law 812 = .ok (.aload_n 2, 1) := by decide +kernel
theorem dL_law_813 : decode cL_law 813 = .ok (.aload_n 0, 1) := by decide +kernel
theorem dL_law_814 : decode cL_law 814 = .ok (.iload_n 3, 1) := by decide +kernel
theorem dL_law_815 : decode cL_law 815 = .ok (.iconst 1, 1) := by decide +kernel
theorem dL_law_816 : decode cL_law 816 = .ok (.iadd, 1) := by decide +kernel
theorem dL_law_817 : decode cL_law 817 = .ok (.iaload, 1) := by decide +kernel
theorem dL_law_818 : decode cL_law 818 = .ok (.aload_n 0, 1) := by decide +kernel
theorem dL_law_819 : decode cL_law 819 = .ok (.iload_n 3, 1) := by decide +kernel
theorem dL_law_820 : decode cL_law 820 = .ok (.iconst 2, 1) := by decide +kernel
theorem dL_law_821 : decode cL_law 821 = .ok (.iadd, 1) := by decide +kernel
theorem dL_law_822 : decode cL_law 822 = .ok (.iaload, 1) := by decide +kernel
theorem dL_law_823 : decode cL_law 823 = .ok (.aload_n 0, 1) := by decide +kernel
theorem dL_law_824 : decode cL_law 824 = .ok (.iload_n 3, 1) := by decide +kernel
theorem dL_law_825 : decode cL_law 825 = .ok (.iconst 3, 1) := by decide +kernel
theorem dL_law_826 : decode cL_law 826 = .ok (.iadd, 1) := by decide +kernel
theorem dL_law_827 : decode cL_law 827 = .ok (.iaload, 1) := by decide +kernel
theorem dL_law_828 : decode cL_law 828 = .ok (.invokevirtual 102, 3) := by decide +kernel
theorem dL_law_831 : decode cL_law 831 = .ok (.if_icmp .eq 357, 3) := by decide +kernel
theorem dL_law_834 : decode cL_law 834 = .ok (.iconst 0, 1) := by decide +kernel
theorem dL_law_835 : decode cL_law 835 = .ok (.ireturn, 1) := by decide +kernel
theorem dL_law_836 : decode cL_law 836 = .ok (.aload_n 1, 1) := by decide +kernel
theorem dL_law_837 : decode cL_law 837 = .ok (.aload_n 0, 1) := by decide +kernel
theorem dL_law_838 : decode cL_law 838 = .ok (.iload_n 3, 1) := by decide +kernel
theorem dL_law_839 : decode cL_law 839 = .ok (.iconst 1, 1) := by decide +kernel
theorem dL_law_840 : decode cL_law 840 = .ok (.iadd, 1) := by decide +kernel
theorem dL_law_841 : decode cL_law 841 = .ok (.iaload, 1) := by decide +kernel
theorem dL_law_842 : decode cL_law 842 = .ok (.aload_n 0, 1) := by decide +kernel
theorem dL_law_843 : decode cL_law 843 = .ok (.iload_n 3, 1) := by decide +kernel
theorem dL_law_844 : decode cL_law 844 = .ok (.iconst 2, 1) := by decide +kernel
theorem dL_law_845 : decode cL_law 845 = .ok (.iadd, 1) := by decide +kernel
theorem dL_law_846 : decode cL_law 846 = .ok (.iaload, 1) := by decide +kernel
theorem dL_law_847 : decode cL_law 847 = .ok (.aload_n 0, 1) := by decide +kernel
theorem dL_law_848 : decode cL_law 848 = .ok (.iload_n 3, 1) := by decide +kernel
theorem dL_law_849 : decode cL_law 849 = .ok (.iconst 3, 1) := by decide +kernel
theorem dL_law_850 : decode cL_law 850 = .ok (.iadd, 1) := by decide +kernel
theorem dL_law_851 : decode cL_law 851 = .ok (.iaload, 1) := by decide +kernel
theorem dL_law_852 : decode cL_law 852 = .ok (.invokevirtual 103, 3) := by decide +kernel
theorem dL_law_855 : decode cL_law 855 = .ok (.aload_n 2, 1) := by decide +kernel
theorem dL_law_856 : decode cL_law 856 = .ok (.aload_n 0, 1) := by decide +kernel
theorem dL_law_857 : decode cL_law 857 = .ok (.iload_n 3, 1) := by decide +kernel
theorem dL_law_858 : decode cL_law 858 = .ok (.iconst 1, 1) := by decide +kernel
theorem dL_law_859 : decode cL_law 859 = .ok (.iadd, 1) := by decide +kernel
theorem dL_law_860 : decode cL_law 860 = .ok (.iaload, 1) := by decide +kernel
theorem dL_law_861 : decode cL_law 861 = .ok (.aload_n 0, 1) := by decide +kernel
theorem dL_law_862 : decode cL_law 862 = .ok (.iload_n 3, 1) := by decide +kernel
theorem dL_law_863 : decode cL_law 863 = .ok (.iconst 2, 1) := by decide +kernel
theorem dL_law_864 : decode cL_law 864 = .ok (.iadd, 1) := by decide +kernel
theorem dL_law_865 : decode cL_law 865 = .ok (.iaload, 1) := by decide +kernel
theorem dL_law_866 : decode cL_law 866 = .ok (.aload_n 0, 1) := by decide +kernel
theorem dL_law_867 : decode cL_law 867 = .ok (.iload_n 3, 1) := by decide +kernel
theorem dL_law_868 : decode cL_law 868 = .ok (.iconst 3, 1) := by decide +kernel
theorem dL_law_869 : decode cL_law 869 = .ok (.iadd, 1) := by decide +kernel
theorem dL_law_870 : decode cL_law 870 = .ok (.iaload, 1) := by decide +kernel
theorem dL_law_871 : decode cL_law 871 = .ok (.invokevirtual 106, 3) := by decide +kernel
theorem dL_law_874 : decode cL_law 874 = .ok (.if_icmp .eq 314, 3) := by decide +kernel
theorem dL_law_877 : decode cL_law 877 = .ok (.iconst 0, 1) := by decide +kernel
theorem dL_law_878 : decode cL_law 878 = .ok (.ireturn, 1) := by decide +kernel
theorem dL_law_879 : decode cL_law 879 = .ok (.aload_n 1, 1) := by decide +kernel
theorem dL_law_880 : decode cL_law 880 = .ok (.aload_n 0, 1) := by decide +kernel
theorem dL_law_881 : decode cL_law 881 = .ok (.iload_n 3, 1) := by decide +kernel
theorem dL_law_882 : decode cL_law 882 = .ok (.iconst 1, 1) := by decide +kernel
theorem dL_law_883 : decode cL_law 883 = .ok (.iadd, 1) := by decide +kernel
theorem dL_law_884 : decode cL_law 884 = .ok (.iaload, 1) := by decide +kernel
theorem dL_law_885 : decode cL_law 885 = .ok (.invokevirtual 107, 3) := by decide +kernel
theorem dL_law_888 : decode cL_law 888 = .ok (.aload_n 2, 1) := by decide +kernel
theorem dL_law_889 : decode cL_law 889 = .ok (.aload_n 0, 1) := by decide +kernel
theorem dL_law_890 : decode cL_law 890 = .ok (.iload_n 3, 1) := by decide +kernel
theorem dL_law_891 : decode cL_law 891 = .ok (.iconst 1, 1) := by decide +kernel
theorem dL_law_892 : decode cL_law 892 = .ok (.iadd, 1) := by decide +kernel
theorem dL_law_893 : decode cL_law 893 = .ok (.iaload, 1) := by decide +kernel
theorem dL_law_894 : decode cL_law 894 = .ok (.invokevirtual 110, 3) := by decide +kernel
theorem dL_law_897 : decode cL_law 897 = .ok (.if_icmp .eq 291, 3) := by decide +kernel
theorem dL_law_900 : decode cL_law 900 = .ok (.iconst 0, 1) := by decide +kernel
theorem dL_law_901 : decode cL_law 901 = .ok (.ireturn, 1) := by decide +kernel
theorem dL_law_902 : decode cL_law 902 = .ok (.aload_n 1, 1) := by decide +kernel
theorem dL_law_903 : decode cL_law 903 = .ok (.aload_n 0, 1) := by decide +kernel
theorem dL_law_904 : decode cL_law 904 = .ok (.iload_n 3, 1) := by decide +kernel
theorem dL_law_905 : decode cL_law 905 = .ok (.iconst 1, 1) := by decide +kernel
theorem dL_law_906 : decode cL_law 906 = .ok (.iadd, 1) := by decide +kernel
theorem dL_law_907 : decode cL_law 907 = .ok (.iaload, 1) := by decide +kernel
theorem dL_law_908 : decode cL_law 908 = .ok (.aload_n 0, 1) := by decide +kernel
theorem dL_law_909 : decode cL_law 909 = .ok (.iload_n 3, 1) := by decide +kernel
theorem dL_law_910 : decode cL_law 910 = .ok (.iconst 2, 1) := by decide +kernel
theorem dL_law_911 : decode cL_law 911 = .ok (.iadd, 1) := by decide +kernel
theorem dL_law_912 : decode cL_law 912 = .ok (.iaload, 1) := by decide +kernel
theorem dL_law_913 : decode cL_law 913 = .ok (.aload_n 0, 1) := by decide +kernel
theorem dL_law_914 : decode cL_law 914 = .ok (.iload_n 3, 1) := by decide +kernel
theorem dL_law_915 : decode cL_law 915 = .ok (.iconst 3, 1) := by decide +kernel
theorem dL_law_916 : decode cL_law 916 = .ok (.iadd, 1) := by decide +kernel
theorem dL_law_917 : decode cL_law 917 = .ok (.iaload, 1) := by decide +kernel
theorem dL_law_918 : decode cL_law 918 = .ok (.invokevirtual 111, 3) := by decide +kernel
theorem dL_law_921 : decode cL_law 921 = .ok (.aload_n 2, 1) := by decide +kernel
theorem dL_law_922 : decode cL_law 922 = .ok (.aload_n 0, 1) := by decide +kernel
theorem dL_law_923 : decode cL_law 923 = .ok (.iload_n 3, 1) := by decide +kernel
theorem dL_law_924 : decode cL_law 924 = .ok (.iconst 1, 1) := by decide +kernel
theorem dL_law_925 : decode cL_law 925 = .ok (.iadd, 1) := by decide +kernel
theorem dL_law_926 : decode cL_law 926 = .ok (.iaload, 1) := by decide +kernel
theorem dL_law_927 : decode cL_law 927 = .ok (.aload_n 0, 1) := by decide +kernel
theorem dL_law_928 : decode cL_law 928 = .ok (.iload_n 3, 1) := by decide +kernel
theorem dL_law_929 : decode cL_law 929 = .ok (.iconst 2, 1) := by decide +kernel
theorem dL_law_930 : decode cL_law 930 = .ok (.iadd, 1) := by decide +kernel
theorem dL_law_931 : decode cL_law 931 = .ok (.iaload, 1) := by decide +kernel
theorem dL_law_932 : decode cL_law 932 = .ok (.aload_n 0, 1) := by decide +kernel
theorem dL_law_933 : decode cL_law 933 = .ok (.iload_n 3, 1) := by decide +kernel
theorem dL_law_934 : decode cL_law 934 = .ok (.iconst 3, 1) := by decide +kernel
theorem dL_law_935 : decode cL_law 935 = .ok (.iadd, 1) := by decide +kernel
theorem dL_law_936 : decode cL_law 936 = .ok (.iaload, 1) := by decide +kernel
theorem dL_law_937 : decode cL_law 937 = .ok (.invokevirtual 114, 3) := by decide +kernel
theorem dL_law_940 : decode cL_law 940 = .ok (.if_icmp .eq 248, 3) := by decide +kernel
theorem dL_law_943 : decode cL_law 943 = .ok (.iconst 0, 1) := by decide +kernel
theorem dL_law_944 : decode cL_law 944 = .ok (.ireturn, 1) := by decide +kernel
theorem dL_law_945 : decode cL_law 945 = .ok (.aload_n 1, 1) := by decide +kernel
theorem dL_law_946 : decode cL_law 946 = .ok (.aload_n 0, 1) := by decide +kernel
theorem dL_law_947 : decode cL_law 947 = .ok (.iload_n 3, 1) := by decide +kernel
theorem dL_law_948 : decode cL_law 948 = .ok (.iconst 1, 1) := by decide +kernel
theorem dL_law_949 : decode cL_law 949 = .ok (.iadd, 1) := by decide +kernel
theorem dL_law_950 : decode cL_law 950 = .ok (.iaload, 1) := by decide +kernel
theorem dL_law_951 : decode cL_law 951 = .ok (.invokevirtual 115, 3) := by decide +kernel
theorem dL_law_954 : decode cL_law 954 = .ok (.aload_n 2, 1) := by decide +kernel
theorem dL_law_955 : decode cL_law 955 = .ok (.aload_n 0, 1) := by decide +kernel
theorem dL_law_956 : decode cL_law 956 = .ok (.iload_n 3, 1) := by decide +kernel
theorem dL_law_957 : decode cL_law 957 = .ok (.iconst 1, 1) := by decide +kernel
theorem dL_law_958 : decode cL_law 958 = .ok (.iadd, 1) := by decide +kernel
theorem dL_law_959 : decode cL_law 959 = .ok (.iaload, 1) := by decide +kernel
theorem dL_law_960 : decode cL_law 960 = .ok (.invokevirtual 118, 3) := by decide +kernel
theorem dL_law_963 : decode cL_law 963 = .ok (.if_icmp .eq 225, 3) := by decide +kernel
theorem dL_law_966 : decode cL_law 966 = .ok (.iconst 0, 1) := by decide +kernel
theorem dL_law_967 : decode cL_law 967 = .ok (.ireturn, 1) := by decide +kernel
theorem dL_law_968 : decode cL_law 968 = .ok (.aload_n 1, 1) := by decide +kernel
theorem dL_law_969 : decode cL_law 969 = .ok (.aload_n 0, 1) := by decide +kernel
theorem dL_law_970 : decode cL_law 970 = .ok (.iload_n 3, 1) := by decide +kernel
theorem dL_law_971 : decode cL_law 971 = .ok (.iconst 1, 1) := by decide +kernel
theorem dL_law_972 : decode cL_law 972 = .ok (.iadd, 1) := by decide +kernel
theorem dL_law_973 : decode cL_law 973 = .ok (.iaload, 1) := by decide +kernel
theorem dL_law_974 : decode cL_law 974 = .ok (.aload_n 0, 1) := by decide +kernel
theorem dL_law_975 : decode cL_law 975 = .ok (.iload_n 3, 1) := by decide +kernel
theorem dL_law_976 : decode cL_law 976 = .ok (.iconst 2, 1) := by decide +kernel
theorem dL_law_977 : decode cL_law 977 = .ok (.iadd, 1) := by decide +kernel
theorem dL_law_978 : decode cL_law 978 = .ok (.iaload, 1) := by decide +kernel
theorem dL_law_979 : decode cL_law 979 = .ok (.aload_n 0, 1) := by decide +kernel
theorem dL_law_980 : decode cL_law 980 = .ok (.iload_n 3, 1) := by decide +kernel
theorem dL_law_981 : decode cL_law 981 = .ok (.iconst 3, 1) := by decide +kernel
theorem dL_law_982 : decode cL_law 982 = .ok (.iadd, 1) := by decide +kernel
theorem dL_law_983 : decode cL_law 983 = .ok (.iaload, 1) := by decide +kernel
theorem dL_law_984 : decode cL_law 984 = .ok (.aload_n 0, 1) := by decide +kernel
theorem dL_law_985 : decode cL_law 985 = .ok (.iload_n 3, 1) := by decide +kernel
theorem dL_law_986 : decode cL_law 986 = .ok (.iconst 4, 1) := by decide +kernel
theorem dL_law_987 : decode cL_law 987 = .ok (.iadd, 1) := by decide +kernel
theorem dL_law_988 : decode cL_law 988 = .ok (.iaload, 1) := by decide +kernel
theorem dL_law_989 : decode cL_law 989 = .ok (.invokevirtual 119, 3) := by decide +kernel
theorem dL_law_992 : decode cL_law 992 = .ok (.aload_n 2, 1) := by decide +kernel
theorem dL_law_993 : decode cL_law 993 = .ok (.aload_n 0, 1) := by decide +kernel
theorem dL_law_994 : decode cL_law 994 = .ok (.iload_n 3, 1) := by decide +kernel
theorem dL_law_995 : decode cL_law 995 = .ok (.iconst 1, 1) := by decide +kernel
theorem dL_law_996 : decode cL_law 996 = .ok (.iadd, 1) := by decide +kernel
theorem dL_law_997 : decode cL_law 997 = .ok (.iaload, 1) := by decide +kernel
theorem dL_law_998 : decode cL_law 998 = .ok (.aload_n 0, 1) := by decide +kernel
theorem dL_law_999 : decode cL_law 999 = .ok (.iload_n 3, 1) := by decide +kernel
theorem dL_law_1000 : decode cL_law 1000 = .ok (.iconst 2, 1) := by decide +kernel
theorem dL_law_1001 : decode cL_law 1001 = .ok (.iadd, 1) := by decide +kernel
theorem dL_law_1002 : decode cL_law 1002 = .ok (.iaload, 1) := by decide +kernel
theorem dL_law_1003 : decode cL_law 1003 = .ok (.aload_n 0, 1) := by decide +kernel
theorem dL_law_1004 : decode cL_law 1004 = .ok (.iload_n 3, 1) := by decide +kernel
theorem dL_law_1005 : decode cL_law 1005 = .ok (.iconst 3, 1) := by decide +kernel
theorem dL_law_1006 : decode cL_law 1006 = .ok (.iadd, 1) := by decide +kernel
theorem dL_law_1007 : decode cL_law 1007 = .ok (.iaload, 1) := by decide +kernel
theorem dL_law_1008 : decode cL_law 1008 = .ok (.aload_n 0, 1) := by decide +kernel
theorem dL_law_1009 : decode cL_law 1009 = .ok (.iload_n 3, 1) := by decide +kernel
theorem dL_law_1010 : decode cL_law 1010 = .ok (.iconst 4, 1) := by decide +kernel
theorem dL_law_1011 : decode cL_law 1011 = .ok (.iadd, 1) := by decide +kernel
theorem dL_law_1012 : decode cL_law 1012 = .ok (.iaload, 1) := by decide +kernel
theorem dL_law_1013 : decode cL_law 1013 = .ok (.invokevirtual 122, 3) := by decide +kernel
theorem dL_law_1016 : decode cL_law 1016 = .ok (.if_icmp .eq 172, 3) := by decide +kernel
theorem dL_law_1019 : decode cL_law 1019 = .ok (.iconst 0, 1) := by decide +kernel
theorem dL_law_1020 : decode cL_law 1020 = .ok (.ireturn, 1) := by decide +kernel
theorem dL_law_1021 : decode cL_law 1021 = .ok (.aload_n 1, 1) := by decide +kernel
theorem dL_law_1022 : decode cL_law 1022 = .ok (.aload_n 0, 1) := by decide +kernel
theorem dL_law_1023 : decode cL_law 1023 = .ok (.iload_n 3, 1) := by decide +kernel
theorem dL_law_1024 : decode cL_law 1024 = .ok (.iconst 1, 1) := by decide +kernel
theorem dL_law_1025 : decode cL_law 1025 = .ok (.iadd, 1) := by decide +kernel
theorem dL_law_1026 : decode cL_law 1026 = .ok (.iaload, 1) := by decide +kernel
theorem dL_law_1027 : decode cL_law 1027 = .ok (.aload_n 0, 1) := by decide +kernel
theorem dL_law_1028 : decode cL_law 1028 = .ok (.iload_n 3, 1) := by decide +kernel
theorem dL_law_1029 : decode cL_law 1029 = .ok (.iconst 2, 1) := by decide +kernel
theorem dL_law_1030 : decode cL_law 1030 = .ok (.iadd, 1) := by decide +kernel
theorem dL_law_1031 : decode cL_law 1031 = .ok (.iaload, 1) := by decide +kernel
theorem dL_law_1032 : decode cL_law 1032 = .ok (.invokevirtual 123, 3) := by decide +kernel
theorem dL_law_1035 : decode cL_law 1035 = .ok (.aload_n 2, 1) := by decide +kernel
theorem dL_law_1036 : decode cL_law 1036 = .ok (.aload_n 0, 1) := by decide +kernel
theorem dL_law_1037 : decode cL_law 1037 = .ok (.iload_n 3, 1) := by decide +kernel
theorem dL_law_1038 : decode cL_law 1038 = .ok (.iconst 1, 1) := by decide +kernel
theorem dL_law_1039 : decode cL_law 1039 = .ok (.iadd, 1) := by decide +kernel
theorem dL_law_1040 : decode cL_law 1040 = .ok (.iaload, 1) := by decide +kernel
theorem dL_law_1041 : decode cL_law 1041 = .ok (.aload_n 0, 1) := by decide +kernel
theorem dL_law_1042 : decode cL_law 1042 = .ok (.iload_n 3, 1) := by decide +kernel
theorem dL_law_1043 : decode cL_law 1043 = .ok (.iconst 2, 1) := by decide +kernel
theorem dL_law_1044 : decode cL_law 1044 = .ok (.iadd, 1) := by decide +kernel
theorem dL_law_1045 : decode cL_law 1045 = .ok (.iaload, 1) := by decide +kernel
theorem dL_law_1046 : decode cL_law 1046 = .ok (.invokevirtual 127, 3) := by decide +kernel
theorem dL_law_1049 : decode cL_law 1049 = .ok (.lcmp, 1) := by decide +kernel
theorem dL_law_1050 : decode cL_law 1050 = .ok (.ifCond .eq 138, 3) := by decide +kernel
theorem dL_law_1053 : decode cL_law 1053 = .ok (.iconst 0, 1) := by decide +kernel
theorem dL_law_1054 : decode cL_law 1054 = .ok (.ireturn, 1) := by decide +kernel
theorem dL_law_1055 : decode cL_law 1055 = .ok (.aload_n 1, 1) := by decide +kernel
theorem dL_law_1056 : decode cL_law 1056 = .ok (.aload_n 0, 1) := by decide +kernel
theorem dL_law_1057 : decode cL_law 1057 = .ok (.iload_n 3, 1) := by decide +kernel
theorem dL_law_1058 : decode cL_law 1058 = .ok (.iconst 1, 1) := by decide +kernel
theorem dL_law_1059 : decode cL_law 1059 = .ok (.iadd, 1) := by decide +kernel
theorem dL_law_1060 : decode cL_law 1060 = .ok (.iaload, 1) := by decide +kernel
theorem dL_law_1061 : decode cL_law 1061 = .ok (.aload_n 0, 1) := by decide +kernel
theorem dL_law_1062 : decode cL_law 1062 = .ok (.iload_n 3, 1) := by decide +kernel
theorem dL_law_1063 : decode cL_law 1063 = .ok (.iconst 2, 1) := by decide +kernel
theorem dL_law_1064 : decode cL_law 1064 = .ok (.iadd, 1) := by decide +kernel
theorem dL_law_1065 : decode cL_law 1065 = .ok (.iaload, 1) := by decide +kernel
theorem dL_law_1066 : decode cL_law 1066 = .ok (.aload_n 0, 1) := by decide +kernel
theorem dL_law_1067 : decode cL_law 1067 = .ok (.iload_n 3, 1) := by decide +kernel
theorem dL_law_1068 : decode cL_law 1068 = .ok (.iconst 3, 1) := by decide +kernel
theorem dL_law_1069 : decode cL_law 1069 = .ok (.iadd, 1) := by decide +kernel
theorem dL_law_1070 : decode cL_law 1070 = .ok (.iaload, 1) := by decide +kernel
theorem dL_law_1071 : decode cL_law 1071 = .ok (.aload_n 0, 1) := by decide +kernel
theorem dL_law_1072 : decode cL_law 1072 = .ok (.iload_n 3, 1) := by decide +kernel
theorem dL_law_1073 : decode cL_law 1073 = .ok (.iconst 4, 1) := by decide +kernel
theorem dL_law_1074 : decode cL_law 1074 = .ok (.iadd, 1) := by decide +kernel
theorem dL_law_1075 : decode cL_law 1075 = .ok (.iaload, 1) := by decide +kernel
theorem dL_law_1076 : decode cL_law 1076 = .ok (.aload_n 0, 1) := by decide +kernel
theorem dL_law_1077 : decode cL_law 1077 = .ok (.iload_n 3, 1) := by decide +kernel
theorem dL_law_1078 : decode cL_law 1078 = .ok (.iconst 5, 1) := by decide +kernel
theorem dL_law_1079 : decode cL_law 1079 = .ok (.iadd, 1) := by decide +kernel
theorem dL_law_1080 : decode cL_law 1080 = .ok (.iaload, 1) := by decide +kernel
theorem dL_law_1081 : decode cL_law 1081 = .ok (.invokevirtual 128, 3) := by decide +kernel
theorem dL_law_1084 : decode cL_law 1084 = .ok (.aload_n 2, 1) := by decide +kernel
theorem dL_law_1085 : decode cL_law 1085 = .ok (.aload_n 0, 1) := by decide +kernel
theorem dL_law_1086 : decode cL_law 1086 = .ok (.iload_n 3, 1) := by decide +kernel
theorem dL_law_1087 : decode cL_law 1087 = .ok (.iconst 1, 1) := by decide +kernel
theorem dL_law_1088 : decode cL_law 1088 = .ok (.iadd, 1) := by decide +kernel
theorem dL_law_1089 : decode cL_law 1089 = .ok (.iaload, 1) := by decide +kernel
theorem dL_law_1090 : decode cL_law 1090 = .ok (.aload_n 0, 1) := by decide +kernel
theorem dL_law_1091 : decode cL_law 1091 = .ok (.iload_n 3, 1) := by decide +kernel
theorem dL_law_1092 : decode cL_law 1092 = .ok (.iconst 2, 1) := by decide +kernel
theorem dL_law_1093 : decode cL_law 1093 = .ok (.iadd, 1) := by decide +kernel
theorem dL_law_1094 : decode cL_law 1094 = .ok (.iaload, 1) := by decide +kernel
theorem dL_law_1095 : decode cL_law 1095 = .ok (.aload_n 0, 1) := by decide +kernel
theorem dL_law_1096 : decode cL_law 1096 = .ok (.iload_n 3, 1) := by decide +kernel
theorem dL_law_1097 : decode cL_law 1097 = .ok (.iconst 3, 1) := by decide +kernel
theorem dL_law_1098 : decode cL_law 1098 = .ok (.iadd, 1) := by decide +kernel
theorem dL_law_1099 : decode cL_law 1099 = .ok (.iaload, 1) := by decide +kernel
theorem dL_law_1100 : decode cL_law 1100 = .ok (.aload_n 0, 1) := by decide +kernel
theorem dL_law_1101 : decode cL_law 1101 = .ok (.iload_n 3, 1) := by decide +kernel
theorem dL_law_1102 : decode cL_law 1102 = .ok (.iconst 4, 1) := by decide +kernel
theorem dL_law_1103 : decode cL_law 1103 = .ok (.iadd, 1) := by decide +kernel
theorem dL_law_1104 : decode cL_law 1104 = .ok (.iaload, 1) := by decide +kernel
theorem dL_law_1105 : decode cL_law 1105 = .ok (.aload_n 0, 1) := by decide +kernel
theorem dL_law_1106 : decode cL_law 1106 = .ok (.iload_n 3, 1) := by decide +kernel
theorem dL_law_1107 : decode cL_law 1107 = .ok (.iconst 5, 1) := by decide +kernel
theorem dL_law_1108 : decode cL_law 1108 = .ok (.iadd, 1) := by decide +kernel
theorem dL_law_1109 : decode cL_law 1109 = .ok (.iaload, 1) := by decide +kernel
theorem dL_law_1110 : decode cL_law 1110 = .ok (.invokevirtual 132, 3) := by decide +kernel
theorem dL_law_1113 : decode cL_law 1113 = .ok (.if_icmp .eq 75, 3) := by decide +kernel
theorem dL_law_1116 : decode cL_law 1116 = .ok (.iconst 0, 1) := by decide +kernel
theorem dL_law_1117 : decode cL_law 1117 = .ok (.ireturn, 1) := by decide +kernel
theorem dL_law_1118 : decode cL_law 1118 = .ok (.aload_n 1, 1) := by decide +kernel
theorem dL_law_1119 : decode cL_law 1119 = .ok (.aload_n 0, 1) := by decide +kernel
theorem dL_law_1120 : decode cL_law 1120 = .ok (.iload_n 3, 1) := by decide +kernel
theorem dL_law_1121 : decode cL_law 1121 = .ok (.iconst 1, 1) := by decide +kernel
theorem dL_law_1122 : decode cL_law 1122 = .ok (.iadd, 1) := by decide +kernel
theorem dL_law_1123 : decode cL_law 1123 = .ok (.iaload, 1) := by decide +kernel
theorem dL_law_1124 : decode cL_law 1124 = .ok (.aload_n 0, 1) := by decide +kernel
theorem dL_law_1125 : decode cL_law 1125 = .ok (.iload_n 3, 1) := by decide +kernel
theorem dL_law_1126 : decode cL_law 1126 = .ok (.iconst 2, 1) := by decide +kernel
theorem dL_law_1127 : decode cL_law 1127 = .ok (.iadd, 1) := by decide +kernel
theorem dL_law_1128 : decode cL_law 1128 = .ok (.iaload, 1) := by decide +kernel
theorem dL_law_1129 : decode cL_law 1129 = .ok (.invokevirtual 133, 3) := by decide +kernel
theorem dL_law_1132 : decode cL_law 1132 = .ok (.aload_n 2, 1) := by decide +kernel
theorem dL_law_1133 : decode cL_law 1133 = .ok (.aload_n 0, 1) := by decide +kernel
theorem dL_law_1134 : decode cL_law 1134 = .ok (.iload_n 3, 1) := by decide +kernel
theorem dL_law_1135 : decode cL_law 1135 = .ok (.iconst 1, 1) := by decide +kernel
theorem dL_law_1136 : decode cL_law 1136 = .ok (.iadd, 1) := by decide +kernel
theorem dL_law_1137 : decode cL_law 1137 = .ok (.iaload, 1) := by decide +kernel
theorem dL_law_1138 : decode cL_law 1138 = .ok (.aload_n 0, 1) := by decide +kernel
theorem dL_law_1139 : decode cL_law 1139 = .ok (.iload_n 3, 1) := by decide +kernel
theorem dL_law_1140 : decode cL_law 1140 = .ok (.iconst 2, 1) := by decide +kernel
theorem dL_law_1141 : decode cL_law 1141 = .ok (.iadd, 1) := by decide +kernel
theorem dL_law_1142 : decode cL_law 1142 = .ok (.iaload, 1) := by decide +kernel
theorem dL_law_1143 : decode cL_law 1143 = .ok (.invokevirtual 136, 3) := by decide +kernel
theorem dL_law_1146 : decode cL_law 1146 = .ok (.if_icmp .eq 42, 3) := by decide +kernel
theorem dL_law_1149 : decode cL_law 1149 = .ok (.iconst 0, 1) := by decide +kernel
theorem dL_law_1150 : decode cL_law 1150 = .ok (.ireturn, 1) := by decide +kernel
theorem dL_law_1151 : decode cL_law 1151 = .ok (.aload_n 1, 1) := by decide +kernel
theorem dL_law_1152 : decode cL_law 1152 = .ok (.aload_n 0, 1) := by decide +kernel
theorem dL_law_1153 : decode cL_law 1153 = .ok (.iload_n 3, 1) := by decide +kernel
theorem dL_law_1154 : decode cL_law 1154 = .ok (.iconst 1, 1) := by decide +kernel
theorem dL_law_1155 : decode cL_law 1155 = .ok (.iadd, 1) := by decide +kernel
theorem dL_law_1156 : decode cL_law 1156 = .ok (.iaload, 1) := by decide +kernel
theorem dL_law_1157 : decode cL_law 1157 = .ok (.invokevirtual 137, 3) := by decide +kernel
theorem dL_law_1160 : decode cL_law 1160 = .ok (.aload_n 2, 1) := by decide +kernel
theorem dL_law_1161 : decode cL_law 1161 = .ok (.aload_n 0, 1) := by decide +kernel
theorem dL_law_1162 : decode cL_law 1162 = .ok (.iload_n 3, 1) := by decide +kernel
theorem dL_law_1163 : decode cL_law 1163 = .ok (.iconst 1, 1) := by decide +kernel
theorem dL_law_1164 : decode cL_law 1164 = .ok (.iadd, 1) := by decide +kernel
theorem dL_law_1165 : decode cL_law 1165 = .ok (.iaload, 1) := by decide +kernel
theorem dL_law_1166 : decode cL_law 1166 = .ok (.invokevirtual 140, 3) := by decide +kernel
theorem dL_law_1169 : decode cL_law 1169 = .ok (.if_icmp .eq 19, 3) := by decide +kernel
theorem dL_law_1172 : decode cL_law 1172 = .ok (.iconst 0, 1) := by decide +kernel
theorem dL_law_1173 : decode cL_law 1173 = .ok (.ireturn, 1) := by decide +kernel
theorem dL_law_1174 : decode cL_law 1174 = .ok (.aload_n 1, 1) := by decide +kernel
theorem dL_law_1175 : decode cL_law 1175 = .ok (.invokevirtual 141, 3) := by decide +kernel
theorem dL_law_1178 : decode cL_law 1178 = .ok (.aload_n 2, 1) := by decide +kernel
theorem dL_law_1179 : decode cL_law 1179 = .ok (.invokevirtual 145, 3) := by decide +kernel
theorem dL_law_1182 : decode cL_law 1182 = .ok (.lcmp, 1) := by decide +kernel
theorem dL_law_1183 : decode cL_law 1183 = .ok (.ifCond .eq 5, 3) := by decide +kernel
theorem dL_law_1186 : decode cL_law 1186 = .ok (.iconst 0, 1) := by decide +kernel
theorem dL_law_1187 : decode cL_law 1187 = .ok (.ireturn, 1) := by decide +kernel
theorem dL_law_1188 : decode cL_law 1188 = .ok (.iinc 3 6, 3) := by decide +kernel
theorem dL_law_1191 : decode cL_law 1191 = .ok (.goto (-1173), 3) := by decide +kernel
theorem dL_law_1194 : decode cL_law 1194 = .ok (.iconst 1, 1) := by decide +kernel
theorem dL_law_1195 : decode cL_law 1195 = .ok (.ireturn, 1) := by decide +kernel
