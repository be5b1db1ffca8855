theorem dX0_init_0 : decode cX0_init 0 = .ok (.aload_n 0, 1) := by decide +kernel
theorem dX0_init_1 : decode cX0_init 1 = .ok (.invokespecial 3, 3) := by decide +kernel
theorem dX0_init_4 : decode cX0_init 4 = .ok (.aload_n 0, 1) := by decide +kernel
theorem dX0_init_5 : decode cX0_init 5 = .ok (.bipush 80, 2) := by decide +kernel
theorem dX0_init_7 : decode cX0_init 7 = .ok (.anewarray 9, 3) := by decide +kernel
theorem dX0_init_10 : decode cX0_init 10 = .ok (.putfield 11, 3) := by decide +kernel
theorem dX0_init_13 : decode cX0_init 13 = .ok (.return_, 1) := by decide +kernel
set_option maxRecDepth 20000 in
theorem ggX0_keep_X4_init : GoodIn wsX0_keep wsX4_init := goodIn_r _ [12, 13, 14, 15, 16, 17, 18, 19, 31, 32, 33, 34] (by decide +kernel) (by decide +kernel)
set_option maxRecDepth 20000 in
theorem gX0_keep_X4_init_n21 : GoodIn wsX0_keep (wsX4_init) := ggX0_keep_X4_init
set_option maxRecDepth 20000 in
theorem ggX0_keep_X4_copyFrom : GoodIn wsX0_keep wsX4_copyFrom := goodIn_r _ [22, 23, 17, 24, 25, 26, 27, 18, 19, 31, 32, 33, 34] (by decide +kernel) (by decide +kernel)
set_option maxRecDepth 20000 in
theorem gX0_keep_X4_copyFrom_n22 : GoodIn wsX0_keep (wsX4_copyFrom) := ggX0_keep_X4_copyFrom
theorem dX0_keep_0 : decode cX0_keep 0 = .ok (.aload_n 0, 1) := by decide +kernel
theorem dX0_keep_1 : decode cX0_keep 1 = .ok (.getfield 11, 3) := by decide +kernel
theorem dX0_keep_4 : decode cX0_keep 4 = .ok (.aload_n 0, 1) := by decide +kernel
theorem dX0_keep_5 : decode cX0_keep 5 = .ok (.getfield 17, 3) := by decide +kernel
theorem dX0_keep_8 : decode cX0_keep 8 = .ok (.aaload, 1) := by decide +kernel
theorem dX0_keep_9 : decode cX0_keep 9 = .ok (.ifnonnull 19, 3) := by decide +kernel
theorem dX0_keep_12 : decode cX0_keep 12 = .ok (.aload_n 0, 1) := by decide +kernel
theorem dX0_keep_13 : decode cX0_keep 13 = .ok (.getfield 11, 3) := by decide +kernel
theorem dX0_keep_16 : decode cX0_keep 16 = .ok (.aload_n 0, 1) := by decide +kernel
theorem dX0_keep_17 : decode cX0_keep 17 = .ok (.getfield 17, 3) := by decide +kernel
theorem dX0_keep_20 : decode cX0_keep 20 = .ok (.new 9, 3) := by decide +kernel
theorem dX0_keep_23 : decode cX0_keep 23 = .ok (.dup, 1) := by decide +kernel
theorem dX0_keep_24 : decode cX0_keep 24 = .ok (.invokespecial 21, 3) := by decide +kernel
theorem dX0_keep_27 : decode cX0_keep 27 = .ok (.aastore, 1) := by decide +kernel
theorem dX0_keep_28 : decode cX0_keep 28 = .ok (.aload_n 0, 1) := by decide +kernel
theorem dX0_keep_29 : decode cX0_keep 29 = .ok (.getfield 11, 3) := by decide +kernel
theorem dX0_keep_32 : decode cX0_keep 32 = .ok (.aload_n 0, 1) := by decide +kernel
theorem dX0_keep_33 : decode cX0_keep 33 = .ok (.getfield 17, 3) := by decide +kernel
theorem dX0_keep_36 : decode cX0_keep 36 = .ok (.aaload, 1) := by decide +kernel
theorem dX0_keep_37 : decode cX0_keep 37 = .ok (.aload_n 1, 1) := by decide +kernel
theorem dX0_keep_38 : decode cX0_keep 38 = .ok (.invokevirtual 22, 3) := by decide +kernel
theorem dX0_keep_41 : decode cX0_keep 41 = .ok (.aload_n 0, 1) := by decide +kernel
theorem dX0_keep_42 : decode cX0_keep 42 = .ok (.aload_n 0, 1) := by decide +kernel
theorem dX0_keep_43 : decode cX0_keep 43 = .ok (.getfield 17, 3) := by decide +kernel
theorem dX0_keep_46 : decode cX0_keep 46 = .ok (.iconst 1, 1) := by decide +kernel
theorem dX0_keep_47 : decode cX0_keep 47 = .ok (.iadd, 1) := by decide +kernel
theorem dX0_keep_48 : decode cX0_keep 48 = .ok (.bipush 80, 2) := by decide +kernel
theorem dX0_keep_50 : decode cX0_keep 50 = .ok (.irem, 1) := by decide +kernel
theorem dX0_keep_51 : decode cX0_keep 51 = .ok (.putfield 17, 3) := by decide +kernel
theorem dX0_keep_54 : decode cX0_keep 54 = .ok (.aload_n 0, 1) := by decide +kernel
theorem dX0_keep_55 : decode cX0_keep 55 = .ok (.aload_n 0, 1) := by decide +kernel
theorem dX0_keep_56 : decode cX0_keep 56 = .ok (.getfield 26, 3) := by decide +kernel
theorem dX0_keep_59 : decode cX0_keep 59 = .ok (.iconst 1, 1) := by decide +kernel
theorem dX0_keep_60 : decode cX0_keep 60 = .ok (.iadd, 1) := by decide +kernel
theorem dX0_keep_61 : decode cX0_keep 61 = .ok (.bipush 80, 2) := by decide +kernel
theorem dX0_keep_63 : decode cX0_keep 63 = .ok (.invokestatic 29, 3) := by decide +kernel
theorem dX0_keep_66 : decode cX0_keep 66 = .ok (.putfield 26, 3) := by decide +kernel
theorem dX0_keep_69 : decode cX0_keep 69 = .ok (.return_, 1) := by decide +kernel
set_option maxRecDepth 20000 in
theorem ggX0_undo_X4_copyFrom : GoodIn wsX0_undo wsX4_copyFrom := goodIn_r _ [7, 8, 9, 10, 11, 12, 13, 14, 15, 19, 20, 21, 22] (by decide +kernel) (by decide +kernel)
set_option maxRecDepth 20000 in
theorem gX0_undo_X4_copyFrom_n22 : GoodIn wsX0_undo (wsX4_copyFrom) := ggX0_undo_X4_copyFrom
theorem dX0_undo_0 : decode cX0_undo 0 = .ok (.aload_n 0, 1) := by decide +kernel
theorem dX0_undo_1 : decode cX0_undo 1 = .ok (.getfield 26, 3) := by decide +kernel
theorem dX0_undo_4 : decode cX0_undo 4 = .ok (.ifCond .ne 5, 3) := by decide +kernel
theorem dX0_undo_7 : decode cX0_undo 7 = .ok (.iconst 0, 1) := by decide +kernel
theorem dX0_undo_8 : decode cX0_undo 8 = .ok (.ireturn, 1) := by decide +kernel
theorem dX0_undo_9 : decode cX0_undo 9 = .ok (.aload_n 0, 1) := by decide +kernel
theorem dX0_undo_10 : decode cX0_undo 10 = .ok (.aload_n 0, 1) := by decide +kernel
theorem dX0_undo_11 : decode cX0_undo 11 = .ok (.getfield 17, 3) := by decide +kernel
theorem dX0_undo_14 : decode cX0_undo 14 = .ok (.bipush 80, 2) := by decide +kernel
theorem dX0_undo_16 : decode cX0_undo 16 = .ok (.iadd, 1) := by decide +kernel
theorem dX0_undo_17 : decode cX0_undo 17 = .ok (.iconst 1, 1) := by decide +kernel
theorem dX0_undo_18 : decode cX0_undo 18 = .ok (.isub, 1) := by decide +kernel
theorem dX0_undo_19 : decode cX0_undo 19 = .ok (.bipush 80, 2) := by decide +kernel
theorem dX0_undo_21 : decode cX0_undo 21 = .ok (.irem, 1) := by decide +kernel
theorem dX0_undo_22 : decode cX0_undo 22 = .ok (.putfield 17, 3) := by decide +kernel
theorem dX0_undo_25 : decode cX0_undo 25 = .ok (.aload_n 0, 1) := by decide +kernel
theorem dX0_undo_26 : decode cX0_undo 26 = .ok (.dup, 1) := by decide +kernel
theorem dX0_undo_27 : decode cX0_undo 27 = .ok (.getfield 26, 3) := by decide +kernel
theorem dX0_undo_30 : decode cX0_undo 30 = .ok (.iconst 1, 1) := by decide +kernel
theorem dX0_undo_31 : decode cX0_undo 31 = .ok (.isub, 1) := by decide +kernel
theorem dX0_undo_32 : decode cX0_undo 32 = .ok (.putfield 26, 3) := by decide +kernel
theorem dX0_undo_35 : decode cX0_undo 35 = .ok (.aload_n 0, 1) := by decide +kernel
theorem dX0_undo_36 : decode cX0_undo 36 = .ok (.getfield 11, 3) := by decide +kernel
theorem dX0_undo_39 : decode cX0_undo 39 = .ok (.aload_n 0, 1) := by decide +kernel
theorem dX0_undo_40 : decode cX0_undo 40 = .ok (.getfield 17, 3) := by decide +kernel
theorem dX0_undo_43 : decode cX0_undo 43 = .ok (.aaload, 1) := by decide +kernel
theorem dX0_undo_44 : decode cX0_undo 44 = .ok (.ifnonnull 5, 3) := by decide +kernel
theorem dX0_undo_47 : decode cX0_undo 47 = .ok (.iconst 0, 1) := by decide +kernel
theorem dX0_undo_48 : decode cX0_undo 48 = .ok (.ireturn, 1) := by decide +kernel
theorem dX0_undo_49 : decode cX0_undo 49 = .ok (.aload_n 1, 1) := by decide +kernel
theorem dX0_undo_50 : decode cX0_undo 50 = .ok (.aload_n 0, 1) := by decide +kernel
theorem dX0_undo_51 : decode cX0_undo 51 = .ok (.getfield 11, 3) := by decide +kernel
theorem dX0_undo_54 : decode cX0_undo 54 = .ok (.aload_n 0, 1) := by decide +kernel
theorem dX0_undo_55 : decode cX0_undo 55 = .ok (.getfield 17, 3) := by decide +kernel
theorem dX0_undo_58 : decode cX0_undo 58 = .ok (.aaload, 1) := by decide +kernel
theorem dX0_undo_59 : decode cX0_undo 59 = .ok (.invokevirtual 22, 3) := by decide +kernel
theorem dX0_undo_62 : decode cX0_undo 62 = .ok (.iconst 1, 1) := by decide +kernel
theorem dX0_undo_63 : decode cX0_undo 63 = .ok (.ireturn, 1) := by decide +kernel
theorem dX0_forget_0 : decode cX0_forget 0 = .ok (.aload_n 0, 1) := by decide +kernel
theorem dX0_forget_1 : decode cX0_forget 1 = .ok (.iconst 0, 1) := by decide +kernel
theorem dX0_forget_2 : decode cX0_forget 2 = .ok (.putfield 26, 3) := by decide +kernel
theorem dX0_forget_5 : decode cX0_forget 5 = .ok (.return_, 1) := by decide +kernel
theorem dX1_init_0 : decode cX1_init 0 = .ok (.aload_n 0, 1) := by decide +kernel
theorem dX1_init_1 : decode cX1_init 1 = .ok (.invokespecial 3, 3) := by decide +kernel
theorem dX1_init_4 : decode cX1_init 4 = .ok (.aload_n 0, 1) := by decide +kernel
theorem dX1_init_5 : decode cX1_init 5 = .ok (.bipush 50, 2) := by decide +kernel
theorem dX1_init_7 : decode cX1_init 7 = .ok (.newarray .int, 2) := by decide +kernel
theorem dX1_init_9 : decode cX1_init 9 = .ok (.putfield 9, 3) := by decide +kernel
theorem dX1_init_12 : decode cX1_init 12 = .ok (.aload_n 0, 1) := by decide +kernel
theorem dX1_init_13 : decode cX1_init 13 = .ok (.sipush 150, 3) := by decide +kernel
theorem dX1_init_16 : decode cX1_init 16 = .ok (.newarray .int, 2) := by decide +kernel
theorem dX1_init_18 : decode cX1_init 18 = .ok (.putfield 15, 3) := by decide +kernel
theorem dX1_init_21 : decode cX1_init 21 = .ok (.aload_n 0, 1) := by decide +kernel
theorem dX1_init_22 : decode cX1_init 22 = .ok (.sipush 150, 3) := by decide +kernel
theorem dX1_init_25 : decode cX1_init 25 = .ok (.newarray .int, 2) := by decide +kernel
theorem dX1_init_27 : decode cX1_init 27 = .ok (.putfield 18, 3) := by decide +kernel
theorem dX1_init_30 : decode cX1_init 30 = .ok (.aload_n 0, 1) := by decide +kernel
theorem dX1_init_31 : decode cX1_init 31 = .ok (.sipush 150, 3) := by decide +kernel
theorem dX1_init_34 : decode cX1_init 34 = .ok (.newarray .int, 2) := by decide +kernel
theorem dX1_init_36 : decode cX1_init 36 = .ok (.putfield 21, 3) := by decide +kernel
theorem dX1_init_39 : decode cX1_init 39 = .ok (.aload_n 0, 1) := by decide +kernel
theorem dX1_init_40 : decode cX1_init 40 = .ok (.bipush 60, 2) := by decide +kernel
theorem dX1_init_42 : decode cX1_init 42 = .ok (.newarray .long, 2) := by decide +kernel
theorem dX1_init_44 : decode cX1_init 44 = .ok (.putfield 24, 3) := by decide +kernel
theorem dX1_init_47 : decode cX1_init 47 = .ok (.aload_n 0, 1) := by decide +kernel
theorem dX1_init_48 : decode cX1_init 48 = .ok (.bipush 60, 2) := by decide +kernel
theorem dX1_init_50 : decode cX1_init 50 = .ok (.newarray .long, 2) := by decide +kernel
theorem dX1_init_52 : decode cX1_init 52 = .ok (.putfield 28, 3) := by decide +kernel
theorem dX1_init_55 : decode cX1_init 55 = .ok (.aload_n 0, 1) := by decide +kernel
theorem dX1_init_56 : decode cX1_init 56 = .ok (.bipush 60, 2) := by decide +kernel
theorem dX1_init_58 : decode cX1_init 58 = .ok (.newarray .int, 2) := by decide +kernel
theorem dX1_init_60 : decode cX1_init 60 = .ok (.putfield 31, 3) := by decide +kernel
theorem dX1_init_63 : decode cX1_init 63 = .ok (.aload_n 0, 1) := by decide +kernel
theorem dX1_init_64 : decode cX1_init 64 = .ok (.bipush 60, 2) := by decide +kernel
theorem dX1_init_66 : decode cX1_init 66 = .ok (.newarray .int, 2) := by decide +kernel
theorem dX1_init_68 : decode cX1_init 68 = .ok (.putfield 34, 3) := by decide +kernel
theorem dX1_init_71 : decode cX1_init 71 = .ok (.aload_n 0, 1) := by decide +kernel
theorem dX1_init_72 : decode cX1_init 72 = .ok (.bipush 60, 2) := by decide +kernel
theorem dX1_init_74 : decode cX1_init 74 = .ok (.newarray .int, 2) := by decide +kernel
theorem dX1_init_76 : decode cX1_init 76 = .ok (.putfield 37, 3) := by decide +kernel
theorem dX1_init_79 : decode cX1_init 79 = .ok (.aload_n 0, 1) := by decide +kernel
theorem dX1_init_80 : decode cX1_init 80 = .ok (.bipush 8, 2) := by decide +kernel
theorem dX1_init_82 : decode cX1_init 82 = .ok (.newarray .long, 2) := by decide +kernel
theorem dX1_init_84 : decode cX1_init 84 = .ok (.putfield 40, 3) := by decide +kernel
theorem dX1_init_87 : decode cX1_init 87 = .ok (.aload_n 0, 1) := by decide +kernel
theorem dX1_init_88 : decode cX1_init 88 = .ok (.bipush 8, 2) := by decide +kernel
theorem dX1_init_90 : decode cX1_init 90 = .ok (.newarray .int, 2) := by decide +kernel
theorem dX1_init_92 : decode cX1_init 92 = .ok (.putfield 43, 3) := by decide +kernel
theorem dX1_init_95 : decode cX1_init 95 = .ok (.aload_n 0, 1) := by decide +kernel
theorem dX1_init_96 : decode cX1_init 96 = .ok (.bipush 8, 2) := by decide +kernel
theorem dX1_init_98 : decode cX1_init 98 = .ok (.newarray .int, 2) := by decide +kernel
theorem dX1_init_100 : decode cX1_init 100 = .ok (.putfield 46, 3) := by decide +kernel
theorem dX1_init_103 : decode cX1_init 103 = .ok (.aload_n 0, 1) := by decide +kernel
theorem dX1_init_104 : decode cX1_init 104 = .ok (.bipush 8, 2) := by decide +kernel
theorem dX1_init_106 : decode cX1_init 106 = .ok (.newarray .int, 2) := by decide +kernel
theorem dX1_init_108 : decode cX1_init 108 = .ok (.putfield 49, 3) := by decide +kernel
theorem dX1_init_111 : decode cX1_init 111 = .ok (.aload_n 0, 1) := by decide +kernel
theorem dX1_init_112 : decode cX1_init 112 = .ok (.iconst 3, 1) := by decide +kernel
theorem dX1_init_113 : decode cX1_init 113 = .ok (.newarray .int, 2) := by decide +kernel
theorem dX1_init_115 : decode cX1_init 115 = .ok (.dup, 1) := by decide +kernel
theorem dX1_init_116 : decode cX1_init 116 = .ok (.iconst 0, 1) := by decide +kernel
theorem dX1_init_117 : decode cX1_init 117 = .ok (.bipush 30, 2) := by decide +kernel
theorem dX1_init_119 : decode cX1_init 119 = .ok (.iastore, 1) := by decide +kernel
theorem dX1_init_120 : decode cX1_init 120 = .ok (.dup, 1) := by decide +kernel
theorem dX1_init_121 : decode cX1_init 121 = .ok (.iconst 1, 1) := by decide +kernel
theorem dX1_init_122 : decode cX1_init 122 = .ok (.bipush 70, 2) := by decide +kernel
theorem dX1_init_124 : decode cX1_init 124 = .ok (.iastore, 1) := by decide +kernel
theorem dX1_init_125 : decode cX1_init 125 = .ok (.dup, 1) := by decide +kernel
theorem dX1_init_126 : decode cX1_init 126 = .ok (.iconst 2, 1) := by decide +kernel
theorem dX1_init_127 : decode cX1_init 127 = .ok (.bipush 100, 2) := by decide +kernel
theorem dX1_init_129 : decode cX1_init 129 = .ok (.iastore, 1) := by decide +kernel
theorem dX1_init_130 : decode cX1_init 130 = .ok (.putfield 52, 3) := by decide +kernel
theorem dX1_init_133 : decode cX1_init 133 = .ok (.aload_n 0, 1) := by decide +kernel
theorem dX1_init_134 : decode cX1_init 134 = .ok (.bipush 81, 2) := by decide +kernel
theorem dX1_init_136 : decode cX1_init 136 = .ok (.newarray .int, 2) := by decide +kernel
theorem dX1_init_138 : decode cX1_init 138 = .ok (.putfield 55, 3) := by decide +kernel
theorem dX1_init_141 : decode cX1_init 141 = .ok (.aload_n 0, 1) := by decide +kernel
theorem dX1_init_142 : decode cX1_init 142 = .ok (.bipush 81, 2) := by decide +kernel
theorem dX1_init_144 : decode cX1_init 144 = .ok (.newarray .int, 2) := by decide +kernel
theorem dX1_init_146 : decode cX1_init 146 = .ok (.putfield 58, 3) := by decide +kernel
theorem dX1_init_149 : decode cX1_init 149 = .ok (.aload_n 0, 1) := by decide +kernel
theorem dX1_init_150 : decode cX1_init 150 = .ok (.bipush 81, 2) := by decide +kernel
theorem dX1_init_152 : decode cX1_init 152 = .ok (.newarray .int, 2) := by decide +kernel
theorem dX1_init_154 : decode cX1_init 154 = .ok (.putfield 61, 3) := by decide +kernel
theorem dX1_init_157 : decode cX1_init 157 = .ok (.return_, 1) := by decide +kernel
theorem dX1_addSpelling_0 : decode cX1_addSpelling 0 = .ok (.iload_n 1, 1) := by decide +kernel
theorem dX1_addSpelling_1 : decode cX1_addSpelling 1 = .ok (.iconst 3, 1) := by decide +kernel
theorem dX1_addSpelling_2 : decode cX1_addSpelling 2 = .ok (.imul, 1) := by decide +kernel
theorem dX1_addSpelling_3 : decode cX1_addSpelling 3 = .ok (.istore 5, 2) := by decide +kernel
theorem dX1_addSpelling_5 : decode cX1_addSpelling 5 = .ok (.aload_n 0, 1) := by decide +kernel
theorem dX1_addSpelling_6 : decode cX1_addSpelling 6 = .ok (.getfield 9, 3) := by decide +kernel
theorem dX1_addSpelling_9 : decode cX1_addSpelling 9 = .ok (.iload_n 1, 1) := by decide +kernel
theorem dX1_addSpelling_10 : decode cX1_addSpelling 10 = .ok (.iaload, 1) := by decide +kernel
theorem dX1_addSpelling_11 : decode cX1_addSpelling 11 = .ok (.istore 6, 2) := by decide +kernel
theorem dX1_addSpelling_13 : decode cX1_addSpelling 13 = .ok (.iload 6, 2) := by decide +kernel
theorem dX1_addSpelling_15 : decode cX1_addSpelling 15 = .ok (.iconst 3, 1) := by decide +kernel
theorem dX1_addSpelling_16 : decode cX1_addSpelling 16 = .ok (.if_icmp .lt 5, 3) := by decide +kernel
theorem dX1_addSpelling_19 : decode cX1_addSpelling 19 = .ok (.iconst 0, 1) := by decide +kernel
theorem dX1_addSpelling_20 : decode cX1_addSpelling 20 = .ok (.ireturn, 1) := by decide +kernel
theorem dX1_addSpelling_21 : decode cX1_addSpelling 21 = .ok (.iload 5, 2) := by decide +kernel
theorem dX1_addSpelling_23 : decode cX1_addSpelling 23 = .ok (.istore 7, 2) := by decide +kernel
theorem dX1_addSpelling_25 : decode cX1_addSpelling 25 = .ok (.iload 7, 2) := by decide +kernel
theorem dX1_addSpelling_27 : decode cX1_addSpelling 27 = .ok (.iload 5, 2) := by decide +kernel
theorem dX1_addSpelling_29 : decode cX1_addSpelling 29 = .ok (.iload 6, 2) := by decide +kernel
theorem dX1_addSpelling_31 : decode cX1_addSpelling 31 = .ok (.iadd, 1) := by decide +kernel
theorem dX1_addSpelling_32 : decode cX1_addSpelling 32 = .ok (.if_icmp .ge 22, 3) := by decide +kernel
theorem dX1_addSpelling_35 : decode cX1_addSpelling 35 = .ok (.aload_n 0, 1) := by decide +kernel
theorem dX1_addSpelling_36 : decode cX1_addSpelling 36 = .ok (.getfield 15, 3) := by decide +kernel
theorem dX1_addSpelling_39 : decode cX1_addSpelling 39 = .ok (.iload 7, 2) := by decide +kernel
theorem dX1_addSpelling_41 : decode cX1_addSpelling 41 = .ok (.iaload, 1) := by decide +kernel
theorem dX1_addSpelling_42 : decode cX1_addSpelling 42 = .ok (.iload_n 2, 1) := by decide +kernel
theorem dX1_addSpelling_43 : decode cX1_addSpelling 43 = .ok (.if_icmp .ne 5, 3) := by decide +kernel
theorem dX1_addSpelling_46 : decode cX1_addSpelling 46 = .ok (.iconst 0, 1) := by decide +kernel
theorem dX1_addSpelling_47 : decode cX1_addSpelling 47 = .ok (.ireturn, 1) := by decide +kernel
theorem dX1_addSpelling_48 : decode cX1_addSpelling 48 = .ok (.iinc 7 1, 3) := by decide +kernel
theorem dX1_addSpelling_51 : decode cX1_addSpelling 51 = .ok (.goto (-26), 3) := by decide +kernel
theorem dX1_addSpelling_54 : decode cX1_addSpelling 54 = .ok (.aload_n 0, 1) := by decide +kernel
theorem dX1_addSpelling_55 : decode cX1_addSpelling 55 = .ok (.getfield 15, 3) := by decide +kernel
theorem dX1_addSpelling_58 : decode cX1_addSpelling 58 = .ok (.iload 5, 2) := by decide +kernel
theorem dX1_addSpelling_60 : decode cX1_addSpelling 60 = .ok (.iload 6, 2) := by decide +kernel
theorem dX1_addSpelling_62 : decode cX1_addSpelling 62 = .ok (.iadd, 1) := by decide +kernel
theorem dX1_addSpelling_63 : decode cX1_addSpelling 63 = .ok (.iload_n 2, 1) := by decide +kernel
theorem dX1_addSpelling_64 : decode cX1_addSpelling 64 = .ok (.iastore, 1) := by decide +kernel
theorem dX1_addSpelling_65 : decode cX1_addSpelling 65 = .ok (.aload_n 0, 1) := by decide +kernel
theorem dX1_addSpelling_66 : decode cX1_addSpelling 66 = .ok (.getfield 18, 3) := by decide +kernel
theorem dX1_addSpelling_69 : decode cX1_addSpelling 69 = .ok (.iload 5, 2) := by decide +kernel
theorem dX1_addSpelling_71 : decode cX1_addSpelling 71 = .ok (.iload 6, 2) := by decide +kernel
theorem dX1_addSpelling_73 : decode cX1_addSpelling 73 = .ok (.iadd, 1) := by decide +kernel
theorem dX1_addSpelling_74 : decode cX1_addSpelling 74 = .ok (.iload_n 3, 1) := by decide +kernel
theorem dX1_addSpelling_75 : decode cX1_addSpelling 75 = .ok (.iastore, 1) := by decide +kernel
theorem dX1_addSpelling_76 : decode cX1_addSpelling 76 = .ok (.aload_n 0, 1) := by decide +kernel
theorem dX1_addSpelling_77 : decode cX1_addSpelling 77 = .ok (.getfield 21, 3) := by decide +kernel
theorem dX1_addSpelling_80 : decode cX1_addSpelling 80 = .ok (.iload 5, 2) := by decide +kernel
theorem dX1_addSpelling_82 : decode cX1_addSpelling 82 = .ok (.iload 6, 2) := by decide +kernel
theorem dX1_addSpelling_84 : decode cX1_addSpelling 84 = .ok (.iadd, 1) := by decide +kernel
theorem dX1_addSpelling_85 : decode cX1_addSpelling 85 = .ok (.iload 4, 2) := by decide +kernel
theorem dX1_addSpelling_87 : decode cX1_addSpelling 87 = .ok (.iastore, 1) := by decide +kernel
theorem dX1_addSpelling_88 : decode cX1_addSpelling 88 = .ok (.aload_n 0, 1) := by decide +kernel
theorem dX1_addSpelling_89 : decode cX1_addSpelling 89 = .ok (.getfield 9, 3) := by decide +kernel
theorem dX1_addSpelling_92 : decode cX1_addSpelling 92 = .ok (.iload_n 1, 1) := by decide +kernel
theorem dX1_addSpelling_93 : decode cX1_addSpelling 93 = .ok (.dup2, 1) := by decide +kernel
theorem dX1_addSpelling_94 : decode cX1_addSpelling 94 = .ok (.iaload, 1) := by decide +kernel
theorem dX1_addSpelling_95 : decode cX1_addSpelling 95 = .ok (.iconst 1, 1) := by decide +kernel
theorem dX1_addSpelling_96 : decode cX1_addSpelling 96 = .ok (.iadd, 1) := by decide +kernel
theorem dX1_addSpelling_97 : decode cX1_addSpelling 97 = .ok (.iastore, 1) := by decide +kernel
theorem dX1_addSpelling_98 : decode cX1_addSpelling 98 = .ok (.iconst 1, 1) := by decide +kernel
theorem dX1_addSpelling_99 : decode cX1_addSpelling 99 = .ok (.ireturn, 1) := by decide +kernel
theorem dX1_addWord_0 : decode cX1_addWord 0 = .ok (.aload_n 0, 1) := by decide +kernel
theorem dX1_addWord_1 : decode cX1_addWord 1 = .ok (.getfield 24, 3) := by decide +kernel
theorem dX1_addWord_4 : decode cX1_addWord 4 = .ok (.aload_n 0, 1) := by decide +kernel
theorem dX1_addWord_5 : decode cX1_addWord 5 = .ok (.getfield 64, 3) := by decide +kernel
theorem dX1_addWord_8 : decode cX1_addWord 8 = .ok (.lload_n 1, 1) := by decide +kernel
theorem dX1_addWord_9 : decode cX1_addWord 9 = .ok (.lastore, 1) := by decide +kernel
theorem dX1_addWord_10 : decode cX1_addWord 10 = .ok (.aload_n 0, 1) := by decide +kernel
theorem dX1_addWord_11 : decode cX1_addWord 11 = .ok (.getfield 28, 3) := by decide +kernel
theorem dX1_addWord_14 : decode cX1_addWord 14 = .ok (.aload_n 0, 1) := by decide +kernel
theorem dX1_addWord_15 : decode cX1_addWord 15 = .ok (.getfield 64, 3) := by decide +kernel
theorem dX1_addWord_18 : decode cX1_addWord 18 = .ok (.lload_n 3, 1) := by decide +kernel
theorem dX1_addWord_19 : decode cX1_addWord 19 = .ok (.lastore, 1) := by decide +kernel
theorem dX1_addWord_20 : decode cX1_addWord 20 = .ok (.aload_n 0, 1) := by decide +kernel
theorem dX1_addWord_21 : decode cX1_addWord 21 = .ok (.getfield 31, 3) := by decide +kernel
theorem dX1_addWord_24 : decode cX1_addWord 24 = .ok (.aload_n 0, 1) := by decide +kernel
theorem dX1_addWord_25 : decode cX1_addWord 25 = .ok (.getfield 64, 3) := by decide +kernel
theorem dX1_addWord_28 : decode cX1_addWord 28 = .ok (.iload 5, 2) := by decide +kernel
theorem dX1_addWord_30 : decode cX1_addWord 30 = .ok (.iastore, 1) := by decide +kernel
theorem dX1_addWord_31 : decode cX1_addWord 31 = .ok (.aload_n 0, 1) := by decide +kernel
theorem dX1_addWord_32 : decode cX1_addWord 32 = .ok (.getfield 34, 3) := by decide +kernel
theorem dX1_addWord_35 : decode cX1_addWord 35 = .ok (.aload_n 0, 1) := by decide +kernel
theorem dX1_addWord_36 : decode cX1_addWord 36 = .ok (.getfield 64, 3) := by decide +kernel
theorem dX1_addWord_39 : decode cX1_addWord 39 = .ok (.iload 6, 2) := by decide +kernel
theorem dX1_addWord_41 : decode cX1_addWord 41 = .ok (.iastore, 1) := by decide +kernel
theorem dX1_addWord_42 : decode cX1_addWord 42 = .ok (.aload_n 0, 1) := by decide +kernel
theorem dX1_addWord_43 : decode cX1_addWord 43 = .ok (.dup, 1) := by decide +kernel
theorem dX1_addWord_44 : decode cX1_addWord 44 = .ok (.getfield 64, 3) := by decide +kernel
theorem dX1_addWord_47 : decode cX1_addWord 47 = .ok (.iconst 1, 1) := by decide +kernel
theorem dX1_addWord_48 : decode cX1_addWord 48 = .ok (.iadd, 1) := by decide +kernel
theorem dX1_addWord_49 : decode cX1_addWord 49 = .ok (.putfield 64, 3) := by decide +kernel
theorem dX1_addWord_52 : decode cX1_addWord 52 = .ok (.aload_n 0, 1) := by decide +kernel
theorem dX1_addWord_53 : decode cX1_addWord 53 = .ok (.getfield 64, 3) := by decide +kernel
theorem dX1_addWord_56 : decode cX1_addWord 56 = .ok (.iconst 1, 1) := by decide +kernel
theorem dX1_addWord_57 : decode cX1_addWord 57 = .ok (.isub, 1) := by decide +kernel
theorem dX1_addWord_58 : decode cX1_addWord 58 = .ok (.ireturn, 1) := by decide +kernel
theorem dX1_addEnding_0 : decode cX1_addEnding 0 = .ok (.aload_n 0, 1) := by decide +kernel
theorem dX1_addEnding_1 : decode cX1_addEnding 1 = .ok (.getfield 40, 3) := by decide +kernel
theorem dX1_addEnding_4 : decode cX1_addEnding 4 = .ok (.aload_n 0, 1) := by decide +kernel
theorem dX1_addEnding_5 : decode cX1_addEnding 5 = .ok (.getfield 68, 3) := by decide +kernel
theorem dX1_addEnding_8 : decode cX1_addEnding 8 = .ok (.lload_n 1, 1) := by decide +kernel
theorem dX1_addEnding_9 : decode cX1_addEnding 9 = .ok (.lastore, 1) := by decide +kernel
theorem dX1_addEnding_10 : decode cX1_addEnding 10 = .ok (.aload_n 0, 1) := by decide +kernel
theorem dX1_addEnding_11 : decode cX1_addEnding 11 = .ok (.getfield 43, 3) := by decide +kernel
theorem dX1_addEnding_14 : decode cX1_addEnding 14 = .ok (.aload_n 0, 1) := by decide +kernel
theorem dX1_addEnding_15 : decode cX1_addEnding 15 = .ok (.getfield 68, 3) := by decide +kernel
theorem dX1_addEnding_18 : decode cX1_addEnding 18 = .ok (.iload_n 3, 1) := by decide +kernel
theorem dX1_addEnding_19 : decode cX1_addEnding 19 = .ok (.iastore, 1) := by decide +kernel
theorem dX1_addEnding_20 : decode cX1_addEnding 20 = .ok (.aload_n 0, 1) := by decide +kernel
theorem dX1_addEnding_21 : decode cX1_addEnding 21 = .ok (.getfield 46, 3) := by decide +kernel
theorem dX1_addEnding_24 : decode cX1_addEnding 24 = .ok (.aload_n 0, 1) := by decide +kernel
theorem dX1_addEnding_25 : decode cX1_addEnding 25 = .ok (.getfield 68, 3) := by decide +kernel
theorem dX1_addEnding_28 : decode cX1_addEnding 28 = .ok (.iload 4, 2) := by decide +kernel
theorem dX1_addEnding_30 : decode cX1_addEnding 30 = .ok (.iastore, 1) := by decide +kernel
theorem dX1_addEnding_31 : decode cX1_addEnding 31 = .ok (.aload_n 0, 1) := by decide +kernel
theorem dX1_addEnding_32 : decode cX1_addEnding 32 = .ok (.getfield 49, 3) := by decide +kernel
theorem dX1_addEnding_35 : decode cX1_addEnding 35 = .ok (.aload_n 0, 1) := by decide +kernel
theorem dX1_addEnding_36 : decode cX1_addEnding 36 = .ok (.getfield 68, 3) := by decide +kernel
theorem dX1_addEnding_39 : decode cX1_addEnding 39 = .ok (.iload 5, 2) := by decide +kernel
theorem dX1_addEnding_41 : decode cX1_addEnding 41 = .ok (.iastore, 1) := by decide +kernel
theorem dX1_addEnding_42 : decode cX1_addEnding 42 = .ok (.aload_n 0, 1) := by decide +kernel
theorem dX1_addEnding_43 : decode cX1_addEnding 43 = .ok (.dup, 1) := by decide +kernel
theorem dX1_addEnding_44 : decode cX1_addEnding 44 = .ok (.getfield 68, 3) := by decide +kernel
theorem dX1_addEnding_47 : decode cX1_addEnding 47 = .ok (.iconst 1, 1) := by decide +kernel
theorem dX1_addEnding_48 : decode cX1_addEnding 48 = .ok (.iadd, 1) := by decide +kernel
theorem dX1_addEnding_49 : decode cX1_addEnding 49 = .ok (.putfield 68, 3) := by decide +kernel
theorem dX1_addEnding_52 : decode cX1_addEnding 52 = .ok (.aload_n 0, 1) := by decide +kernel
theorem dX1_addEnding_53 : decode cX1_addEnding 53 = .ok (.getfield 68, 3) := by decide +kernel
theorem dX1_addEnding_56 : decode cX1_addEnding 56 = .ok (.iconst 1, 1) := by decide +kernel
theorem dX1_addEnding_57 : decode cX1_addEnding 57 = .ok (.isub, 1) := by decide +kernel
theorem dX1_addEnding_58 : decode cX1_addEnding 58 = .ok (.ireturn, 1) := by decide +kernel
set_option maxRecDepth 20000 in
theorem ggX1_priceStep_X8_digits : GoodIn wsX1_priceStep wsX8_digits := goodIn_r _ [6] (by decide +kernel) (by decide +kernel)
set_option maxRecDepth 20000 in
theorem gX1_priceStep_X8_digits_n71 : GoodIn wsX1_priceStep (wsX8_digits) := ggX1_priceStep_X8_digits
theorem dX1_priceStep_0 : decode cX1_priceStep 0 = .ok (.aload_n 0, 1) := by decide +kernel
theorem dX1_priceStep_1 : decode cX1_priceStep 1 = .ok (.getfield 55, 3) := by decide +kernel
theorem dX1_priceStep_4 : decode cX1_priceStep 4 = .ok (.iload_n 1, 1) := by decide +kernel
theorem dX1_priceStep_5 : decode cX1_priceStep 5 = .ok (.iload_n 2, 1) := by decide +kernel
theorem dX1_priceStep_6 : decode cX1_priceStep 6 = .ok (.iastore, 1) := by decide +kernel
theorem dX1_priceStep_7 : decode cX1_priceStep 7 = .ok (.aload_n 0, 1) := by decide +kernel
theorem dX1_priceStep_8 : decode cX1_priceStep 8 = .ok (.getfield 61, 3) := by decide +kernel
theorem dX1_priceStep_11 : decode cX1_priceStep 11 = .ok (.iload_n 1, 1) := by decide +kernel
theorem dX1_priceStep_12 : decode cX1_priceStep 12 = .ok (.iload_n 2, 1) := by decide +kernel
theorem dX1_priceStep_13 : decode cX1_priceStep 13 = .ok (.iconst 2, 1) := by decide +kernel
theorem dX1_priceStep_14 : decode cX1_priceStep 14 = .ok (.aload_n 0, 1) := by decide +kernel
theorem dX1_priceStep_15 : decode cX1_priceStep 15 = .ok (.getfield 58, 3) := by decide +kernel
theorem dX1_priceStep_18 : decode cX1_priceStep 18 = .ok (.iload_n 1, 1) := by decide +kernel
theorem dX1_priceStep_19 : decode cX1_priceStep 19 = .ok (.iaload, 1) := by decide +kernel
theorem dX1_priceStep_20 : decode cX1_priceStep 20 = .ok (.invokestatic 71, 3) := by decide +kernel
theorem dX1_priceStep_23 : decode cX1_priceStep 23 = .ok (.imul, 1) := by decide +kernel
theorem dX1_priceStep_24 : decode cX1_priceStep 24 = .ok (.isub, 1) := by decide +kernel
theorem dX1_priceStep_25 : decode cX1_priceStep 25 = .ok (.iastore, 1) := by decide +kernel
theorem dX1_priceStep_26 : decode cX1_priceStep 26 = .ok (.return_, 1) := by decide +kernel
set_option maxRecDepth 20000 in
theorem ggX1_learn_X8_wordOf : GoodIn wsX1_learn wsX8_wordOf := goodIn_r _ [6] (by decide +kernel) (by decide +kernel)
set_option maxRecDepth 20000 in
theorem gX1_learn_X8_wordOf_n75 : GoodIn wsX1_learn (wsX8_wordOf) := ggX1_learn_X8_wordOf
set_option maxRecDepth 20000 in
theorem ggX1_learn_X1_kindOf : GoodIn wsX1_learn wsX1_kindOf := goodIn_r _ [11, 12, 4, 5, 6, 20, 21, 22, 23, 24, 25, 26, 27, 28, 29, 30, 31, 32, 33, 34, 35, 36, 37, 38] (by decide +kernel) (by decide +kernel)
set_option maxRecDepth 20000 in
theorem gX1_learn_X1_kindOf : GoodIn wsX1_learn (wsV RX1 78 RX1 yX1_kindOf wsX1_kindOf) := goodIn_app (goodIn_of _ (by decide +kernel)) ggX1_learn_X1_kindOf
set_option maxRecDepth 20000 in
theorem ggX1_learn_X1_priceStep : GoodIn wsX1_learn wsX1_priceStep := goodIn_r _ [16, 3, 17, 2, 18, 5, 19, 20, 21, 22, 23, 24, 25, 26, 27, 28, 29, 30, 31, 32, 33, 34, 35, 36, 37, 38] (by decide +kernel) (by decide +kernel)
set_option maxRecDepth 20000 in
theorem gX1_learn_X1_priceStep : GoodIn wsX1_learn (wsV RX1 81 RX1 yX1_priceStep wsX1_priceStep) := goodIn_app (goodIn_of _ (by decide +kernel)) ggX1_learn_X1_priceStep
theorem dX1_learn_0 : decode cX1_learn 0 = .ok (.iload_n 2, 1) := by decide +kernel
theorem dX1_learn_1 : decode cX1_learn 1 = .ok (.istore 5, 2) := by decide +kernel
theorem dX1_learn_3 : decode cX1_learn 3 = .ok (.iload 5, 2) := by decide +kernel
theorem dX1_learn_5 : decode cX1_learn 5 = .ok (.iload_n 2, 1) := by decide +kernel
theorem dX1_learn_6 : decode cX1_learn 6 = .ok (.iload_n 3, 1) := by decide +kernel
theorem dX1_learn_7 : decode cX1_learn 7 = .ok (.iadd, 1) := by decide +kernel
theorem dX1_learn_8 : decode cX1_learn 8 = .ok (.if_icmp .ge 91, 3) := by decide +kernel
theorem dX1_learn_11 : decode cX1_learn 11 = .ok (.aload_n 1, 1) := by decide +kernel
theorem dX1_learn_12 : decode cX1_learn 12 = .ok (.iload 5, 2) := by decide +kernel
theorem dX1_learn_14 : decode cX1_learn 14 = .ok (.iaload, 1) := by decide +kernel
theorem dX1_learn_15 : decode cX1_learn 15 = .ok (.invokestatic 75, 3) := by decide +kernel
theorem dX1_learn_18 : decode cX1_learn 18 = .ok (.istore 6, 2) := by decide +kernel
theorem dX1_learn_20 : decode cX1_learn 20 = .ok (.iload 6, 2) := by decide +kernel
theorem dX1_learn_22 : decode cX1_learn 22 = .ok (.iconst (-1), 1) := by decide +kernel
theorem dX1_learn_23 : decode cX1_learn 23 = .ok (.if_icmp .eq 15, 3) := by decide +kernel
theorem dX1_learn_26 : decode cX1_learn 26 = .ok (.aload_n 0, 1) := by decide +kernel
theorem dX1_learn_27 : decode cX1_learn 27 = .ok (.getfield 37, 3) := by decide +kernel
theorem dX1_learn_30 : decode cX1_learn 30 = .ok (.iload 6, 2) := by decide +kernel
theorem dX1_learn_32 : decode cX1_learn 32 = .ok (.dup2, 1) := by decide +kernel
theorem dX1_learn_33 : decode cX1_learn 33 = .ok (.iaload, 1) := by decide +kernel
theorem dX1_learn_34 : decode cX1_learn 34 = .ok (.iload 4, 2) := by decide +kernel
theorem dX1_learn_36 : decode cX1_learn 36 = .ok (.iadd, 1) := by decide +kernel
theorem dX1_learn_37 : decode cX1_learn 37 = .ok (.iastore, 1) := by decide +kernel
theorem dX1_learn_38 : decode cX1_learn 38 = .ok (.iload 5, 2) := by decide +kernel
theorem dX1_learn_40 : decode cX1_learn 40 = .ok (.iload_n 2, 1) := by decide +kernel
theorem dX1_learn_41 : decode cX1_learn 41 = .ok (.if_icmp .le 52, 3) := by decide +kernel
theorem dX1_learn_44 : decode cX1_learn 44 = .ok (.aload_n 0, 1) := by decide +kernel
theorem dX1_learn_45 : decode cX1_learn 45 = .ok (.aload_n 1, 1) := by decide +kernel
theorem dX1_learn_46 : decode cX1_learn 46 = .ok (.iload 5, 2) := by decide +kernel
theorem dX1_learn_48 : decode cX1_learn 48 = .ok (.iconst 1, 1) := by decide +kernel
theorem dX1_learn_49 : decode cX1_learn 49 = .ok (.isub, 1) := by decide +kernel
theorem dX1_learn_50 : decode cX1_learn 50 = .ok (.iaload, 1) := by decide +kernel
theorem dX1_learn_51 : decode cX1_learn 51 = .ok (.invokevirtual 78, 3) := by decide +kernel
theorem dX1_learn_54 : decode cX1_learn 54 = .ok (.bipush 9, 2) := by decide +kernel
theorem dX1_learn_56 : decode cX1_learn 56 = .ok (.imul, 1) := by decide +kernel
theorem dX1_learn_57 : decode cX1_learn 57 = .ok (.aload_n 0, 1) := by decide +kernel
theorem dX1_learn_58 : decode cX1_learn 58 = .ok (.aload_n 1, 1) := by decide +kernel
theorem dX1_learn_59 : decode cX1_learn 59 = .ok (.iload 5, 2) := by decide +kernel
theorem dX1_learn_61 : decode cX1_learn 61 = .ok (.iaload, 1) := by decide +kernel
theorem dX1_learn_62 : decode cX1_learn 62 = .ok (.invokevirtual 78, 3) := by decide +kernel
theorem dX1_learn_65 : decode cX1_learn 65 = .ok (.iadd, 1) := by decide +kernel
theorem dX1_learn_66 : decode cX1_learn 66 = .ok (.istore 7, 2) := by decide +kernel
theorem dX1_learn_68 : decode cX1_learn 68 = .ok (.aload_n 0, 1) := by decide +kernel
theorem dX1_learn_69 : decode cX1_learn 69 = .ok (.getfield 58, 3) := by decide +kernel
theorem dX1_learn_72 : decode cX1_learn 72 = .ok (.iload 7, 2) := by decide +kernel
theorem dX1_learn_74 : decode cX1_learn 74 = .ok (.dup2, 1) := by decide +kernel
theorem dX1_learn_75 : decode cX1_learn 75 = .ok (.iaload, 1) := by decide +kernel
theorem dX1_learn_76 : decode cX1_learn 76 = .ok (.iload 4, 2) := by decide +kernel
theorem dX1_learn_78 : decode cX1_learn 78 = .ok (.iadd, 1) := by decide +kernel
theorem dX1_learn_79 : decode cX1_learn 79 = .ok (.iastore, 1) := by decide +kernel
theorem dX1_learn_80 : decode cX1_learn 80 = .ok (.aload_n 0, 1) := by decide +kernel
theorem dX1_learn_81 : decode cX1_learn 81 = .ok (.iload 7, 2) := by decide +kernel
theorem dX1_learn_83 : decode cX1_learn 83 = .ok (.aload_n 0, 1) := by decide +kernel
theorem dX1_learn_84 : decode cX1_learn 84 = .ok (.getfield 55, 3) := by decide +kernel
theorem dX1_learn_87 : decode cX1_learn 87 = .ok (.iload 7, 2) := by decide +kernel
theorem dX1_learn_89 : decode cX1_learn 89 = .ok (.iaload, 1) := by decide +kernel
theorem dX1_learn_90 : decode cX1_learn 90 = .ok (.invokevirtual 81, 3) := by decide +kernel
theorem dX1_learn_93 : decode cX1_learn 93 = .ok (.iinc 5 1, 3) := by decide +kernel
theorem dX1_learn_96 : decode cX1_learn 96 = .ok (.goto (-93), 3) := by decide +kernel
theorem dX1_learn_99 : decode cX1_learn 99 = .ok (.return_, 1) := by decide +kernel
set_option maxRecDepth 20000 in
theorem ggX1_wordCost_X8_digits : GoodIn wsX1_wordCost wsX8_digits := goodIn_r _ [5] (by decide +kernel) (by decide +kernel)
set_option maxRecDepth 20000 in
theorem gX1_wordCost_X8_digits_n71 : GoodIn wsX1_wordCost (wsX8_digits) := ggX1_wordCost_X8_digits
theorem dX1_wordCost_0 : decode cX1_wordCost 0 = .ok (.aload_n 0, 1) := by decide +kernel
theorem dX1_wordCost_1 : decode cX1_wordCost 1 = .ok (.getfield 52, 3) := by decide +kernel
theorem dX1_wordCost_4 : decode cX1_wordCost 4 = .ok (.iconst 2, 1) := by decide +kernel
theorem dX1_wordCost_5 : decode cX1_wordCost 5 = .ok (.iaload, 1) := by decide +kernel
theorem dX1_wordCost_6 : decode cX1_wordCost 6 = .ok (.bipush 8, 2) := by decide +kernel
theorem dX1_wordCost_8 : decode cX1_wordCost 8 = .ok (.aload_n 0, 1) := by decide +kernel
theorem dX1_wordCost_9 : decode cX1_wordCost 9 = .ok (.getfield 37, 3) := by decide +kernel
theorem dX1_wordCost_12 : decode cX1_wordCost 12 = .ok (.iload_n 1, 1) := by decide +kernel
theorem dX1_wordCost_13 : decode cX1_wordCost 13 = .ok (.iaload, 1) := by decide +kernel
theorem dX1_wordCost_14 : decode cX1_wordCost 14 = .ok (.invokestatic 71, 3) := by decide +kernel
theorem dX1_wordCost_17 : decode cX1_wordCost 17 = .ok (.imul, 1) := by decide +kernel
theorem dX1_wordCost_18 : decode cX1_wordCost 18 = .ok (.isub, 1) := by decide +kernel
theorem dX1_wordCost_19 : decode cX1_wordCost 19 = .ok (.ireturn, 1) := by decide +kernel
set_option maxRecDepth 20000 in
theorem ggX1_kindOf_X8_wordOf : GoodIn wsX1_kindOf wsX8_wordOf := goodIn_r _ [4] (by decide +kernel) (by decide +kernel)
set_option maxRecDepth 20000 in
theorem gX1_kindOf_X8_wordOf_n75 : GoodIn wsX1_kindOf (wsX8_wordOf) := ggX1_kindOf_X8_wordOf
theorem dX1_kindOf_0 : decode cX1_kindOf 0 = .ok (.iload_n 1, 1) := by decide +kernel
theorem dX1_kindOf_1 : decode cX1_kindOf 1 = .ok (.sipush 540, 3) := by decide +kernel
theorem dX1_kindOf_4 : decode cX1_kindOf 4 = .ok (.if_icmp .ne 8, 3) := by decide +kernel
theorem dX1_kindOf_7 : decode cX1_kindOf 7 = .ok (.bipush 8, 2) := by decide +kernel
theorem dX1_kindOf_9 : decode cX1_kindOf 9 = .ok (.goto 12, 3) := by decide +kernel
theorem dX1_kindOf_12 : decode cX1_kindOf 12 = .ok (.aload_n 0, 1) := by decide +kernel
theorem dX1_kindOf_13 : decode cX1_kindOf 13 = .ok (.getfield 31, 3) := by decide +kernel
theorem dX1_kindOf_16 : decode cX1_kindOf 16 = .ok (.iload_n 1, 1) := by decide +kernel
theorem dX1_kindOf_17 : decode cX1_kindOf 17 = .ok (.invokestatic 75, 3) := by decide +kernel
theorem dX1_kindOf_20 : decode cX1_kindOf 20 = .ok (.iaload, 1) := by decide +kernel
theorem dX1_kindOf_21 : decode cX1_kindOf 21 = .ok (.ireturn, 1) := by decide +kernel
theorem dX1_goesTogether_0 : decode cX1_goesTogether 0 = .ok (.iload_n 2, 1) := by decide +kernel
theorem dX1_goesTogether_1 : decode cX1_goesTogether 1 = .ok (.iconst (-1), 1) := by decide +kernel
theorem dX1_goesTogether_2 : decode cX1_goesTogether 2 = .ok (.if_icmp .eq 26, 3) := by decide +kernel
theorem dX1_goesTogether_5 : decode cX1_goesTogether 5 = .ok (.iload_n 2, 1) := by decide +kernel
theorem dX1_goesTogether_6 : decode cX1_goesTogether 6 = .ok (.aload_n 0, 1) := by decide +kernel
theorem dX1_goesTogether_7 : decode cX1_goesTogether 7 = .ok (.getfield 68, 3) := by decide +kernel
theorem dX1_goesTogether_10 : decode cX1_goesTogether 10 = .ok (.if_icmp .ge 22, 3) := by decide +kernel
theorem dX1_goesTogether_13 : decode cX1_goesTogether 13 = .ok (.aload_n 0, 1) := by decide +kernel
theorem dX1_goesTogether_14 : decode cX1_goesTogether 14 = .ok (.getfield 46, 3) := by decide +kernel
theorem dX1_goesTogether_17 : decode cX1_goesTogether 17 = .ok (.iload_n 2, 1) := by decide +kernel
theorem dX1_goesTogether_18 : decode cX1_goesTogether 18 = .ok (.iaload, 1) := by decide +kernel
theorem dX1_goesTogether_19 : decode cX1_goesTogether 19 = .ok (.aload_n 0, 1) := by decide +kernel
theorem dX1_goesTogether_20 : decode cX1_goesTogether 20 = .ok (.getfield 34, 3) := by decide +kernel
theorem dX1_goesTogether_23 : decode cX1_goesTogether 23 = .ok (.iload_n 1, 1) := by decide +kernel
theorem dX1_goesTogether_24 : decode cX1_goesTogether 24 = .ok (.iaload, 1) := by decide +kernel
theorem dX1_goesTogether_25 : decode cX1_goesTogether 25 = .ok (.if_icmp .ne 7, 3) := by decide +kernel
theorem dX1_goesTogether_28 : decode cX1_goesTogether 28 = .ok (.iconst 1, 1) := by decide +kernel
theorem dX1_goesTogether_29 : decode cX1_goesTogether 29 = .ok (.goto 4, 3) := by decide +kernel
theorem dX1_goesTogether_32 : decode cX1_goesTogether 32 = .ok (.iconst 0, 1) := by decide +kernel
theorem dX1_goesTogether_33 : decode cX1_goesTogether 33 = .ok (.ireturn, 1) := by decide +kernel
set_option maxRecDepth 20000 in
theorem ggX1_signsOf_X8_wordOf : GoodIn wsX1_signsOf wsX8_wordOf := goodIn_r _ [4] (by decide +kernel) (by decide +kernel)
set_option maxRecDepth 20000 in
theorem gX1_signsOf_X8_wordOf_n75 : GoodIn wsX1_signsOf (wsX8_wordOf) := ggX1_signsOf_X8_wordOf
set_option maxRecDepth 20000 in
theorem ggX1_signsOf_X8_rowLength : GoodIn wsX1_signsOf wsX8_rowLength := goodIn_r _ [6] (by decide +kernel) (by decide +kernel)
set_option maxRecDepth 20000 in
theorem gX1_signsOf_X8_rowLength_n85 : GoodIn wsX1_signsOf (wsX8_rowLength) := ggX1_signsOf_X8_rowLength
set_option maxRecDepth 20000 in
theorem ggX1_signsOf_X8_endingOf : GoodIn wsX1_signsOf wsX8_endingOf := goodIn_r _ [8] (by decide +kernel) (by decide +kernel)
set_option maxRecDepth 20000 in
theorem gX1_signsOf_X8_endingOf_n89 : GoodIn wsX1_signsOf (wsX8_endingOf) := ggX1_signsOf_X8_endingOf
theorem dX1_signsOf_0 : decode cX1_signsOf 0 = .ok (.iload_n 1, 1) := by decide +kernel
theorem dX1_signsOf_1 : decode cX1_signsOf 1 = .ok (.sipush 540, 3) := by decide +kernel
theorem dX1_signsOf_4 : decode cX1_signsOf 4 = .ok (.if_icmp .ne 5, 3) := by decide +kernel
theorem dX1_signsOf_7 : decode cX1_signsOf 7 = .ok (.iconst 1, 1) := by decide +kernel
theorem dX1_signsOf_8 : decode cX1_signsOf 8 = .ok (.ireturn, 1) := by decide +kernel
theorem dX1_signsOf_9 : decode cX1_signsOf 9 = .ok (.aload_n 0, 1) := by decide +kernel
theorem dX1_signsOf_10 : decode cX1_signsOf 10 = .ok (.getfield 28, 3) := by decide +kernel
theorem dX1_signsOf_13 : decode cX1_signsOf 13 = .ok (.iload_n 1, 1) := by decide +kernel
theorem dX1_signsOf_14 : decode cX1_signsOf 14 = .ok (.invokestatic 75, 3) := by decide +kernel
theorem dX1_signsOf_17 : decode cX1_signsOf 17 = .ok (.laload, 1) := by decide +kernel
theorem dX1_signsOf_18 : decode cX1_signsOf 18 = .ok (.bipush 14, 2) := by decide +kernel
theorem dX1_signsOf_20 : decode cX1_signsOf 20 = .ok (.sipush 16383, 3) := by decide +kernel
theorem dX1_signsOf_23 : decode cX1_signsOf 23 = .ok (.iconst 4, 1) := by decide +kernel
theorem dX1_signsOf_24 : decode cX1_signsOf 24 = .ok (.invokestatic 85, 3) := by decide +kernel
theorem dX1_signsOf_27 : decode cX1_signsOf 27 = .ok (.iload_n 1, 1) := by decide +kernel
theorem dX1_signsOf_28 : decode cX1_signsOf 28 = .ok (.invokestatic 89, 3) := by decide +kernel
theorem dX1_signsOf_31 : decode cX1_signsOf 31 = .ok (.iconst (-1), 1) := by decide +kernel
theorem dX1_signsOf_32 : decode cX1_signsOf 32 = .ok (.if_icmp .ne 7, 3) := by decide +kernel
theorem dX1_signsOf_35 : decode cX1_signsOf 35 = .ok (.iconst 0, 1) := by decide +kernel
theorem dX1_signsOf_36 : decode cX1_signsOf 36 = .ok (.goto 4, 3) := by decide +kernel
theorem dX1_signsOf_39 : decode cX1_signsOf 39 = .ok (.iconst 1, 1) := by decide +kernel
theorem dX1_signsOf_40 : decode cX1_signsOf 40 = .ok (.iadd, 1) := by decide +kernel
theorem dX1_signsOf_41 : decode cX1_signsOf 41 = .ok (.ireturn, 1) := by decide +kernel
set_option maxRecDepth 20000 in
theorem ggX1_signAt_X8_endingOf : GoodIn wsX1_signAt wsX8_endingOf := goodIn_r _ [5] (by decide +kernel) (by decide +kernel)
set_option maxRecDepth 20000 in
theorem gX1_signAt_X8_endingOf_n89 : GoodIn wsX1_signAt (wsX8_endingOf) := ggX1_signAt_X8_endingOf
set_option maxRecDepth 20000 in
theorem ggX1_signAt_X1_signsOf : GoodIn wsX1_signAt wsX1_signsOf := goodIn_r _ [10, 2, 11, 4, 12, 13, 14, 3, 5, 15, 16, 17, 18, 19, 20, 21, 22, 23, 24, 25, 26, 27, 28, 29, 30, 31, 32, 33] (by decide +kernel) (by decide +kernel)
set_option maxRecDepth 20000 in
theorem gX1_signAt_X1_signsOf : GoodIn wsX1_signAt (wsV RX1 92 RX1 yX1_signsOf wsX1_signsOf) := goodIn_app (goodIn_of _ (by decide +kernel)) ggX1_signAt_X1_signsOf
set_option maxRecDepth 20000 in
theorem ggX1_signAt_X8_wordOf : GoodIn wsX1_signAt wsX8_wordOf := goodIn_r _ [12] (by decide +kernel) (by decide +kernel)
set_option maxRecDepth 20000 in
theorem gX1_signAt_X8_wordOf_n75 : GoodIn wsX1_signAt (wsX8_wordOf) := ggX1_signAt_X8_wordOf
theorem dX1_signAt_0 : decode cX1_signAt 0 = .ok (.iload_n 1, 1) := by decide +kernel
theorem dX1_signAt_1 : decode cX1_signAt 1 = .ok (.sipush 540, 3) := by decide +kernel
theorem dX1_signAt_4 : decode cX1_signAt 4 = .ok (.if_icmp .ne 9, 3) := by decide +kernel
theorem dX1_signAt_7 : decode cX1_signAt 7 = .ok (.sipush 20000, 3) := by decide +kernel
theorem dX1_signAt_10 : decode cX1_signAt 10 = .ok (.iload_n 3, 1) := by decide +kernel
theorem dX1_signAt_11 : decode cX1_signAt 11 = .ok (.iadd, 1) := by decide +kernel
theorem dX1_signAt_12 : decode cX1_signAt 12 = .ok (.ireturn, 1) := by decide +kernel
theorem dX1_signAt_13 : decode cX1_signAt 13 = .ok (.iload_n 1, 1) := by decide +kernel
theorem dX1_signAt_14 : decode cX1_signAt 14 = .ok (.invokestatic 89, 3) := by decide +kernel
theorem dX1_signAt_17 : decode cX1_signAt 17 = .ok (.istore 4, 2) := by decide +kernel
theorem dX1_signAt_19 : decode cX1_signAt 19 = .ok (.iload 4, 2) := by decide +kernel
theorem dX1_signAt_21 : decode cX1_signAt 21 = .ok (.iconst (-1), 1) := by decide +kernel
theorem dX1_signAt_22 : decode cX1_signAt 22 = .ok (.if_icmp .eq 22, 3) := by decide +kernel
theorem dX1_signAt_25 : decode cX1_signAt 25 = .ok (.iload_n 2, 1) := by decide +kernel
theorem dX1_signAt_26 : decode cX1_signAt 26 = .ok (.aload_n 0, 1) := by decide +kernel
theorem dX1_signAt_27 : decode cX1_signAt 27 = .ok (.iload_n 1, 1) := by decide +kernel
theorem dX1_signAt_28 : decode cX1_signAt 28 = .ok (.invokevirtual 92, 3) := by decide +kernel
theorem dX1_signAt_31 : decode cX1_signAt 31 = .ok (.iconst 1, 1) := by decide +kernel
theorem dX1_signAt_32 : decode cX1_signAt 32 = .ok (.isub, 1) := by decide +kernel
theorem dX1_signAt_33 : decode cX1_signAt 33 = .ok (.if_icmp .ne 11, 3) := by decide +kernel
theorem dX1_signAt_36 : decode cX1_signAt 36 = .ok (.aload_n 0, 1) := by decide +kernel
theorem dX1_signAt_37 : decode cX1_signAt 37 = .ok (.getfield 43, 3) := by decide +kernel
theorem dX1_signAt_40 : decode cX1_signAt 40 = .ok (.iload 4, 2) := by decide +kernel
theorem dX1_signAt_42 : decode cX1_signAt 42 = .ok (.iaload, 1) := by decide +kernel
theorem dX1_signAt_43 : decode cX1_signAt 43 = .ok (.ireturn, 1) := by decide +kernel
theorem dX1_signAt_44 : decode cX1_signAt 44 = .ok (.aload_n 0, 1) := by decide +kernel
theorem dX1_signAt_45 : decode cX1_signAt 45 = .ok (.getfield 28, 3) := by decide +kernel
theorem dX1_signAt_48 : decode cX1_signAt 48 = .ok (.iload_n 1, 1) := by decide +kernel
theorem dX1_signAt_49 : decode cX1_signAt 49 = .ok (.invokestatic 75, 3) := by decide +kernel
theorem dX1_signAt_52 : decode cX1_signAt 52 = .ok (.laload, 1) := by decide +kernel
theorem dX1_signAt_53 : decode cX1_signAt 53 = .ok (.iload_n 2, 1) := by decide +kernel
theorem dX1_signAt_54 : decode cX1_signAt 54 = .ok (.bipush 14, 2) := by decide +kernel
theorem dX1_signAt_56 : decode cX1_signAt 56 = .ok (.imul, 1) := by decide +kernel
theorem dX1_signAt_57 : decode cX1_signAt 57 = .ok (.lshr, 1) := by decide +kernel
theorem dX1_signAt_58 : decode cX1_signAt 58 = .ok (.l2i, 1) := by decide +kernel
theorem dX1_signAt_59 : decode cX1_signAt 59 = .ok (.sipush 16383, 3) := by decide +kernel
theorem dX1_signAt_62 : decode cX1_signAt 62 = .ok (.iand, 1) := by decide +kernel
theorem dX1_signAt_63 : decode cX1_signAt 63 = .ok (.ireturn, 1) := by decide +kernel
theorem dX2_init_0 : decode cX2_init 0 = .ok (.aload_n 0, 1) := by decide +kernel
theorem dX2_init_1 : decode cX2_init 1 = .ok (.invokespecial 3, 3) := by decide +kernel
theorem dX2_init_4 : decode cX2_init 4 = .ok (.aload_n 0, 1) := by decide +kernel
theorem dX2_init_5 : decode cX2_init 5 = .ok (.sipush 333, 3) := by decide +kernel
theorem dX2_init_8 : decode cX2_init 8 = .ok (.newarray .int, 2) := by decide +kernel
theorem dX2_init_10 : decode cX2_init 10 = .ok (.putfield 9, 3) := by decide +kernel
theorem dX2_init_13 : decode cX2_init 13 = .ok (.aload_n 0, 1) := by decide +kernel
theorem dX2_init_14 : decode cX2_init 14 = .ok (.sipush 324, 3) := by decide +kernel
theorem dX2_init_17 : decode cX2_init 17 = .ok (.newarray .int, 2) := by decide +kernel
theorem dX2_init_19 : decode cX2_init 19 = .ok (.putfield 15, 3) := by decide +kernel
theorem dX2_init_22 : decode cX2_init 22 = .ok (.aload_n 0, 1) := by decide +kernel
theorem dX2_init_23 : decode cX2_init 23 = .ok (.iconst (-1), 1) := by decide +kernel
theorem dX2_init_24 : decode cX2_init 24 = .ok (.putfield 18, 3) := by decide +kernel
theorem dX2_init_27 : decode cX2_init 27 = .ok (.aload_n 0, 1) := by decide +kernel
theorem dX2_init_28 : decode cX2_init 28 = .ok (.bipush 12, 2) := by decide +kernel
theorem dX2_init_30 : decode cX2_init 30 = .ok (.newarray .int, 2) := by decide +kernel
theorem dX2_init_32 : decode cX2_init 32 = .ok (.putfield 22, 3) := by decide +kernel
theorem dX2_init_35 : decode cX2_init 35 = .ok (.aload_n 0, 1) := by decide +kernel
theorem dX2_init_36 : decode cX2_init 36 = .ok (.bipush 12, 2) := by decide +kernel
theorem dX2_init_38 : decode cX2_init 38 = .ok (.newarray .int, 2) := by decide +kernel
theorem dX2_init_40 : decode cX2_init 40 = .ok (.putfield 25, 3) := by decide +kernel
theorem dX2_init_43 : decode cX2_init 43 = .ok (.aload_n 0, 1) := by decide +kernel
theorem dX2_init_44 : decode cX2_init 44 = .ok (.aload_n 1, 1) := by decide +kernel
theorem dX2_init_45 : decode cX2_init 45 = .ok (.putfield 28, 3) := by decide +kernel
theorem dX2_init_48 : decode cX2_init 48 = .ok (.aload_n 0, 1) := by decide +kernel
theorem dX2_init_49 : decode cX2_init 49 = .ok (.aload_n 2, 1) := by decide +kernel
theorem dX2_init_50 : decode cX2_init 50 = .ok (.putfield 32, 3) := by decide +kernel
theorem dX2_init_53 : decode cX2_init 53 = .ok (.aload_n 0, 1) := by decide +kernel
theorem dX2_init_54 : decode cX2_init 54 = .ok (.aload_n 3, 1) := by decide +kernel
theorem dX2_init_55 : decode cX2_init 55 = .ok (.putfield 36, 3) := by decide +kernel
theorem dX2_init_58 : decode cX2_init 58 = .ok (.aload_n 0, 1) := by decide +kernel
theorem dX2_init_59 : decode cX2_init 59 = .ok (.aload 4, 2) := by decide +kernel
theorem dX2_init_61 : decode cX2_init 61 = .ok (.putfield 40, 3) := by decide +kernel
theorem dX2_init_64 : decode cX2_init 64 = .ok (.return_, 1) := by decide +kernel
theorem dX2_forget_0 : decode cX2_forget 0 = .ok (.aload_n 0, 1) := by decide +kernel
theorem dX2_forget_1 : decode cX2_forget 1 = .ok (.iconst 0, 1) := by decide +kernel
theorem dX2_forget_2 : decode cX2_forget 2 = .ok (.putfield 44, 3) := by decide +kernel
theorem dX2_forget_5 : decode cX2_forget 5 = .ok (.aload_n 0, 1) := by decide +kernel
theorem dX2_forget_6 : decode cX2_forget 6 = .ok (.iconst (-1), 1) := by decide +kernel
theorem dX2_forget_7 : decode cX2_forget 7 = .ok (.putfield 18, 3) := by decide +kernel
theorem dX2_forget_10 : decode cX2_forget 10 = .ok (.return_, 1) := by decide +kernel
set_option maxRecDepth 20000 in
theorem ggX2_list_X2_fillAllLeads : GoodIn wsX2_list wsX2_fillAllLeads := goodIn_r _ [8, 9, 10, 11, 12, 13, 14, 15, 16, 17, 18, 19, 7, 20, 21, 22, 23, 24, 25, 26, 27, 28, 29, 30, 31, 32, 33, 34, 35, 36, 1, 37, 38, 39, 40, 41, 42, 43, 44, 45, 46, 47, 48, 49, 50, 51, 52, 53, 54, 55, 56, 57, 58, 59, 60, 61, 127, 128, 129, 130, 131, 132, 133, 134, 135, 136, 137, 152, 153, 154, 155, 156, 157, 158, 159, 160, 161, 162, 163, 164, 165, 166, 167, 168, 169, 170, 171, 172, 173, 174, 138, 139, 140, 141, 142, 143, 144, 145, 146, 147, 148, 149, 150, 151, 175, 176, 177, 178, 179, 180] (by decide +kernel) (by decide +kernel)
set_option maxRecDepth 20000 in
theorem gX2_list_X2_fillAllLeads : GoodIn wsX2_list (wsV RX2 53 RX2 yX2_fillAllLeads wsX2_fillAllLeads) := goodIn_app (goodIn_of _ (by decide +kernel)) ggX2_list_X2_fillAllLeads
set_option maxRecDepth 20000 in
theorem ggX2_list_X2_offerWords : GoodIn wsX2_list wsX2_offerWords := goodIn_r _ [65, 21, 66, 67, 55, 68, 69, 70, 71, 72, 73, 74, 75, 76, 77, 78, 79, 59, 60, 61, 80, 81, 82, 83, 84, 85, 86, 87, 88, 89, 90, 91, 92, 93, 94, 95, 96, 97, 98, 24, 99, 100, 101, 102, 103, 104, 105, 106, 107, 108, 109, 110, 111, 112, 113, 114, 115, 116, 117, 118, 119, 7, 120, 26, 1, 11, 3, 121, 22, 23, 25, 122, 54, 56, 57, 58, 127, 128, 129, 130, 131, 132, 133, 134, 135, 136, 137, 156, 157, 158, 159, 160, 161, 162, 163, 164, 165, 166, 167, 168, 169, 170, 171, 172, 173, 174, 181, 182, 183, 184, 185, 186, 187, 188, 152, 153, 154, 155, 138, 139, 140, 141, 142, 143, 144, 145, 146, 147, 148, 149, 150, 151] (by decide +kernel) (by decide +kernel)
set_option maxRecDepth 20000 in
theorem gX2_list_X2_offerWords : GoodIn wsX2_list (wsV RX2 63 RX2 yX2_offerWords wsX2_offerWords) := goodIn_app (goodIn_of _ (by decide +kernel)) ggX2_list_X2_offerWords
set_option maxRecDepth 20000 in
theorem ggX2_list_X2_offerGuess : GoodIn wsX2_list wsX2_offerGuess := goodIn_r _ [126, 66, 73, 74, 75, 76, 77, 78, 79, 59, 60, 61, 80, 81, 82, 83, 84, 85, 86, 87, 88, 89, 90, 91, 92, 93, 94, 95, 96, 97, 98, 24, 99, 100, 101, 102, 103, 104, 105, 106, 107, 108, 109, 110, 55, 111, 112, 113, 114, 115, 116, 117, 118, 119, 7, 120, 21, 26, 1, 11, 3, 121, 22, 23, 25, 122, 54, 56, 57, 58, 127, 128, 129, 130, 131, 132, 133, 134, 135, 136, 137, 181, 182, 183, 184, 185, 186, 187, 188, 156, 157, 158, 159, 160, 161, 162, 163, 164, 165, 166, 167, 168, 169, 170, 171, 172, 173, 174, 152, 153, 154, 155, 138, 139, 140, 141, 142, 143, 144, 145, 146, 147, 148, 149, 150, 151] (by decide +kernel) (by decide +kernel)
set_option maxRecDepth 20000 in
theorem gX2_list_X2_offerGuess : GoodIn wsX2_list (wsV RX2 67 RX2 yX2_offerGuess wsX2_offerGuess) := goodIn_app (goodIn_of _ (by decide +kernel)) ggX2_list_X2_offerGuess
theorem dX2_list_0 : decode cX2_list 0 = .ok (.iload_n 1, 1) := by decide +kernel
theorem dX2_list_1 : decode cX2_list 1 = .ok (.ifCond .lt 14, 3) := by decide +kernel
theorem dX2_list_4 : decode cX2_list 4 = .ok (.iload_n 1, 1) := by decide +kernel
theorem dX2_list_5 : decode cX2_list 5 = .ok (.aload_n 0, 1) := by decide +kernel
theorem dX2_list_6 : decode cX2_list 6 = .ok (.getfield 40, 3) := by decide +kernel
theorem dX2_list_9 : decode cX2_list 9 = .ok (.getfield 48, 3) := by decide +kernel
theorem dX2_list_12 : decode cX2_list 12 = .ok (.if_icmp .lt 5, 3) := by decide +kernel
theorem dX2_list_15 : decode cX2_list 15 = .ok (.iconst 0, 1) := by decide +kernel
theorem dX2_list_16 : decode cX2_list 16 = .ok (.ireturn, 1) := by decide +kernel
theorem dX2_list_17 : decode cX2_list 17 = .ok (.iload_n 1, 1) := by decide +kernel
theorem dX2_list_18 : decode cX2_list 18 = .ok (.aload_n 0, 1) := by decide +kernel
theorem dX2_list_19 : decode cX2_list 19 = .ok (.getfield 18, 3) := by decide +kernel
theorem dX2_list_22 : decode cX2_list 22 = .ok (.if_icmp .eq 61, 3) := by decide +kernel
theorem dX2_list_25 : decode cX2_list 25 = .ok (.aload_n 0, 1) := by decide +kernel
theorem dX2_list_26 : decode cX2_list 26 = .ok (.invokevirtual 53, 3) := by decide +kernel
theorem dX2_list_29 : decode cX2_list 29 = .ok (.aload_n 0, 1) := by decide +kernel
theorem dX2_list_30 : decode cX2_list 30 = .ok (.iconst 0, 1) := by decide +kernel
theorem dX2_list_31 : decode cX2_list 31 = .ok (.putfield 56, 3) := by decide +kernel
theorem dX2_list_34 : decode cX2_list 34 = .ok (.aload_n 0, 1) := by decide +kernel
theorem dX2_list_35 : decode cX2_list 35 = .ok (.aload_n 0, 1) := by decide +kernel
theorem dX2_list_36 : decode cX2_list 36 = .ok (.getfield 40, 3) := by decide +kernel
theorem dX2_list_39 : decode cX2_list 39 = .ok (.getfield 57, 3) := by decide +kernel
theorem dX2_list_42 : decode cX2_list 42 = .ok (.iload_n 1, 1) := by decide +kernel
theorem dX2_list_43 : decode cX2_list 43 = .ok (.iaload, 1) := by decide +kernel
theorem dX2_list_44 : decode cX2_list 44 = .ok (.aload_n 0, 1) := by decide +kernel
theorem dX2_list_45 : decode cX2_list 45 = .ok (.getfield 40, 3) := by decide +kernel
theorem dX2_list_48 : decode cX2_list 48 = .ok (.getfield 60, 3) := by decide +kernel
theorem dX2_list_51 : decode cX2_list 51 = .ok (.iload_n 1, 1) := by decide +kernel
theorem dX2_list_52 : decode cX2_list 52 = .ok (.iaload, 1) := by decide +kernel
theorem dX2_list_53 : decode cX2_list 53 = .ok (.invokevirtual 63, 3) := by decide +kernel
theorem dX2_list_56 : decode cX2_list 56 = .ok (.aload_n 0, 1) := by decide +kernel
theorem dX2_list_57 : decode cX2_list 57 = .ok (.aload_n 0, 1) := by decide +kernel
theorem dX2_list_58 : decode cX2_list 58 = .ok (.getfield 40, 3) := by decide +kernel
theorem dX2_list_61 : decode cX2_list 61 = .ok (.getfield 57, 3) := by decide +kernel
theorem dX2_list_64 : decode cX2_list 64 = .ok (.iload_n 1, 1) := by decide +kernel
theorem dX2_list_65 : decode cX2_list 65 = .ok (.iaload, 1) := by decide +kernel
theorem dX2_list_66 : decode cX2_list 66 = .ok (.aload_n 0, 1) := by decide +kernel
theorem dX2_list_67 : decode cX2_list 67 = .ok (.getfield 40, 3) := by decide +kernel
theorem dX2_list_70 : decode cX2_list 70 = .ok (.getfield 60, 3) := by decide +kernel
theorem dX2_list_73 : decode cX2_list 73 = .ok (.iload_n 1, 1) := by decide +kernel
theorem dX2_list_74 : decode cX2_list 74 = .ok (.iaload, 1) := by decide +kernel
theorem dX2_list_75 : decode cX2_list 75 = .ok (.invokevirtual 67, 3) := by decide +kernel
theorem dX2_list_78 : decode cX2_list 78 = .ok (.aload_n 0, 1) := by decide +kernel
theorem dX2_list_79 : decode cX2_list 79 = .ok (.iload_n 1, 1) := by decide +kernel
theorem dX2_list_80 : decode cX2_list 80 = .ok (.putfield 18, 3) := by decide +kernel
theorem dX2_list_83 : decode cX2_list 83 = .ok (.iconst 1, 1) := by decide +kernel
theorem dX2_list_84 : decode cX2_list 84 = .ok (.ireturn, 1) := by decide +kernel
set_option maxRecDepth 20000 in
theorem ggX2_fillAllLeads_J7_fill_53178 : GoodIn wsX2_fillAllLeads wsJ7_fill_53178 := goodIn_r _ [8] (by decide +kernel) (by decide +kernel)
set_option maxRecDepth 20000 in
theorem gX2_fillAllLeads_J7_fill_53178 : GoodIn wsX2_fillAllLeads (va_wsS RX2 71 yJ7_fill_53178 wsJ7_fill_53178) := goodIn_app (goodIn_of _ (by decide +kernel)) ggX2_fillAllLeads_J7_fill_53178
set_option maxRecDepth 20000 in
theorem ggX2_fillAllLeads_X2_fillLeads : GoodIn wsX2_fillAllLeads wsX2_fillLeads := goodIn_r _ [13, 3, 2, 14, 15, 16, 17, 18, 19, 56, 57, 58, 59, 60, 61, 62, 63, 64, 65, 66, 71, 72, 73, 74, 75, 76, 77, 78, 79, 80, 81, 82, 83, 84, 85, 86, 87, 88, 89] (by decide +kernel) (by decide +kernel)
set_option maxRecDepth 20000 in
theorem gX2_fillAllLeads_X2_fillLeads : GoodIn wsX2_fillAllLeads (wsV RX2 80 RX2 yX2_fillLeads wsX2_fillLeads) := goodIn_app (goodIn_of _ (by decide +kernel)) ggX2_fillAllLeads_X2_fillLeads
set_option maxRecDepth 20000 in
theorem ggX2_fillAllLeads_X4_partsAt : GoodIn wsX2_fillAllLeads wsX4_partsAt := goodIn_r _ [23, 24, 25, 67, 68, 69, 70] (by decide +kernel) (by decide +kernel)
set_option maxRecDepth 20000 in
theorem gX2_fillAllLeads_X4_partsAt_n84 : GoodIn wsX2_fillAllLeads (wsX4_partsAt) := ggX2_fillAllLeads_X4_partsAt
set_option maxRecDepth 20000 in
theorem ggX2_fillAllLeads_X2_goOn : GoodIn wsX2_fillAllLeads wsX2_goOn := goodIn_r _ [29, 4, 30, 19, 31, 3, 2, 15, 16, 17, 18, 32, 21, 33, 34, 24, 25, 20, 22, 23, 35, 36, 37, 38, 39, 40, 41, 42, 43, 44, 45, 46, 47, 48, 49, 50, 51, 52, 53, 54, 55, 56, 57, 58, 59, 60, 61, 62, 63, 64, 65, 66, 67, 68, 69, 70, 90, 91, 92, 93, 94, 95, 96, 97, 98, 99, 100, 101, 102, 103, 104, 105, 106, 107, 108, 109, 71, 72, 73, 74, 75, 76, 77, 78, 79, 80, 81, 82, 83, 84, 85, 86, 87, 88, 89] (by decide +kernel) (by decide +kernel)
set_option maxRecDepth 20000 in
theorem gX2_fillAllLeads_X2_goOn : GoodIn wsX2_fillAllLeads (wsV RX2 88 RX2 yX2_goOn wsX2_goOn) := goodIn_app (goodIn_of _ (by decide +kernel)) ggX2_fillAllLeads_X2_goOn
theorem dX2_fillAllLeads_0 : decode cX2_fillAllLeads 0 = .ok (.aload_n 0, 1) := by decide +kernel
theorem dX2_fillAllLeads_1 : decode cX2_fillAllLeads 1 = .ok (.getfield 44, 3) := by decide +kernel
theorem dX2_fillAllLeads_4 : decode cX2_fillAllLeads 4 = .ok (.ifCond .eq 4, 3) := by decide +kernel
theorem dX2_fillAllLeads_7 : decode cX2_fillAllLeads 7 = .ok (.return_, 1) := by decide +kernel
theorem dX2_fillAllLeads_8 : decode cX2_fillAllLeads 8 = .ok (.aload_n 0, 1) := by decide +kernel
theorem dX2_fillAllLeads_9 : decode cX2_fillAllLeads 9 = .ok (.iconst 1, 1) := by decide +kernel
theorem dX2_fillAllLeads_10 : decode cX2_fillAllLeads 10 = .ok (.putfield 44, 3) := by decide +kernel
theorem dX2_fillAllLeads_13 : decode cX2_fillAllLeads 13 = .ok (.aload_n 0, 1) := by decide +kernel
theorem dX2_fillAllLeads_14 : decode cX2_fillAllLeads 14 = .ok (.getfield 9, 3) := by decide +kernel
theorem dX2_fillAllLeads_17 : decode cX2_fillAllLeads 17 = .ok (.ldc 70, 2) := by decide +kernel
theorem dX2_fillAllLeads_19 : decode cX2_fillAllLeads 19 = .ok (.invokestatic 71, 3) := by decide +kernel
theorem dX2_fillAllLeads_22 : decode cX2_fillAllLeads 22 = .ok (.iconst 0, 1) := by decide +kernel
theorem dX2_fillAllLeads_23 : decode cX2_fillAllLeads 23 = .ok (.istore_n 1, 1) := by decide +kernel
theorem dX2_fillAllLeads_24 : decode cX2_fillAllLeads 24 = .ok (.iload_n 1, 1) := by decide +kernel
theorem dX2_fillAllLeads_25 : decode cX2_fillAllLeads 25 = .ok (.aload_n 0, 1) := by decide +kernel
theorem dX2_fillAllLeads_26 : decode cX2_fillAllLeads 26 = .ok (.getfield 32, 3) := by decide +kernel
theorem dX2_fillAllLeads_29 : decode cX2_fillAllLeads 29 = .ok (.getfield 77, 3) := by decide +kernel
theorem dX2_fillAllLeads_32 : decode cX2_fillAllLeads 32 = .ok (.if_icmp .ge 30, 3) := by decide +kernel
theorem dX2_fillAllLeads_35 : decode cX2_fillAllLeads 35 = .ok (.aload_n 0, 1) := by decide +kernel
theorem dX2_fillAllLeads_36 : decode cX2_fillAllLeads 36 = .ok (.iload_n 1, 1) := by decide +kernel
theorem dX2_fillAllLeads_37 : decode cX2_fillAllLeads 37 = .ok (.invokevirtual 80, 3) := by decide +kernel
theorem dX2_fillAllLeads_40 : decode cX2_fillAllLeads 40 = .ok (.aload_n 0, 1) := by decide +kernel
theorem dX2_fillAllLeads_41 : decode cX2_fillAllLeads 41 = .ok (.getfield 32, 3) := by decide +kernel
theorem dX2_fillAllLeads_44 : decode cX2_fillAllLeads 44 = .ok (.iload_n 1, 1) := by decide +kernel
theorem dX2_fillAllLeads_45 : decode cX2_fillAllLeads 45 = .ok (.invokevirtual 84, 3) := by decide +kernel
theorem dX2_fillAllLeads_48 : decode cX2_fillAllLeads 48 = .ok (.ifCond .eq 8, 3) := by decide +kernel
theorem dX2_fillAllLeads_51 : decode cX2_fillAllLeads 51 = .ok (.aload_n 0, 1) := by decide +kernel
theorem dX2_fillAllLeads_52 : decode cX2_fillAllLeads 52 = .ok (.iload_n 1, 1) := by decide +kernel
theorem dX2_fillAllLeads_53 : decode cX2_fillAllLeads 53 = .ok (.invokevirtual 88, 3) := by decide +kernel
theorem dX2_fillAllLeads_56 : decode cX2_fillAllLeads 56 = .ok (.iinc 1 1, 3) := by decide +kernel
theorem dX2_fillAllLeads_59 : decode cX2_fillAllLeads 59 = .ok (.goto (-35), 3) := by decide +kernel
theorem dX2_fillAllLeads_62 : decode cX2_fillAllLeads 62 = .ok (.return_, 1) := by decide +kernel
theorem dX2_fillLeads_0 : decode cX2_fillLeads 0 = .ok (.iconst 0, 1) := by decide +kernel
theorem dX2_fillLeads_1 : decode cX2_fillLeads 1 = .ok (.istore_n 2, 1) := by decide +kernel
theorem dX2_fillLeads_2 : decode cX2_fillLeads 2 = .ok (.iload_n 2, 1) := by decide +kernel
theorem dX2_fillLeads_3 : decode cX2_fillLeads 3 = .ok (.bipush 9, 2) := by decide +kernel
theorem dX2_fillLeads_5 : decode cX2_fillLeads 5 = .ok (.if_icmp .ge 92, 3) := by decide +kernel
theorem dX2_fillLeads_8 : decode cX2_fillLeads 8 = .ok (.iload_n 1, 1) := by decide +kernel
theorem dX2_fillLeads_9 : decode cX2_fillLeads 9 = .ok (.ifCond .ne 7, 3) := by decide +kernel
theorem dX2_fillLeads_12 : decode cX2_fillLeads 12 = .ok (.iconst 0, 1) := by decide +kernel
theorem dX2_fillLeads_13 : decode cX2_fillLeads 13 = .ok (.goto 5, 3) := by decide +kernel
theorem dX2_fillLeads_16 : decode cX2_fillLeads 16 = .ok (.ldc 70, 2) := by decide +kernel
theorem dX2_fillLeads_18 : decode cX2_fillLeads 18 = .ok (.istore_n 3, 1) := by decide +kernel
theorem dX2_fillLeads_19 : decode cX2_fillLeads 19 = .ok (.iconst 0, 1) := by decide +kernel
theorem dX2_fillLeads_20 : decode cX2_fillLeads 20 = .ok (.istore 4, 2) := by decide +kernel
theorem dX2_fillLeads_22 : decode cX2_fillLeads 22 = .ok (.iload 4, 2) := by decide +kernel
theorem dX2_fillLeads_24 : decode cX2_fillLeads 24 = .ok (.bipush 9, 2) := by decide +kernel
theorem dX2_fillLeads_26 : decode cX2_fillLeads 26 = .ok (.if_icmp .ge 53, 3) := by decide +kernel
theorem dX2_fillLeads_29 : decode cX2_fillLeads 29 = .ok (.aload_n 0, 1) := by decide +kernel
theorem dX2_fillLeads_30 : decode cX2_fillLeads 30 = .ok (.getfield 9, 3) := by decide +kernel
theorem dX2_fillLeads_33 : decode cX2_fillLeads 33 = .ok (.iload_n 1, 1) := by decide +kernel
theorem dX2_fillLeads_34 : decode cX2_fillLeads 34 = .ok (.bipush 9, 2) := by decide +kernel
theorem dX2_fillLeads_36 : decode cX2_fillLeads 36 = .ok (.imul, 1) := by decide +kernel
theorem dX2_fillLeads_37 : decode cX2_fillLeads 37 = .ok (.iload 4, 2) := by decide +kernel
theorem dX2_fillLeads_39 : decode cX2_fillLeads 39 = .ok (.iadd, 1) := by decide +kernel
theorem dX2_fillLeads_40 : decode cX2_fillLeads 40 = .ok (.iaload, 1) := by decide +kernel
theorem dX2_fillLeads_41 : decode cX2_fillLeads 41 = .ok (.istore 5, 2) := by decide +kernel
theorem dX2_fillLeads_43 : decode cX2_fillLeads 43 = .ok (.iload 5, 2) := by decide +kernel
theorem dX2_fillLeads_45 : decode cX2_fillLeads 45 = .ok (.ldc 70, 2) := by decide +kernel
theorem dX2_fillLeads_47 : decode cX2_fillLeads 47 = .ok (.if_icmp .ge 26, 3) := by decide +kernel
theorem dX2_fillLeads_50 : decode cX2_fillLeads 50 = .ok (.iload_n 3, 1) := by decide +kernel
theorem dX2_fillLeads_51 : decode cX2_fillLeads 51 = .ok (.iload 5, 2) := by decide +kernel
theorem dX2_fillLeads_53 : decode cX2_fillLeads 53 = .ok (.aload_n 0, 1) := by decide +kernel
theorem dX2_fillLeads_54 : decode cX2_fillLeads 54 = .ok (.getfield 28, 3) := by decide +kernel
theorem dX2_fillLeads_57 : decode cX2_fillLeads 57 = .ok (.getfield 91, 3) := by decide +kernel
theorem dX2_fillLeads_60 : decode cX2_fillLeads 60 = .ok (.iload 4, 2) := by decide +kernel
theorem dX2_fillLeads_62 : decode cX2_fillLeads 62 = .ok (.bipush 9, 2) := by decide +kernel
theorem dX2_fillLeads_64 : decode cX2_fillLeads 64 = .ok (.imul, 1) := by decide +kernel
theorem dX2_fillLeads_65 : decode cX2_fillLeads 65 = .ok (.iload_n 2, 1) := by decide +kernel
theorem dX2_fillLeads_66 : decode cX2_fillLeads 66 = .ok (.iadd, 1) := by decide +kernel
theorem dX2_fillLeads_67 : decode cX2_fillLeads 67 = .ok (.iaload, 1) := by decide +kernel
theorem dX2_fillLeads_68 : decode cX2_fillLeads 68 = .ok (.iadd, 1) := by decide +kernel
theorem dX2_fillLeads_69 : decode cX2_fillLeads 69 = .ok (.invokestatic 96, 3) := by decide +kernel
theorem dX2_fillLeads_72 : decode cX2_fillLeads 72 = .ok (.istore_n 3, 1) := by decide +kernel
theorem dX2_fillLeads_73 : decode cX2_fillLeads 73 = .ok (.iinc 4 1, 3) := by decide +kernel
theorem dX2_fillLeads_76 : decode cX2_fillLeads 76 = .ok (.goto (-54), 3) := by decide +kernel
theorem dX2_fillLeads_79 : decode cX2_fillLeads 79 = .ok (.aload_n 0, 1) := by decide +kernel
theorem dX2_fillLeads_80 : decode cX2_fillLeads 80 = .ok (.getfield 15, 3) := by decide +kernel
theorem dX2_fillLeads_83 : decode cX2_fillLeads 83 = .ok (.iload_n 1, 1) := by decide +kernel
theorem dX2_fillLeads_84 : decode cX2_fillLeads 84 = .ok (.bipush 9, 2) := by decide +kernel
theorem dX2_fillLeads_86 : decode cX2_fillLeads 86 = .ok (.imul, 1) := by decide +kernel
theorem dX2_fillLeads_87 : decode cX2_fillLeads 87 = .ok (.iload_n 2, 1) := by decide +kernel
theorem dX2_fillLeads_88 : decode cX2_fillLeads 88 = .ok (.iadd, 1) := by decide +kernel
theorem dX2_fillLeads_89 : decode cX2_fillLeads 89 = .ok (.iload_n 3, 1) := by decide +kernel
theorem dX2_fillLeads_90 : decode cX2_fillLeads 90 = .ok (.iastore, 1) := by decide +kernel
theorem dX2_fillLeads_91 : decode cX2_fillLeads 91 = .ok (.iinc 2 1, 3) := by decide +kernel
theorem dX2_fillLeads_94 : decode cX2_fillLeads 94 = .ok (.goto (-92), 3) := by decide +kernel
theorem dX2_fillLeads_97 : decode cX2_fillLeads 97 = .ok (.return_, 1) := by decide +kernel
set_option maxRecDepth 20000 in
theorem ggX2_goOn_X4_reachFrom : GoodIn wsX2_goOn wsX4_reachFrom := goodIn_r _ [14, 15, 16, 52, 53, 54, 55] (by decide +kernel) (by decide +kernel)
set_option maxRecDepth 20000 in
theorem gX2_goOn_X4_reachFrom_n102 : GoodIn wsX2_goOn (wsX4_reachFrom) := ggX2_goOn_X4_reachFrom
set_option maxRecDepth 20000 in
theorem ggX2_goOn_X4_partsAt : GoodIn wsX2_goOn wsX4_partsAt := goodIn_r _ [19, 15, 16, 52, 53, 54, 55] (by decide +kernel) (by decide +kernel)
set_option maxRecDepth 20000 in
theorem gX2_goOn_X4_partsAt_n84 : GoodIn wsX2_goOn (wsX4_partsAt) := ggX2_goOn_X4_partsAt
set_option maxRecDepth 20000 in
theorem ggX2_goOn_X3_valueOf : GoodIn wsX2_goOn wsX3_valueOf := goodIn_r _ [23, 24, 25, 26, 27, 28, 29, 30, 31, 32, 33, 34, 35, 36, 37, 38, 39, 40, 56, 57, 58, 59, 60, 61, 62, 63, 64, 65, 66, 67, 68, 69, 52, 53, 54, 55, 70, 71, 72, 73, 74, 75, 76, 77, 78, 79, 80, 81, 82, 83, 84, 85, 86, 87, 88, 89, 90, 91, 92, 93, 94] (by decide +kernel) (by decide +kernel)
set_option maxRecDepth 20000 in
theorem gX2_goOn_X3_valueOf_n106 : GoodIn wsX2_goOn (wsX3_valueOf) := ggX2_goOn_X3_valueOf
theorem dX2_goOn_0 : decode cX2_goOn 0 = .ok (.aload_n 0, 1) := by decide +kernel
theorem dX2_goOn_1 : decode cX2_goOn 1 = .ok (.getfield 32, 3) := by decide +kernel
theorem dX2_goOn_4 : decode cX2_goOn 4 = .ok (.iload_n 1, 1) := by decide +kernel
theorem dX2_goOn_5 : decode cX2_goOn 5 = .ok (.invokevirtual 102, 3) := by decide +kernel
theorem dX2_goOn_8 : decode cX2_goOn 8 = .ok (.istore_n 2, 1) := by decide +kernel
theorem dX2_goOn_9 : decode cX2_goOn 9 = .ok (.iload_n 1, 1) := by decide +kernel
theorem dX2_goOn_10 : decode cX2_goOn 10 = .ok (.iconst 1, 1) := by decide +kernel
theorem dX2_goOn_11 : decode cX2_goOn 11 = .ok (.iadd, 1) := by decide +kernel
theorem dX2_goOn_12 : decode cX2_goOn 12 = .ok (.istore_n 3, 1) := by decide +kernel
theorem dX2_goOn_13 : decode cX2_goOn 13 = .ok (.iload_n 3, 1) := by decide +kernel
theorem dX2_goOn_14 : decode cX2_goOn 14 = .ok (.iload_n 2, 1) := by decide +kernel
theorem dX2_goOn_15 : decode cX2_goOn 15 = .ok (.if_icmp .gt 111, 3) := by decide +kernel
theorem dX2_goOn_18 : decode cX2_goOn 18 = .ok (.iconst 0, 1) := by decide +kernel
theorem dX2_goOn_19 : decode cX2_goOn 19 = .ok (.istore 4, 2) := by decide +kernel
theorem dX2_goOn_21 : decode cX2_goOn 21 = .ok (.iload 4, 2) := by decide +kernel
theorem dX2_goOn_23 : decode cX2_goOn 23 = .ok (.bipush 9, 2) := by decide +kernel
theorem dX2_goOn_25 : decode cX2_goOn 25 = .ok (.if_icmp .ge 95, 3) := by decide +kernel
theorem dX2_goOn_28 : decode cX2_goOn 28 = .ok (.aload_n 0, 1) := by decide +kernel
theorem dX2_goOn_29 : decode cX2_goOn 29 = .ok (.getfield 32, 3) := by decide +kernel
theorem dX2_goOn_32 : decode cX2_goOn 32 = .ok (.iload_n 3, 1) := by decide +kernel
theorem dX2_goOn_33 : decode cX2_goOn 33 = .ok (.invokevirtual 84, 3) := by decide +kernel
theorem dX2_goOn_36 : decode cX2_goOn 36 = .ok (.ifCond .eq 84, 3) := by decide +kernel
theorem dX2_goOn_39 : decode cX2_goOn 39 = .ok (.aload_n 0, 1) := by decide +kernel
theorem dX2_goOn_40 : decode cX2_goOn 40 = .ok (.getfield 40, 3) := by decide +kernel
theorem dX2_goOn_43 : decode cX2_goOn 43 = .ok (.iload_n 1, 1) := by decide +kernel
theorem dX2_goOn_44 : decode cX2_goOn 44 = .ok (.iload_n 3, 1) := by decide +kernel
theorem dX2_goOn_45 : decode cX2_goOn 45 = .ok (.iload 4, 2) := by decide +kernel
theorem dX2_goOn_47 : decode cX2_goOn 47 = .ok (.invokevirtual 106, 3) := by decide +kernel
theorem dX2_goOn_50 : decode cX2_goOn 50 = .ok (.istore 5, 2) := by decide +kernel
theorem dX2_goOn_52 : decode cX2_goOn 52 = .ok (.aload_n 0, 1) := by decide +kernel
theorem dX2_goOn_53 : decode cX2_goOn 53 = .ok (.getfield 15, 3) := by decide +kernel
theorem dX2_goOn_56 : decode cX2_goOn 56 = .ok (.iload_n 1, 1) := by decide +kernel
theorem dX2_goOn_57 : decode cX2_goOn 57 = .ok (.bipush 9, 2) := by decide +kernel
theorem dX2_goOn_59 : decode cX2_goOn 59 = .ok (.imul, 1) := by decide +kernel
theorem dX2_goOn_60 : decode cX2_goOn 60 = .ok (.iload 4, 2) := by decide +kernel
theorem dX2_goOn_62 : decode cX2_goOn 62 = .ok (.iadd, 1) := by decide +kernel
theorem dX2_goOn_63 : decode cX2_goOn 63 = .ok (.iaload, 1) := by decide +kernel
theorem dX2_goOn_64 : decode cX2_goOn 64 = .ok (.istore 6, 2) := by decide +kernel
theorem dX2_goOn_66 : decode cX2_goOn 66 = .ok (.iload 5, 2) := by decide +kernel
theorem dX2_goOn_68 : decode cX2_goOn 68 = .ok (.ldc 110, 2) := by decide +kernel
theorem dX2_goOn_70 : decode cX2_goOn 70 = .ok (.if_icmp .eq 44, 3) := by decide +kernel
theorem dX2_goOn_73 : decode cX2_goOn 73 = .ok (.iload 6, 2) := by decide +kernel
theorem dX2_goOn_75 : decode cX2_goOn 75 = .ok (.ldc 70, 2) := by decide +kernel
theorem dX2_goOn_77 : decode cX2_goOn 77 = .ok (.if_icmp .ge 37, 3) := by decide +kernel
theorem dX2_goOn_80 : decode cX2_goOn 80 = .ok (.iload_n 3, 1) := by decide +kernel
theorem dX2_goOn_81 : decode cX2_goOn 81 = .ok (.bipush 9, 2) := by decide +kernel
theorem dX2_goOn_83 : decode cX2_goOn 83 = .ok (.imul, 1) := by decide +kernel
theorem dX2_goOn_84 : decode cX2_goOn 84 = .ok (.iload 4, 2) := by decide +kernel
theorem dX2_goOn_86 : decode cX2_goOn 86 = .ok (.iadd, 1) := by decide +kernel
theorem dX2_goOn_87 : decode cX2_goOn 87 = .ok (.istore 7, 2) := by decide +kernel
theorem dX2_goOn_89 : decode cX2_goOn 89 = .ok (.aload_n 0, 1) := by decide +kernel
theorem dX2_goOn_90 : decode cX2_goOn 90 = .ok (.getfield 9, 3) := by decide +kernel
theorem dX2_goOn_93 : decode cX2_goOn 93 = .ok (.iload 7, 2) := by decide +kernel
theorem dX2_goOn_95 : decode cX2_goOn 95 = .ok (.aload_n 0, 1) := by decide +kernel
theorem dX2_goOn_96 : decode cX2_goOn 96 = .ok (.getfield 9, 3) := by decide +kernel
theorem dX2_goOn_99 : decode cX2_goOn 99 = .ok (.iload 7, 2) := by decide +kernel
theorem dX2_goOn_101 : decode cX2_goOn 101 = .ok (.iaload, 1) := by decide +kernel
theorem dX2_goOn_102 : decode cX2_goOn 102 = .ok (.iload 6, 2) := by decide +kernel
theorem dX2_goOn_104 : decode cX2_goOn 104 = .ok (.iload 5, 2) := by decide +kernel
theorem dX2_goOn_106 : decode cX2_goOn 106 = .ok (.bipush 10, 2) := by decide +kernel
theorem dX2_goOn_108 : decode cX2_goOn 108 = .ok (.ishr, 1) := by decide +kernel
theorem dX2_goOn_109 : decode cX2_goOn 109 = .ok (.iadd, 1) := by decide +kernel
theorem dX2_goOn_110 : decode cX2_goOn 110 = .ok (.invokestatic 96, 3) := by decide +kernel
theorem dX2_goOn_113 : decode cX2_goOn 113 = .ok (.iastore, 1) := by decide +kernel
theorem dX2_goOn_114 : decode cX2_goOn 114 = .ok (.iinc 4 1, 3) := by decide +kernel
theorem dX2_goOn_117 : decode cX2_goOn 117 = .ok (.goto (-96), 3) := by decide +kernel
theorem dX2_goOn_120 : decode cX2_goOn 120 = .ok (.iinc 3 1, 3) := by decide +kernel
theorem dX2_goOn_123 : decode cX2_goOn 123 = .ok (.goto (-110), 3) := by decide +kernel
theorem dX2_goOn_126 : decode cX2_goOn 126 = .ok (.return_, 1) := by decide +kernel
set_option maxRecDepth 20000 in
theorem ggX2_offerWords_X1_goesTogether : GoodIn wsX2_offerWords wsX1_goesTogether := goodIn_r _ [6, 7, 8, 9, 87, 88, 89, 90, 91, 92, 93, 94, 95, 96, 97, 98, 99, 100, 101, 102, 103, 104, 105] (by decide +kernel) (by decide +kernel)
set_option maxRecDepth 20000 in
theorem gX2_offerWords_X1_goesTogether_n117 : GoodIn wsX2_offerWords (wsX1_goesTogether) := ggX2_offerWords_X1_goesTogether
set_option maxRecDepth 20000 in
theorem ggX2_offerWords_X6_costOf : GoodIn wsX2_offerWords wsX6_costOf := goodIn_r _ [13, 14, 15, 16, 17, 18, 19, 20, 21, 22, 23, 24, 11, 25, 26, 27, 28, 29, 30, 31, 32, 33, 34, 35, 36, 37, 38, 39, 40, 41, 42, 43, 44, 45, 46, 47, 48, 49, 50, 51, 4, 52, 53, 54, 55, 56, 57, 106, 107, 108, 109, 110, 111, 112, 113, 87, 88, 89, 90, 91, 92, 93, 94, 95, 96, 97, 98, 99, 100, 101, 102, 103, 104, 105, 114, 115, 116, 117] (by decide +kernel) (by decide +kernel)
set_option maxRecDepth 20000 in
theorem gX2_offerWords_X6_costOf_n121 : GoodIn wsX2_offerWords (wsX6_costOf) := ggX2_offerWords_X6_costOf
set_option maxRecDepth 20000 in
theorem ggX2_offerWords_X2_offer : GoodIn wsX2_offerWords wsX2_offer := goodIn_r _ [62, 1, 63, 64, 65, 66, 67, 68, 69, 39, 70, 71, 72, 4, 73, 74, 75, 17, 18, 19, 76, 77, 78, 79, 80, 81, 82, 83, 84, 85, 86, 118, 119, 120, 121, 122, 123, 124, 125, 126, 127, 128, 129, 130, 131, 87, 88, 89, 90, 91, 92, 93, 94, 95, 96, 97, 98, 99, 100, 101, 102, 103, 104, 105] (by decide +kernel) (by decide +kernel)
set_option maxRecDepth 20000 in
theorem gX2_offerWords_X2_offer : GoodIn wsX2_offerWords (wsV RX2 126 RX2 yX2_offer wsX2_offer) := goodIn_app (goodIn_of _ (by decide +kernel)) ggX2_offerWords_X2_offer
theorem dX2_offerWords_0 : decode cX2_offerWords 0 = .ok (.iconst 0, 1) := by decide +kernel
theorem dX2_offerWords_1 : decode cX2_offerWords 1 = .ok (.istore_n 3, 1) := by decide +kernel
theorem dX2_offerWords_2 : decode cX2_offerWords 2 = .ok (.iload_n 3, 1) := by decide +kernel
theorem dX2_offerWords_3 : decode cX2_offerWords 3 = .ok (.aload_n 0, 1) := by decide +kernel
theorem dX2_offerWords_4 : decode cX2_offerWords 4 = .ok (.getfield 28, 3) := by decide +kernel
theorem dX2_offerWords_7 : decode cX2_offerWords 7 = .ok (.getfield 111, 3) := by decide +kernel
theorem dX2_offerWords_10 : decode cX2_offerWords 10 = .ok (.if_icmp .ge 73, 3) := by decide +kernel
theorem dX2_offerWords_13 : decode cX2_offerWords 13 = .ok (.iconst (-1), 1) := by decide +kernel
theorem dX2_offerWords_14 : decode cX2_offerWords 14 = .ok (.istore 4, 2) := by decide +kernel
theorem dX2_offerWords_16 : decode cX2_offerWords 16 = .ok (.iload 4, 2) := by decide +kernel
theorem dX2_offerWords_18 : decode cX2_offerWords 18 = .ok (.aload_n 0, 1) := by decide +kernel
theorem dX2_offerWords_19 : decode cX2_offerWords 19 = .ok (.getfield 28, 3) := by decide +kernel
theorem dX2_offerWords_22 : decode cX2_offerWords 22 = .ok (.getfield 114, 3) := by decide +kernel
theorem dX2_offerWords_25 : decode cX2_offerWords 25 = .ok (.if_icmp .ge 52, 3) := by decide +kernel
theorem dX2_offerWords_28 : decode cX2_offerWords 28 = .ok (.aload_n 0, 1) := by decide +kernel
theorem dX2_offerWords_29 : decode cX2_offerWords 29 = .ok (.getfield 28, 3) := by decide +kernel
theorem dX2_offerWords_32 : decode cX2_offerWords 32 = .ok (.iload_n 3, 1) := by decide +kernel
theorem dX2_offerWords_33 : decode cX2_offerWords 33 = .ok (.iload 4, 2) := by decide +kernel
theorem dX2_offerWords_35 : decode cX2_offerWords 35 = .ok (.invokevirtual 117, 3) := by decide +kernel
theorem dX2_offerWords_38 : decode cX2_offerWords 38 = .ok (.ifCond .eq 33, 3) := by decide +kernel
theorem dX2_offerWords_41 : decode cX2_offerWords 41 = .ok (.iload_n 3, 1) := by decide +kernel
theorem dX2_offerWords_42 : decode cX2_offerWords 42 = .ok (.bipush 9, 2) := by decide +kernel
theorem dX2_offerWords_44 : decode cX2_offerWords 44 = .ok (.imul, 1) := by decide +kernel
theorem dX2_offerWords_45 : decode cX2_offerWords 45 = .ok (.iload 4, 2) := by decide +kernel
theorem dX2_offerWords_47 : decode cX2_offerWords 47 = .ok (.iadd, 1) := by decide +kernel
theorem dX2_offerWords_48 : decode cX2_offerWords 48 = .ok (.iconst 1, 1) := by decide +kernel
theorem dX2_offerWords_49 : decode cX2_offerWords 49 = .ok (.iadd, 1) := by decide +kernel
theorem dX2_offerWords_50 : decode cX2_offerWords 50 = .ok (.istore 5, 2) := by decide +kernel
theorem dX2_offerWords_52 : decode cX2_offerWords 52 = .ok (.aload_n 0, 1) := by decide +kernel
theorem dX2_offerWords_53 : decode cX2_offerWords 53 = .ok (.iload 5, 2) := by decide +kernel
theorem dX2_offerWords_55 : decode cX2_offerWords 55 = .ok (.aload_n 0, 1) := by decide +kernel
theorem dX2_offerWords_56 : decode cX2_offerWords 56 = .ok (.getfield 36, 3) := by decide +kernel
theorem dX2_offerWords_59 : decode cX2_offerWords 59 = .ok (.iload 5, 2) := by decide +kernel
theorem dX2_offerWords_61 : decode cX2_offerWords 61 = .ok (.iload_n 1, 1) := by decide +kernel
theorem dX2_offerWords_62 : decode cX2_offerWords 62 = .ok (.iload_n 2, 1) := by decide +kernel
theorem dX2_offerWords_63 : decode cX2_offerWords 63 = .ok (.invokevirtual 121, 3) := by decide +kernel
theorem dX2_offerWords_66 : decode cX2_offerWords 66 = .ok (.iload_n 1, 1) := by decide +kernel
theorem dX2_offerWords_67 : decode cX2_offerWords 67 = .ok (.iload_n 2, 1) := by decide +kernel
theorem dX2_offerWords_68 : decode cX2_offerWords 68 = .ok (.invokevirtual 126, 3) := by decide +kernel
theorem dX2_offerWords_71 : decode cX2_offerWords 71 = .ok (.iinc 4 1, 3) := by decide +kernel
theorem dX2_offerWords_74 : decode cX2_offerWords 74 = .ok (.goto (-58), 3) := by decide +kernel
theorem dX2_offerWords_77 : decode cX2_offerWords 77 = .ok (.iinc 3 1, 3) := by decide +kernel
theorem dX2_offerWords_80 : decode cX2_offerWords 80 = .ok (.goto (-78), 3) := by decide +kernel
theorem dX2_offerWords_83 : decode cX2_offerWords 83 = .ok (.return_, 1) := by decide +kernel
set_option maxRecDepth 20000 in
theorem ggX2_offerGuess_X6_costOf : GoodIn wsX2_offerGuess wsX6_costOf := goodIn_r _ [5, 6, 7, 8, 9, 10, 11, 12, 13, 14, 15, 16, 3, 17, 18, 19, 20, 21, 22, 23, 24, 25, 26, 27, 28, 29, 30, 31, 32, 33, 34, 35, 36, 37, 38, 39, 40, 41, 42, 43, 44, 45, 46, 47, 48, 49, 50, 81, 82, 83, 84, 85, 86, 87, 88, 89, 90, 91, 92, 93, 94, 95, 96, 97, 98, 99, 100, 101, 102, 103, 104, 105, 106, 107, 108, 109, 110, 111] (by decide +kernel) (by decide +kernel)
set_option maxRecDepth 20000 in
theorem gX2_offerGuess_X6_costOf_n121 : GoodIn wsX2_offerGuess (wsX6_costOf) := ggX2_offerGuess_X6_costOf
set_option maxRecDepth 20000 in
theorem ggX2_offerGuess_X2_offer : GoodIn wsX2_offerGuess wsX2_offer := goodIn_r _ [55, 56, 57, 58, 59, 60, 61, 62, 63, 31, 64, 65, 66, 44, 67, 68, 69, 9, 10, 11, 70, 71, 72, 73, 74, 75, 76, 77, 78, 79, 80, 112, 113, 114, 115, 116, 117, 118, 119, 120, 121, 122, 123, 124, 125, 89, 90, 91, 92, 93, 94, 95, 96, 97, 98, 99, 100, 101, 102, 103, 104, 105, 106, 107] (by decide +kernel) (by decide +kernel)
set_option maxRecDepth 20000 in
theorem gX2_offerGuess_X2_offer : GoodIn wsX2_offerGuess (wsV RX2 126 RX2 yX2_offer wsX2_offer) := goodIn_app (goodIn_of _ (by decide +kernel)) ggX2_offerGuess_X2_offer
theorem dX2_offerGuess_0 : decode cX2_offerGuess 0 = .ok (.aload_n 0, 1) := by decide +kernel
theorem dX2_offerGuess_1 : decode cX2_offerGuess 1 = .ok (.sipush 540, 3) := by decide +kernel
theorem dX2_offerGuess_4 : decode cX2_offerGuess 4 = .ok (.aload_n 0, 1) := by decide +kernel
theorem dX2_offerGuess_5 : decode cX2_offerGuess 5 = .ok (.getfield 36, 3) := by decide +kernel
theorem dX2_offerGuess_8 : decode cX2_offerGuess 8 = .ok (.sipush 540, 3) := by decide +kernel
theorem dX2_offerGuess_11 : decode cX2_offerGuess 11 = .ok (.iload_n 1, 1) := by decide +kernel
theorem dX2_offerGuess_12 : decode cX2_offerGuess 12 = .ok (.iload_n 2, 1) := by decide +kernel
theorem dX2_offerGuess_13 : decode cX2_offerGuess 13 = .ok (.invokevirtual 121, 3) := by decide +kernel
theorem dX2_offerGuess_16 : decode cX2_offerGuess 16 = .ok (.iload_n 1, 1) := by decide +kernel
theorem dX2_offerGuess_17 : decode cX2_offerGuess 17 = .ok (.iload_n 2, 1) := by decide +kernel
theorem dX2_offerGuess_18 : decode cX2_offerGuess 18 = .ok (.invokevirtual 126, 3) := by decide +kernel
theorem dX2_offerGuess_21 : decode cX2_offerGuess 21 = .ok (.return_, 1) := by decide +kernel
set_option maxRecDepth 20000 in
theorem ggX2_offer_X1_kindOf : GoodIn wsX2_offer wsX1_kindOf := goodIn_r _ [15, 16, 17, 18, 19, 45, 46, 47, 48, 49, 50, 51, 52, 53, 54, 55, 56, 57, 58, 59, 60, 61, 62, 63] (by decide +kernel) (by decide +kernel)
set_option maxRecDepth 20000 in
theorem gX2_offer_X1_kindOf_n130 : GoodIn wsX2_offer (wsX1_kindOf) := ggX2_offer_X1_kindOf
theorem dX2_offer_0 : decode cX2_offer 0 = .ok (.aload_n 0, 1) := by decide +kernel
theorem dX2_offer_1 : decode cX2_offer 1 = .ok (.getfield 28, 3) := by decide +kernel
theorem dX2_offer_4 : decode cX2_offer 4 = .ok (.iload_n 1, 1) := by decide +kernel
theorem dX2_offer_5 : decode cX2_offer 5 = .ok (.invokevirtual 130, 3) := by decide +kernel
theorem dX2_offer_8 : decode cX2_offer 8 = .ok (.istore 5, 2) := by decide +kernel
theorem dX2_offer_10 : decode cX2_offer 10 = .ok (.aload_n 0, 1) := by decide +kernel
theorem dX2_offer_11 : decode cX2_offer 11 = .ok (.getfield 15, 3) := by decide +kernel
theorem dX2_offer_14 : decode cX2_offer 14 = .ok (.iload_n 3, 1) := by decide +kernel
theorem dX2_offer_15 : decode cX2_offer 15 = .ok (.bipush 9, 2) := by decide +kernel
theorem dX2_offer_17 : decode cX2_offer 17 = .ok (.imul, 1) := by decide +kernel
theorem dX2_offer_18 : decode cX2_offer 18 = .ok (.iload 5, 2) := by decide +kernel
theorem dX2_offer_20 : decode cX2_offer 20 = .ok (.iadd, 1) := by decide +kernel
theorem dX2_offer_21 : decode cX2_offer 21 = .ok (.iaload, 1) := by decide +kernel
theorem dX2_offer_22 : decode cX2_offer 22 = .ok (.istore 6, 2) := by decide +kernel
theorem dX2_offer_24 : decode cX2_offer 24 = .ok (.aload_n 0, 1) := by decide +kernel
theorem dX2_offer_25 : decode cX2_offer 25 = .ok (.getfield 40, 3) := by decide +kernel
theorem dX2_offer_28 : decode cX2_offer 28 = .ok (.getfield 133, 3) := by decide +kernel
theorem dX2_offer_31 : decode cX2_offer 31 = .ok (.iload 4, 2) := by decide +kernel
theorem dX2_offer_33 : decode cX2_offer 33 = .ok (.bipush 9, 2) := by decide +kernel
theorem dX2_offer_35 : decode cX2_offer 35 = .ok (.imul, 1) := by decide +kernel
theorem dX2_offer_36 : decode cX2_offer 36 = .ok (.iload 5, 2) := by decide +kernel
theorem dX2_offer_38 : decode cX2_offer 38 = .ok (.iadd, 1) := by decide +kernel
theorem dX2_offer_39 : decode cX2_offer 39 = .ok (.iaload, 1) := by decide +kernel
theorem dX2_offer_40 : decode cX2_offer 40 = .ok (.istore 7, 2) := by decide +kernel
theorem dX2_offer_42 : decode cX2_offer 42 = .ok (.iload_n 2, 1) := by decide +kernel
theorem dX2_offer_43 : decode cX2_offer 43 = .ok (.ldc 70, 2) := by decide +kernel
theorem dX2_offer_45 : decode cX2_offer 45 = .ok (.if_icmp .eq 17, 3) := by decide +kernel
theorem dX2_offer_48 : decode cX2_offer 48 = .ok (.iload 6, 2) := by decide +kernel
theorem dX2_offer_50 : decode cX2_offer 50 = .ok (.ldc 70, 2) := by decide +kernel
theorem dX2_offer_52 : decode cX2_offer 52 = .ok (.if_icmp .ge 10, 3) := by decide +kernel
theorem dX2_offer_55 : decode cX2_offer 55 = .ok (.iload 7, 2) := by decide +kernel
theorem dX2_offer_57 : decode cX2_offer 57 = .ok (.ldc 70, 2) := by decide +kernel
theorem dX2_offer_59 : decode cX2_offer 59 = .ok (.if_icmp .lt 4, 3) := by decide +kernel
theorem dX2_offer_62 : decode cX2_offer 62 = .ok (.return_, 1) := by decide +kernel
theorem dX2_offer_63 : decode cX2_offer 63 = .ok (.iload 6, 2) := by decide +kernel
theorem dX2_offer_65 : decode cX2_offer 65 = .ok (.iload_n 2, 1) := by decide +kernel
theorem dX2_offer_66 : decode cX2_offer 66 = .ok (.iadd, 1) := by decide +kernel
theorem dX2_offer_67 : decode cX2_offer 67 = .ok (.iload 7, 2) := by decide +kernel
theorem dX2_offer_69 : decode cX2_offer 69 = .ok (.iadd, 1) := by decide +kernel
theorem dX2_offer_70 : decode cX2_offer 70 = .ok (.istore 8, 2) := by decide +kernel
theorem dX2_offer_72 : decode cX2_offer 72 = .ok (.aload_n 0, 1) := by decide +kernel
theorem dX2_offer_73 : decode cX2_offer 73 = .ok (.getfield 56, 3) := by decide +kernel
theorem dX2_offer_76 : decode cX2_offer 76 = .ok (.istore 9, 2) := by decide +kernel
theorem dX2_offer_78 : decode cX2_offer 78 = .ok (.iload 9, 2) := by decide +kernel
theorem dX2_offer_80 : decode cX2_offer 80 = .ok (.ifCond .le 23, 3) := by decide +kernel
theorem dX2_offer_83 : decode cX2_offer 83 = .ok (.aload_n 0, 1) := by decide +kernel
theorem dX2_offer_84 : decode cX2_offer 84 = .ok (.getfield 25, 3) := by decide +kernel
theorem dX2_offer_87 : decode cX2_offer 87 = .ok (.iload 9, 2) := by decide +kernel
theorem dX2_offer_89 : decode cX2_offer 89 = .ok (.iconst 1, 1) := by decide +kernel
theorem dX2_offer_90 : decode cX2_offer 90 = .ok (.isub, 1) := by decide +kernel
theorem dX2_offer_91 : decode cX2_offer 91 = .ok (.iaload, 1) := by decide +kernel
theorem dX2_offer_92 : decode cX2_offer 92 = .ok (.iload 8, 2) := by decide +kernel
theorem dX2_offer_94 : decode cX2_offer 94 = .ok (.if_icmp .le 9, 3) := by decide +kernel
theorem dX2_offer_97 : decode cX2_offer 97 = .ok (.iinc 9 (-1), 3) := by decide +kernel
theorem dX2_offer_100 : decode cX2_offer 100 = .ok (.goto (-22), 3) := by decide +kernel
theorem dX2_offer_103 : decode cX2_offer 103 = .ok (.iload 9, 2) := by decide +kernel
theorem dX2_offer_105 : decode cX2_offer 105 = .ok (.bipush 12, 2) := by decide +kernel
theorem dX2_offer_107 : decode cX2_offer 107 = .ok (.if_icmp .lt 4, 3) := by decide +kernel
theorem dX2_offer_110 : decode cX2_offer 110 = .ok (.return_, 1) := by decide +kernel
theorem dX2_offer_111 : decode cX2_offer 111 = .ok (.aload_n 0, 1) := by decide +kernel
theorem dX2_offer_112 : decode cX2_offer 112 = .ok (.aload_n 0, 1) := by decide +kernel
theorem dX2_offer_113 : decode cX2_offer 113 = .ok (.getfield 56, 3) := by decide +kernel
theorem dX2_offer_116 : decode cX2_offer 116 = .ok (.iconst 1, 1) := by decide +kernel
theorem dX2_offer_117 : decode cX2_offer 117 = .ok (.iadd, 1) := by decide +kernel
theorem dX2_offer_118 : decode cX2_offer 118 = .ok (.bipush 12, 2) := by decide +kernel
theorem dX2_offer_120 : decode cX2_offer 120 = .ok (.invokestatic 96, 3) := by decide +kernel
theorem dX2_offer_123 : decode cX2_offer 123 = .ok (.putfield 56, 3) := by decide +kernel
theorem dX2_offer_126 : decode cX2_offer 126 = .ok (.aload_n 0, 1) := by decide +kernel
theorem dX2_offer_127 : decode cX2_offer 127 = .ok (.getfield 56, 3) := by decide +kernel
theorem dX2_offer_130 : decode cX2_offer 130 = .ok (.iconst 1, 1) := by decide +kernel
theorem dX2_offer_131 : decode cX2_offer 131 = .ok (.isub, 1) := by decide +kernel
theorem dX2_offer_132 : decode cX2_offer 132 = .ok (.istore 10, 2) := by decide +kernel
theorem dX2_offer_134 : decode cX2_offer 134 = .ok (.iload 10, 2) := by decide +kernel
theorem dX2_offer_136 : decode cX2_offer 136 = .ok (.iload 9, 2) := by decide +kernel
theorem dX2_offer_138 : decode cX2_offer 138 = .ok (.if_icmp .le 41, 3) := by decide +kernel
theorem dX2_offer_141 : decode cX2_offer 141 = .ok (.aload_n 0, 1) := by decide +kernel
theorem dX2_offer_142 : decode cX2_offer 142 = .ok (.getfield 22, 3) := by decide +kernel
theorem dX2_offer_145 : decode cX2_offer 145 = .ok (.iload 10, 2) := by decide +kernel
theorem dX2_offer_147 : decode cX2_offer 147 = .ok (.aload_n 0, 1) := by decide +kernel
theorem dX2_offer_148 : decode cX2_offer 148 = .ok (.getfield 22, 3) := by decide +kernel
theorem dX2_offer_151 : decode cX2_offer 151 = .ok (.iload 10, 2) := by decide +kernel
theorem dX2_offer_153 : decode cX2_offer 153 = .ok (.iconst 1, 1) := by decide +kernel
theorem dX2_offer_154 : decode cX2_offer 154 = .ok (.isub, 1) := by decide +kernel
theorem dX2_offer_155 : decode cX2_offer 155 = .ok (.iaload, 1) := by decide +kernel
theorem dX2_offer_156 : decode cX2_offer 156 = .ok (.iastore, 1) := by decide +kernel
theorem dX2_offer_157 : decode cX2_offer 157 = .ok (.aload_n 0, 1) := by decide +kernel
theorem dX2_offer_158 : decode cX2_offer 158 = .ok (.getfield 25, 3) := by decide +kernel
theorem dX2_offer_161 : decode cX2_offer 161 = .ok (.iload 10, 2) := by decide +kernel
theorem dX2_offer_163 : decode cX2_offer 163 = .ok (.aload_n 0, 1) := by decide +kernel
theorem dX2_offer_164 : decode cX2_offer 164 = .ok (.getfield 25, 3) := by decide +kernel
theorem dX2_offer_167 : decode cX2_offer 167 = .ok (.iload 10, 2) := by decide +kernel
theorem dX2_offer_169 : decode cX2_offer 169 = .ok (.iconst 1, 1) := by decide +kernel
theorem dX2_offer_170 : decode cX2_offer 170 = .ok (.isub, 1) := by decide +kernel
theorem dX2_offer_171 : decode cX2_offer 171 = .ok (.iaload, 1) := by decide +kernel
theorem dX2_offer_172 : decode cX2_offer 172 = .ok (.iastore, 1) := by decide +kernel
theorem dX2_offer_173 : decode cX2_offer 173 = .ok (.iinc 10 (-1), 3) := by decide +kernel
theorem dX2_offer_176 : decode cX2_offer 176 = .ok (.goto (-42), 3) := by decide +kernel
theorem dX2_offer_179 : decode cX2_offer 179 = .ok (.aload_n 0, 1) := by decide +kernel
theorem dX2_offer_180 : decode cX2_offer 180 = .ok (.getfield 22, 3) := by decide +kernel
theorem dX2_offer_183 : decode cX2_offer 183 = .ok (.iload 9, 2) := by decide +kernel
theorem dX2_offer_185 : decode cX2_offer 185 = .ok (.iload_n 1, 1) := by decide +kernel
theorem dX2_offer_186 : decode cX2_offer 186 = .ok (.iastore, 1) := by decide +kernel
theorem dX2_offer_187 : decode cX2_offer 187 = .ok (.aload_n 0, 1) := by decide +kernel
theorem dX2_offer_188 : decode cX2_offer 188 = .ok (.getfield 25, 3) := by decide +kernel
theorem dX2_offer_191 : decode cX2_offer 191 = .ok (.iload 9, 2) := by decide +kernel
theorem dX2_offer_193 : decode cX2_offer 193 = .ok (.iload 8, 2) := by decide +kernel
theorem dX2_offer_195 : decode cX2_offer 195 = .ok (.iastore, 1) := by decide +kernel
theorem dX2_offer_196 : decode cX2_offer 196 = .ok (.return_, 1) := by decide +kernel
theorem dX3_init_0 : decode cX3_init 0 = .ok (.aload_n 0, 1) := by decide +kernel
theorem dX3_init_1 : decode cX3_init 1 = .ok (.invokespecial 3, 3) := by decide +kernel
theorem dX3_init_4 : decode cX3_init 4 = .ok (.aload_n 0, 1) := by decide +kernel
theorem dX3_init_5 : decode cX3_init 5 = .ok (.bipush 36, 2) := by decide +kernel
theorem dX3_init_7 : decode cX3_init 7 = .ok (.newarray .int, 2) := by decide +kernel
theorem dX3_init_9 : decode cX3_init 9 = .ok (.putfield 9, 3) := by decide +kernel
theorem dX3_init_12 : decode cX3_init 12 = .ok (.aload_n 0, 1) := by decide +kernel
theorem dX3_init_13 : decode cX3_init 13 = .ok (.sipush 324, 3) := by decide +kernel
theorem dX3_init_16 : decode cX3_init 16 = .ok (.newarray .int, 2) := by decide +kernel
theorem dX3_init_18 : decode cX3_init 18 = .ok (.putfield 15, 3) := by decide +kernel
theorem dX3_init_21 : decode cX3_init 21 = .ok (.aload_n 0, 1) := by decide +kernel
theorem dX3_init_22 : decode cX3_init 22 = .ok (.sipush 333, 3) := by decide +kernel
theorem dX3_init_25 : decode cX3_init 25 = .ok (.newarray .int, 2) := by decide +kernel
theorem dX3_init_27 : decode cX3_init 27 = .ok (.putfield 18, 3) := by decide +kernel
theorem dX3_init_30 : decode cX3_init 30 = .ok (.aload_n 0, 1) := by decide +kernel
theorem dX3_init_31 : decode cX3_init 31 = .ok (.bipush 36, 2) := by decide +kernel
theorem dX3_init_33 : decode cX3_init 33 = .ok (.newarray .int, 2) := by decide +kernel
theorem dX3_init_35 : decode cX3_init 35 = .ok (.putfield 21, 3) := by decide +kernel
theorem dX3_init_38 : decode cX3_init 38 = .ok (.aload_n 0, 1) := by decide +kernel
theorem dX3_init_39 : decode cX3_init 39 = .ok (.bipush 36, 2) := by decide +kernel
theorem dX3_init_41 : decode cX3_init 41 = .ok (.newarray .int, 2) := by decide +kernel
theorem dX3_init_43 : decode cX3_init 43 = .ok (.putfield 24, 3) := by decide +kernel
theorem dX3_init_46 : decode cX3_init 46 = .ok (.aload_n 0, 1) := by decide +kernel
theorem dX3_init_47 : decode cX3_init 47 = .ok (.bipush 36, 2) := by decide +kernel
theorem dX3_init_49 : decode cX3_init 49 = .ok (.newarray .int, 2) := by decide +kernel
theorem dX3_init_51 : decode cX3_init 51 = .ok (.putfield 27, 3) := by decide +kernel
theorem dX3_init_54 : decode cX3_init 54 = .ok (.aload_n 0, 1) := by decide +kernel
theorem dX3_init_55 : decode cX3_init 55 = .ok (.bipush 36, 2) := by decide +kernel
theorem dX3_init_57 : decode cX3_init 57 = .ok (.newarray .int, 2) := by decide +kernel
theorem dX3_init_59 : decode cX3_init 59 = .ok (.putfield 30, 3) := by decide +kernel
theorem dX3_init_62 : decode cX3_init 62 = .ok (.aload_n 0, 1) := by decide +kernel
theorem dX3_init_63 : decode cX3_init 63 = .ok (.aload_n 1, 1) := by decide +kernel
theorem dX3_init_64 : decode cX3_init 64 = .ok (.putfield 33, 3) := by decide +kernel
theorem dX3_init_67 : decode cX3_init 67 = .ok (.aload_n 0, 1) := by decide +kernel
theorem dX3_init_68 : decode cX3_init 68 = .ok (.aload_n 2, 1) := by decide +kernel
theorem dX3_init_69 : decode cX3_init 69 = .ok (.putfield 37, 3) := by decide +kernel
theorem dX3_init_72 : decode cX3_init 72 = .ok (.aload_n 0, 1) := by decide +kernel
theorem dX3_init_73 : decode cX3_init 73 = .ok (.aload_n 3, 1) := by decide +kernel
theorem dX3_init_74 : decode cX3_init 74 = .ok (.putfield 41, 3) := by decide +kernel
theorem dX3_init_77 : decode cX3_init 77 = .ok (.aload_n 0, 1) := by decide +kernel
theorem dX3_init_78 : decode cX3_init 78 = .ok (.aload 4, 2) := by decide +kernel
theorem dX3_init_80 : decode cX3_init 80 = .ok (.putfield 45, 3) := by decide +kernel
theorem dX3_init_83 : decode cX3_init 83 = .ok (.return_, 1) := by decide +kernel
theorem dX3_forget_0 : decode cX3_forget 0 = .ok (.aload_n 0, 1) := by decide +kernel
theorem dX3_forget_1 : decode cX3_forget 1 = .ok (.iconst 0, 1) := by decide +kernel
theorem dX3_forget_2 : decode cX3_forget 2 = .ok (.putfield 49, 3) := by decide +kernel
theorem dX3_forget_5 : decode cX3_forget 5 = .ok (.return_, 1) := by decide +kernel
set_option maxRecDepth 20000 in
theorem ggX3_renew_X5_renew : GoodIn wsX3_renew wsX5_renew := goodIn_r _ [11, 12, 13, 14, 15, 16, 17, 18, 19, 20, 21, 22, 23, 24, 25, 26, 27, 28, 29, 30, 31, 32, 33, 34, 35, 36, 37, 38, 39, 40, 41, 42, 43, 44, 45, 46, 47, 48, 49, 50, 51, 52, 53, 54, 55, 56, 57, 58, 59, 9, 60, 61, 62, 63, 64, 65, 66, 67, 68, 69, 70, 71, 72, 73, 74, 75, 76, 77, 78, 79, 80, 81, 82, 83, 84, 85, 86, 87, 88, 89, 90, 91, 177, 178, 179, 180, 181, 182, 173, 174, 175, 176, 183, 184, 185, 186, 187, 188, 189, 190, 191, 192, 193, 194, 195, 196, 197, 198, 199, 200, 201, 202, 203, 204, 205, 206, 207, 208, 209] (by decide +kernel) (by decide +kernel)
set_option maxRecDepth 20000 in
theorem gX3_renew_X5_renew_n63 : GoodIn wsX3_renew (wsX5_renew) := ggX3_renew_X5_renew
set_option maxRecDepth 20000 in
theorem ggX3_renew_X3_valueFixedParts : GoodIn wsX3_renew wsX3_valueFixedParts := goodIn_r _ [96, 4, 97, 98, 7, 99, 100, 17, 101, 102, 23, 22, 26, 103, 69, 104, 105, 106, 35, 36, 37, 38, 24, 25, 39, 40, 41, 42, 43, 44, 45, 46, 47, 48, 49, 29, 50, 51, 52, 53, 54, 55, 56, 107, 108, 109, 110, 84, 85, 86, 87, 88, 89, 90, 91, 159, 160, 161, 162, 163, 164, 165, 166, 167, 168, 169, 170, 171, 172, 173, 174, 175, 176, 183, 184, 185, 186, 187, 188, 189, 190, 191, 192, 193, 194, 195, 196, 197, 198, 199, 200, 201, 202, 203, 204, 205, 206, 207, 208, 209] (by decide +kernel) (by decide +kernel)
set_option maxRecDepth 20000 in
theorem gX3_renew_X3_valueFixedParts : GoodIn wsX3_renew (wsV RX3 68 RX3 yX3_valueFixedParts wsX3_valueFixedParts) := goodIn_app (goodIn_of _ (by decide +kernel)) ggX3_renew_X3_valueFixedParts
set_option maxRecDepth 20000 in
theorem ggX3_renew_X8_fillRange : GoodIn wsX3_renew wsX8_fillRange := goodIn_r _ [70] (by decide +kernel) (by decide +kernel)
set_option maxRecDepth 20000 in
theorem gX3_renew_X8_fillRange_n71 : GoodIn wsX3_renew (wsX8_fillRange) := ggX3_renew_X8_fillRange
set_option maxRecDepth 20000 in
theorem ggX3_renew_X3_fillHeads : GoodIn wsX3_renew wsX3_fillHeads := goodIn_r _ [114, 115, 7, 4, 6, 99, 116, 28, 29, 30, 68, 69, 70, 117, 118, 119, 120, 121, 122, 123, 124, 125, 126, 127, 128, 95, 129, 5, 130, 98, 65, 9, 66, 67, 131, 85, 132, 133, 134, 103, 104, 159, 160, 161, 162, 163, 164, 165, 166, 167, 168, 169, 170, 171, 172, 173, 174, 175, 176, 177, 178, 179, 180, 181, 182, 191, 192, 193, 194, 195, 196, 197, 198, 199, 200, 201, 202, 203, 204, 205, 206, 207, 208, 209] (by decide +kernel) (by decide +kernel)
set_option maxRecDepth 20000 in
theorem gX3_renew_X3_fillHeads : GoodIn wsX3_renew (wsV RX3 75 RX3 yX3_fillHeads wsX3_fillHeads) := goodIn_app (goodIn_of _ (by decide +kernel)) ggX3_renew_X3_fillHeads
set_option maxRecDepth 20000 in
theorem ggX3_renew_X3_fillRests : GoodIn wsX3_renew wsX3_fillRests := goodIn_r _ [138, 7, 115, 130, 116, 28, 29, 30, 6, 159, 160, 161, 162, 163, 164, 165, 166, 167, 168, 169, 170, 171, 172, 191, 192, 193, 194, 195, 196, 197, 198, 199, 200, 201, 202, 203, 204, 205, 206, 207, 208, 209] (by decide +kernel) (by decide +kernel)
set_option maxRecDepth 20000 in
theorem gX3_renew_X3_fillRests : GoodIn wsX3_renew (wsV RX3 79 RX3 yX3_fillRests wsX3_fillRests) := goodIn_app (goodIn_of _ (by decide +kernel)) ggX3_renew_X3_fillRests
set_option maxRecDepth 20000 in
theorem ggX3_renew_X3_leastHead : GoodIn wsX3_renew wsX3_leastHead := goodIn_r _ [142, 7, 115, 116, 28, 29, 30, 159, 160, 161, 162, 163, 164, 165, 166, 167, 168, 169, 170, 171, 172] (by decide +kernel) (by decide +kernel)
set_option maxRecDepth 20000 in
theorem gX3_renew_X3_leastHead : GoodIn wsX3_renew (wsV RX3 82 RX3 yX3_leastHead wsX3_leastHead) := goodIn_app (goodIn_of _ (by decide +kernel)) ggX3_renew_X3_leastHead
set_option maxRecDepth 20000 in
theorem ggX3_renew_X3_follow : GoodIn wsX3_renew wsX3_follow := goodIn_r _ [146, 3, 4, 2, 6, 130, 147, 148, 149, 150, 95, 151, 99, 152, 153, 154, 123, 118, 124, 125, 121, 122, 117, 119, 120, 126, 127, 128, 129, 5, 98, 65, 9, 66, 67, 131, 85, 132, 133, 134, 103, 69, 104, 155, 156, 157, 158, 159, 160, 161, 162, 163, 164, 165, 166, 167, 168, 169, 170, 171, 172, 173, 174, 175, 176, 177, 178, 179, 180, 181, 182, 191, 192, 193, 194, 195, 196, 197, 198, 199, 200, 201, 202, 203, 204, 205, 206, 207, 208, 209] (by decide +kernel) (by decide +kernel)
set_option maxRecDepth 20000 in
theorem gX3_renew_X3_follow : GoodIn wsX3_renew (wsV RX3 87 RX3 yX3_follow wsX3_follow) := goodIn_app (goodIn_of _ (by decide +kernel)) ggX3_renew_X3_follow
theorem dX3_renew_0 : decode cX3_renew 0 = .ok (.aload_n 0, 1) := by decide +kernel
theorem dX3_renew_1 : decode cX3_renew 1 = .ok (.getfield 49, 3) := by decide +kernel
theorem dX3_renew_4 : decode cX3_renew 4 = .ok (.ifCond .eq 4, 3) := by decide +kernel
theorem dX3_renew_7 : decode cX3_renew 7 = .ok (.return_, 1) := by decide +kernel
theorem dX3_renew_8 : decode cX3_renew 8 = .ok (.aload_n 0, 1) := by decide +kernel
theorem dX3_renew_9 : decode cX3_renew 9 = .ok (.iconst 1, 1) := by decide +kernel
theorem dX3_renew_10 : decode cX3_renew 10 = .ok (.putfield 49, 3) := by decide +kernel
theorem dX3_renew_13 : decode cX3_renew 13 = .ok (.aload_n 0, 1) := by decide +kernel
theorem dX3_renew_14 : decode cX3_renew 14 = .ok (.iconst 0, 1) := by decide +kernel
theorem dX3_renew_15 : decode cX3_renew 15 = .ok (.putfield 53, 3) := by decide +kernel
theorem dX3_renew_18 : decode cX3_renew 18 = .ok (.aload_n 0, 1) := by decide +kernel
theorem dX3_renew_19 : decode cX3_renew 19 = .ok (.iconst 0, 1) := by decide +kernel
theorem dX3_renew_20 : decode cX3_renew 20 = .ok (.putfield 57, 3) := by decide +kernel
theorem dX3_renew_23 : decode cX3_renew 23 = .ok (.aload_n 0, 1) := by decide +kernel
theorem dX3_renew_24 : decode cX3_renew 24 = .ok (.getfield 37, 3) := by decide +kernel
theorem dX3_renew_27 : decode cX3_renew 27 = .ok (.getfield 60, 3) := by decide +kernel
theorem dX3_renew_30 : decode cX3_renew 30 = .ok (.ifCond .ne 4, 3) := by decide +kernel
theorem dX3_renew_33 : decode cX3_renew 33 = .ok (.return_, 1) := by decide +kernel
theorem dX3_renew_34 : decode cX3_renew 34 = .ok (.aload_n 0, 1) := by decide +kernel
theorem dX3_renew_35 : decode cX3_renew 35 = .ok (.getfield 45, 3) := by decide +kernel
theorem dX3_renew_38 : decode cX3_renew 38 = .ok (.invokevirtual 63, 3) := by decide +kernel
theorem dX3_renew_41 : decode cX3_renew 41 = .ok (.aload_n 0, 1) := by decide +kernel
theorem dX3_renew_42 : decode cX3_renew 42 = .ok (.invokevirtual 68, 3) := by decide +kernel
theorem dX3_renew_45 : decode cX3_renew 45 = .ok (.aload_n 0, 1) := by decide +kernel
theorem dX3_renew_46 : decode cX3_renew 46 = .ok (.getfield 18, 3) := by decide +kernel
theorem dX3_renew_49 : decode cX3_renew 49 = .ok (.aload_n 0, 1) := by decide +kernel
theorem dX3_renew_50 : decode cX3_renew 50 = .ok (.getfield 37, 3) := by decide +kernel
theorem dX3_renew_53 : decode cX3_renew 53 = .ok (.getfield 60, 3) := by decide +kernel
theorem dX3_renew_56 : decode cX3_renew 56 = .ok (.bipush 9, 2) := by decide +kernel
theorem dX3_renew_58 : decode cX3_renew 58 = .ok (.imul, 1) := by decide +kernel
theorem dX3_renew_59 : decode cX3_renew 59 = .ok (.aload_n 0, 1) := by decide +kernel
theorem dX3_renew_60 : decode cX3_renew 60 = .ok (.getfield 37, 3) := by decide +kernel
theorem dX3_renew_63 : decode cX3_renew 63 = .ok (.getfield 60, 3) := by decide +kernel
theorem dX3_renew_66 : decode cX3_renew 66 = .ok (.iconst 1, 1) := by decide +kernel
theorem dX3_renew_67 : decode cX3_renew 67 = .ok (.iadd, 1) := by decide +kernel
theorem dX3_renew_68 : decode cX3_renew 68 = .ok (.bipush 9, 2) := by decide +kernel
theorem dX3_renew_70 : decode cX3_renew 70 = .ok (.imul, 1) := by decide +kernel
theorem dX3_renew_71 : decode cX3_renew 71 = .ok (.iconst 0, 1) := by decide +kernel
theorem dX3_renew_72 : decode cX3_renew 72 = .ok (.invokestatic 71, 3) := by decide +kernel
theorem dX3_renew_75 : decode cX3_renew 75 = .ok (.aload_n 0, 1) := by decide +kernel
theorem dX3_renew_76 : decode cX3_renew 76 = .ok (.getfield 37, 3) := by decide +kernel
theorem dX3_renew_79 : decode cX3_renew 79 = .ok (.getfield 60, 3) := by decide +kernel
theorem dX3_renew_82 : decode cX3_renew 82 = .ok (.iconst 1, 1) := by decide +kernel
theorem dX3_renew_83 : decode cX3_renew 83 = .ok (.isub, 1) := by decide +kernel
theorem dX3_renew_84 : decode cX3_renew 84 = .ok (.istore_n 1, 1) := by decide +kernel
theorem dX3_renew_85 : decode cX3_renew 85 = .ok (.iload_n 1, 1) := by decide +kernel
theorem dX3_renew_86 : decode cX3_renew 86 = .ok (.ifCond .lt 19, 3) := by decide +kernel
theorem dX3_renew_89 : decode cX3_renew 89 = .ok (.aload_n 0, 1) := by decide +kernel
theorem dX3_renew_90 : decode cX3_renew 90 = .ok (.iload_n 1, 1) := by decide +kernel
theorem dX3_renew_91 : decode cX3_renew 91 = .ok (.invokevirtual 75, 3) := by decide +kernel
theorem dX3_renew_94 : decode cX3_renew 94 = .ok (.aload_n 0, 1) := by decide +kernel
theorem dX3_renew_95 : decode cX3_renew 95 = .ok (.iload_n 1, 1) := by decide +kernel
theorem dX3_renew_96 : decode cX3_renew 96 = .ok (.invokevirtual 79, 3) := by decide +kernel
theorem dX3_renew_99 : decode cX3_renew 99 = .ok (.iinc 1 (-1), 3) := by decide +kernel
theorem dX3_renew_102 : decode cX3_renew 102 = .ok (.goto (-17), 3) := by decide +kernel
theorem dX3_renew_105 : decode cX3_renew 105 = .ok (.aload_n 0, 1) := by decide +kernel
theorem dX3_renew_106 : decode cX3_renew 106 = .ok (.aload_n 0, 1) := by decide +kernel
theorem dX3_renew_107 : decode cX3_renew 107 = .ok (.invokevirtual 82, 3) := by decide +kernel
theorem dX3_renew_110 : decode cX3_renew 110 = .ok (.putfield 57, 3) := by decide +kernel
theorem dX3_renew_113 : decode cX3_renew 113 = .ok (.aload_n 0, 1) := by decide +kernel
theorem dX3_renew_114 : decode cX3_renew 114 = .ok (.getfield 57, 3) := by decide +kernel
theorem dX3_renew_117 : decode cX3_renew 117 = .ok (.ldc 86, 2) := by decide +kernel
theorem dX3_renew_119 : decode cX3_renew 119 = .ok (.if_icmp .ge 7, 3) := by decide +kernel
theorem dX3_renew_122 : decode cX3_renew 122 = .ok (.aload_n 0, 1) := by decide +kernel
theorem dX3_renew_123 : decode cX3_renew 123 = .ok (.invokevirtual 87, 3) := by decide +kernel
theorem dX3_renew_126 : decode cX3_renew 126 = .ok (.return_, 1) := by decide +kernel
set_option maxRecDepth 20000 in
theorem ggX3_valueFixedParts_X6_costOf : GoodIn wsX3_valueFixedParts wsX6_costOf := goodIn_r _ [9, 10, 11, 12, 13, 14, 15, 16, 17, 18, 19, 20, 7, 21, 22, 23, 24, 25, 26, 27, 28, 29, 30, 31, 32, 33, 34, 35, 36, 37, 38, 39, 40, 41, 42, 43, 44, 45, 46, 47, 48, 49, 50, 51, 52, 53, 54, 73, 74, 75, 76, 77, 78, 79, 80, 81, 82, 83, 84, 85, 86, 87, 88, 89, 90, 91, 92, 93, 94, 95, 96, 97, 98, 99, 69, 70, 71, 72] (by decide +kernel) (by decide +kernel)
set_option maxRecDepth 20000 in
theorem gX3_valueFixedParts_X6_costOf_n93 : GoodIn wsX3_valueFixedParts (wsX6_costOf) := ggX3_valueFixedParts_X6_costOf
theorem dX3_valueFixedParts_0 : decode cX3_valueFixedParts 0 = .ok (.iconst 0, 1) := by decide +kernel
theorem dX3_valueFixedParts_1 : decode cX3_valueFixedParts 1 = .ok (.istore_n 1, 1) := by decide +kernel
theorem dX3_valueFixedParts_2 : decode cX3_valueFixedParts 2 = .ok (.iload_n 1, 1) := by decide +kernel
theorem dX3_valueFixedParts_3 : decode cX3_valueFixedParts 3 = .ok (.aload_n 0, 1) := by decide +kernel
theorem dX3_valueFixedParts_4 : decode cX3_valueFixedParts 4 = .ok (.getfield 37, 3) := by decide +kernel
theorem dX3_valueFixedParts_7 : decode cX3_valueFixedParts 7 = .ok (.getfield 60, 3) := by decide +kernel
theorem dX3_valueFixedParts_10 : decode cX3_valueFixedParts 10 = .ok (.if_icmp .ge 80, 3) := by decide +kernel
theorem dX3_valueFixedParts_13 : decode cX3_valueFixedParts 13 = .ok (.aload_n 0, 1) := by decide +kernel
theorem dX3_valueFixedParts_14 : decode cX3_valueFixedParts 14 = .ok (.getfield 37, 3) := by decide +kernel
theorem dX3_valueFixedParts_17 : decode cX3_valueFixedParts 17 = .ok (.getfield 90, 3) := by decide +kernel
theorem dX3_valueFixedParts_20 : decode cX3_valueFixedParts 20 = .ok (.iload_n 1, 1) := by decide +kernel
theorem dX3_valueFixedParts_21 : decode cX3_valueFixedParts 21 = .ok (.iaload, 1) := by decide +kernel
theorem dX3_valueFixedParts_22 : decode cX3_valueFixedParts 22 = .ok (.ifCond .eq 62, 3) := by decide +kernel
theorem dX3_valueFixedParts_25 : decode cX3_valueFixedParts 25 = .ok (.aload_n 0, 1) := by decide +kernel
theorem dX3_valueFixedParts_26 : decode cX3_valueFixedParts 26 = .ok (.getfield 37, 3) := by decide +kernel
theorem dX3_valueFixedParts_29 : decode cX3_valueFixedParts 29 = .ok (.getfield 90, 3) := by decide +kernel
theorem dX3_valueFixedParts_32 : decode cX3_valueFixedParts 32 = .ok (.iload_n 1, 1) := by decide +kernel
theorem dX3_valueFixedParts_33 : decode cX3_valueFixedParts 33 = .ok (.iaload, 1) := by decide +kernel
theorem dX3_valueFixedParts_34 : decode cX3_valueFixedParts 34 = .ok (.sipush 1023, 3) := by decide +kernel
theorem dX3_valueFixedParts_37 : decode cX3_valueFixedParts 37 = .ok (.iand, 1) := by decide +kernel
theorem dX3_valueFixedParts_38 : decode cX3_valueFixedParts 38 = .ok (.istore_n 2, 1) := by decide +kernel
theorem dX3_valueFixedParts_39 : decode cX3_valueFixedParts 39 = .ok (.aload_n 0, 1) := by decide +kernel
theorem dX3_valueFixedParts_40 : decode cX3_valueFixedParts 40 = .ok (.getfield 41, 3) := by decide +kernel
theorem dX3_valueFixedParts_43 : decode cX3_valueFixedParts 43 = .ok (.iload_n 2, 1) := by decide +kernel
theorem dX3_valueFixedParts_44 : decode cX3_valueFixedParts 44 = .ok (.iload_n 1, 1) := by decide +kernel
theorem dX3_valueFixedParts_45 : decode cX3_valueFixedParts 45 = .ok (.aload_n 0, 1) := by decide +kernel
theorem dX3_valueFixedParts_46 : decode cX3_valueFixedParts 46 = .ok (.getfield 37, 3) := by decide +kernel
theorem dX3_valueFixedParts_49 : decode cX3_valueFixedParts 49 = .ok (.getfield 90, 3) := by decide +kernel
theorem dX3_valueFixedParts_52 : decode cX3_valueFixedParts 52 = .ok (.iload_n 1, 1) := by decide +kernel
theorem dX3_valueFixedParts_53 : decode cX3_valueFixedParts 53 = .ok (.iaload, 1) := by decide +kernel
theorem dX3_valueFixedParts_54 : decode cX3_valueFixedParts 54 = .ok (.bipush 10, 2) := by decide +kernel
theorem dX3_valueFixedParts_56 : decode cX3_valueFixedParts 56 = .ok (.ishr, 1) := by decide +kernel
theorem dX3_valueFixedParts_57 : decode cX3_valueFixedParts 57 = .ok (.invokevirtual 93, 3) := by decide +kernel
theorem dX3_valueFixedParts_60 : decode cX3_valueFixedParts 60 = .ok (.istore_n 3, 1) := by decide +kernel
theorem dX3_valueFixedParts_61 : decode cX3_valueFixedParts 61 = .ok (.aload_n 0, 1) := by decide +kernel
theorem dX3_valueFixedParts_62 : decode cX3_valueFixedParts 62 = .ok (.getfield 9, 3) := by decide +kernel
theorem dX3_valueFixedParts_65 : decode cX3_valueFixedParts 65 = .ok (.iload_n 1, 1) := by decide +kernel
theorem dX3_valueFixedParts_66 : decode cX3_valueFixedParts 66 = .ok (.iload_n 3, 1) := by decide +kernel
theorem dX3_valueFixedParts_67 : decode cX3_valueFixedParts 67 = .ok (.ldc 86, 2) := by decide +kernel
theorem dX3_valueFixedParts_69 : decode cX3_valueFixedParts 69 = .ok (.if_icmp .ne 8, 3) := by decide +kernel
theorem dX3_valueFixedParts_72 : decode cX3_valueFixedParts 72 = .ok (.ldc 99, 2) := by decide +kernel
theorem dX3_valueFixedParts_74 : decode cX3_valueFixedParts 74 = .ok (.goto 9, 3) := by decide +kernel
theorem dX3_valueFixedParts_77 : decode cX3_valueFixedParts 77 = .ok (.iload_n 3, 1) := by decide +kernel
theorem dX3_valueFixedParts_78 : decode cX3_valueFixedParts 78 = .ok (.bipush 10, 2) := by decide +kernel
theorem dX3_valueFixedParts_80 : decode cX3_valueFixedParts 80 = .ok (.ishl, 1) := by decide +kernel
theorem dX3_valueFixedParts_81 : decode cX3_valueFixedParts 81 = .ok (.iload_n 2, 1) := by decide +kernel
theorem dX3_valueFixedParts_82 : decode cX3_valueFixedParts 82 = .ok (.iadd, 1) := by decide +kernel
theorem dX3_valueFixedParts_83 : decode cX3_valueFixedParts 83 = .ok (.iastore, 1) := by decide +kernel
theorem dX3_valueFixedParts_84 : decode cX3_valueFixedParts 84 = .ok (.iinc 1 1, 3) := by decide +kernel
theorem dX3_valueFixedParts_87 : decode cX3_valueFixedParts 87 = .ok (.goto (-85), 3) := by decide +kernel
theorem dX3_valueFixedParts_90 : decode cX3_valueFixedParts 90 = .ok (.return_, 1) := by decide +kernel
set_option maxRecDepth 20000 in
theorem ggX3_valueOf_X5_placeOf : GoodIn wsX3_valueOf wsX5_placeOf := goodIn_r _ [9] (by decide +kernel) (by decide +kernel)
set_option maxRecDepth 20000 in
theorem gX3_valueOf_X5_placeOf_n103 : GoodIn wsX3_valueOf (wsX5_placeOf) := ggX3_valueOf_X5_placeOf
set_option maxRecDepth 20000 in
theorem ggX3_valueOf_X1_kindOf : GoodIn wsX3_valueOf wsX1_kindOf := goodIn_r _ [13, 14, 15, 16, 17, 42, 43, 44, 45, 46, 47, 48, 49, 50, 51, 52, 53, 54, 55, 56, 57, 58, 59, 60] (by decide +kernel) (by decide +kernel)
set_option maxRecDepth 20000 in
theorem gX3_valueOf_X1_kindOf_n107 : GoodIn wsX3_valueOf (wsX1_kindOf) := ggX3_valueOf_X1_kindOf
theorem dX3_valueOf_0 : decode cX3_valueOf 0 = .ok (.aload_n 0, 1) := by decide +kernel
theorem dX3_valueOf_1 : decode cX3_valueOf 1 = .ok (.getfield 37, 3) := by decide +kernel
theorem dX3_valueOf_4 : decode cX3_valueOf 4 = .ok (.getfield 90, 3) := by decide +kernel
theorem dX3_valueOf_7 : decode cX3_valueOf 7 = .ok (.iload_n 1, 1) := by decide +kernel
theorem dX3_valueOf_8 : decode cX3_valueOf 8 = .ok (.iaload, 1) := by decide +kernel
theorem dX3_valueOf_9 : decode cX3_valueOf 9 = .ok (.istore 4, 2) := by decide +kernel
theorem dX3_valueOf_11 : decode cX3_valueOf 11 = .ok (.iload 4, 2) := by decide +kernel
theorem dX3_valueOf_13 : decode cX3_valueOf 13 = .ok (.ifCond .ne 23, 3) := by decide +kernel
theorem dX3_valueOf_16 : decode cX3_valueOf 16 = .ok (.aload_n 0, 1) := by decide +kernel
theorem dX3_valueOf_17 : decode cX3_valueOf 17 = .ok (.getfield 45, 3) := by decide +kernel
theorem dX3_valueOf_20 : decode cX3_valueOf 20 = .ok (.getfield 100, 3) := by decide +kernel
theorem dX3_valueOf_23 : decode cX3_valueOf 23 = .ok (.aload_n 0, 1) := by decide +kernel
theorem dX3_valueOf_24 : decode cX3_valueOf 24 = .ok (.getfield 45, 3) := by decide +kernel
theorem dX3_valueOf_27 : decode cX3_valueOf 27 = .ok (.iload_n 1, 1) := by decide +kernel
theorem dX3_valueOf_28 : decode cX3_valueOf 28 = .ok (.iload_n 2, 1) := by decide +kernel
theorem dX3_valueOf_29 : decode cX3_valueOf 29 = .ok (.invokevirtual 103, 3) := by decide +kernel
theorem dX3_valueOf_32 : decode cX3_valueOf 32 = .ok (.iload_n 3, 1) := by decide +kernel
theorem dX3_valueOf_33 : decode cX3_valueOf 33 = .ok (.iadd, 1) := by decide +kernel
theorem dX3_valueOf_34 : decode cX3_valueOf 34 = .ok (.iaload, 1) := by decide +kernel
theorem dX3_valueOf_35 : decode cX3_valueOf 35 = .ok (.ireturn, 1) := by decide +kernel
theorem dX3_valueOf_36 : decode cX3_valueOf 36 = .ok (.iload 4, 2) := by decide +kernel
theorem dX3_valueOf_38 : decode cX3_valueOf 38 = .ok (.bipush 10, 2) := by decide +kernel
theorem dX3_valueOf_40 : decode cX3_valueOf 40 = .ok (.ishr, 1) := by decide +kernel
theorem dX3_valueOf_41 : decode cX3_valueOf 41 = .ok (.iload_n 2, 1) := by decide +kernel
theorem dX3_valueOf_42 : decode cX3_valueOf 42 = .ok (.if_icmp .ne 24, 3) := by decide +kernel
theorem dX3_valueOf_45 : decode cX3_valueOf 45 = .ok (.aload_n 0, 1) := by decide +kernel
theorem dX3_valueOf_46 : decode cX3_valueOf 46 = .ok (.getfield 33, 3) := by decide +kernel
theorem dX3_valueOf_49 : decode cX3_valueOf 49 = .ok (.iload 4, 2) := by decide +kernel
theorem dX3_valueOf_51 : decode cX3_valueOf 51 = .ok (.sipush 1023, 3) := by decide +kernel
theorem dX3_valueOf_54 : decode cX3_valueOf 54 = .ok (.iand, 1) := by decide +kernel
theorem dX3_valueOf_55 : decode cX3_valueOf 55 = .ok (.invokevirtual 107, 3) := by decide +kernel
theorem dX3_valueOf_58 : decode cX3_valueOf 58 = .ok (.iload_n 3, 1) := by decide +kernel
theorem dX3_valueOf_59 : decode cX3_valueOf 59 = .ok (.if_icmp .ne 7, 3) := by decide +kernel
theorem dX3_valueOf_62 : decode cX3_valueOf 62 = .ok (.iconst 1, 1) := by decide +kernel
theorem dX3_valueOf_63 : decode cX3_valueOf 63 = .ok (.goto 4, 3) := by decide +kernel
theorem dX3_valueOf_66 : decode cX3_valueOf 66 = .ok (.iconst 0, 1) := by decide +kernel
theorem dX3_valueOf_67 : decode cX3_valueOf 67 = .ok (.istore 5, 2) := by decide +kernel
theorem dX3_valueOf_69 : decode cX3_valueOf 69 = .ok (.iload 5, 2) := by decide +kernel
theorem dX3_valueOf_71 : decode cX3_valueOf 71 = .ok (.ifCond .eq 12, 3) := by decide +kernel
theorem dX3_valueOf_74 : decode cX3_valueOf 74 = .ok (.aload_n 0, 1) := by decide +kernel
theorem dX3_valueOf_75 : decode cX3_valueOf 75 = .ok (.getfield 9, 3) := by decide +kernel
theorem dX3_valueOf_78 : decode cX3_valueOf 78 = .ok (.iload_n 1, 1) := by decide +kernel
theorem dX3_valueOf_79 : decode cX3_valueOf 79 = .ok (.iaload, 1) := by decide +kernel
theorem dX3_valueOf_80 : decode cX3_valueOf 80 = .ok (.goto 5, 3) := by decide +kernel
theorem dX3_valueOf_83 : decode cX3_valueOf 83 = .ok (.ldc 99, 2) := by decide +kernel
theorem dX3_valueOf_85 : decode cX3_valueOf 85 = .ok (.ireturn, 1) := by decide +kernel
set_option maxRecDepth 20000 in
theorem ggX3_fillHeads_X8_fillRange : GoodIn wsX3_fillHeads wsX8_fillRange := goodIn_r _ [12] (by decide +kernel) (by decide +kernel)
set_option maxRecDepth 20000 in
theorem gX3_fillHeads_X8_fillRange_n71 : GoodIn wsX3_fillHeads (wsX8_fillRange) := ggX3_fillHeads_X8_fillRange
set_option maxRecDepth 20000 in
theorem ggX3_fillHeads_X4_partsAt : GoodIn wsX3_fillHeads wsX4_partsAt := goodIn_r _ [16, 17, 18, 55, 56, 57, 58] (by decide +kernel) (by decide +kernel)
set_option maxRecDepth 20000 in
theorem gX3_fillHeads_X4_partsAt_n113 : GoodIn wsX3_fillHeads (wsX4_partsAt) := ggX3_fillHeads_X4_partsAt
set_option maxRecDepth 20000 in
theorem ggX3_fillHeads_X4_reachFrom : GoodIn wsX3_fillHeads wsX4_reachFrom := goodIn_r _ [21, 17, 18, 55, 56, 57, 58] (by decide +kernel) (by decide +kernel)
set_option maxRecDepth 20000 in
theorem gX3_fillHeads_X4_reachFrom_n117 : GoodIn wsX3_fillHeads (wsX4_reachFrom) := ggX3_fillHeads_X4_reachFrom
set_option maxRecDepth 20000 in
theorem ggX3_fillHeads_X3_valueOf : GoodIn wsX3_fillHeads wsX3_valueOf := goodIn_r _ [26, 3, 27, 28, 29, 5, 30, 31, 32, 33, 34, 35, 36, 37, 38, 39, 11, 40, 41, 42, 43, 44, 45, 46, 47, 48, 49, 50, 51, 52, 53, 54, 55, 56, 57, 58, 59, 60, 61, 62, 63, 64, 65, 66, 67, 68, 69, 70, 71, 72, 73, 74, 75, 76, 77, 78, 79, 80, 81, 82, 83] (by decide +kernel) (by decide +kernel)
set_option maxRecDepth 20000 in
theorem gX3_fillHeads_X3_valueOf : GoodIn wsX3_fillHeads (wsV RX3 120 RX3 yX3_valueOf wsX3_valueOf) := goodIn_app (goodIn_of _ (by decide +kernel)) ggX3_fillHeads_X3_valueOf
theorem dX3_fillHeads_0 : decode cX3_fillHeads 0 = .ok (.aload_n 0, 1) := by decide +kernel
theorem dX3_fillHeads_1 : decode cX3_fillHeads 1 = .ok (.getfield 15, 3) := by decide +kernel
theorem dX3_fillHeads_4 : decode cX3_fillHeads 4 = .ok (.iload_n 1, 1) := by decide +kernel
theorem dX3_fillHeads_5 : decode cX3_fillHeads 5 = .ok (.bipush 9, 2) := by decide +kernel
theorem dX3_fillHeads_7 : decode cX3_fillHeads 7 = .ok (.imul, 1) := by decide +kernel
theorem dX3_fillHeads_8 : decode cX3_fillHeads 8 = .ok (.iload_n 1, 1) := by decide +kernel
theorem dX3_fillHeads_9 : decode cX3_fillHeads 9 = .ok (.iconst 1, 1) := by decide +kernel
theorem dX3_fillHeads_10 : decode cX3_fillHeads 10 = .ok (.iadd, 1) := by decide +kernel
theorem dX3_fillHeads_11 : decode cX3_fillHeads 11 = .ok (.bipush 9, 2) := by decide +kernel
theorem dX3_fillHeads_13 : decode cX3_fillHeads 13 = .ok (.imul, 1) := by decide +kernel
theorem dX3_fillHeads_14 : decode cX3_fillHeads 14 = .ok (.ldc 86, 2) := by decide +kernel
theorem dX3_fillHeads_16 : decode cX3_fillHeads 16 = .ok (.invokestatic 71, 3) := by decide +kernel
theorem dX3_fillHeads_19 : decode cX3_fillHeads 19 = .ok (.aload_n 0, 1) := by decide +kernel
theorem dX3_fillHeads_20 : decode cX3_fillHeads 20 = .ok (.getfield 37, 3) := by decide +kernel
theorem dX3_fillHeads_23 : decode cX3_fillHeads 23 = .ok (.iload_n 1, 1) := by decide +kernel
theorem dX3_fillHeads_24 : decode cX3_fillHeads 24 = .ok (.invokevirtual 113, 3) := by decide +kernel
theorem dX3_fillHeads_27 : decode cX3_fillHeads 27 = .ok (.ifCond .ne 4, 3) := by decide +kernel
theorem dX3_fillHeads_30 : decode cX3_fillHeads 30 = .ok (.return_, 1) := by decide +kernel
theorem dX3_fillHeads_31 : decode cX3_fillHeads 31 = .ok (.aload_n 0, 1) := by decide +kernel
theorem dX3_fillHeads_32 : decode cX3_fillHeads 32 = .ok (.getfield 37, 3) := by decide +kernel
theorem dX3_fillHeads_35 : decode cX3_fillHeads 35 = .ok (.iload_n 1, 1) := by decide +kernel
theorem dX3_fillHeads_36 : decode cX3_fillHeads 36 = .ok (.invokevirtual 117, 3) := by decide +kernel
theorem dX3_fillHeads_39 : decode cX3_fillHeads 39 = .ok (.istore_n 2, 1) := by decide +kernel
theorem dX3_fillHeads_40 : decode cX3_fillHeads 40 = .ok (.iload_n 1, 1) := by decide +kernel
theorem dX3_fillHeads_41 : decode cX3_fillHeads 41 = .ok (.iconst 1, 1) := by decide +kernel
theorem dX3_fillHeads_42 : decode cX3_fillHeads 42 = .ok (.iadd, 1) := by decide +kernel
theorem dX3_fillHeads_43 : decode cX3_fillHeads 43 = .ok (.istore_n 3, 1) := by decide +kernel
theorem dX3_fillHeads_44 : decode cX3_fillHeads 44 = .ok (.iload_n 3, 1) := by decide +kernel
theorem dX3_fillHeads_45 : decode cX3_fillHeads 45 = .ok (.iload_n 2, 1) := by decide +kernel
theorem dX3_fillHeads_46 : decode cX3_fillHeads 46 = .ok (.if_icmp .gt 108, 3) := by decide +kernel
theorem dX3_fillHeads_49 : decode cX3_fillHeads 49 = .ok (.iconst 0, 1) := by decide +kernel
theorem dX3_fillHeads_50 : decode cX3_fillHeads 50 = .ok (.istore 4, 2) := by decide +kernel
theorem dX3_fillHeads_52 : decode cX3_fillHeads 52 = .ok (.iload 4, 2) := by decide +kernel
theorem dX3_fillHeads_54 : decode cX3_fillHeads 54 = .ok (.bipush 9, 2) := by decide +kernel
theorem dX3_fillHeads_56 : decode cX3_fillHeads 56 = .ok (.if_icmp .ge 92, 3) := by decide +kernel
theorem dX3_fillHeads_59 : decode cX3_fillHeads 59 = .ok (.aload_n 0, 1) := by decide +kernel
theorem dX3_fillHeads_60 : decode cX3_fillHeads 60 = .ok (.getfield 37, 3) := by decide +kernel
theorem dX3_fillHeads_63 : decode cX3_fillHeads 63 = .ok (.iload_n 3, 1) := by decide +kernel
theorem dX3_fillHeads_64 : decode cX3_fillHeads 64 = .ok (.invokevirtual 113, 3) := by decide +kernel
theorem dX3_fillHeads_67 : decode cX3_fillHeads 67 = .ok (.ifCond .eq 81, 3) := by decide +kernel
theorem dX3_fillHeads_70 : decode cX3_fillHeads 70 = .ok (.aload_n 0, 1) := by decide +kernel
theorem dX3_fillHeads_71 : decode cX3_fillHeads 71 = .ok (.iload_n 1, 1) := by decide +kernel
theorem dX3_fillHeads_72 : decode cX3_fillHeads 72 = .ok (.iload_n 3, 1) := by decide +kernel
theorem dX3_fillHeads_73 : decode cX3_fillHeads 73 = .ok (.iload 4, 2) := by decide +kernel
theorem dX3_fillHeads_75 : decode cX3_fillHeads 75 = .ok (.invokevirtual 120, 3) := by decide +kernel
theorem dX3_fillHeads_78 : decode cX3_fillHeads 78 = .ok (.istore 5, 2) := by decide +kernel
theorem dX3_fillHeads_80 : decode cX3_fillHeads 80 = .ok (.aload_n 0, 1) := by decide +kernel
theorem dX3_fillHeads_81 : decode cX3_fillHeads 81 = .ok (.getfield 18, 3) := by decide +kernel
theorem dX3_fillHeads_84 : decode cX3_fillHeads 84 = .ok (.iload_n 3, 1) := by decide +kernel
theorem dX3_fillHeads_85 : decode cX3_fillHeads 85 = .ok (.bipush 9, 2) := by decide +kernel
theorem dX3_fillHeads_87 : decode cX3_fillHeads 87 = .ok (.imul, 1) := by decide +kernel
theorem dX3_fillHeads_88 : decode cX3_fillHeads 88 = .ok (.iload 4, 2) := by decide +kernel
theorem dX3_fillHeads_90 : decode cX3_fillHeads 90 = .ok (.iadd, 1) := by decide +kernel
theorem dX3_fillHeads_91 : decode cX3_fillHeads 91 = .ok (.iaload, 1) := by decide +kernel
theorem dX3_fillHeads_92 : decode cX3_fillHeads 92 = .ok (.istore 6, 2) := by decide +kernel
theorem dX3_fillHeads_94 : decode cX3_fillHeads 94 = .ok (.iload 5, 2) := by decide +kernel
theorem dX3_fillHeads_96 : decode cX3_fillHeads 96 = .ok (.ldc 99, 2) := by decide +kernel
theorem dX3_fillHeads_98 : decode cX3_fillHeads 98 = .ok (.if_icmp .eq 44, 3) := by decide +kernel
theorem dX3_fillHeads_101 : decode cX3_fillHeads 101 = .ok (.iload 6, 2) := by decide +kernel
theorem dX3_fillHeads_103 : decode cX3_fillHeads 103 = .ok (.ldc 86, 2) := by decide +kernel
theorem dX3_fillHeads_105 : decode cX3_fillHeads 105 = .ok (.if_icmp .ge 37, 3) := by decide +kernel
theorem dX3_fillHeads_108 : decode cX3_fillHeads 108 = .ok (.iload_n 1, 1) := by decide +kernel
theorem dX3_fillHeads_109 : decode cX3_fillHeads 109 = .ok (.bipush 9, 2) := by decide +kernel
theorem dX3_fillHeads_111 : decode cX3_fillHeads 111 = .ok (.imul, 1) := by decide +kernel
theorem dX3_fillHeads_112 : decode cX3_fillHeads 112 = .ok (.iload 4, 2) := by decide +kernel
theorem dX3_fillHeads_114 : decode cX3_fillHeads 114 = .ok (.iadd, 1) := by decide +kernel
theorem dX3_fillHeads_115 : decode cX3_fillHeads 115 = .ok (.istore 7, 2) := by decide +kernel
theorem dX3_fillHeads_117 : decode cX3_fillHeads 117 = .ok (.aload_n 0, 1) := by decide +kernel
theorem dX3_fillHeads_118 : decode cX3_fillHeads 118 = .ok (.getfield 15, 3) := by decide +kernel
theorem dX3_fillHeads_121 : decode cX3_fillHeads 121 = .ok (.iload 7, 2) := by decide +kernel
theorem dX3_fillHeads_123 : decode cX3_fillHeads 123 = .ok (.aload_n 0, 1) := by decide +kernel
theorem dX3_fillHeads_124 : decode cX3_fillHeads 124 = .ok (.getfield 15, 3) := by decide +kernel
theorem dX3_fillHeads_127 : decode cX3_fillHeads 127 = .ok (.iload 7, 2) := by decide +kernel
theorem dX3_fillHeads_129 : decode cX3_fillHeads 129 = .ok (.iaload, 1) := by decide +kernel
theorem dX3_fillHeads_130 : decode cX3_fillHeads 130 = .ok (.iload 5, 2) := by decide +kernel
theorem dX3_fillHeads_132 : decode cX3_fillHeads 132 = .ok (.bipush 10, 2) := by decide +kernel
theorem dX3_fillHeads_134 : decode cX3_fillHeads 134 = .ok (.ishr, 1) := by decide +kernel
theorem dX3_fillHeads_135 : decode cX3_fillHeads 135 = .ok (.iload 6, 2) := by decide +kernel
theorem dX3_fillHeads_137 : decode cX3_fillHeads 137 = .ok (.iadd, 1) := by decide +kernel
theorem dX3_fillHeads_138 : decode cX3_fillHeads 138 = .ok (.invokestatic 123, 3) := by decide +kernel
theorem dX3_fillHeads_141 : decode cX3_fillHeads 141 = .ok (.iastore, 1) := by decide +kernel
theorem dX3_fillHeads_142 : decode cX3_fillHeads 142 = .ok (.iinc 4 1, 3) := by decide +kernel
theorem dX3_fillHeads_145 : decode cX3_fillHeads 145 = .ok (.goto (-93), 3) := by decide +kernel
theorem dX3_fillHeads_148 : decode cX3_fillHeads 148 = .ok (.iinc 3 1, 3) := by decide +kernel
theorem dX3_fillHeads_151 : decode cX3_fillHeads 151 = .ok (.goto (-107), 3) := by decide +kernel
theorem dX3_fillHeads_154 : decode cX3_fillHeads 154 = .ok (.return_, 1) := by decide +kernel
theorem dX3_fillRests_0 : decode cX3_fillRests 0 = .ok (.iconst 0, 1) := by decide +kernel
theorem dX3_fillRests_1 : decode cX3_fillRests 1 = .ok (.istore_n 2, 1) := by decide +kernel
theorem dX3_fillRests_2 : decode cX3_fillRests 2 = .ok (.iload_n 2, 1) := by decide +kernel
theorem dX3_fillRests_3 : decode cX3_fillRests 3 = .ok (.bipush 9, 2) := by decide +kernel
theorem dX3_fillRests_5 : decode cX3_fillRests 5 = .ok (.if_icmp .ge 84, 3) := by decide +kernel
theorem dX3_fillRests_8 : decode cX3_fillRests 8 = .ok (.ldc 86, 2) := by decide +kernel
theorem dX3_fillRests_10 : decode cX3_fillRests 10 = .ok (.istore_n 3, 1) := by decide +kernel
theorem dX3_fillRests_11 : decode cX3_fillRests 11 = .ok (.iconst 0, 1) := by decide +kernel
theorem dX3_fillRests_12 : decode cX3_fillRests 12 = .ok (.istore 4, 2) := by decide +kernel
theorem dX3_fillRests_14 : decode cX3_fillRests 14 = .ok (.iload 4, 2) := by decide +kernel
theorem dX3_fillRests_16 : decode cX3_fillRests 16 = .ok (.bipush 9, 2) := by decide +kernel
theorem dX3_fillRests_18 : decode cX3_fillRests 18 = .ok (.if_icmp .ge 53, 3) := by decide +kernel
theorem dX3_fillRests_21 : decode cX3_fillRests 21 = .ok (.aload_n 0, 1) := by decide +kernel
theorem dX3_fillRests_22 : decode cX3_fillRests 22 = .ok (.getfield 15, 3) := by decide +kernel
theorem dX3_fillRests_25 : decode cX3_fillRests 25 = .ok (.iload_n 1, 1) := by decide +kernel
theorem dX3_fillRests_26 : decode cX3_fillRests 26 = .ok (.bipush 9, 2) := by decide +kernel
theorem dX3_fillRests_28 : decode cX3_fillRests 28 = .ok (.imul, 1) := by decide +kernel
theorem dX3_fillRests_29 : decode cX3_fillRests 29 = .ok (.iload 4, 2) := by decide +kernel
theorem dX3_fillRests_31 : decode cX3_fillRests 31 = .ok (.iadd, 1) := by decide +kernel
theorem dX3_fillRests_32 : decode cX3_fillRests 32 = .ok (.iaload, 1) := by decide +kernel
theorem dX3_fillRests_33 : decode cX3_fillRests 33 = .ok (.istore 5, 2) := by decide +kernel
theorem dX3_fillRests_35 : decode cX3_fillRests 35 = .ok (.iload 5, 2) := by decide +kernel
theorem dX3_fillRests_37 : decode cX3_fillRests 37 = .ok (.ldc 86, 2) := by decide +kernel
theorem dX3_fillRests_39 : decode cX3_fillRests 39 = .ok (.if_icmp .ge 26, 3) := by decide +kernel
theorem dX3_fillRests_42 : decode cX3_fillRests 42 = .ok (.iload_n 3, 1) := by decide +kernel
theorem dX3_fillRests_43 : decode cX3_fillRests 43 = .ok (.iload 5, 2) := by decide +kernel
theorem dX3_fillRests_45 : decode cX3_fillRests 45 = .ok (.aload_n 0, 1) := by decide +kernel
theorem dX3_fillRests_46 : decode cX3_fillRests 46 = .ok (.getfield 33, 3) := by decide +kernel
theorem dX3_fillRests_49 : decode cX3_fillRests 49 = .ok (.getfield 128, 3) := by decide +kernel
theorem dX3_fillRests_52 : decode cX3_fillRests 52 = .ok (.iload_n 2, 1) := by decide +kernel
theorem dX3_fillRests_53 : decode cX3_fillRests 53 = .ok (.bipush 9, 2) := by decide +kernel
theorem dX3_fillRests_55 : decode cX3_fillRests 55 = .ok (.imul, 1) := by decide +kernel
theorem dX3_fillRests_56 : decode cX3_fillRests 56 = .ok (.iload 4, 2) := by decide +kernel
theorem dX3_fillRests_58 : decode cX3_fillRests 58 = .ok (.iadd, 1) := by decide +kernel
theorem dX3_fillRests_59 : decode cX3_fillRests 59 = .ok (.iaload, 1) := by decide +kernel
theorem dX3_fillRests_60 : decode cX3_fillRests 60 = .ok (.iadd, 1) := by decide +kernel
theorem dX3_fillRests_61 : decode cX3_fillRests 61 = .ok (.invokestatic 123, 3) := by decide +kernel
theorem dX3_fillRests_64 : decode cX3_fillRests 64 = .ok (.istore_n 3, 1) := by decide +kernel
theorem dX3_fillRests_65 : decode cX3_fillRests 65 = .ok (.iinc 4 1, 3) := by decide +kernel
theorem dX3_fillRests_68 : decode cX3_fillRests 68 = .ok (.goto (-54), 3) := by decide +kernel
theorem dX3_fillRests_71 : decode cX3_fillRests 71 = .ok (.aload_n 0, 1) := by decide +kernel
theorem dX3_fillRests_72 : decode cX3_fillRests 72 = .ok (.getfield 18, 3) := by decide +kernel
theorem dX3_fillRests_75 : decode cX3_fillRests 75 = .ok (.iload_n 1, 1) := by decide +kernel
theorem dX3_fillRests_76 : decode cX3_fillRests 76 = .ok (.bipush 9, 2) := by decide +kernel
theorem dX3_fillRests_78 : decode cX3_fillRests 78 = .ok (.imul, 1) := by decide +kernel
theorem dX3_fillRests_79 : decode cX3_fillRests 79 = .ok (.iload_n 2, 1) := by decide +kernel
theorem dX3_fillRests_80 : decode cX3_fillRests 80 = .ok (.iadd, 1) := by decide +kernel
theorem dX3_fillRests_81 : decode cX3_fillRests 81 = .ok (.iload_n 3, 1) := by decide +kernel
theorem dX3_fillRests_82 : decode cX3_fillRests 82 = .ok (.iastore, 1) := by decide +kernel
theorem dX3_fillRests_83 : decode cX3_fillRests 83 = .ok (.iinc 2 1, 3) := by decide +kernel
theorem dX3_fillRests_86 : decode cX3_fillRests 86 = .ok (.goto (-84), 3) := by decide +kernel
theorem dX3_fillRests_89 : decode cX3_fillRests 89 = .ok (.return_, 1) := by decide +kernel
theorem dX3_leastHead_0 : decode cX3_leastHead 0 = .ok (.ldc 86, 2) := by decide +kernel
theorem dX3_leastHead_2 : decode cX3_leastHead 2 = .ok (.istore_n 1, 1) := by decide +kernel
theorem dX3_leastHead_3 : decode cX3_leastHead 3 = .ok (.iconst 0, 1) := by decide +kernel
theorem dX3_leastHead_4 : decode cX3_leastHead 4 = .ok (.istore_n 2, 1) := by decide +kernel
theorem dX3_leastHead_5 : decode cX3_leastHead 5 = .ok (.iload_n 2, 1) := by decide +kernel
theorem dX3_leastHead_6 : decode cX3_leastHead 6 = .ok (.bipush 9, 2) := by decide +kernel
theorem dX3_leastHead_8 : decode cX3_leastHead 8 = .ok (.if_icmp .ge 20, 3) := by decide +kernel
theorem dX3_leastHead_11 : decode cX3_leastHead 11 = .ok (.iload_n 1, 1) := by decide +kernel
theorem dX3_leastHead_12 : decode cX3_leastHead 12 = .ok (.aload_n 0, 1) := by decide +kernel
theorem dX3_leastHead_13 : decode cX3_leastHead 13 = .ok (.getfield 15, 3) := by decide +kernel
theorem dX3_leastHead_16 : decode cX3_leastHead 16 = .ok (.iload_n 2, 1) := by decide +kernel
theorem dX3_leastHead_17 : decode cX3_leastHead 17 = .ok (.iaload, 1) := by decide +kernel
theorem dX3_leastHead_18 : decode cX3_leastHead 18 = .ok (.invokestatic 123, 3) := by decide +kernel
theorem dX3_leastHead_21 : decode cX3_leastHead 21 = .ok (.istore_n 1, 1) := by decide +kernel
theorem dX3_leastHead_22 : decode cX3_leastHead 22 = .ok (.iinc 2 1, 3) := by decide +kernel
theorem dX3_leastHead_25 : decode cX3_leastHead 25 = .ok (.goto (-20), 3) := by decide +kernel
theorem dX3_leastHead_28 : decode cX3_leastHead 28 = .ok (.iload_n 1, 1) := by decide +kernel
theorem dX3_leastHead_29 : decode cX3_leastHead 29 = .ok (.ireturn, 1) := by decide +kernel
set_option maxRecDepth 20000 in
theorem ggX3_follow_X3_followPart : GoodIn wsX3_follow wsX3_followPart := goodIn_r _ [11, 12, 2, 13, 3, 14, 6, 15, 16, 17, 18, 19, 20, 21, 22, 23, 24, 25, 26, 27, 10, 28, 29, 5, 30, 31, 32, 33, 34, 35, 36, 37, 38, 39, 40, 41, 42, 43, 44, 45, 46, 4, 47, 48, 49, 50, 51, 52, 53, 54, 55, 56, 57, 58, 59, 60, 61, 62, 63, 64, 65, 66, 67, 68, 69, 70, 71, 72, 73, 74, 75, 76, 77, 78, 79, 80, 81, 82, 83, 84, 85, 86, 87, 88, 89] (by decide +kernel) (by decide +kernel)
set_option maxRecDepth 20000 in
theorem gX3_follow_X3_followPart : GoodIn wsX3_follow (wsV RX3 131 RX3 yX3_followPart wsX3_followPart) := goodIn_app (goodIn_of _ (by decide +kernel)) ggX3_follow_X3_followPart
set_option maxRecDepth 20000 in
theorem ggX3_follow_X1_kindOf : GoodIn wsX3_follow wsX1_kindOf := goodIn_r _ [38, 39, 40, 41, 42, 71, 72, 73, 74, 75, 76, 77, 78, 79, 80, 81, 82, 83, 84, 85, 86, 87, 88, 89] (by decide +kernel) (by decide +kernel)
set_option maxRecDepth 20000 in
theorem gX3_follow_X1_kindOf_n107 : GoodIn wsX3_follow (wsX1_kindOf) := ggX3_follow_X1_kindOf
theorem dX3_follow_0 : decode cX3_follow 0 = .ok (.iconst 0, 1) := by decide +kernel
