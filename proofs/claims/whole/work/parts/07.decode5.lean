theorem dX9_take_56 : decode cX9_take 56 = .ok (.if_icmp .ge 53, 3) := by decide +kernel
theorem dX9_take_59 : decode cX9_take 59 = .ok (.aload_n 0, 1) := by decide +kernel
theorem dX9_take_60 : decode cX9_take 60 = .ok (.getfield 108, 3) := by decide +kernel
theorem dX9_take_63 : decode cX9_take 63 = .ok (.bipush 36, 2) := by decide +kernel
theorem dX9_take_65 : decode cX9_take 65 = .ok (.aload_n 0, 1) := by decide +kernel
theorem dX9_take_66 : decode cX9_take 66 = .ok (.getfield 314, 3) := by decide +kernel
theorem dX9_take_69 : decode cX9_take 69 = .ok (.imul, 1) := by decide +kernel
theorem dX9_take_70 : decode cX9_take 70 = .ok (.iload_n 1, 1) := by decide +kernel
theorem dX9_take_71 : decode cX9_take 71 = .ok (.iadd, 1) := by decide +kernel
theorem dX9_take_72 : decode cX9_take 72 = .ok (.aload_n 0, 1) := by decide +kernel
theorem dX9_take_73 : decode cX9_take 73 = .ok (.getfield 136, 3) := by decide +kernel
theorem dX9_take_76 : decode cX9_take 76 = .ok (.iload_n 1, 1) := by decide +kernel
theorem dX9_take_77 : decode cX9_take 77 = .ok (.iaload, 1) := by decide +kernel
theorem dX9_take_78 : decode cX9_take 78 = .ok (.iastore, 1) := by decide +kernel
theorem dX9_take_79 : decode cX9_take 79 = .ok (.aload_n 0, 1) := by decide +kernel
theorem dX9_take_80 : decode cX9_take 80 = .ok (.getfield 111, 3) := by decide +kernel
theorem dX9_take_83 : decode cX9_take 83 = .ok (.bipush 36, 2) := by decide +kernel
theorem dX9_take_85 : decode cX9_take 85 = .ok (.aload_n 0, 1) := by decide +kernel
theorem dX9_take_86 : decode cX9_take 86 = .ok (.getfield 314, 3) := by decide +kernel
theorem dX9_take_89 : decode cX9_take 89 = .ok (.imul, 1) := by decide +kernel
theorem dX9_take_90 : decode cX9_take 90 = .ok (.iload_n 1, 1) := by decide +kernel
theorem dX9_take_91 : decode cX9_take 91 = .ok (.iadd, 1) := by decide +kernel
theorem dX9_take_92 : decode cX9_take 92 = .ok (.aload_n 0, 1) := by decide +kernel
theorem dX9_take_93 : decode cX9_take 93 = .ok (.aload_n 0, 1) := by decide +kernel
theorem dX9_take_94 : decode cX9_take 94 = .ok (.getfield 136, 3) := by decide +kernel
theorem dX9_take_97 : decode cX9_take 97 = .ok (.iload_n 1, 1) := by decide +kernel
theorem dX9_take_98 : decode cX9_take 98 = .ok (.iaload, 1) := by decide +kernel
theorem dX9_take_99 : decode cX9_take 99 = .ok (.invokevirtual 244, 3) := by decide +kernel
theorem dX9_take_102 : decode cX9_take 102 = .ok (.iastore, 1) := by decide +kernel
theorem dX9_take_103 : decode cX9_take 103 = .ok (.iinc 1 1, 3) := by decide +kernel
theorem dX9_take_106 : decode cX9_take 106 = .ok (.goto (-55), 3) := by decide +kernel
theorem dX9_take_109 : decode cX9_take 109 = .ok (.aload_n 0, 1) := by decide +kernel
theorem dX9_take_110 : decode cX9_take 110 = .ok (.aload_n 0, 1) := by decide +kernel
theorem dX9_take_111 : decode cX9_take 111 = .ok (.getfield 314, 3) := by decide +kernel
theorem dX9_take_114 : decode cX9_take 114 = .ok (.iconst 1, 1) := by decide +kernel
theorem dX9_take_115 : decode cX9_take 115 = .ok (.invokevirtual 317, 3) := by decide +kernel
theorem dX9_take_118 : decode cX9_take 118 = .ok (.aload_n 0, 1) := by decide +kernel
theorem dX9_take_119 : decode cX9_take 119 = .ok (.dup, 1) := by decide +kernel
theorem dX9_take_120 : decode cX9_take 120 = .ok (.getfield 314, 3) := by decide +kernel
theorem dX9_take_123 : decode cX9_take 123 = .ok (.iconst 1, 1) := by decide +kernel
theorem dX9_take_124 : decode cX9_take 124 = .ok (.iadd, 1) := by decide +kernel
theorem dX9_take_125 : decode cX9_take 125 = .ok (.putfield 314, 3) := by decide +kernel
theorem dX9_take_128 : decode cX9_take 128 = .ok (.aload_n 0, 1) := by decide +kernel
theorem dX9_take_129 : decode cX9_take 129 = .ok (.getfield 232, 3) := by decide +kernel
theorem dX9_take_132 : decode cX9_take 132 = .ok (.istore_n 1, 1) := by decide +kernel
theorem dX9_take_133 : decode cX9_take 133 = .ok (.aload_n 0, 1) := by decide +kernel
theorem dX9_take_134 : decode cX9_take 134 = .ok (.iconst 0, 1) := by decide +kernel
theorem dX9_take_135 : decode cX9_take 135 = .ok (.putfield 187, 3) := by decide +kernel
theorem dX9_take_138 : decode cX9_take 138 = .ok (.aload_n 0, 1) := by decide +kernel
theorem dX9_take_139 : decode cX9_take 139 = .ok (.invokevirtual 305, 3) := by decide +kernel
theorem dX9_take_142 : decode cX9_take 142 = .ok (.aload_n 0, 1) := by decide +kernel
theorem dX9_take_143 : decode cX9_take 143 = .ok (.iconst 0, 1) := by decide +kernel
theorem dX9_take_144 : decode cX9_take 144 = .ok (.putfield 308, 3) := by decide +kernel
theorem dX9_take_147 : decode cX9_take 147 = .ok (.aload_n 0, 1) := by decide +kernel
theorem dX9_take_148 : decode cX9_take 148 = .ok (.invokevirtual 177, 3) := by decide +kernel
theorem dX9_take_151 : decode cX9_take 151 = .ok (.iload_n 1, 1) := by decide +kernel
theorem dX9_take_152 : decode cX9_take 152 = .ok (.ireturn, 1) := by decide +kernel
theorem dX9_learn_0 : decode cX9_learn 0 = .ok (.iconst 0, 1) := by decide +kernel
theorem dX9_learn_1 : decode cX9_learn 1 = .ok (.istore_n 3, 1) := by decide +kernel
theorem dX9_learn_2 : decode cX9_learn 2 = .ok (.iload_n 3, 1) := by decide +kernel
theorem dX9_learn_3 : decode cX9_learn 3 = .ok (.aload_n 0, 1) := by decide +kernel
theorem dX9_learn_4 : decode cX9_learn 4 = .ok (.getfield 105, 3) := by decide +kernel
theorem dX9_learn_7 : decode cX9_learn 7 = .ok (.iload_n 1, 1) := by decide +kernel
theorem dX9_learn_8 : decode cX9_learn 8 = .ok (.iaload, 1) := by decide +kernel
theorem dX9_learn_9 : decode cX9_learn 9 = .ok (.if_icmp .ge 86, 3) := by decide +kernel
theorem dX9_learn_12 : decode cX9_learn 12 = .ok (.aload_n 0, 1) := by decide +kernel
theorem dX9_learn_13 : decode cX9_learn 13 = .ok (.getfield 108, 3) := by decide +kernel
theorem dX9_learn_16 : decode cX9_learn 16 = .ok (.bipush 36, 2) := by decide +kernel
theorem dX9_learn_18 : decode cX9_learn 18 = .ok (.iload_n 1, 1) := by decide +kernel
theorem dX9_learn_19 : decode cX9_learn 19 = .ok (.imul, 1) := by decide +kernel
theorem dX9_learn_20 : decode cX9_learn 20 = .ok (.iload_n 3, 1) := by decide +kernel
theorem dX9_learn_21 : decode cX9_learn 21 = .ok (.iadd, 1) := by decide +kernel
theorem dX9_learn_22 : decode cX9_learn 22 = .ok (.iaload, 1) := by decide +kernel
theorem dX9_learn_23 : decode cX9_learn 23 = .ok (.bipush 60, 2) := by decide +kernel
theorem dX9_learn_25 : decode cX9_learn 25 = .ok (.if_icmp .eq 23, 3) := by decide +kernel
theorem dX9_learn_28 : decode cX9_learn 28 = .ok (.aload_n 0, 1) := by decide +kernel
theorem dX9_learn_29 : decode cX9_learn 29 = .ok (.getfield 35, 3) := by decide +kernel
theorem dX9_learn_32 : decode cX9_learn 32 = .ok (.aload_n 0, 1) := by decide +kernel
theorem dX9_learn_33 : decode cX9_learn 33 = .ok (.getfield 108, 3) := by decide +kernel
theorem dX9_learn_36 : decode cX9_learn 36 = .ok (.bipush 36, 2) := by decide +kernel
theorem dX9_learn_38 : decode cX9_learn 38 = .ok (.iload_n 1, 1) := by decide +kernel
theorem dX9_learn_39 : decode cX9_learn 39 = .ok (.imul, 1) := by decide +kernel
theorem dX9_learn_40 : decode cX9_learn 40 = .ok (.iload_n 3, 1) := by decide +kernel
theorem dX9_learn_41 : decode cX9_learn 41 = .ok (.iadd, 1) := by decide +kernel
theorem dX9_learn_42 : decode cX9_learn 42 = .ok (.iaload, 1) := by decide +kernel
theorem dX9_learn_43 : decode cX9_learn 43 = .ok (.dup2, 1) := by decide +kernel
theorem dX9_learn_44 : decode cX9_learn 44 = .ok (.iaload, 1) := by decide +kernel
theorem dX9_learn_45 : decode cX9_learn 45 = .ok (.iload_n 2, 1) := by decide +kernel
theorem dX9_learn_46 : decode cX9_learn 46 = .ok (.iadd, 1) := by decide +kernel
theorem dX9_learn_47 : decode cX9_learn 47 = .ok (.iastore, 1) := by decide +kernel
theorem dX9_learn_48 : decode cX9_learn 48 = .ok (.iload_n 3, 1) := by decide +kernel
theorem dX9_learn_49 : decode cX9_learn 49 = .ok (.ifCond .le 40, 3) := by decide +kernel
theorem dX9_learn_52 : decode cX9_learn 52 = .ok (.aload_n 0, 1) := by decide +kernel
theorem dX9_learn_53 : decode cX9_learn 53 = .ok (.getfield 60, 3) := by decide +kernel
theorem dX9_learn_56 : decode cX9_learn 56 = .ok (.bipush 9, 2) := by decide +kernel
theorem dX9_learn_58 : decode cX9_learn 58 = .ok (.aload_n 0, 1) := by decide +kernel
theorem dX9_learn_59 : decode cX9_learn 59 = .ok (.getfield 111, 3) := by decide +kernel
theorem dX9_learn_62 : decode cX9_learn 62 = .ok (.bipush 36, 2) := by decide +kernel
theorem dX9_learn_64 : decode cX9_learn 64 = .ok (.iload_n 1, 1) := by decide +kernel
theorem dX9_learn_65 : decode cX9_learn 65 = .ok (.imul, 1) := by decide +kernel
theorem dX9_learn_66 : decode cX9_learn 66 = .ok (.iload_n 3, 1) := by decide +kernel
theorem dX9_learn_67 : decode cX9_learn 67 = .ok (.iadd, 1) := by decide +kernel
theorem dX9_learn_68 : decode cX9_learn 68 = .ok (.iconst 1, 1) := by decide +kernel
theorem dX9_learn_69 : decode cX9_learn 69 = .ok (.isub, 1) := by decide +kernel
theorem dX9_learn_70 : decode cX9_learn 70 = .ok (.iaload, 1) := by decide +kernel
theorem dX9_learn_71 : decode cX9_learn 71 = .ok (.imul, 1) := by decide +kernel
theorem dX9_learn_72 : decode cX9_learn 72 = .ok (.aload_n 0, 1) := by decide +kernel
theorem dX9_learn_73 : decode cX9_learn 73 = .ok (.getfield 111, 3) := by decide +kernel
theorem dX9_learn_76 : decode cX9_learn 76 = .ok (.bipush 36, 2) := by decide +kernel
theorem dX9_learn_78 : decode cX9_learn 78 = .ok (.iload_n 1, 1) := by decide +kernel
theorem dX9_learn_79 : decode cX9_learn 79 = .ok (.imul, 1) := by decide +kernel
theorem dX9_learn_80 : decode cX9_learn 80 = .ok (.iload_n 3, 1) := by decide +kernel
theorem dX9_learn_81 : decode cX9_learn 81 = .ok (.iadd, 1) := by decide +kernel
theorem dX9_learn_82 : decode cX9_learn 82 = .ok (.iaload, 1) := by decide +kernel
theorem dX9_learn_83 : decode cX9_learn 83 = .ok (.iadd, 1) := by decide +kernel
theorem dX9_learn_84 : decode cX9_learn 84 = .ok (.dup2, 1) := by decide +kernel
theorem dX9_learn_85 : decode cX9_learn 85 = .ok (.iaload, 1) := by decide +kernel
theorem dX9_learn_86 : decode cX9_learn 86 = .ok (.iload_n 2, 1) := by decide +kernel
theorem dX9_learn_87 : decode cX9_learn 87 = .ok (.iadd, 1) := by decide +kernel
theorem dX9_learn_88 : decode cX9_learn 88 = .ok (.iastore, 1) := by decide +kernel
theorem dX9_learn_89 : decode cX9_learn 89 = .ok (.iinc 3 1, 3) := by decide +kernel
theorem dX9_learn_92 : decode cX9_learn 92 = .ok (.goto (-90), 3) := by decide +kernel
theorem dX9_learn_95 : decode cX9_learn 95 = .ok (.return_, 1) := by decide +kernel
set_option maxRecDepth 20000 in
theorem ggX9_unlearn_X9_learn : GoodIn wsX9_unlearn wsX9_learn := goodIn_r _ [8, 9, 10, 11, 12, 13, 14, 15, 16, 17, 18, 19, 20, 21, 22, 23, 24, 25, 26, 27, 28, 29, 30, 31, 32, 33, 34, 35, 36, 37, 38, 39, 40, 41, 42, 43, 44, 45, 46, 47, 48, 49, 50, 51, 52, 53, 54, 55, 56, 57, 58, 59, 60, 61, 62, 63, 64, 65, 66, 67, 68, 69, 70, 71, 72, 73, 74] (by decide +kernel) (by decide +kernel)
set_option maxRecDepth 20000 in
theorem gX9_unlearn_X9_learn : GoodIn wsX9_unlearn (wsV RX9 317 RX9 yX9_learn wsX9_learn) := goodIn_app (goodIn_of _ (by decide +kernel)) ggX9_unlearn_X9_learn
theorem dX9_unlearn_0 : decode cX9_unlearn 0 = .ok (.aload_n 0, 1) := by decide +kernel
theorem dX9_unlearn_1 : decode cX9_unlearn 1 = .ok (.iconst 0, 1) := by decide +kernel
theorem dX9_unlearn_2 : decode cX9_unlearn 2 = .ok (.putfield 151, 3) := by decide +kernel
theorem dX9_unlearn_5 : decode cX9_unlearn 5 = .ok (.aload_n 0, 1) := by decide +kernel
theorem dX9_unlearn_6 : decode cX9_unlearn 6 = .ok (.getfield 314, 3) := by decide +kernel
theorem dX9_unlearn_9 : decode cX9_unlearn 9 = .ok (.ifCond .ne 5, 3) := by decide +kernel
theorem dX9_unlearn_12 : decode cX9_unlearn 12 = .ok (.iconst (-1), 1) := by decide +kernel
theorem dX9_unlearn_13 : decode cX9_unlearn 13 = .ok (.ireturn, 1) := by decide +kernel
theorem dX9_unlearn_14 : decode cX9_unlearn 14 = .ok (.aload_n 0, 1) := by decide +kernel
theorem dX9_unlearn_15 : decode cX9_unlearn 15 = .ok (.dup, 1) := by decide +kernel
theorem dX9_unlearn_16 : decode cX9_unlearn 16 = .ok (.getfield 314, 3) := by decide +kernel
theorem dX9_unlearn_19 : decode cX9_unlearn 19 = .ok (.iconst 1, 1) := by decide +kernel
theorem dX9_unlearn_20 : decode cX9_unlearn 20 = .ok (.isub, 1) := by decide +kernel
theorem dX9_unlearn_21 : decode cX9_unlearn 21 = .ok (.putfield 314, 3) := by decide +kernel
theorem dX9_unlearn_24 : decode cX9_unlearn 24 = .ok (.aload_n 0, 1) := by decide +kernel
theorem dX9_unlearn_25 : decode cX9_unlearn 25 = .ok (.aload_n 0, 1) := by decide +kernel
theorem dX9_unlearn_26 : decode cX9_unlearn 26 = .ok (.getfield 314, 3) := by decide +kernel
theorem dX9_unlearn_29 : decode cX9_unlearn 29 = .ok (.iconst (-1), 1) := by decide +kernel
theorem dX9_unlearn_30 : decode cX9_unlearn 30 = .ok (.invokevirtual 317, 3) := by decide +kernel
theorem dX9_unlearn_33 : decode cX9_unlearn 33 = .ok (.aload_n 0, 1) := by decide +kernel
theorem dX9_unlearn_34 : decode cX9_unlearn 34 = .ok (.iconst 0, 1) := by decide +kernel
theorem dX9_unlearn_35 : decode cX9_unlearn 35 = .ok (.putfield 154, 3) := by decide +kernel
theorem dX9_unlearn_38 : decode cX9_unlearn 38 = .ok (.aload_n 0, 1) := by decide +kernel
theorem dX9_unlearn_39 : decode cX9_unlearn 39 = .ok (.getfield 314, 3) := by decide +kernel
theorem dX9_unlearn_42 : decode cX9_unlearn 42 = .ok (.ireturn, 1) := by decide +kernel
set_option maxRecDepth 20000 in
theorem ggX9_count_X9_fail : GoodIn wsX9_count wsX9_fail := goodIn_r _ [8, 1, 9, 10, 11, 12, 13, 14, 15, 16, 17, 18, 19, 20, 21, 22, 23, 24, 25, 26, 27, 28, 29, 30, 31, 32, 33, 34, 35, 36, 37, 38, 39, 40, 41, 42, 43, 44, 45, 46, 47, 48, 49, 50, 51, 52, 53, 54, 55, 56, 57, 58, 59, 60, 61, 62, 63, 64, 65, 66, 67, 68, 69] (by decide +kernel) (by decide +kernel)
set_option maxRecDepth 20000 in
theorem gX9_count_X9_fail : GoodIn wsX9_count (wsV RX9 173 RX9 yX9_fail wsX9_fail) := goodIn_app (goodIn_of _ (by decide +kernel)) ggX9_count_X9_fail
theorem dX9_count_0 : decode cX9_count 0 = .ok (.aload_n 0, 1) := by decide +kernel
theorem dX9_count_1 : decode cX9_count 1 = .ok (.iconst 0, 1) := by decide +kernel
theorem dX9_count_2 : decode cX9_count 2 = .ok (.putfield 151, 3) := by decide +kernel
theorem dX9_count_5 : decode cX9_count 5 = .ok (.iload_n 1, 1) := by decide +kernel
theorem dX9_count_6 : decode cX9_count 6 = .ok (.ifCond .lt 11, 3) := by decide +kernel
theorem dX9_count_9 : decode cX9_count 9 = .ok (.iload_n 1, 1) := by decide +kernel
theorem dX9_count_10 : decode cX9_count 10 = .ok (.aload_n 0, 1) := by decide +kernel
theorem dX9_count_11 : decode cX9_count 11 = .ok (.getfield 180, 3) := by decide +kernel
theorem dX9_count_14 : decode cX9_count 14 = .ok (.if_icmp .lt 10, 3) := by decide +kernel
theorem dX9_count_17 : decode cX9_count 17 = .ok (.aload_n 0, 1) := by decide +kernel
theorem dX9_count_18 : decode cX9_count 18 = .ok (.invokevirtual 173, 3) := by decide +kernel
theorem dX9_count_21 : decode cX9_count 21 = .ok (.goto 9, 3) := by decide +kernel
theorem dX9_count_24 : decode cX9_count 24 = .ok (.aload_n 0, 1) := by decide +kernel
theorem dX9_count_25 : decode cX9_count 25 = .ok (.getfield 35, 3) := by decide +kernel
theorem dX9_count_28 : decode cX9_count 28 = .ok (.iload_n 1, 1) := by decide +kernel
theorem dX9_count_29 : decode cX9_count 29 = .ok (.iaload, 1) := by decide +kernel
theorem dX9_count_30 : decode cX9_count 30 = .ok (.ireturn, 1) := by decide +kernel
set_option maxRecDepth 20000 in
theorem ggX9_pairs_X9_fail : GoodIn wsX9_pairs wsX9_fail := goodIn_r _ [7, 1, 8, 9, 10, 11, 12, 13, 14, 15, 16, 17, 18, 19, 20, 21, 22, 23, 24, 25, 26, 27, 28, 29, 30, 31, 32, 33, 34, 35, 36, 37, 38, 39, 40, 41, 42, 43, 44, 45, 46, 47, 48, 49, 50, 51, 52, 53, 54, 55, 56, 57, 58, 59, 60, 61, 62, 63, 64, 65, 66, 67, 68] (by decide +kernel) (by decide +kernel)
set_option maxRecDepth 20000 in
theorem gX9_pairs_X9_fail : GoodIn wsX9_pairs (wsV RX9 173 RX9 yX9_fail wsX9_fail) := goodIn_app (goodIn_of _ (by decide +kernel)) ggX9_pairs_X9_fail
theorem dX9_pairs_0 : decode cX9_pairs 0 = .ok (.aload_n 0, 1) := by decide +kernel
theorem dX9_pairs_1 : decode cX9_pairs 1 = .ok (.iconst 0, 1) := by decide +kernel
theorem dX9_pairs_2 : decode cX9_pairs 2 = .ok (.putfield 151, 3) := by decide +kernel
theorem dX9_pairs_5 : decode cX9_pairs 5 = .ok (.iload_n 1, 1) := by decide +kernel
theorem dX9_pairs_6 : decode cX9_pairs 6 = .ok (.ifCond .lt 19, 3) := by decide +kernel
theorem dX9_pairs_9 : decode cX9_pairs 9 = .ok (.iload_n 1, 1) := by decide +kernel
theorem dX9_pairs_10 : decode cX9_pairs 10 = .ok (.bipush 9, 2) := by decide +kernel
theorem dX9_pairs_12 : decode cX9_pairs 12 = .ok (.if_icmp .ge 13, 3) := by decide +kernel
theorem dX9_pairs_15 : decode cX9_pairs 15 = .ok (.iload_n 2, 1) := by decide +kernel
theorem dX9_pairs_16 : decode cX9_pairs 16 = .ok (.ifCond .lt 9, 3) := by decide +kernel
theorem dX9_pairs_19 : decode cX9_pairs 19 = .ok (.iload_n 2, 1) := by decide +kernel
theorem dX9_pairs_20 : decode cX9_pairs 20 = .ok (.bipush 9, 2) := by decide +kernel
theorem dX9_pairs_22 : decode cX9_pairs 22 = .ok (.if_icmp .lt 10, 3) := by decide +kernel
theorem dX9_pairs_25 : decode cX9_pairs 25 = .ok (.aload_n 0, 1) := by decide +kernel
theorem dX9_pairs_26 : decode cX9_pairs 26 = .ok (.invokevirtual 173, 3) := by decide +kernel
theorem dX9_pairs_29 : decode cX9_pairs 29 = .ok (.goto 14, 3) := by decide +kernel
theorem dX9_pairs_32 : decode cX9_pairs 32 = .ok (.aload_n 0, 1) := by decide +kernel
theorem dX9_pairs_33 : decode cX9_pairs 33 = .ok (.getfield 60, 3) := by decide +kernel
theorem dX9_pairs_36 : decode cX9_pairs 36 = .ok (.bipush 9, 2) := by decide +kernel
theorem dX9_pairs_38 : decode cX9_pairs 38 = .ok (.iload_n 1, 1) := by decide +kernel
theorem dX9_pairs_39 : decode cX9_pairs 39 = .ok (.imul, 1) := by decide +kernel
theorem dX9_pairs_40 : decode cX9_pairs 40 = .ok (.iload_n 2, 1) := by decide +kernel
theorem dX9_pairs_41 : decode cX9_pairs 41 = .ok (.iadd, 1) := by decide +kernel
theorem dX9_pairs_42 : decode cX9_pairs 42 = .ok (.iaload, 1) := by decide +kernel
theorem dX9_pairs_43 : decode cX9_pairs 43 = .ok (.ireturn, 1) := by decide +kernel
set_option maxRecDepth 20000 in
theorem ggX9_about_X9_fail : GoodIn wsX9_about wsX9_fail := goodIn_r _ [11, 1, 12, 13, 14, 15, 16, 17, 18, 19, 20, 21, 22, 23, 24, 25, 26, 27, 28, 29, 30, 31, 32, 33, 34, 35, 36, 37, 38, 39, 40, 41, 42, 43, 44, 45, 46, 47, 48, 49, 50, 51, 52, 53, 54, 55, 56, 57, 58, 59, 60, 61, 62, 63, 64, 65, 66, 67, 68, 69, 70, 71, 72] (by decide +kernel) (by decide +kernel)
set_option maxRecDepth 20000 in
theorem gX9_about_X9_fail : GoodIn wsX9_about (wsV RX9 173 RX9 yX9_fail wsX9_fail) := goodIn_app (goodIn_of _ (by decide +kernel)) ggX9_about_X9_fail
theorem dX9_about_0 : decode cX9_about 0 = .ok (.aload_n 0, 1) := by decide +kernel
theorem dX9_about_1 : decode cX9_about 1 = .ok (.iconst 0, 1) := by decide +kernel
theorem dX9_about_2 : decode cX9_about 2 = .ok (.putfield 151, 3) := by decide +kernel
theorem dX9_about_5 : decode cX9_about 5 = .ok (.iload_n 1, 1) := by decide +kernel
theorem dX9_about_6 : decode cX9_about 6 = .ok (.tableswitch 59 0 4 #[34, 39, 44, 49, 54], 34) := by decide +kernel
theorem dX9_about_40 : decode cX9_about 40 = .ok (.aload_n 0, 1) := by decide +kernel
theorem dX9_about_41 : decode cX9_about 41 = .ok (.getfield 180, 3) := by decide +kernel
theorem dX9_about_44 : decode cX9_about 44 = .ok (.ireturn, 1) := by decide +kernel
theorem dX9_about_45 : decode cX9_about 45 = .ok (.aload_n 0, 1) := by decide +kernel
theorem dX9_about_46 : decode cX9_about 46 = .ok (.getfield 183, 3) := by decide +kernel
theorem dX9_about_49 : decode cX9_about 49 = .ok (.ireturn, 1) := by decide +kernel
theorem dX9_about_50 : decode cX9_about 50 = .ok (.aload_n 0, 1) := by decide +kernel
theorem dX9_about_51 : decode cX9_about 51 = .ok (.getfield 308, 3) := by decide +kernel
theorem dX9_about_54 : decode cX9_about 54 = .ok (.ireturn, 1) := by decide +kernel
theorem dX9_about_55 : decode cX9_about 55 = .ok (.aload_n 0, 1) := by decide +kernel
theorem dX9_about_56 : decode cX9_about 56 = .ok (.getfield 314, 3) := by decide +kernel
theorem dX9_about_59 : decode cX9_about 59 = .ok (.ireturn, 1) := by decide +kernel
theorem dX9_about_60 : decode cX9_about 60 = .ok (.aload_n 0, 1) := by decide +kernel
theorem dX9_about_61 : decode cX9_about 61 = .ok (.getfield 216, 3) := by decide +kernel
theorem dX9_about_64 : decode cX9_about 64 = .ok (.ireturn, 1) := by decide +kernel
theorem dX9_about_65 : decode cX9_about 65 = .ok (.aload_n 0, 1) := by decide +kernel
theorem dX9_about_66 : decode cX9_about 66 = .ok (.invokevirtual 173, 3) := by decide +kernel
theorem dX9_about_69 : decode cX9_about 69 = .ok (.ireturn, 1) := by decide +kernel
theorem dJ9_max_7cf53_0 : decode cJ9_max_7cf53 0 = .ok (.iload_n 0, 1) := by decide +kernel
theorem dJ9_max_7cf53_1 : decode cJ9_max_7cf53 1 = .ok (.iload_n 1, 1) := by decide +kernel
theorem dJ9_max_7cf53_2 : decode cJ9_max_7cf53 2 = .ok (.if_icmp .lt 7, 3) := by decide +kernel
theorem dJ9_max_7cf53_5 : decode cJ9_max_7cf53 5 = .ok (.iload_n 0, 1) := by decide +kernel
theorem dJ9_max_7cf53_6 : decode cJ9_max_7cf53 6 = .ok (.goto 4, 3) := by decide +kernel
theorem dJ9_max_7cf53_9 : decode cJ9_max_7cf53 9 = .ok (.iload_n 1, 1) := by decide +kernel
theorem dJ9_max_7cf53_10 : decode cJ9_max_7cf53 10 = .ok (.ireturn, 1) := by decide +kernel
theorem dJ9_min_7cf53_0 : decode cJ9_min_7cf53 0 = .ok (.iload_n 0, 1) := by decide +kernel
theorem dJ9_min_7cf53_1 : decode cJ9_min_7cf53 1 = .ok (.iload_n 1, 1) := by decide +kernel
theorem dJ9_min_7cf53_2 : decode cJ9_min_7cf53 2 = .ok (.if_icmp .gt 7, 3) := by decide +kernel
theorem dJ9_min_7cf53_5 : decode cJ9_min_7cf53 5 = .ok (.iload_n 0, 1) := by decide +kernel
theorem dJ9_min_7cf53_6 : decode cJ9_min_7cf53 6 = .ok (.goto 4, 3) := by decide +kernel
theorem dJ9_min_7cf53_9 : decode cJ9_min_7cf53 9 = .ok (.iload_n 1, 1) := by decide +kernel
theorem dJ9_min_7cf53_10 : decode cJ9_min_7cf53 10 = .ok (.ireturn, 1) := by decide +kernel
theorem dJ7_fill_53178_0 : decode cJ7_fill_53178 0 = .ok (.iconst 0, 1) := by decide +kernel
theorem dJ7_fill_53178_1 : decode cJ7_fill_53178 1 = .ok (.istore_n 2, 1) := by decide +kernel
theorem dJ7_fill_53178_2 : decode cJ7_fill_53178 2 = .ok (.aload_n 0, 1) := by decide +kernel
theorem dJ7_fill_53178_3 : decode cJ7_fill_53178 3 = .ok (.arraylength, 1) := by decide +kernel
theorem dJ7_fill_53178_4 : decode cJ7_fill_53178 4 = .ok (.istore_n 3, 1) := by decide +kernel
theorem dJ7_fill_53178_5 : decode cJ7_fill_53178 5 = .ok (.iload_n 2, 1) := by decide +kernel
theorem dJ7_fill_53178_6 : decode cJ7_fill_53178 6 = .ok (.iload_n 3, 1) := by decide +kernel
theorem dJ7_fill_53178_7 : decode cJ7_fill_53178 7 = .ok (.if_icmp .ge 13, 3) := by decide +kernel
theorem dJ7_fill_53178_10 : decode cJ7_fill_53178 10 = .ok (.aload_n 0, 1) := by decide +kernel
theorem dJ7_fill_53178_11 : decode cJ7_fill_53178 11 = .ok (.iload_n 2, 1) := by decide +kernel
theorem dJ7_fill_53178_12 : decode cJ7_fill_53178 12 = .ok (.iload_n 1, 1) := by decide +kernel
theorem dJ7_fill_53178_13 : decode cJ7_fill_53178 13 = .ok (.iastore, 1) := by decide +kernel
theorem dJ7_fill_53178_14 : decode cJ7_fill_53178 14 = .ok (.iinc 2 1, 3) := by decide +kernel
theorem dJ7_fill_53178_17 : decode cJ7_fill_53178 17 = .ok (.goto (-12), 3) := by decide +kernel
theorem dJ7_fill_53178_20 : decode cJ7_fill_53178 20 = .ok (.return_, 1) := by decide +kernel
theorem dL_spelling_0 : decode cL_spelling 0 = .ok (.aload 5, 2) := by decide +kernel
theorem dL_spelling_2 : decode cL_spelling 2 = .ok (.iconst 0, 1) := by decide +kernel
theorem dL_spelling_3 : decode cL_spelling 3 = .ok (.aload_n 0, 1) := by decide +kernel
theorem dL_spelling_4 : decode cL_spelling 4 = .ok (.iload_n 1, 1) := by decide +kernel
theorem dL_spelling_5 : decode cL_spelling 5 = .ok (.lload_n 2, 1) := by decide +kernel
theorem dL_spelling_6 : decode cL_spelling 6 = .ok (.iload 4, 2) := by decide +kernel
theorem dL_spelling_8 : decode cL_spelling 8 = .ok (.invokevirtual 7, 3) := by decide +kernel
theorem dL_spelling_11 : decode cL_spelling 11 = .ok (.i2l, 1) := by decide +kernel
theorem dL_spelling_12 : decode cL_spelling 12 = .ok (.lastore, 1) := by decide +kernel
theorem dL_spelling_13 : decode cL_spelling 13 = .ok (.goto 7, 3) := by decide +kernel
theorem dL_spelling_16 : decode cL_spelling 16 = .ok (.astore 6, 2) := by decide +kernel
theorem dL_spelling_18 : decode cL_spelling 18 = .ok (.iconst 1, 1) := by decide +kernel
theorem dL_spelling_19 : decode cL_spelling 19 = .ok (.ireturn, 1) := by decide +kernel
theorem dL_spelling_20 : decode cL_spelling 20 = .ok (.iconst 0, 1) := by decide +kernel
theorem dL_spelling_21 : decode cL_spelling 21 = .ok (.ireturn, 1) := by decide +kernel
theorem dL_word_0 : decode cL_word 0 = .ok (.aload 7, 2) := by decide +kernel
theorem dL_word_2 : decode cL_word 2 = .ok (.iconst 0, 1) := by decide +kernel
theorem dL_word_3 : decode cL_word 3 = .ok (.aload_n 0, 1) := by decide +kernel
theorem dL_word_4 : decode cL_word 4 = .ok (.lload_n 1, 1) := by decide +kernel
theorem dL_word_5 : decode cL_word 5 = .ok (.lload_n 3, 1) := by decide +kernel
theorem dL_word_6 : decode cL_word 6 = .ok (.iload 5, 2) := by decide +kernel
theorem dL_word_8 : decode cL_word 8 = .ok (.iload 6, 2) := by decide +kernel
theorem dL_word_10 : decode cL_word 10 = .ok (.invokevirtual 15, 3) := by decide +kernel
theorem dL_word_13 : decode cL_word 13 = .ok (.i2l, 1) := by decide +kernel
theorem dL_word_14 : decode cL_word 14 = .ok (.lastore, 1) := by decide +kernel
theorem dL_word_15 : decode cL_word 15 = .ok (.goto 7, 3) := by decide +kernel
theorem dL_word_18 : decode cL_word 18 = .ok (.astore 8, 2) := by decide +kernel
theorem dL_word_20 : decode cL_word 20 = .ok (.iconst 1, 1) := by decide +kernel
theorem dL_word_21 : decode cL_word 21 = .ok (.ireturn, 1) := by decide +kernel
theorem dL_word_22 : decode cL_word 22 = .ok (.iconst 0, 1) := by decide +kernel
theorem dL_word_23 : decode cL_word 23 = .ok (.ireturn, 1) := by decide +kernel
theorem dL_ending_0 : decode cL_ending 0 = .ok (.aload 6, 2) := by decide +kernel
theorem dL_ending_2 : decode cL_ending 2 = .ok (.iconst 0, 1) := by decide +kernel
theorem dL_ending_3 : decode cL_ending 3 = .ok (.aload_n 0, 1) := by decide +kernel
theorem dL_ending_4 : decode cL_ending 4 = .ok (.lload_n 1, 1) := by decide +kernel
theorem dL_ending_5 : decode cL_ending 5 = .ok (.iload_n 3, 1) := by decide +kernel
theorem dL_ending_6 : decode cL_ending 6 = .ok (.iload 4, 2) := by decide +kernel
theorem dL_ending_8 : decode cL_ending 8 = .ok (.iload 5, 2) := by decide +kernel
theorem dL_ending_10 : decode cL_ending 10 = .ok (.invokevirtual 19, 3) := by decide +kernel
theorem dL_ending_13 : decode cL_ending 13 = .ok (.i2l, 1) := by decide +kernel
theorem dL_ending_14 : decode cL_ending 14 = .ok (.lastore, 1) := by decide +kernel
theorem dL_ending_15 : decode cL_ending 15 = .ok (.goto 7, 3) := by decide +kernel
theorem dL_ending_18 : decode cL_ending 18 = .ok (.astore 7, 2) := by decide +kernel
theorem dL_ending_20 : decode cL_ending 20 = .ok (.iconst 1, 1) := by decide +kernel
theorem dL_ending_21 : decode cL_ending 21 = .ok (.ireturn, 1) := by decide +kernel
theorem dL_ending_22 : decode cL_ending 22 = .ok (.iconst 0, 1) := by decide +kernel
theorem dL_ending_23 : decode cL_ending 23 = .ok (.ireturn, 1) := by decide +kernel
theorem dL_price_0 : decode cL_price 0 = .ok (.aload_n 3, 1) := by decide +kernel
theorem dL_price_1 : decode cL_price 1 = .ok (.iconst 0, 1) := by decide +kernel
theorem dL_price_2 : decode cL_price 2 = .ok (.aload_n 0, 1) := by decide +kernel
theorem dL_price_3 : decode cL_price 3 = .ok (.iload_n 1, 1) := by decide +kernel
theorem dL_price_4 : decode cL_price 4 = .ok (.iload_n 2, 1) := by decide +kernel
theorem dL_price_5 : decode cL_price 5 = .ok (.invokevirtual 23, 3) := by decide +kernel
theorem dL_price_8 : decode cL_price 8 = .ok (.i2l, 1) := by decide +kernel
theorem dL_price_9 : decode cL_price 9 = .ok (.lastore, 1) := by decide +kernel
theorem dL_price_10 : decode cL_price 10 = .ok (.goto 7, 3) := by decide +kernel
theorem dL_price_13 : decode cL_price 13 = .ok (.astore 4, 2) := by decide +kernel
theorem dL_price_15 : decode cL_price 15 = .ok (.iconst 1, 1) := by decide +kernel
theorem dL_price_16 : decode cL_price 16 = .ok (.ireturn, 1) := by decide +kernel
theorem dL_price_17 : decode cL_price 17 = .ok (.iconst 0, 1) := by decide +kernel
theorem dL_price_18 : decode cL_price 18 = .ok (.ireturn, 1) := by decide +kernel
theorem dL_step_0 : decode cL_step 0 = .ok (.aload 4, 2) := by decide +kernel
theorem dL_step_2 : decode cL_step 2 = .ok (.iconst 0, 1) := by decide +kernel
theorem dL_step_3 : decode cL_step 3 = .ok (.aload_n 0, 1) := by decide +kernel
theorem dL_step_4 : decode cL_step 4 = .ok (.iload_n 1, 1) := by decide +kernel
theorem dL_step_5 : decode cL_step 5 = .ok (.iload_n 2, 1) := by decide +kernel
theorem dL_step_6 : decode cL_step 6 = .ok (.iload_n 3, 1) := by decide +kernel
theorem dL_step_7 : decode cL_step 7 = .ok (.invokevirtual 27, 3) := by decide +kernel
theorem dL_step_10 : decode cL_step 10 = .ok (.i2l, 1) := by decide +kernel
theorem dL_step_11 : decode cL_step 11 = .ok (.lastore, 1) := by decide +kernel
theorem dL_step_12 : decode cL_step 12 = .ok (.goto 7, 3) := by decide +kernel
theorem dL_step_15 : decode cL_step 15 = .ok (.astore 5, 2) := by decide +kernel
theorem dL_step_17 : decode cL_step 17 = .ok (.iconst 1, 1) := by decide +kernel
theorem dL_step_18 : decode cL_step 18 = .ok (.ireturn, 1) := by decide +kernel
theorem dL_step_19 : decode cL_step 19 = .ok (.iconst 0, 1) := by decide +kernel
theorem dL_step_20 : decode cL_step 20 = .ok (.ireturn, 1) := by decide +kernel
theorem dL_type_0 : decode cL_type 0 = .ok (.aload_n 2, 1) := by decide +kernel
theorem dL_type_1 : decode cL_type 1 = .ok (.iconst 0, 1) := by decide +kernel
theorem dL_type_2 : decode cL_type 2 = .ok (.aload_n 0, 1) := by decide +kernel
theorem dL_type_3 : decode cL_type 3 = .ok (.iload_n 1, 1) := by decide +kernel
theorem dL_type_4 : decode cL_type 4 = .ok (.invokevirtual 31, 3) := by decide +kernel
theorem dL_type_7 : decode cL_type 7 = .ok (.i2l, 1) := by decide +kernel
theorem dL_type_8 : decode cL_type 8 = .ok (.lastore, 1) := by decide +kernel
theorem dL_type_9 : decode cL_type 9 = .ok (.goto 6, 3) := by decide +kernel
theorem dL_type_12 : decode cL_type 12 = .ok (.astore_n 3, 1) := by decide +kernel
theorem dL_type_13 : decode cL_type 13 = .ok (.iconst 1, 1) := by decide +kernel
theorem dL_type_14 : decode cL_type 14 = .ok (.ireturn, 1) := by decide +kernel
theorem dL_type_15 : decode cL_type 15 = .ok (.iconst 0, 1) := by decide +kernel
theorem dL_type_16 : decode cL_type 16 = .ok (.ireturn, 1) := by decide +kernel
theorem dL_typed_0 : decode cL_typed 0 = .ok (.aload_n 2, 1) := by decide +kernel
theorem dL_typed_1 : decode cL_typed 1 = .ok (.iconst 0, 1) := by decide +kernel
theorem dL_typed_2 : decode cL_typed 2 = .ok (.aload_n 0, 1) := by decide +kernel
theorem dL_typed_3 : decode cL_typed 3 = .ok (.iload_n 1, 1) := by decide +kernel
theorem dL_typed_4 : decode cL_typed 4 = .ok (.invokevirtual 35, 3) := by decide +kernel
theorem dL_typed_7 : decode cL_typed 7 = .ok (.i2l, 1) := by decide +kernel
theorem dL_typed_8 : decode cL_typed 8 = .ok (.lastore, 1) := by decide +kernel
theorem dL_typed_9 : decode cL_typed 9 = .ok (.goto 6, 3) := by decide +kernel
theorem dL_typed_12 : decode cL_typed 12 = .ok (.astore_n 3, 1) := by decide +kernel
theorem dL_typed_13 : decode cL_typed 13 = .ok (.iconst 1, 1) := by decide +kernel
theorem dL_typed_14 : decode cL_typed 14 = .ok (.ireturn, 1) := by decide +kernel
theorem dL_typed_15 : decode cL_typed 15 = .ok (.iconst 0, 1) := by decide +kernel
theorem dL_typed_16 : decode cL_typed 16 = .ok (.ireturn, 1) := by decide +kernel
theorem dL_part_0 : decode cL_part 0 = .ok (.aload_n 3, 1) := by decide +kernel
theorem dL_part_1 : decode cL_part 1 = .ok (.iconst 0, 1) := by decide +kernel
theorem dL_part_2 : decode cL_part 2 = .ok (.aload_n 0, 1) := by decide +kernel
theorem dL_part_3 : decode cL_part 3 = .ok (.iload_n 1, 1) := by decide +kernel
theorem dL_part_4 : decode cL_part 4 = .ok (.iload_n 2, 1) := by decide +kernel
theorem dL_part_5 : decode cL_part 5 = .ok (.invokevirtual 40, 3) := by decide +kernel
theorem dL_part_8 : decode cL_part 8 = .ok (.i2l, 1) := by decide +kernel
theorem dL_part_9 : decode cL_part 9 = .ok (.lastore, 1) := by decide +kernel
theorem dL_part_10 : decode cL_part 10 = .ok (.goto 7, 3) := by decide +kernel
theorem dL_part_13 : decode cL_part 13 = .ok (.astore 4, 2) := by decide +kernel
theorem dL_part_15 : decode cL_part 15 = .ok (.iconst 1, 1) := by decide +kernel
theorem dL_part_16 : decode cL_part 16 = .ok (.ireturn, 1) := by decide +kernel
theorem dL_part_17 : decode cL_part 17 = .ok (.iconst 0, 1) := by decide +kernel
theorem dL_part_18 : decode cL_part 18 = .ok (.ireturn, 1) := by decide +kernel
theorem dL_sign_0 : decode cL_sign 0 = .ok (.aload_n 2, 1) := by decide +kernel
theorem dL_sign_1 : decode cL_sign 1 = .ok (.iconst 0, 1) := by decide +kernel
theorem dL_sign_2 : decode cL_sign 2 = .ok (.aload_n 0, 1) := by decide +kernel
theorem dL_sign_3 : decode cL_sign 3 = .ok (.iload_n 1, 1) := by decide +kernel
theorem dL_sign_4 : decode cL_sign 4 = .ok (.invokevirtual 43, 3) := by decide +kernel
theorem dL_sign_7 : decode cL_sign 7 = .ok (.i2l, 1) := by decide +kernel
theorem dL_sign_8 : decode cL_sign 8 = .ok (.lastore, 1) := by decide +kernel
theorem dL_sign_9 : decode cL_sign 9 = .ok (.goto 6, 3) := by decide +kernel
theorem dL_sign_12 : decode cL_sign 12 = .ok (.astore_n 3, 1) := by decide +kernel
theorem dL_sign_13 : decode cL_sign 13 = .ok (.iconst 1, 1) := by decide +kernel
theorem dL_sign_14 : decode cL_sign 14 = .ok (.ireturn, 1) := by decide +kernel
theorem dL_sign_15 : decode cL_sign 15 = .ok (.iconst 0, 1) := by decide +kernel
theorem dL_sign_16 : decode cL_sign 16 = .ok (.ireturn, 1) := by decide +kernel
theorem dL_choices_0 : decode cL_choices 0 = .ok (.aload_n 2, 1) := by decide +kernel
theorem dL_choices_1 : decode cL_choices 1 = .ok (.iconst 0, 1) := by decide +kernel
theorem dL_choices_2 : decode cL_choices 2 = .ok (.aload_n 0, 1) := by decide +kernel
theorem dL_choices_3 : decode cL_choices 3 = .ok (.iload_n 1, 1) := by decide +kernel
theorem dL_choices_4 : decode cL_choices 4 = .ok (.invokevirtual 46, 3) := by decide +kernel
theorem dL_choices_7 : decode cL_choices 7 = .ok (.i2l, 1) := by decide +kernel
theorem dL_choices_8 : decode cL_choices 8 = .ok (.lastore, 1) := by decide +kernel
theorem dL_choices_9 : decode cL_choices 9 = .ok (.goto 6, 3) := by decide +kernel
theorem dL_choices_12 : decode cL_choices 12 = .ok (.astore_n 3, 1) := by decide +kernel
theorem dL_choices_13 : decode cL_choices 13 = .ok (.iconst 1, 1) := by decide +kernel
theorem dL_choices_14 : decode cL_choices 14 = .ok (.ireturn, 1) := by decide +kernel
theorem dL_choices_15 : decode cL_choices 15 = .ok (.iconst 0, 1) := by decide +kernel
theorem dL_choices_16 : decode cL_choices 16 = .ok (.ireturn, 1) := by decide +kernel
theorem dL_choice_0 : decode cL_choice 0 = .ok (.aload 4, 2) := by decide +kernel
theorem dL_choice_2 : decode cL_choice 2 = .ok (.iconst 0, 1) := by decide +kernel
theorem dL_choice_3 : decode cL_choice 3 = .ok (.aload_n 0, 1) := by decide +kernel
theorem dL_choice_4 : decode cL_choice 4 = .ok (.iload_n 1, 1) := by decide +kernel
theorem dL_choice_5 : decode cL_choice 5 = .ok (.iload_n 2, 1) := by decide +kernel
theorem dL_choice_6 : decode cL_choice 6 = .ok (.iload_n 3, 1) := by decide +kernel
theorem dL_choice_7 : decode cL_choice 7 = .ok (.invokevirtual 49, 3) := by decide +kernel
theorem dL_choice_10 : decode cL_choice 10 = .ok (.i2l, 1) := by decide +kernel
theorem dL_choice_11 : decode cL_choice 11 = .ok (.lastore, 1) := by decide +kernel
theorem dL_choice_12 : decode cL_choice 12 = .ok (.goto 7, 3) := by decide +kernel
theorem dL_choice_15 : decode cL_choice 15 = .ok (.astore 5, 2) := by decide +kernel
theorem dL_choice_17 : decode cL_choice 17 = .ok (.iconst 1, 1) := by decide +kernel
theorem dL_choice_18 : decode cL_choice 18 = .ok (.ireturn, 1) := by decide +kernel
theorem dL_choice_19 : decode cL_choice 19 = .ok (.iconst 0, 1) := by decide +kernel
theorem dL_choice_20 : decode cL_choice 20 = .ok (.ireturn, 1) := by decide +kernel
theorem dL_choose_0 : decode cL_choose 0 = .ok (.aload_n 0, 1) := by decide +kernel
theorem dL_choose_1 : decode cL_choose 1 = .ok (.iload_n 1, 1) := by decide +kernel
theorem dL_choose_2 : decode cL_choose 2 = .ok (.iload_n 2, 1) := by decide +kernel
theorem dL_choose_3 : decode cL_choose 3 = .ok (.invokevirtual 52, 3) := by decide +kernel
theorem dL_choose_6 : decode cL_choose 6 = .ok (.goto 6, 3) := by decide +kernel
theorem dL_choose_9 : decode cL_choose 9 = .ok (.astore_n 3, 1) := by decide +kernel
theorem dL_choose_10 : decode cL_choose 10 = .ok (.iconst 1, 1) := by decide +kernel
theorem dL_choose_11 : decode cL_choose 11 = .ok (.ireturn, 1) := by decide +kernel
theorem dL_choose_12 : decode cL_choose 12 = .ok (.iconst 0, 1) := by decide +kernel
theorem dL_choose_13 : decode cL_choose 13 = .ok (.ireturn, 1) := by decide +kernel
theorem dL_setBreak_0 : decode cL_setBreak 0 = .ok (.aload_n 3, 1) := by decide +kernel
theorem dL_setBreak_1 : decode cL_setBreak 1 = .ok (.iconst 0, 1) := by decide +kernel
theorem dL_setBreak_2 : decode cL_setBreak 2 = .ok (.aload_n 0, 1) := by decide +kernel
theorem dL_setBreak_3 : decode cL_setBreak 3 = .ok (.iload_n 1, 1) := by decide +kernel
theorem dL_setBreak_4 : decode cL_setBreak 4 = .ok (.iload_n 2, 1) := by decide +kernel
theorem dL_setBreak_5 : decode cL_setBreak 5 = .ok (.invokevirtual 56, 3) := by decide +kernel
theorem dL_setBreak_8 : decode cL_setBreak 8 = .ok (.i2l, 1) := by decide +kernel
theorem dL_setBreak_9 : decode cL_setBreak 9 = .ok (.lastore, 1) := by decide +kernel
theorem dL_setBreak_10 : decode cL_setBreak 10 = .ok (.goto 7, 3) := by decide +kernel
theorem dL_setBreak_13 : decode cL_setBreak 13 = .ok (.astore 4, 2) := by decide +kernel
theorem dL_setBreak_15 : decode cL_setBreak 15 = .ok (.iconst 1, 1) := by decide +kernel
theorem dL_setBreak_16 : decode cL_setBreak 16 = .ok (.ireturn, 1) := by decide +kernel
theorem dL_setBreak_17 : decode cL_setBreak 17 = .ok (.iconst 0, 1) := by decide +kernel
theorem dL_setBreak_18 : decode cL_setBreak 18 = .ok (.ireturn, 1) := by decide +kernel
theorem dL_count_0 : decode cL_count 0 = .ok (.aload_n 2, 1) := by decide +kernel
theorem dL_count_1 : decode cL_count 1 = .ok (.iconst 0, 1) := by decide +kernel
theorem dL_count_2 : decode cL_count 2 = .ok (.aload_n 0, 1) := by decide +kernel
theorem dL_count_3 : decode cL_count 3 = .ok (.iload_n 1, 1) := by decide +kernel
theorem dL_count_4 : decode cL_count 4 = .ok (.invokevirtual 59, 3) := by decide +kernel
theorem dL_count_7 : decode cL_count 7 = .ok (.i2l, 1) := by decide +kernel
theorem dL_count_8 : decode cL_count 8 = .ok (.lastore, 1) := by decide +kernel
theorem dL_count_9 : decode cL_count 9 = .ok (.goto 6, 3) := by decide +kernel
theorem dL_count_12 : decode cL_count 12 = .ok (.astore_n 3, 1) := by decide +kernel
theorem dL_count_13 : decode cL_count 13 = .ok (.iconst 1, 1) := by decide +kernel
theorem dL_count_14 : decode cL_count 14 = .ok (.ireturn, 1) := by decide +kernel
theorem dL_count_15 : decode cL_count 15 = .ok (.iconst 0, 1) := by decide +kernel
theorem dL_count_16 : decode cL_count 16 = .ok (.ireturn, 1) := by decide +kernel
theorem dL_pairs_0 : decode cL_pairs 0 = .ok (.aload_n 3, 1) := by decide +kernel
theorem dL_pairs_1 : decode cL_pairs 1 = .ok (.iconst 0, 1) := by decide +kernel
theorem dL_pairs_2 : decode cL_pairs 2 = .ok (.aload_n 0, 1) := by decide +kernel
theorem dL_pairs_3 : decode cL_pairs 3 = .ok (.iload_n 1, 1) := by decide +kernel
theorem dL_pairs_4 : decode cL_pairs 4 = .ok (.iload_n 2, 1) := by decide +kernel
theorem dL_pairs_5 : decode cL_pairs 5 = .ok (.invokevirtual 62, 3) := by decide +kernel
theorem dL_pairs_8 : decode cL_pairs 8 = .ok (.i2l, 1) := by decide +kernel
theorem dL_pairs_9 : decode cL_pairs 9 = .ok (.lastore, 1) := by decide +kernel
theorem dL_pairs_10 : decode cL_pairs 10 = .ok (.goto 7, 3) := by decide +kernel
theorem dL_pairs_13 : decode cL_pairs 13 = .ok (.astore 4, 2) := by decide +kernel
theorem dL_pairs_15 : decode cL_pairs 15 = .ok (.iconst 1, 1) := by decide +kernel
theorem dL_pairs_16 : decode cL_pairs 16 = .ok (.ireturn, 1) := by decide +kernel
theorem dL_pairs_17 : decode cL_pairs 17 = .ok (.iconst 0, 1) := by decide +kernel
theorem dL_pairs_18 : decode cL_pairs 18 = .ok (.ireturn, 1) := by decide +kernel
theorem dL_about_0 : decode cL_about 0 = .ok (.aload_n 2, 1) := by decide +kernel
theorem dL_about_1 : decode cL_about 1 = .ok (.iconst 0, 1) := by decide +kernel
theorem dL_about_2 : decode cL_about 2 = .ok (.aload_n 0, 1) := by decide +kernel
theorem dL_about_3 : decode cL_about 3 = .ok (.iload_n 1, 1) := by decide +kernel
theorem dL_about_4 : decode cL_about 4 = .ok (.invokevirtual 65, 3) := by decide +kernel
theorem dL_about_7 : decode cL_about 7 = .ok (.i2l, 1) := by decide +kernel
theorem dL_about_8 : decode cL_about 8 = .ok (.lastore, 1) := by decide +kernel
theorem dL_about_9 : decode cL_about 9 = .ok (.goto 6, 3) := by decide +kernel
theorem dL_about_12 : decode cL_about 12 = .ok (.astore_n 3, 1) := by decide +kernel
theorem dL_about_13 : decode cL_about 13 = .ok (.iconst 1, 1) := by decide +kernel
theorem dL_about_14 : decode cL_about 14 = .ok (.ireturn, 1) := by decide +kernel
theorem dL_about_15 : decode cL_about 15 = .ok (.iconst 0, 1) := by decide +kernel
theorem dL_about_16 : decode cL_about 16 = .ok (.ireturn, 1) := by decide +kernel
theorem dL_law_0 : decode cL_law 0 = .ok (.new 8, 3) := by decide +kernel
theorem dL_law_3 : decode cL_law 3 = .ok (.dup, 1) := by decide +kernel
theorem dL_law_4 : decode cL_law 4 = .ok (.invokespecial 68, 3) := by decide +kernel
theorem dL_law_7 : decode cL_law 7 = .ok (.astore_n 1, 1) := by decide +kernel
theorem dL_law_8 : decode cL_law 8 = .ok (.new 69, 3) := by decide +kernel
theorem dL_law_11 : decode cL_law 11 = .ok (.dup, 1) := by decide +kernel
theorem dL_law_12 : decode cL_law 12 = .ok (.invokespecial 71, 3) := by decide +kernel
theorem dL_law_15 : decode cL_law 15 = .ok (.astore_n 2, 1) := by decide +kernel
theorem dL_law_16 : decode cL_law 16 = .ok (.iconst 1, 1) := by decide +kernel
theorem dL_law_17 : decode cL_law 17 = .ok (.newarray .long, 2) := by decide +kernel
theorem dL_law_19 : decode cL_law 19 = .ok (.astore_n 3, 1) := by decide +kernel
theorem dL_law_20 : decode cL_law 20 = .ok (.iconst 0, 1) := by decide +kernel
theorem dL_law_21 : decode cL_law 21 = .ok (.istore 4, 2) := by decide +kernel
theorem dL_law_23 : decode cL_law 23 = .ok (.iload 4, 2) := by decide +kernel
theorem dL_law_25 : decode cL_law 25 = .ok (.aload_n 0, 1) := by decide +kernel
theorem dL_law_26 : decode cL_law 26 = .ok (.arraylength, 1) := by decide +kernel
theorem dL_law_27 : decode cL_law 27 = .ok (.bipush 7, 2) := by decide +kernel
theorem dL_law_29 : decode cL_law 29 = .ok (.isub, 1) := by decide +kernel
theorem dL_law_30 : decode cL_law 30 = .ok (.if_icmp .gt 1425, 3) := by decide +kernel
theorem dL_law_33 : decode cL_law 33 = .ok (.aload_n 0, 1) := by decide +kernel
theorem dL_law_34 : decode cL_law 34 = .ok (.iload 4, 2) := by decide +kernel
theorem dL_law_36 : decode cL_law 36 = .ok (.iaload, 1) := by decide +kernel
theorem dL_law_37 : decode cL_law 37 = .ok (.bipush 31, 2) := by decide +kernel
theorem dL_law_39 : decode cL_law 39 = .ok (.iand, 1) := by decide +kernel
theorem dL_law_40 : decode cL_law 40 = .ok (.tableswitch 1409 0 22 #[108, 220, 378, 502, 570, 650, 706, 762, 775, 788, 856, 912, 968, 1048, 1096, 1164, 1177, 1190, 1203, 1216, 1229, 1285, 1353], 108) := by decide +kernel
theorem dL_law_148 : decode cL_law 148 = .ok (.aload_n 1, 1) := by decide +kernel
theorem dL_law_149 : decode cL_law 149 = .ok (.aload_n 0, 1) := by decide +kernel
theorem dL_law_150 : decode cL_law 150 = .ok (.iload 4, 2) := by decide +kernel
theorem dL_law_152 : decode cL_law 152 = .ok (.iconst 1, 1) := by decide +kernel
theorem dL_law_153 : decode cL_law 153 = .ok (.iadd, 1) := by decide +kernel
theorem dL_law_154 : decode cL_law 154 = .ok (.iaload, 1) := by decide +kernel
theorem dL_law_155 : decode cL_law 155 = .ok (.aload_n 0, 1) := by decide +kernel
theorem dL_law_156 : decode cL_law 156 = .ok (.iload 4, 2) := by decide +kernel
theorem dL_law_158 : decode cL_law 158 = .ok (.iconst 2, 1) := by decide +kernel
theorem dL_law_159 : decode cL_law 159 = .ok (.iadd, 1) := by decide +kernel
theorem dL_law_160 : decode cL_law 160 = .ok (.iaload, 1) := by decide +kernel
theorem dL_law_161 : decode cL_law 161 = .ok (.i2l, 1) := by decide +kernel
theorem dL_law_162 : decode cL_law 162 = .ok (.bipush 32, 2) := by decide +kernel
theorem dL_law_164 : decode cL_law 164 = .ok (.lshl, 1) := by decide +kernel
theorem dL_law_165 : decode cL_law 165 = .ok (.aload_n 0, 1) := by decide +kernel
theorem dL_law_166 : decode cL_law 166 = .ok (.iload 4, 2) := by decide +kernel
theorem dL_law_168 : decode cL_law 168 = .ok (.iconst 3, 1) := by decide +kernel
theorem dL_law_169 : decode cL_law 169 = .ok (.iadd, 1) := by decide +kernel
theorem dL_law_170 : decode cL_law 170 = .ok (.iaload, 1) := by decide +kernel
theorem dL_law_171 : decode cL_law 171 = .ok (.i2l, 1) := by decide +kernel
theorem dL_law_172 : decode cL_law 172 = .ok (.ldc2_w 72, 3) := by decide +kernel
theorem dL_law_175 : decode cL_law 175 = .ok (.land, 1) := by decide +kernel
theorem dL_law_176 : decode cL_law 176 = .ok (.lor, 1) := by decide +kernel
theorem dL_law_177 : decode cL_law 177 = .ok (.aload_n 0, 1) := by decide +kernel
theorem dL_law_178 : decode cL_law 178 = .ok (.iload 4, 2) := by decide +kernel
theorem dL_law_180 : decode cL_law 180 = .ok (.iconst 4, 1) := by decide +kernel
theorem dL_law_181 : decode cL_law 181 = .ok (.iadd, 1) := by decide +kernel
theorem dL_law_182 : decode cL_law 182 = .ok (.iaload, 1) := by decide +kernel
theorem dL_law_183 : decode cL_law 183 = .ok (.aload_n 3, 1) := by decide +kernel
theorem dL_law_184 : decode cL_law 184 = .ok (.invokestatic 74, 3) := by decide +kernel
theorem dL_law_187 : decode cL_law 187 = .ok (.istore 5, 2) := by decide +kernel
theorem dL_law_189 : decode cL_law 189 = .ok (.aload_n 2, 1) := by decide +kernel
theorem dL_law_190 : decode cL_law 190 = .ok (.aload_n 0, 1) := by decide +kernel
theorem dL_law_191 : decode cL_law 191 = .ok (.iload 4, 2) := by decide +kernel
theorem dL_law_193 : decode cL_law 193 = .ok (.iconst 1, 1) := by decide +kernel
theorem dL_law_194 : decode cL_law 194 = .ok (.iadd, 1) := by decide +kernel
theorem dL_law_195 : decode cL_law 195 = .ok (.iaload, 1) := by decide +kernel
theorem dL_law_196 : decode cL_law 196 = .ok (.aload_n 0, 1) := by decide +kernel
theorem dL_law_197 : decode cL_law 197 = .ok (.iload 4, 2) := by decide +kernel
theorem dL_law_199 : decode cL_law 199 = .ok (.iconst 2, 1) := by decide +kernel
theorem dL_law_200 : decode cL_law 200 = .ok (.iadd, 1) := by decide +kernel
theorem dL_law_201 : decode cL_law 201 = .ok (.iaload, 1) := by decide +kernel
theorem dL_law_202 : decode cL_law 202 = .ok (.i2l, 1) := by decide +kernel
theorem dL_law_203 : decode cL_law 203 = .ok (.bipush 32, 2) := by decide +kernel
theorem dL_law_205 : decode cL_law 205 = .ok (.lshl, 1) := by decide +kernel
theorem dL_law_206 : decode cL_law 206 = .ok (.aload_n 0, 1) := by decide +kernel
theorem dL_law_207 : decode cL_law 207 = .ok (.iload 4, 2) := by decide +kernel
theorem dL_law_209 : decode cL_law 209 = .ok (.iconst 3, 1) := by decide +kernel
theorem dL_law_210 : decode cL_law 210 = .ok (.iadd, 1) := by decide +kernel
theorem dL_law_211 : decode cL_law 211 = .ok (.iaload, 1) := by decide +kernel
theorem dL_law_212 : decode cL_law 212 = .ok (.i2l, 1) := by decide +kernel
theorem dL_law_213 : decode cL_law 213 = .ok (.ldc2_w 72, 3) := by decide +kernel
theorem dL_law_216 : decode cL_law 216 = .ok (.land, 1) := by decide +kernel
theorem dL_law_217 : decode cL_law 217 = .ok (.lor, 1) := by decide +kernel
theorem dL_law_218 : decode cL_law 218 = .ok (.aload_n 0, 1) := by decide +kernel
theorem dL_law_219 : decode cL_law 219 = .ok (.iload 4, 2) := by decide +kernel
theorem dL_law_221 : decode cL_law 221 = .ok (.iconst 4, 1) := by decide +kernel
theorem dL_law_222 : decode cL_law 222 = .ok (.iadd, 1) := by decide +kernel
theorem dL_law_223 : decode cL_law 223 = .ok (.iaload, 1) := by decide +kernel
theorem dL_law_224 : decode cL_law 224 = .ok (.invokevirtual 79, 3) := by decide +kernel
theorem dL_law_227 : decode cL_law 227 = .ok (.istore 6, 2) := by decide +kernel
theorem dL_law_229 : decode cL_law 229 = .ok (.aload_n 2, 1) := by decide +kernel
theorem dL_law_230 : decode cL_law 230 = .ok (.invokevirtual 80, 3) := by decide +kernel
theorem dL_law_233 : decode cL_law 233 = .ok (.iload 5, 2) := by decide +kernel
theorem dL_law_235 : decode cL_law 235 = .ok (.if_icmp .eq 5, 3) := by decide +kernel
theorem dL_law_238 : decode cL_law 238 = .ok (.iconst 0, 1) := by decide +kernel
theorem dL_law_239 : decode cL_law 239 = .ok (.ireturn, 1) := by decide +kernel
theorem dL_law_240 : decode cL_law 240 = .ok (.iload 5, 2) := by decide +kernel
theorem dL_law_242 : decode cL_law 242 = .ok (.ifCond .ne 15, 3) := by decide +kernel
theorem dL_law_245 : decode cL_law 245 = .ok (.aload_n 3, 1) := by decide +kernel
theorem dL_law_246 : decode cL_law 246 = .ok (.iconst 0, 1) := by decide +kernel
theorem dL_law_247 : decode cL_law 247 = .ok (.laload, 1) := by decide +kernel
theorem dL_law_248 : decode cL_law 248 = .ok (.iload 6, 2) := by decide +kernel
theorem dL_law_250 : decode cL_law 250 = .ok (.i2l, 1) := by decide +kernel
theorem dL_law_251 : decode cL_law 251 = .ok (.lcmp, 1) := by decide +kernel
theorem dL_law_252 : decode cL_law 252 = .ok (.ifCond .eq 5, 3) := by decide +kernel
theorem dL_law_255 : decode cL_law 255 = .ok (.iconst 0, 1) := by decide +kernel
theorem dL_law_256 : decode cL_law 256 = .ok (.ireturn, 1) := by decide +kernel
theorem dL_law_257 : decode cL_law 257 = .ok (.goto 1192, 3) := by decide +kernel
theorem dL_law_260 : decode cL_law 260 = .ok (.aload_n 1, 1) := by decide +kernel
theorem dL_law_261 : decode cL_law 261 = .ok (.aload_n 0, 1) := by decide +kernel
theorem dL_law_262 : decode cL_law 262 = .ok (.iload 4, 2) := by decide +kernel
theorem dL_law_264 : decode cL_law 264 = .ok (.iconst 1, 1) := by decide +kernel
theorem dL_law_265 : decode cL_law 265 = .ok (.iadd, 1) := by decide +kernel
theorem dL_law_266 : decode cL_law 266 = .ok (.iaload, 1) := by decide +kernel
theorem dL_law_267 : decode cL_law 267 = .ok (.i2l, 1) := by decide +kernel
theorem dL_law_268 : decode cL_law 268 = .ok (.bipush 32, 2) := by decide +kernel
theorem dL_law_270 : decode cL_law 270 = .ok (.lshl, 1) := by decide +kernel
theorem dL_law_271 : decode cL_law 271 = .ok (.aload_n 0, 1) := by decide +kernel
theorem dL_law_272 : decode cL_law 272 = .ok (.iload 4, 2) := by decide +kernel
theorem dL_law_274 : decode cL_law 274 = .ok (.iconst 2, 1) := by decide +kernel
theorem dL_law_275 : decode cL_law 275 = .ok (.iadd, 1) := by decide +kernel
theorem dL_law_276 : decode cL_law 276 = .ok (.iaload, 1) := by decide +kernel
theorem dL_law_277 : decode cL_law 277 = .ok (.i2l, 1) := by decide +kernel
theorem dL_law_278 : decode cL_law 278 = .ok (.ldc2_w 72, 3) := by decide +kernel
theorem dL_law_281 : decode cL_law 281 = .ok (.land, 1) := by decide +kernel
theorem dL_law_282 : decode cL_law 282 = .ok (.lor, 1) := by decide +kernel
theorem dL_law_283 : decode cL_law 283 = .ok (.aload_n 0, 1) := by decide +kernel
theorem dL_law_284 : decode cL_law 284 = .ok (.iload 4, 2) := by decide +kernel
theorem dL_law_286 : decode cL_law 286 = .ok (.iconst 3, 1) := by decide +kernel
theorem dL_law_287 : decode cL_law 287 = .ok (.iadd, 1) := by decide +kernel
theorem dL_law_288 : decode cL_law 288 = .ok (.iaload, 1) := by decide +kernel
theorem dL_law_289 : decode cL_law 289 = .ok (.i2l, 1) := by decide +kernel
theorem dL_law_290 : decode cL_law 290 = .ok (.bipush 32, 2) := by decide +kernel
theorem dL_law_292 : decode cL_law 292 = .ok (.lshl, 1) := by decide +kernel
theorem dL_law_293 : decode cL_law 293 = .ok (.aload_n 0, 1) := by decide +kernel
theorem dL_law_294 : decode cL_law 294 = .ok (.iload 4, 2) := by decide +kernel
theorem dL_law_296 : decode cL_law 296 = .ok (.iconst 4, 1) := by decide +kernel
theorem dL_law_297 : decode cL_law 297 = .ok (.iadd, 1) := by decide +kernel
theorem dL_law_298 : decode cL_law 298 = .ok (.iaload, 1) := by decide +kernel
theorem dL_law_299 : decode cL_law 299 = .ok (.i2l, 1) := by decide +kernel
theorem dL_law_300 : decode cL_law 300 = .ok (.ldc2_w 72, 3) := by decide +kernel
theorem dL_law_303 : decode cL_law 303 = .ok (.land, 1) := by decide +kernel
theorem dL_law_304 : decode cL_law 304 = .ok (.lor, 1) := by decide +kernel
theorem dL_law_305 : decode cL_law 305 = .ok (.aload_n 0, 1) := by decide +kernel
theorem dL_law_306 : decode cL_law 306 = .ok (.iload 4, 2) := by decide +kernel
theorem dL_law_308 : decode cL_law 308 = .ok (.iconst 5, 1) := by decide +kernel
theorem dL_law_309 : decode cL_law 309 = .ok (.iadd, 1) := by decide +kernel
theorem dL_law_310 : decode cL_law 310 = .ok (.iaload, 1) := by decide +kernel
theorem dL_law_311 : decode cL_law 311 = .ok (.aload_n 0, 1) := by decide +kernel
theorem dL_law_312 : decode cL_law 312 = .ok (.iload 4, 2) := by decide +kernel
theorem dL_law_314 : decode cL_law 314 = .ok (.bipush 6, 2) := by decide +kernel
theorem dL_law_316 : decode cL_law 316 = .ok (.iadd, 1) := by decide +kernel
theorem dL_law_317 : decode cL_law 317 = .ok (.iaload, 1) := by decide +kernel
theorem dL_law_318 : decode cL_law 318 = .ok (.aload_n 3, 1) := by decide +kernel
theorem dL_law_319 : decode cL_law 319 = .ok (.invokestatic 84, 3) := by decide +kernel
theorem dL_law_322 : decode cL_law 322 = .ok (.istore 5, 2) := by decide +kernel
theorem dL_law_324 : decode cL_law 324 = .ok (.aload_n 2, 1) := by decide +kernel
theorem dL_law_325 : decode cL_law 325 = .ok (.aload_n 0, 1) := by decide +kernel
theorem dL_law_326 : decode cL_law 326 = .ok (.iload 4, 2) := by decide +kernel
theorem dL_law_328 : decode cL_law 328 = .ok (.iconst 1, 1) := by decide +kernel
theorem dL_law_329 : decode cL_law 329 = .ok (.iadd, 1) := by decide +kernel
theorem dL_law_330 : decode cL_law 330 = .ok (.iaload, 1) := by decide +kernel
theorem dL_law_331 : decode cL_law 331 = .ok (.i2l, 1) := by decide +kernel
theorem dL_law_332 : decode cL_law 332 = .ok (.bipush 32, 2) := by decide +kernel
theorem dL_law_334 : decode cL_law 334 = .ok (.lshl, 1) := by decide +kernel
theorem dL_law_335 : decode cL_law 335 = .ok (.aload_n 0, 1) := by decide +kernel
theorem dL_law_336 : decode cL_law 336 = .ok (.iload 4, 2) := by decide +kernel
theorem dL_law_338 : decode cL_law 338 = .ok (.iconst 2, 1) := by decide +kernel
theorem dL_law_339 : decode cL_law 339 = .ok (.iadd, 1) := by decide +kernel
theorem dL_law_340 : decode cL_law 340 = .ok (.iaload, 1) := by decide +kernel
theorem dL_law_341 : decode cL_law 341 = .ok (.i2l, 1) := by decide +kernel
theorem dL_law_342 : decode cL_law 342 = .ok (.ldc2_w 72, 3) := by decide +kernel
theorem dL_law_345 : decode cL_law 345 = .ok (.land, 1) := by decide +kernel
theorem dL_law_346 : decode cL_law 346 = .ok (.lor, 1) := by decide +kernel
theorem dL_law_347 : decode cL_law 347 = .ok (.aload_n 0, 1) := by decide +kernel
theorem dL_law_348 : decode cL_law 348 = .ok (.iload 4, 2) := by decide +kernel
theorem dL_law_350 : decode cL_law 350 = .ok (.iconst 3, 1) := by decide +kernel
theorem dL_law_351 : decode cL_law 351 = .ok (.iadd, 1) := by decide +kernel
theorem dL_law_352 : decode cL_law 352 = .ok (.iaload, 1) := by decide +kernel
theorem dL_law_353 : decode cL_law 353 = .ok (.i2l, 1) := by decide +kernel
theorem dL_law_354 : decode cL_law 354 = .ok (.bipush 32, 2) := by decide +kernel
theorem dL_law_356 : decode cL_law 356 = .ok (.lshl, 1) := by decide +kernel
theorem dL_law_357 : decode cL_law 357 = .ok (.aload_n 0, 1) := by decide +kernel
theorem dL_law_358 : decode cL_law 358 = .ok (.iload 4, 2) := by decide +kernel
theorem dL_law_360 : decode cL_law 360 = .ok (.iconst 4, 1) := by decide +kernel
theorem dL_law_361 : decode cL_law 361 = .ok (.iadd, 1) := by decide +kernel
theorem dL_law_362 : decode cL_law 362 = .ok (.iaload, 1) := by decide +kernel
theorem dL_law_363 : decode cL_law 363 = .ok (.i2l, 1) := by decide +kernel
theorem dL_law_364 : decode cL_law 364 = .ok (.ldc2_w 72, 3) := by decide +kernel
theorem dL_law_367 : decode cL_law 367 = .ok (.land, 1) := by decide +kernel
theorem dL_law_368 : decode cL_law 368 = .ok (.lor, 1) := by decide +kernel
theorem dL_law_369 : decode cL_law 369 = .ok (.aload_n 0, 1) := by decide +kernel
theorem dL_law_370 : decode cL_law 370 = .ok (.iload 4, 2) := by decide +kernel
theorem dL_law_372 : decode cL_law 372 = .ok (.iconst 5, 1) := by decide +kernel
theorem dL_law_373 : decode cL_law 373 = .ok (.iadd, 1) := by decide +kernel
theorem dL_law_374 : decode cL_law 374 = .ok (.iaload, 1) := by decide +kernel
theorem dL_law_375 : decode cL_law 375 = .ok (.aload_n 0, 1) := by decide +kernel
theorem dL_law_376 : decode cL_law 376 = .ok (.iload 4, 2) := by decide +kernel
theorem dL_law_378 : decode cL_law 378 = .ok (.bipush 6, 2) := by decide +kernel
theorem dL_law_380 : decode cL_law 380 = .ok (.iadd, 1) := by decide +kernel
theorem dL_law_381 : decode cL_law 381 = .ok (.iaload, 1) := by decide +kernel
theorem dL_law_382 : decode cL_law 382 = .ok (.invokevirtual 87, 3) := by decide +kernel
theorem dL_law_385 : decode cL_law 385 = .ok (.istore 6, 2) := by decide +kernel
theorem dL_law_387 : decode cL_law 387 = .ok (.aload_n 2, 1) := by decide +kernel
theorem dL_law_388 : decode cL_law 388 = .ok (.invokevirtual 80, 3) := by decide +kernel
theorem dL_law_391 : decode cL_law 391 = .ok (.iload 5, 2) := by decide +kernel
theorem dL_law_393 : decode cL_law 393 = .ok (.if_icmp .eq 5, 3) := by decide +kernel
theorem dL_law_396 : decode cL_law 396 = .ok (.iconst 0, 1) := by decide +kernel
theorem dL_law_397 : decode cL_law 397 = .ok (.ireturn, 1) := by decide +kernel
theorem dL_law_398 : decode cL_law 398 = .ok (.iload 5, 2) := by decide +kernel
theorem dL_law_400 : decode cL_law 400 = .ok (.ifCond .ne 15, 3) := by decide +kernel
theorem dL_law_403 : decode cL_law 403 = .ok (.aload_n 3, 1) := by decide +kernel
theorem dL_law_404 : decode cL_law 404 = .ok (.iconst 0, 1) := by decide +kernel
theorem dL_law_405 : decode cL_law 405 = .ok (.laload, 1) := by decide +kernel
theorem dL_law_406 : decode cL_law 406 = .ok (.iload 6, 2) := by decide +kernel
theorem dL_law_408 : decode cL_law 408 = .ok (.i2l, 1) := by decide +kernel
theorem dL_law_409 : decode cL_law 409 = .ok (.lcmp, 1) := by decide +kernel
theorem dL_law_410 : decode cL_law 410 = .ok (.ifCond .eq 5, 3) := by decide +kernel
theorem dL_law_413 : decode cL_law 413 = .ok (.iconst 0, 1) := by decide +kernel
theorem dL_law_414 : decode cL_law 414 = .ok (.ireturn, 1) := by decide +kernel
theorem dL_law_415 : decode cL_law 415 = .ok (.goto 1034, 3) := by decide +kernel
theorem dL_law_418 : decode cL_law 418 = .ok (.aload_n 1, 1) := by decide +kernel
theorem dL_law_419 : decode cL_law 419 = .ok (.aload_n 0, 1) := by decide +kernel
theorem dL_law_420 : decode cL_law 420 = .ok (.iload 4, 2) := by decide +kernel
theorem dL_law_422 : decode cL_law 422 = .ok (.iconst 1, 1) := by decide +kernel
theorem dL_law_423 : decode cL_law 423 = .ok (.iadd, 1) := by decide +kernel
theorem dL_law_424 : decode cL_law 424 = .ok (.iaload, 1) := by decide +kernel
theorem dL_law_425 : decode cL_law 425 = .ok (.i2l, 1) := by decide +kernel
theorem dL_law_426 : decode cL_law 426 = .ok (.bipush 32, 2) := by decide +kernel
theorem dL_law_428 : decode cL_law 428 = .ok (.lshl, 1) := by decide +kernel
theorem dL_law_429 : decode cL_law 429 = .ok (.aload_n 0, 1) := by decide +kernel
theorem dL_law_430 : decode cL_law 430 = .ok (.iload 4, 2) := by decide +kernel
theorem dL_law_432 : decode cL_law 432 = .ok (.iconst 2, 1) := by decide +kernel
theorem dL_law_433 : decode cL_law 433 = .ok (.iadd, 1) := by decide +kernel
theorem dL_law_434 : decode cL_law 434 = .ok (.iaload, 1) := by decide +kernel
theorem dL_law_435 : decode cL_law 435 = .ok (.i2l, 1) := by decide +kernel
theorem dL_law_436 : decode cL_law 436 = .ok (.ldc2_w 72, 3) := by decide +kernel
theorem dL_law_439 : decode cL_law 439 = .ok (.land, 1) := by decide +kernel
theorem dL_law_440 : decode cL_law 440 = .ok (.lor, 1) := by decide +kernel
theorem dL_law_441 : decode cL_law 441 = .ok (.aload_n 0, 1) := by decide +kernel
theorem dL_law_442 : decode cL_law 442 = .ok (.iload 4, 2) := by decide +kernel
theorem dL_law_444 : decode cL_law 444 = .ok (.iconst 3, 1) := by decide +kernel
theorem dL_law_445 : decode cL_law 445 = .ok (.iadd, 1) := by decide +kernel
theorem dL_law_446 : decode cL_law 446 = .ok (.iaload, 1) := by decide +kernel
theorem dL_law_447 : decode cL_law 447 = .ok (.aload_n 0, 1) := by decide +kernel
theorem dL_law_448 : decode cL_law 448 = .ok (.iload 4, 2) := by decide +kernel
theorem dL_law_450 : decode cL_law 450 = .ok (.iconst 4, 1) := by decide +kernel
theorem dL_law_451 : decode cL_law 451 = .ok (.iadd, 1) := by decide +kernel
theorem dL_law_452 : decode cL_law 452 = .ok (.iaload, 1) := by decide +kernel
theorem dL_law_453 : decode cL_law 453 = .ok (.aload_n 0, 1) := by decide +kernel
theorem dL_law_454 : decode cL_law 454 = .ok (.iload 4, 2) := by decide +kernel
theorem dL_law_456 : decode cL_law 456 = .ok (.iconst 5, 1) := by decide +kernel
theorem dL_law_457 : decode cL_law 457 = .ok (.iadd, 1) := by decide +kernel
theorem dL_law_458 : decode cL_law 458 = .ok (.iaload, 1) := by decide +kernel
theorem dL_law_459 : decode cL_law 459 = .ok (.aload_n 3, 1) := by decide +kernel
theorem dL_law_460 : decode cL_law 460 = .ok (.invokestatic 88, 3) := by decide +kernel
theorem dL_law_463 : decode cL_law 463 = .ok (.istore 5, 2) := by decide +kernel
theorem dL_law_465 : decode cL_law 465 = .ok (.aload_n 2, 1) := by decide +kernel
theorem dL_law_466 : decode cL_law 466 = .ok (.aload_n 0, 1) := by decide +kernel
theorem dL_law_467 : decode cL_law 467 = .ok (.iload 4, 2) := by decide +kernel
theorem dL_law_469 : decode cL_law 469 = .ok (.iconst 1, 1) := by decide +kernel
theorem dL_law_470 : decode cL_law 470 = .ok (.iadd, 1) := by decide +kernel
theorem dL_law_471 : decode cL_law 471 = .ok (.iaload, 1) := by decide +kernel
theorem dL_law_472 : decode cL_law 472 = .ok (.i2l, 1) := by decide +kernel
theorem dL_law_473 : decode cL_law 473 = .ok (.bipush 32, 2) := by decide +kernel
theorem dL_law_475 : decode cL_law 475 = .ok (.lshl, 1) := by decide +kernel
theorem dL_law_476 : decode cL_law 476 = .ok (.aload_n 0, 1) := by decide +kernel
theorem dL_law_477 : decode cL_law 477 = .ok (.iload 4, 2) := by decide +kernel
theorem dL_law_479 : decode cL_law 479 = .ok (.iconst 2, 1) := by decide +kernel
theorem dL_law_480 : decode cL_law 480 = .ok (.iadd, 1) := by decide +kernel
theorem dL_law_481 : decode cL_law 481 = .ok (.iaload, 1) := by decide +kernel
theorem dL_law_482 : decode cL_law 482 = .ok (.i2l, 1) := by decide +kernel
theorem dL_law_483 : decode cL_law 483 = .ok (.ldc2_w 72, 3) := by decide +kernel
theorem dL_law_486 : decode cL_law 486 = .ok (.land, 1) := by decide +kernel
theorem dL_law_487 : decode cL_law 487 = .ok (.lor, 1) := by decide +kernel
theorem dL_law_488 : decode cL_law 488 = .ok (.aload_n 0, 1) := by decide +kernel
theorem dL_law_489 : decode cL_law 489 = .ok (.iload 4, 2) := by decide +kernel
theorem dL_law_491 : decode cL_law 491 = .ok (.iconst 3, 1) := by decide +kernel
theorem dL_law_492 : decode cL_law 492 = .ok (.iadd, 1) := by decide +kernel
theorem dL_law_493 : decode cL_law 493 = .ok (.iaload, 1) := by decide +kernel
theorem dL_law_494 : decode cL_law 494 = .ok (.aload_n 0, 1) := by decide +kernel
theorem dL_law_495 : decode cL_law 495 = .ok (.iload 4, 2) := by decide +kernel
theorem dL_law_497 : decode cL_law 497 = .ok (.iconst 4, 1) := by decide +kernel
theorem dL_law_498 : decode cL_law 498 = .ok (.iadd, 1) := by decide +kernel
theorem dL_law_499 : decode cL_law 499 = .ok (.iaload, 1) := by decide +kernel
theorem dL_law_500 : decode cL_law 500 = .ok (.aload_n 0, 1) := by decide +kernel
theorem dL_law_501 : decode cL_law 501 = .ok (.iload 4, 2) := by decide +kernel
theorem dL_law_503 : decode cL_law 503 = .ok (.iconst 5, 1) := by decide +kernel
theorem dL_law_504 : decode cL_law 504 = .ok (.iadd, 1) := by decide +kernel
theorem dL_law_505 : decode cL_law 505 = .ok (.iaload, 1) := by decide +kernel
theorem dL_law_506 : decode cL_law 506 = .ok (.invokevirtual 91, 3) := by decide +kernel
theorem dL_law_509 : decode cL_law 509 = .ok (.istore 6, 2) := by decide +kernel
theorem dL_law_511 : decode cL_law 511 = .ok (.aload_n 2, 1) := by decide +kernel
theorem dL_law_512 : decode cL_law 512 = .ok (.invokevirtual 80, 3) := by decide +kernel
theorem dL_law_515 : decode cL_law 515 = .ok (.iload 5, 2) := by decide +kernel
theorem dL_law_517 : decode cL_law 517 = .ok (.if_icmp .eq 5, 3) := by decide +kernel
theorem dL_law_520 : decode cL_law 520 = .ok (.iconst 0, 1) := by decide +kernel
theorem dL_law_521 : decode cL_law 521 = .ok (.ireturn, 1) := by decide +kernel
theorem dL_law_522 : decode cL_law 522 = .ok (.iload 5, 2) := by decide +kernel
theorem dL_law_524 : decode cL_law 524 = .ok (.ifCond .ne 15, 3) := by decide +kernel
theorem dL_law_527 : decode cL_law 527 = .ok (.aload_n 3, 1) := by decide +kernel
theorem dL_law_528 : decode cL_law 528 = .ok (.iconst 0, 1) := by decide +kernel
theorem dL_law_529 : decode cL_law 529 = .ok (.laload, 1) := by decide +kernel
theorem dL_law_530 : decode cL_law 530 = .ok (.iload 6, 2) := by decide +kernel
theorem dL_law_532 : decode cL_law 532 = .ok (.i2l, 1) := by decide +kernel
theorem dL_law_533 : decode cL_law 533 = .ok (.lcmp, 1) := by decide +kernel
theorem dL_law_534 : decode cL_law 534 = .ok (.ifCond .eq 5, 3) := by decide +kernel
theorem dL_law_537 : decode cL_law 537 = .ok (.iconst 0, 1) := by decide +kernel
theorem dL_law_538 : decode cL_law 538 = .ok (.ireturn, 1) := by decide +kernel
theorem dL_law_539 : decode cL_law 539 = .ok (.goto 910, 3) := by decide +kernel
theorem dL_law_542 : decode cL_law 542 = .ok (.aload_n 1, 1) := by decide +kernel
theorem dL_law_543 : decode cL_law 543 = .ok (.aload_n 0, 1) := by decide +kernel
theorem dL_law_544 : decode cL_law 544 = .ok (.iload 4, 2) := by decide +kernel
theorem dL_law_546 : decode cL_law 546 = .ok (.iconst 1, 1) := by decide +kernel
theorem dL_law_547 : decode cL_law 547 = .ok (.iadd, 1) := by decide +kernel
theorem dL_law_548 : decode cL_law 548 = .ok (.iaload, 1) := by decide +kernel
theorem dL_law_549 : decode cL_law 549 = .ok (.aload_n 0, 1) := by decide +kernel
theorem dL_law_550 : decode cL_law 550 = .ok (.iload 4, 2) := by decide +kernel
theorem dL_law_552 : decode cL_law 552 = .ok (.iconst 2, 1) := by decide +kernel
theorem dL_law_553 : decode cL_law 553 = .ok (.iadd, 1) := by decide +kernel
theorem dL_law_554 : decode cL_law 554 = .ok (.iaload, 1) := by decide +kernel
theorem dL_law_555 : decode cL_law 555 = .ok (.aload_n 3, 1) := by decide +kernel
theorem dL_law_556 : decode cL_law 556 = .ok (.invokestatic 92, 3) := by decide +kernel
theorem dL_law_559 : decode cL_law 559 = .ok (.istore 5, 2) := by decide +kernel
theorem dL_law_561 : decode cL_law 561 = .ok (.aload_n 2, 1) := by decide +kernel
theorem dL_law_562 : decode cL_law 562 = .ok (.aload_n 0, 1) := by decide +kernel
theorem dL_law_563 : decode cL_law 563 = .ok (.iload 4, 2) := by decide +kernel
theorem dL_law_565 : decode cL_law 565 = .ok (.iconst 1, 1) := by decide +kernel
theorem dL_law_566 : decode cL_law 566 = .ok (.iadd, 1) := by decide +kernel
theorem dL_law_567 : decode cL_law 567 = .ok (.iaload, 1) := by decide +kernel
theorem dL_law_568 : decode cL_law 568 = .ok (.aload_n 0, 1) := by decide +kernel
theorem dL_law_569 : decode cL_law 569 = .ok (.iload 4, 2) := by decide +kernel
theorem dL_law_571 : decode cL_law 571 = .ok (.iconst 2, 1) := by decide +kernel
theorem dL_law_572 : decode cL_law 572 = .ok (.iadd, 1) := by decide +kernel
theorem dL_law_573 : decode cL_law 573 = .ok (.iaload, 1) := by decide +kernel
theorem dL_law_574 : decode cL_law 574 = .ok (.invokevirtual 95, 3) := by decide +kernel
theorem dL_law_577 : decode cL_law 577 = .ok (.istore 6, 2) := by decide +kernel
theorem dL_law_579 : decode cL_law 579 = .ok (.aload_n 2, 1) := by decide +kernel
theorem dL_law_580 : decode cL_law 580 = .ok (.invokevirtual 80, 3) := by decide +kernel
theorem dL_law_583 : decode cL_law 583 = .ok (.iload 5, 2) := by decide +kernel
theorem dL_law_585 : decode cL_law 585 = .ok (.if_icmp .eq 5, 3) := by decide +kernel
theorem dL_law_588 : decode cL_law 588 = .ok (.iconst 0, 1) := by decide +kernel
theorem dL_law_589 : decode cL_law 589 = .ok (.ireturn, 1) := by decide +kernel
theorem dL_law_590 : decode cL_law 590 = .ok (.iload 5, 2) := by decide +kernel
theorem dL_law_592 : decode cL_law 592 = .ok (.ifCond .ne 15, 3) := by decide +kernel
theorem dL_law_595 : decode cL_law 595 = .ok (.aload_n 3, 1) := by decide +kernel
theorem dL_law_596 : decode cL_law 596 = .ok (.iconst 0, 1) := by decide +kernel
theorem dL_law_597 : decode cL_law 597 = .ok (.laload, 1) := by decide +kernel
theorem dL_law_598 : decode cL_law 598 = .ok (.iload 6, 2) := by decide +kernel
theorem dL_law_600 : decode cL_law 600 = .ok (.i2l, 1) := by decide +kernel
theorem dL_law_601 : decode cL_law 601 = .ok (.lcmp, 1) := by decide +kernel
theorem dL_law_602 : decode cL_law 602 = .ok (.ifCond .eq 5, 3) := by decide +kernel
theorem dL_law_605 : decode cL_law 605 = .ok (.iconst 0, 1) := by decide +kernel
theorem dL_law_606 : decode cL_law 606 = .ok (.ireturn, 1) := by decide +kernel
theorem dL_law_607 : decode cL_law 607 = .ok (.goto 842, 3) := by decide +kernel
theorem dL_law_610 : decode cL_law 610 = .ok (.aload_n 1, 1) := by decide +kernel
theorem dL_law_611 : decode cL_law 611 = .ok (.aload_n 0, 1) := by decide +kernel
theorem dL_law_612 : decode cL_law 612 = .ok (.iload 4, 2) := by decide +kernel
theorem dL_law_614 : decode cL_law 614 = .ok (.iconst 1, 1) := by decide +kernel
theorem dL_law_615 : decode cL_law 615 = .ok (.iadd, 1) := by decide +kernel
theorem dL_law_616 : decode cL_law 616 = .ok (.iaload, 1) := by decide +kernel
theorem dL_law_617 : decode cL_law 617 = .ok (.aload_n 0, 1) := by decide +kernel
theorem dL_law_618 : decode cL_law 618 = .ok (.iload 4, 2) := by decide +kernel
theorem dL_law_620 : decode cL_law 620 = .ok (.iconst 2, 1) := by decide +kernel
theorem dL_law_621 : decode cL_law 621 = .ok (.iadd, 1) := by decide +kernel
theorem dL_law_622 : decode cL_law 622 = .ok (.iaload, 1) := by decide +kernel
theorem dL_law_623 : decode cL_law 623 = .ok (.aload_n 0, 1) := by decide +kernel
theorem dL_law_624 : decode cL_law 624 = .ok (.iload 4, 2) := by decide +kernel
theorem dL_law_626 : decode cL_law 626 = .ok (.iconst 3, 1) := by decide +kernel
theorem dL_law_627 : decode cL_law 627 = .ok (.iadd, 1) := by decide +kernel
theorem dL_law_628 : decode cL_law 628 = .ok (.iaload, 1) := by decide +kernel
theorem dL_law_629 : decode cL_law 629 = .ok (.aload_n 3, 1) := by decide +kernel
theorem dL_law_630 : decode cL_law 630 = .ok (.invokestatic 96, 3) := by decide +kernel
theorem dL_law_633 : decode cL_law 633 = .ok (.istore 5, 2) := by decide +kernel
theorem dL_law_635 : decode cL_law 635 = .ok (.aload_n 2, 1) := by decide +kernel
theorem dL_law_636 : decode cL_law 636 = .ok (.aload_n 0, 1) := by decide +kernel
theorem dL_law_637 : decode cL_law 637 = .ok (.iload 4, 2) := by decide +kernel
theorem dL_law_639 : decode cL_law 639 = .ok (.iconst 1, 1) := by decide +kernel
theorem dL_law_640 : decode cL_law 640 = .ok (.iadd, 1) := by decide +kernel
theorem dL_law_641 : decode cL_law 641 = .ok (.iaload, 1) := by decide +kernel
theorem dL_law_642 : decode cL_law 642 = .ok (.aload_n 0, 1) := by decide +kernel
theorem dL_law_643 : decode cL_law 643 = .ok (.iload 4, 2) := by decide +kernel
theorem dL_law_645 : decode cL_law 645 = .ok (.iconst 2, 1) := by decide +kernel
theorem dL_law_646 : decode cL_law 646 = .ok (.iadd, 1) := by decide +kernel
theorem dL_law_647 : decode cL_law 647 = .ok (.iaload, 1) := by decide +kernel
theorem dL_law_648 : decode cL_law 648 = .ok (.aload_n 0, 1) := by decide +kernel
theorem dL_law_649 : decode cL_law 649 = .ok (.iload 4, 2) := by decide +kernel
theorem dL_law_651 : decode cL_law 651 = .ok (.iconst 3, 1) := by decide +kernel
theorem dL_law_652 : decode cL_law 652 = .ok (.iadd, 1) := by decide +kernel
theorem dL_law_653 : decode cL_law 653 = .ok (.iaload, 1) := by decide +kernel
theorem dL_law_654 : decode cL_law 654 = .ok (.invokevirtual 99, 3) := by decide +kernel
theorem dL_law_657 : decode cL_law 657 = .ok (.istore 6, 2) := by decide +kernel
theorem dL_law_659 : decode cL_law 659 = .ok (.aload_n 2, 1) := by decide +kernel
theorem dL_law_660 : decode cL_law 660 = .ok (.invokevirtual 80, 3) := by decide +kernel
theorem dL_law_663 : decode cL_law 663 = .ok (.iload 5, 2) := by decide +kernel
theorem dL_law_665 : decode cL_law 665 = .ok (.if_icmp .eq 5, 3) := by decide +kernel
theorem dL_law_668 : decode cL_law 668 = .ok (.iconst 0, 1) := by decide +kernel
theorem dL_law_669 : decode cL_law 669 = .ok (.ireturn, 1) := by decide +kernel
theorem dL_law_670 : decode cL_law 670 = .ok (.iload 5, 2) := by decide +kernel
theorem dL_law_672 : decode cL_law 672 = .ok (.ifCond .ne 15, 3) := by decide +kernel
theorem dL_law_675 : decode cL_law 675 = .ok (.aload_n 3, 1) := by decide +kernel
theorem dL_law_676 : decode cL_law 676 = .ok (.iconst 0, 1) := by decide +kernel
theorem dL_law_677 : decode cL_law 677 = .ok (.laload, 1) := by decide +kernel
theorem dL_law_678 : decode cL_law 678 = .ok (.iload 6, 2) := by decide +kernel
theorem dL_law_680 : decode cL_law 680 = .ok (.i2l, 1) := by decide +kernel
theorem dL_law_681 : decode cL_law 681 = .ok (.lcmp, 1) := by decide +kernel
theorem dL_law_682 : decode cL_law 682 = .ok (.ifCond .eq 5, 3) := by decide +kernel
theorem dL_law_685 : decode cL_law 685 = .ok (.iconst 0, 1) := by decide +kernel
theorem dL_law_686 : decode cL_law 686 = .ok (.ireturn, 1) := by decide +kernel
theorem dL_law_687 : decode cL_law 687 = .ok (.goto 762, 3) := by decide +kernel
theorem dL_law_690 : decode cL_law 690 = .ok (.aload_n 1, 1) := by decide +kernel
theorem dL_law_691 : decode cL_law 691 = .ok (.aload_n 0, 1) := by decide +kernel
theorem dL_law_692 : decode cL_law 692 = .ok (.iload 4, 2) := by decide +kernel
theorem dL_law_694 : decode cL_law 694 = .ok (.iconst 1, 1) := by decide +kernel
theorem dL_law_695 : decode cL_law 695 = .ok (.iadd, 1) := by decide +kernel
theorem dL_law_696 : decode cL_law 696 = .ok (.iaload, 1) := by decide +kernel
theorem dL_law_697 : decode cL_law 697 = .ok (.aload_n 3, 1) := by decide +kernel
theorem dL_law_698 : decode cL_law 698 = .ok (.invokestatic 100, 3) := by decide +kernel
theorem dL_law_701 : decode cL_law 701 = .ok (.istore 5, 2) := by decide +kernel
theorem dL_law_703 : decode cL_law 703 = .ok (.aload_n 2, 1) := by decide +kernel
theorem dL_law_704 : decode cL_law 704 = .ok (.aload_n 0, 1) := by decide +kernel
theorem dL_law_705 : decode cL_law 705 = .ok (.iload 4, 2) := by decide +kernel
theorem dL_law_707 : decode cL_law 707 = .ok (.iconst 1, 1) := by decide +kernel
theorem dL_law_708 : decode cL_law 708 = .ok (.iadd, 1) := by decide +kernel
theorem dL_law_709 : decode cL_law 709 = .ok (.iaload, 1) := by decide +kernel
theorem dL_law_710 : decode cL_law 710 = .ok (.invokevirtual 103, 3) := by decide +kernel
theorem dL_law_713 : decode cL_law 713 = .ok (.istore 6, 2) := by decide +kernel
theorem dL_law_715 : decode cL_law 715 = .ok (.aload_n 2, 1) := by decide +kernel
theorem dL_law_716 : decode cL_law 716 = .ok (.invokevirtual 80, 3) := by decide +kernel
theorem dL_law_719 : decode cL_law 719 = .ok (.iload 5, 2) := by decide +kernel
theorem dL_law_721 : decode cL_law 721 = .ok (.if_icmp .eq 5, 3) := by decide +kernel
theorem dL_law_724 : decode cL_law 724 = .ok (.iconst 0, 1) := by decide +kernel
theorem dL_law_725 : decode cL_law 725 = .ok (.ireturn, 1) := by decide +kernel
theorem dL_law_726 : decode cL_law 726 = .ok (.iload 5, 2) := by decide +kernel
theorem dL_law_728 : decode cL_law 728 = .ok (.ifCond .ne 15, 3) := by decide +kernel
theorem dL_law_731 : decode cL_law 731 = .ok (.aload_n 3, 1) := by decide +kernel
theorem dL_law_732 : decode cL_law 732 = .ok (.iconst 0, 1) := by decide +kernel
theorem dL_law_733 : decode cL_law 733 = .ok (.laload, 1) := by decide +kernel
theorem dL_law_734 : decode cL_law 734 = .ok (.iload 6, 2) := by decide +kernel
theorem dL_law_736 : decode cL_law 736 = .ok (.i2l, 1) := by decide +kernel
theorem dL_law_737 : decode cL_law 737 = .ok (.lcmp, 1) := by decide +kernel
theorem dL_law_738 : decode cL_law 738 = .ok (.ifCond .eq 5, 3) := by decide +kernel
theorem dL_law_741 : decode cL_law 741 = .ok (.iconst 0, 1) := by decide +kernel
theorem dL_law_742 : decode cL_law 742 = .ok (.ireturn, 1) := by decide +kernel
theorem dL_law_743 : decode cL_law 743 = .ok (.goto 706, 3) := by decide +kernel
theorem dL_law_746 : decode cL_law 746 = .ok (.aload_n 1, 1) := by decide +kernel
theorem dL_law_747 : decode cL_law 747 = .ok (.aload_n 0, 1) := by decide +kernel
theorem dL_law_748 : decode cL_law 748 = .ok (.iload 4, 2) := by decide +kernel
theorem dL_law_750 : decode cL_law 750 = .ok (.iconst 1, 1) := by decide +kernel
theorem dL_law_751 : decode cL_law 751 = .ok (.iadd, 1) := by decide +kernel
theorem dL_law_752 : decode cL_law 752 = .ok (.iaload, 1) := by decide +kernel
theorem dL_law_753 : decode cL_law 753 = .ok (.aload_n 3, 1) := by decide +kernel
theorem dL_law_754 : decode cL_law 754 = .ok (.invokestatic 104, 3) := by decide +kernel
theorem dL_law_757 : decode cL_law 757 = .ok (.istore 5, 2) := by decide +kernel
theorem dL_law_759 : decode cL_law 759 = .ok (.aload_n 2, 1) := by decide +kernel
theorem dL_law_760 : decode cL_law 760 = .ok (.aload_n 0, 1) := by decide +kernel
theorem dL_law_761 : decode cL_law 761 = .ok (.iload 4, 2) := by decide +kernel
theorem dL_law_763 : decode cL_law 763 = .ok (.iconst 1, 1) := by decide +kernel
theorem dL_law_764 : decode cL_law 764 = .ok (.iadd, 1) := by decide +kernel
theorem dL_law_765 : decode cL_law 765 = .ok (.iaload, 1) := by decide +kernel
theorem dL_law_766 : decode cL_law 766 = .ok (.invokevirtual 106, 3) := by decide +kernel
theorem dL_law_769 : decode cL_law 769 = .ok (.istore 6, 2) := by decide +kernel
theorem dL_law_771 : decode cL_law 771 = .ok (.aload_n 2, 1) := by decide +kernel
theorem dL_law_772 : decode cL_law 772 = .ok (.invokevirtual 80, 3) := by decide +kernel
theorem dL_law_775 : decode cL_law 775 = .ok (.iload 5, 2) := by decide +kernel
theorem dL_law_777 : decode cL_law 777 = .ok (.if_icmp .eq 5, 3) := by decide +kernel
theorem dL_law_780 : decode cL_law 780 = .ok (.iconst 0, 1) := by decide +kernel
theorem dL_law_781 : decode cL_law 781 = .ok (.ireturn, 1) := by decide +kernel
theorem dL_law_782 : decode cL_law 782 = .ok (.iload 5, 2) := by decide +kernel
theorem dL_law_784 : decode cL_law 784 = .ok (.ifCond .ne 15, 3) := by decide +kernel
theorem dL_law_787 : decode cL_law 787 = .ok (.aload_n 3, 1) := by decide +kernel
theorem dL_law_788 : decode cL_law 788 = .ok (.iconst 0, 1) := by decide +kernel
theorem dL_law_789 : decode cL_law 789 = .ok (.laload, 1) := by decide +kernel
theorem dL_law_790 : decode cL_law 790 = .ok (.iload 6, 2) := by decide +kernel
theorem dL_law_792 : decode cL_law 792 = .ok (.i2l, 1) := by decide +kernel
theorem dL_law_793 : decode cL_law 793 = .ok (.lcmp, 1) := by decide +kernel
theorem dL_law_794 : decode cL_law 794 = .ok (.ifCond .eq 5, 3) := by decide +kernel
theorem dL_law_797 : decode cL_law 797 = .ok (.iconst 0, 1) := by decide +kernel
theorem dL_law_798 : decode cL_law 798 = .ok (.ireturn, 1) := by decide +kernel
theorem dL_law_799 : decode cL_law 799 = .ok (.goto 650, 3) := by decide +kernel
theorem dL_law_802 : decode cL_law 802 = .ok (.aload_n 1, 1) := by decide +kernel
theorem dL_law_803 : decode cL_law 803 = .ok (.invokevirtual 107, 3) := by decide +kernel
theorem dL_law_806 : decode cL_law 806 = .ok (.aload_n 2, 1) := by decide +kernel
theorem dL_law_807 : decode cL_law 807 = .ok (.invokevirtual 110, 3) := by decide +kernel
theorem dL_law_810 : decode cL_law 810 = .ok (.if_icmp .eq 639, 3) := by decide +kernel
theorem dL_law_813 : decode cL_law 813 = .ok (.iconst 0, 1) := by decide +kernel
theorem dL_law_814 : decode cL_law 814 = .ok (.ireturn, 1) := by decide +kernel
theorem dL_law_815 : decode cL_law 815 = .ok (.aload_n 1, 1) := by decide +kernel
theorem dL_law_816 : decode cL_law 816 = .ok (.invokevirtual 111, 3) := by decide +kernel
theorem dL_law_819 : decode cL_law 819 = .ok (.aload_n 2, 1) := by decide +kernel
theorem dL_law_820 : decode cL_law 820 = .ok (.invokevirtual 114, 3) := by decide +kernel
theorem dL_law_823 : decode cL_law 823 = .ok (.if_icmp .eq 626, 3) := by decide +kernel
theorem dL_law_826 : decode cL_law 826 = .ok (.iconst 0, 1) := by decide +kernel
theorem dL_law_827 : decode cL_law 827 = .ok (.ireturn, 1) := by decide +kernel
theorem dL_law_828 : decode cL_law 828 = .ok (.aload_n 1, 1) := by decide +kernel
theorem dL_law_829 : decode cL_law 829 = .ok (.aload_n 0, 1) := by decide +kernel
theorem dL_law_830 : decode cL_law 830 = .ok (.iload 4, 2) := by decide +kernel
theorem dL_law_832 : decode cL_law 832 = .ok (.iconst 1, 1) := by decide +kernel
theorem dL_law_833 : decode cL_law 833 = .ok (.iadd, 1) := by decide +kernel
theorem dL_law_834 : decode cL_law 834 = .ok (.iaload, 1) := by decide +kernel
theorem dL_law_835 : decode cL_law 835 = .ok (.aload_n 0, 1) := by decide +kernel
theorem dL_law_836 : decode cL_law 836 = .ok (.iload 4, 2) := by decide +kernel
theorem dL_law_838 : decode cL_law 838 = .ok (.iconst 2, 1) := by decide +kernel
theorem dL_law_839 : decode cL_law 839 = .ok (.iadd, 1) := by decide +kernel
theorem dL_law_840 : decode cL_law 840 = .ok (.iaload, 1) := by decide +kernel
theorem dL_law_841 : decode cL_law 841 = .ok (.aload_n 3, 1) := by decide +kernel
theorem dL_law_842 : decode cL_law 842 = .ok (.invokestatic 115, 3) := by decide +kernel
theorem dL_law_845 : decode cL_law 845 = .ok (.istore 5, 2) := by decide +kernel
theorem dL_law_847 : decode cL_law 847 = .ok (.aload_n 2, 1) := by decide +kernel
theorem dL_law_848 : decode cL_law 848 = .ok (.aload_n 0, 1) := by decide +kernel
theorem dL_law_849 : decode cL_law 849 = .ok (.iload 4, 2) := by decide +kernel
theorem dL_law_851 : decode cL_law 851 = .ok (.iconst 1, 1) := by decide +kernel
theorem dL_law_852 : decode cL_law 852 = .ok (.iadd, 1) := by decide +kernel
theorem dL_law_853 : decode cL_law 853 = .ok (.iaload, 1) := by decide +kernel
theorem dL_law_854 : decode cL_law 854 = .ok (.aload_n 0, 1) := by decide +kernel
theorem dL_law_855 : decode cL_law 855 = .ok (.iload 4, 2) := by decide +kernel
theorem dL_law_857 : decode cL_law 857 = .ok (.iconst 2, 1) := by decide +kernel
theorem dL_law_858 : decode cL_law 858 = .ok (.iadd, 1) := by decide +kernel
theorem dL_law_859 : decode cL_law 859 = .ok (.iaload, 1) := by decide +kernel
theorem dL_law_860 : decode cL_law 860 = .ok (.invokevirtual 117, 3) := by decide +kernel
theorem dL_law_863 : decode cL_law 863 = .ok (.istore 6, 2) := by decide +kernel
theorem dL_law_865 : decode cL_law 865 = .ok (.aload_n 2, 1) := by decide +kernel
theorem dL_law_866 : decode cL_law 866 = .ok (.invokevirtual 80, 3) := by decide +kernel
theorem dL_law_869 : decode cL_law 869 = .ok (.iload 5, 2) := by decide +kernel
theorem dL_law_871 : decode cL_law 871 = .ok (.if_icmp .eq 5, 3) := by decide +kernel
theorem dL_law_874 : decode cL_law 874 = .ok (.iconst 0, 1) := by decide +kernel
theorem dL_law_875 : decode cL_law 875 = .ok (.ireturn, 1) := by decide +kernel
theorem dL_law_876 : decode cL_law 876 = .ok (.iload 5, 2) := by decide +kernel
theorem dL_law_878 : decode cL_law 878 = .ok (.ifCond .ne 15, 3) := by decide +kernel
theorem dL_law_881 : decode cL_law 881 = .ok (.aload_n 3, 1) := by decide +kernel
theorem dL_law_882 : decode cL_law 882 = .ok (.iconst 0, 1) := by decide +kernel
theorem dL_law_883 : decode cL_law 883 = .ok (.laload, 1) := by decide +kernel
theorem dL_law_884 : decode cL_law 884 = .ok (.iload 6, 2) := by decide +kernel
theorem dL_law_886 : decode cL_law 886 = .ok (.i2l, 1) := by decide +kernel
theorem dL_law_887 : decode cL_law 887 = .ok (.lcmp, 1) := by decide +kernel
theorem dL_law_888 : decode cL_law 888 = .ok (.ifCond .eq 5, 3) := by decide +kernel
theorem dL_law_891 : decode cL_law 891 = .ok (.iconst 0, 1) := by decide +kernel
theorem dL_law_892 : decode cL_law 892 = .ok (.ireturn, 1) := by decide +kernel
theorem dL_law_893 : decode cL_law 893 = .ok (.goto 556, 3) := by decide +kernel
theorem dL_law_896 : decode cL_law 896 = .ok (.aload_n 1, 1) := by decide +kernel
theorem dL_law_897 : decode cL_law 897 = .ok (.aload_n 0, 1) := by decide +kernel
theorem dL_law_898 : decode cL_law 898 = .ok (.iload 4, 2) := by decide +kernel
theorem dL_law_900 : decode cL_law 900 = .ok (.iconst 1, 1) := by decide +kernel
theorem dL_law_901 : decode cL_law 901 = .ok (.iadd, 1) := by decide +kernel
theorem dL_law_902 : decode cL_law 902 = .ok (.iaload, 1) := by decide +kernel
theorem dL_law_903 : decode cL_law 903 = .ok (.aload_n 3, 1) := by decide +kernel
theorem dL_law_904 : decode cL_law 904 = .ok (.invokestatic 118, 3) := by decide +kernel
theorem dL_law_907 : decode cL_law 907 = .ok (.istore 5, 2) := by decide +kernel
theorem dL_law_909 : decode cL_law 909 = .ok (.aload_n 2, 1) := by decide +kernel
theorem dL_law_910 : decode cL_law 910 = .ok (.aload_n 0, 1) := by decide +kernel
theorem dL_law_911 : decode cL_law 911 = .ok (.iload 4, 2) := by decide +kernel
theorem dL_law_913 : decode cL_law 913 = .ok (.iconst 1, 1) := by decide +kernel
theorem dL_law_914 : decode cL_law 914 = .ok (.iadd, 1) := by decide +kernel
theorem dL_law_915 : decode cL_law 915 = .ok (.iaload, 1) := by decide +kernel
theorem dL_law_916 : decode cL_law 916 = .ok (.invokevirtual 120, 3) := by decide +kernel
theorem dL_law_919 : decode cL_law 919 = .ok (.istore 6, 2) := by decide +kernel
theorem dL_law_921 : decode cL_law 921 = .ok (.aload_n 2, 1) := by decide +kernel
theorem dL_law_922 : decode cL_law 922 = .ok (.invokevirtual 80, 3) := by decide +kernel
theorem dL_law_925 : decode cL_law 925 = .ok (.iload 5, 2) := by decide +kernel
theorem dL_law_927 : decode cL_law 927 = .ok (.if_icmp .eq 5, 3) := by decide +kernel
theorem dL_law_930 : decode cL_law 930 = .ok (.iconst 0, 1) := by decide +kernel
theorem dL_law_931 : decode cL_law 931 = .ok (.ireturn, 1) := by decide +kernel
theorem dL_law_932 : decode cL_law 932 = .ok (.iload 5, 2) := by decide +kernel
theorem dL_law_934 : decode cL_law 934 = .ok (.ifCond .ne 15, 3) := by decide +kernel
theorem dL_law_937 : decode cL_law 937 = .ok (.aload_n 3, 1) := by decide +kernel
theorem dL_law_938 : decode cL_law 938 = .ok (.iconst 0, 1) := by decide +kernel
theorem dL_law_939 : decode cL_law 939 = .ok (.laload, 1) := by decide +kernel
theorem dL_law_940 : decode cL_law 940 = .ok (.iload 6, 2) := by decide +kernel
theorem dL_law_942 : decode cL_law 942 = .ok (.i2l, 1) := by decide +kernel
theorem dL_law_943 : decode cL_law 943 = .ok (.lcmp, 1) := by decide +kernel
theorem dL_law_944 : decode cL_law 944 = .ok (.ifCond .eq 5, 3) := by decide +kernel
theorem dL_law_947 : decode cL_law 947 = .ok (.iconst 0, 1) := by decide +kernel
theorem dL_law_948 : decode cL_law 948 = .ok (.ireturn, 1) := by decide +kernel
theorem dL_law_949 : decode cL_law 949 = .ok (.goto 500, 3) := by decide +kernel
theorem dL_law_952 : decode cL_law 952 = .ok (.aload_n 1, 1) := by decide +kernel
theorem dL_law_953 : decode cL_law 953 = .ok (.aload_n 0, 1) := by decide +kernel
theorem dL_law_954 : decode cL_law 954 = .ok (.iload 4, 2) := by decide +kernel
theorem dL_law_956 : decode cL_law 956 = .ok (.iconst 1, 1) := by decide +kernel
theorem dL_law_957 : decode cL_law 957 = .ok (.iadd, 1) := by decide +kernel
theorem dL_law_958 : decode cL_law 958 = .ok (.iaload, 1) := by decide +kernel
theorem dL_law_959 : decode cL_law 959 = .ok (.aload_n 3, 1) := by decide +kernel
theorem dL_law_960 : decode cL_law 960 = .ok (.invokestatic 121, 3) := by decide +kernel
theorem dL_law_963 : decode cL_law 963 = .ok (.istore 5, 2) := by decide +kernel
theorem dL_law_965 : decode cL_law 965 = .ok (.aload_n 2, 1) := by decide +kernel
theorem dL_law_966 : decode cL_law 966 = .ok (.aload_n 0, 1) := by decide +kernel
theorem dL_law_967 : decode cL_law 967 = .ok (.iload 4, 2) := by decide +kernel
theorem dL_law_969 : decode cL_law 969 = .ok (.iconst 1, 1) := by decide +kernel
theorem dL_law_970 : decode cL_law 970 = .ok (.iadd, 1) := by decide +kernel
theorem dL_law_971 : decode cL_law 971 = .ok (.iaload, 1) := by decide +kernel
theorem dL_law_972 : decode cL_law 972 = .ok (.invokevirtual 123, 3) := by decide +kernel
theorem dL_law_975 : decode cL_law 975 = .ok (.istore 6, 2) := by decide +kernel
theorem dL_law_977 : decode cL_law 977 = .ok (.aload_n 2, 1) := by decide +kernel
theorem dL_law_978 : decode cL_law 978 = .ok (.invokevirtual 80, 3) := by decide +kernel
theorem dL_law_981 : decode cL_law 981 = .ok (.iload 5, 2) := by decide +kernel
theorem dL_law_983 : decode cL_law 983 = .ok (.if_icmp .eq 5, 3) := by decide +kernel
theorem dL_law_986 : decode cL_law 986 = .ok (.iconst 0, 1) := by decide +kernel
theorem dL_law_987 : decode cL_law 987 = .ok (.ireturn, 1) := by decide +kernel
theorem dL_law_988 : decode cL_law 988 = .ok (.iload 5, 2) := by decide +kernel
theorem dL_law_990 : decode cL_law 990 = .ok (.ifCond .ne 15, 3) := by decide +kernel
theorem dL_law_993 : decode cL_law 993 = .ok (.aload_n 3, 1) := by decide +kernel
theorem dL_law_994 : decode cL_law 994 = .ok (.iconst 0, 1) := by decide +kernel
theorem dL_law_995 : decode cL_law 995 = .ok (.laload, 1) := by decide +kernel
theorem dL_law_996 : decode cL_law 996 = .ok (.iload 6, 2) := by decide +kernel
theorem dL_law_998 : decode cL_law 998 = .ok (.i2l, 1) := by decide +kernel
theorem dL_law_999 : decode cL_law 999 = .ok (.lcmp, 1) := by decide +kernel
theorem dL_law_1000 : decode cL_law 1000 = .ok (.ifCond .eq 5, 3) := by decide +kernel
theorem dL_law_1003 : decode cL_law 1003 = .ok (.iconst 0, 1) := by decide +kernel
theorem dL_law_1004 : decode cL_law 1004 = .ok (.ireturn, 1) := by decide +kernel
theorem dL_law_1005 : decode cL_law 1005 = .ok (.goto 444, 3) := by decide +kernel
theorem dL_law_1008 : decode cL_law 1008 = .ok (.aload_n 1, 1) := by decide +kernel
theorem dL_law_1009 : decode cL_law 1009 = .ok (.aload_n 0, 1) := by decide +kernel
theorem dL_law_1010 : decode cL_law 1010 = .ok (.iload 4, 2) := by decide +kernel
theorem dL_law_1012 : decode cL_law 1012 = .ok (.iconst 1, 1) := by decide +kernel
theorem dL_law_1013 : decode cL_law 1013 = .ok (.iadd, 1) := by decide +kernel
theorem dL_law_1014 : decode cL_law 1014 = .ok (.iaload, 1) := by decide +kernel
theorem dL_law_1015 : decode cL_law 1015 = .ok (.aload_n 0, 1) := by decide +kernel
theorem dL_law_1016 : decode cL_law 1016 = .ok (.iload 4, 2) := by decide +kernel
theorem dL_law_1018 : decode cL_law 1018 = .ok (.iconst 2, 1) := by decide +kernel
theorem dL_law_1019 : decode cL_law 1019 = .ok (.iadd, 1) := by decide +kernel
theorem dL_law_1020 : decode cL_law 1020 = .ok (.iaload, 1) := by decide +kernel
theorem dL_law_1021 : decode cL_law 1021 = .ok (.aload_n 0, 1) := by decide +kernel
theorem dL_law_1022 : decode cL_law 1022 = .ok (.iload 4, 2) := by decide +kernel
theorem dL_law_1024 : decode cL_law 1024 = .ok (.iconst 3, 1) := by decide +kernel
theorem dL_law_1025 : decode cL_law 1025 = .ok (.iadd, 1) := by decide +kernel
theorem dL_law_1026 : decode cL_law 1026 = .ok (.iaload, 1) := by decide +kernel
theorem dL_law_1027 : decode cL_law 1027 = .ok (.aload_n 3, 1) := by decide +kernel
theorem dL_law_1028 : decode cL_law 1028 = .ok (.invokestatic 124, 3) := by decide +kernel
theorem dL_law_1031 : decode cL_law 1031 = .ok (.istore 5, 2) := by decide +kernel
theorem dL_law_1033 : decode cL_law 1033 = .ok (.aload_n 2, 1) := by decide +kernel
theorem dL_law_1034 : decode cL_law 1034 = .ok (.aload_n 0, 1) := by decide +kernel
theorem dL_law_1035 : decode cL_law 1035 = .ok (.iload 4, 2) := by decide +kernel
theorem dL_law_1037 : decode cL_law 1037 = .ok (.iconst 1, 1) := by decide +kernel
theorem dL_law_1038 : decode cL_law 1038 = .ok (.iadd, 1) := by decide +kernel
theorem dL_law_1039 : decode cL_law 1039 = .ok (.iaload, 1) := by decide +kernel
theorem dL_law_1040 : decode cL_law 1040 = .ok (.aload_n 0, 1) := by decide +kernel
theorem dL_law_1041 : decode cL_law 1041 = .ok (.iload 4, 2) := by decide +kernel
theorem dL_law_1043 : decode cL_law 1043 = .ok (.iconst 2, 1) := by decide +kernel
theorem dL_law_1044 : decode cL_law 1044 = .ok (.iadd, 1) := by decide +kernel
theorem dL_law_1045 : decode cL_law 1045 = .ok (.iaload, 1) := by decide +kernel
theorem dL_law_1046 : decode cL_law 1046 = .ok (.aload_n 0, 1) := by decide +kernel
theorem dL_law_1047 : decode cL_law 1047 = .ok (.iload 4, 2) := by decide +kernel
theorem dL_law_1049 : decode cL_law 1049 = .ok (.iconst 3, 1) := by decide +kernel
theorem dL_law_1050 : decode cL_law 1050 = .ok (.iadd, 1) := by decide +kernel
theorem dL_law_1051 : decode cL_law 1051 = .ok (.iaload, 1) := by decide +kernel
theorem dL_law_1052 : decode cL_law 1052 = .ok (.invokevirtual 126, 3) := by decide +kernel
theorem dL_law_1055 : decode cL_law 1055 = .ok (.istore 6, 2) := by decide +kernel
theorem dL_law_1057 : decode cL_law 1057 = .ok (.aload_n 2, 1) := by decide +kernel
theorem dL_law_1058 : decode cL_law 1058 = .ok (.invokevirtual 80, 3) := by decide +kernel
theorem dL_law_1061 : decode cL_law 1061 = .ok (.iload 5, 2) := by decide +kernel
theorem dL_law_1063 : decode cL_law 1063 = .ok (.if_icmp .eq 5, 3) := by decide +kernel
theorem dL_law_1066 : decode cL_law 1066 = .ok (.iconst 0, 1) := by decide +kernel
theorem dL_law_1067 : decode cL_law 1067 = .ok (.ireturn, 1) := by decide +kernel
theorem dL_law_1068 : decode cL_law 1068 = .ok (.iload 5, 2) := by decide +kernel
theorem dL_law_1070 : decode cL_law 1070 = .ok (.ifCond .ne 15, 3) := by decide +kernel
theorem dL_law_1073 : decode cL_law 1073 = .ok (.aload_n 3, 1) := by decide +kernel
theorem dL_law_1074 : decode cL_law 1074 = .ok (.iconst 0, 1) := by decide +kernel
theorem dL_law_1075 : decode cL_law 1075 = .ok (.laload, 1) := by decide +kernel
theorem dL_law_1076 : decode cL_law 1076 = .ok (.iload 6, 2) := by decide +kernel
theorem dL_law_1078 : decode cL_law 1078 = .ok (.i2l, 1) := by decide +kernel
theorem dL_law_1079 : decode cL_law 1079 = .ok (.lcmp, 1) := by decide +kernel
theorem dL_law_1080 : decode cL_law 1080 = .ok (.ifCond .eq 5, 3) := by decide +kernel
theorem dL_law_1083 : decode cL_law 1083 = .ok (.iconst 0, 1) := by decide +kernel
theorem dL_law_1084 : decode cL_law 1084 = .ok (.ireturn, 1) := by decide +kernel
theorem dL_law_1085 : decode cL_law 1085 = .ok (.goto 364, 3) := by decide +kernel
theorem dL_law_1088 : decode cL_law 1088 = .ok (.aload_n 1, 1) := by decide +kernel
theorem dL_law_1089 : decode cL_law 1089 = .ok (.aload_n 0, 1) := by decide +kernel
theorem dL_law_1090 : decode cL_law 1090 = .ok (.iload 4, 2) := by decide +kernel
theorem dL_law_1092 : decode cL_law 1092 = .ok (.iconst 1, 1) := by decide +kernel
theorem dL_law_1093 : decode cL_law 1093 = .ok (.iadd, 1) := by decide +kernel
theorem dL_law_1094 : decode cL_law 1094 = .ok (.iaload, 1) := by decide +kernel
theorem dL_law_1095 : decode cL_law 1095 = .ok (.aload_n 0, 1) := by decide +kernel
theorem dL_law_1096 : decode cL_law 1096 = .ok (.iload 4, 2) := by decide +kernel
theorem dL_law_1098 : decode cL_law 1098 = .ok (.iconst 2, 1) := by decide +kernel
theorem dL_law_1099 : decode cL_law 1099 = .ok (.iadd, 1) := by decide +kernel
theorem dL_law_1100 : decode cL_law 1100 = .ok (.iaload, 1) := by decide +kernel
theorem dL_law_1101 : decode cL_law 1101 = .ok (.invokestatic 127, 3) := by decide +kernel
theorem dL_law_1104 : decode cL_law 1104 = .ok (.istore 5, 2) := by decide +kernel
theorem dL_law_1106 : decode cL_law 1106 = .ok (.aload_n 2, 1) := by decide +kernel
theorem dL_law_1107 : decode cL_law 1107 = .ok (.aload_n 0, 1) := by decide +kernel
theorem dL_law_1108 : decode cL_law 1108 = .ok (.iload 4, 2) := by decide +kernel
theorem dL_law_1110 : decode cL_law 1110 = .ok (.iconst 1, 1) := by decide +kernel
theorem dL_law_1111 : decode cL_law 1111 = .ok (.iadd, 1) := by decide +kernel
theorem dL_law_1112 : decode cL_law 1112 = .ok (.iaload, 1) := by decide +kernel
theorem dL_law_1113 : decode cL_law 1113 = .ok (.aload_n 0, 1) := by decide +kernel
theorem dL_law_1114 : decode cL_law 1114 = .ok (.iload 4, 2) := by decide +kernel
theorem dL_law_1116 : decode cL_law 1116 = .ok (.iconst 2, 1) := by decide +kernel
theorem dL_law_1117 : decode cL_law 1117 = .ok (.iadd, 1) := by decide +kernel
theorem dL_law_1118 : decode cL_law 1118 = .ok (.iaload, 1) := by decide +kernel
theorem dL_law_1119 : decode cL_law 1119 = .ok (.invokevirtual 130, 3) := by decide +kernel
theorem dL_law_1122 : decode cL_law 1122 = .ok (.aload_n 2, 1) := by decide +kernel
theorem dL_law_1123 : decode cL_law 1123 = .ok (.invokevirtual 80, 3) := by decide +kernel
theorem dL_law_1126 : decode cL_law 1126 = .ok (.iload 5, 2) := by decide +kernel
theorem dL_law_1128 : decode cL_law 1128 = .ok (.if_icmp .eq 5, 3) := by decide +kernel
theorem dL_law_1131 : decode cL_law 1131 = .ok (.iconst 0, 1) := by decide +kernel
theorem dL_law_1132 : decode cL_law 1132 = .ok (.ireturn, 1) := by decide +kernel
theorem dL_law_1133 : decode cL_law 1133 = .ok (.goto 316, 3) := by decide +kernel
theorem dL_law_1136 : decode cL_law 1136 = .ok (.aload_n 1, 1) := by decide +kernel
theorem dL_law_1137 : decode cL_law 1137 = .ok (.aload_n 0, 1) := by decide +kernel
theorem dL_law_1138 : decode cL_law 1138 = .ok (.iload 4, 2) := by decide +kernel
theorem dL_law_1140 : decode cL_law 1140 = .ok (.iconst 1, 1) := by decide +kernel
theorem dL_law_1141 : decode cL_law 1141 = .ok (.iadd, 1) := by decide +kernel
theorem dL_law_1142 : decode cL_law 1142 = .ok (.iaload, 1) := by decide +kernel
theorem dL_law_1143 : decode cL_law 1143 = .ok (.aload_n 0, 1) := by decide +kernel
theorem dL_law_1144 : decode cL_law 1144 = .ok (.iload 4, 2) := by decide +kernel
theorem dL_law_1146 : decode cL_law 1146 = .ok (.iconst 2, 1) := by decide +kernel
theorem dL_law_1147 : decode cL_law 1147 = .ok (.iadd, 1) := by decide +kernel
theorem dL_law_1148 : decode cL_law 1148 = .ok (.iaload, 1) := by decide +kernel
theorem dL_law_1149 : decode cL_law 1149 = .ok (.aload_n 3, 1) := by decide +kernel
theorem dL_law_1150 : decode cL_law 1150 = .ok (.invokestatic 131, 3) := by decide +kernel
theorem dL_law_1153 : decode cL_law 1153 = .ok (.istore 5, 2) := by decide +kernel
theorem dL_law_1155 : decode cL_law 1155 = .ok (.aload_n 2, 1) := by decide +kernel
theorem dL_law_1156 : decode cL_law 1156 = .ok (.aload_n 0, 1) := by decide +kernel
theorem dL_law_1157 : decode cL_law 1157 = .ok (.iload 4, 2) := by decide +kernel
theorem dL_law_1159 : decode cL_law 1159 = .ok (.iconst 1, 1) := by decide +kernel
theorem dL_law_1160 : decode cL_law 1160 = .ok (.iadd, 1) := by decide +kernel
