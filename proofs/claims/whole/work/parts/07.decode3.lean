theorem dX9_spelling_146 : decode cX9_spelling 146 = .ok (.iconst 1, 1) := by decide +kernel
theorem dX9_spelling_147 : decode cX9_spelling 147 = .ok (.iadd, 1) := by decide +kernel
theorem dX9_spelling_148 : decode cX9_spelling 148 = .ok (.iastore, 1) := by decide +kernel
theorem dX9_spelling_149 : decode cX9_spelling 149 = .ok (.aload_n 0, 1) := by decide +kernel
theorem dX9_spelling_150 : decode cX9_spelling 150 = .ok (.invokevirtual 177, 3) := by decide +kernel
theorem dX9_spelling_153 : decode cX9_spelling 153 = .ok (.aload_n 0, 1) := by decide +kernel
theorem dX9_spelling_154 : decode cX9_spelling 154 = .ok (.getfield 9, 3) := by decide +kernel
theorem dX9_spelling_157 : decode cX9_spelling 157 = .ok (.iload_n 1, 1) := by decide +kernel
theorem dX9_spelling_158 : decode cX9_spelling 158 = .ok (.iaload, 1) := by decide +kernel
theorem dX9_spelling_159 : decode cX9_spelling 159 = .ok (.ireturn, 1) := by decide +kernel
set_option maxRecDepth 20000 in
theorem ggX9_word_X9_isRow : GoodIn wsX9_word wsX9_isRow := goodIn_r _ [10, 11, 12, 9, 13, 14, 15, 16] (by decide +kernel) (by decide +kernel)
set_option maxRecDepth 20000 in
theorem gX9_word_X9_isRow : GoodIn wsX9_word (va_wsS RX9 169 yX9_isRow wsX9_isRow) := goodIn_app (goodIn_of _ (by decide +kernel)) ggX9_word_X9_isRow
set_option maxRecDepth 20000 in
theorem ggX9_word_X9_fail : GoodIn wsX9_word wsX9_fail := goodIn_r _ [20, 1, 27, 28, 29, 30, 31, 32, 33, 34, 35, 36, 37, 38, 39, 40, 41, 42, 43, 44, 45, 46, 47, 48, 49, 50, 51, 52, 53, 54, 55, 56, 57, 58, 59, 60, 61, 62, 63, 64, 65, 66, 67, 68, 69, 70, 71, 72, 73, 74, 75, 76, 77, 78, 79, 80, 81, 82, 83, 84, 85, 86, 87] (by decide +kernel) (by decide +kernel)
set_option maxRecDepth 20000 in
theorem gX9_word_X9_fail : GoodIn wsX9_word (wsV RX9 173 RX9 yX9_fail wsX9_fail) := goodIn_app (goodIn_of _ (by decide +kernel)) ggX9_word_X9_fail
set_option maxRecDepth 20000 in
theorem ggX9_word_X9_changed : GoodIn wsX9_word wsX9_changed := goodIn_r _ [24, 25, 26, 27, 28, 29, 30, 31, 32, 33, 34, 35, 36, 37, 38, 39, 40, 41, 42, 43, 44, 45, 46, 47, 48, 49, 50, 51, 52, 53, 54, 55, 56, 57, 58, 59, 60, 61, 62, 63, 64, 65, 66, 67, 68, 69, 70, 71, 72, 73, 74, 75, 76, 77, 78, 79, 80, 81, 82, 83, 84, 85, 86, 87] (by decide +kernel) (by decide +kernel)
set_option maxRecDepth 20000 in
theorem gX9_word_X9_changed : GoodIn wsX9_word (wsV RX9 177 RX9 yX9_changed wsX9_changed) := goodIn_app (goodIn_of _ (by decide +kernel)) ggX9_word_X9_changed
theorem dX9_word_0 : decode cX9_word 0 = .ok (.aload_n 0, 1) := by decide +kernel
theorem dX9_word_1 : decode cX9_word 1 = .ok (.iconst 0, 1) := by decide +kernel
theorem dX9_word_2 : decode cX9_word 2 = .ok (.putfield 151, 3) := by decide +kernel
theorem dX9_word_5 : decode cX9_word 5 = .ok (.lload_n 1, 1) := by decide +kernel
theorem dX9_word_6 : decode cX9_word 6 = .ok (.bipush 6, 2) := by decide +kernel
theorem dX9_word_8 : decode cX9_word 8 = .ok (.bipush 6, 2) := by decide +kernel
theorem dX9_word_10 : decode cX9_word 10 = .ok (.bipush 50, 2) := by decide +kernel
theorem dX9_word_12 : decode cX9_word 12 = .ok (.invokestatic 169, 3) := by decide +kernel
theorem dX9_word_15 : decode cX9_word 15 = .ok (.ifCond .eq 40, 3) := by decide +kernel
theorem dX9_word_18 : decode cX9_word 18 = .ok (.lload_n 3, 1) := by decide +kernel
theorem dX9_word_19 : decode cX9_word 19 = .ok (.bipush 14, 2) := by decide +kernel
theorem dX9_word_21 : decode cX9_word 21 = .ok (.iconst 4, 1) := by decide +kernel
theorem dX9_word_22 : decode cX9_word 22 = .ok (.sipush 16383, 3) := by decide +kernel
theorem dX9_word_25 : decode cX9_word 25 = .ok (.invokestatic 169, 3) := by decide +kernel
theorem dX9_word_28 : decode cX9_word 28 = .ok (.ifCond .eq 27, 3) := by decide +kernel
theorem dX9_word_31 : decode cX9_word 31 = .ok (.iload 5, 2) := by decide +kernel
theorem dX9_word_33 : decode cX9_word 33 = .ok (.ifCond .lt 22, 3) := by decide +kernel
theorem dX9_word_36 : decode cX9_word 36 = .ok (.iload 5, 2) := by decide +kernel
theorem dX9_word_38 : decode cX9_word 38 = .ok (.bipush 7, 2) := by decide +kernel
theorem dX9_word_40 : decode cX9_word 40 = .ok (.if_icmp .gt 15, 3) := by decide +kernel
theorem dX9_word_43 : decode cX9_word 43 = .ok (.iload 6, 2) := by decide +kernel
theorem dX9_word_45 : decode cX9_word 45 = .ok (.iconst (-1), 1) := by decide +kernel
theorem dX9_word_46 : decode cX9_word 46 = .ok (.if_icmp .lt 9, 3) := by decide +kernel
theorem dX9_word_49 : decode cX9_word 49 = .ok (.iload 6, 2) := by decide +kernel
theorem dX9_word_51 : decode cX9_word 51 = .ok (.iconst 5, 1) := by decide +kernel
theorem dX9_word_52 : decode cX9_word 52 = .ok (.if_icmp .le 8, 3) := by decide +kernel
theorem dX9_word_55 : decode cX9_word 55 = .ok (.aload_n 0, 1) := by decide +kernel
theorem dX9_word_56 : decode cX9_word 56 = .ok (.invokevirtual 173, 3) := by decide +kernel
theorem dX9_word_59 : decode cX9_word 59 = .ok (.ireturn, 1) := by decide +kernel
theorem dX9_word_60 : decode cX9_word 60 = .ok (.aload_n 0, 1) := by decide +kernel
theorem dX9_word_61 : decode cX9_word 61 = .ok (.getfield 180, 3) := by decide +kernel
theorem dX9_word_64 : decode cX9_word 64 = .ok (.bipush 60, 2) := by decide +kernel
theorem dX9_word_66 : decode cX9_word 66 = .ok (.if_icmp .ne 5, 3) := by decide +kernel
theorem dX9_word_69 : decode cX9_word 69 = .ok (.iconst (-1), 1) := by decide +kernel
theorem dX9_word_70 : decode cX9_word 70 = .ok (.ireturn, 1) := by decide +kernel
theorem dX9_word_71 : decode cX9_word 71 = .ok (.aload_n 0, 1) := by decide +kernel
theorem dX9_word_72 : decode cX9_word 72 = .ok (.getfield 20, 3) := by decide +kernel
theorem dX9_word_75 : decode cX9_word 75 = .ok (.aload_n 0, 1) := by decide +kernel
theorem dX9_word_76 : decode cX9_word 76 = .ok (.getfield 180, 3) := by decide +kernel
theorem dX9_word_79 : decode cX9_word 79 = .ok (.lload_n 1, 1) := by decide +kernel
theorem dX9_word_80 : decode cX9_word 80 = .ok (.lastore, 1) := by decide +kernel
theorem dX9_word_81 : decode cX9_word 81 = .ok (.aload_n 0, 1) := by decide +kernel
theorem dX9_word_82 : decode cX9_word 82 = .ok (.getfield 23, 3) := by decide +kernel
theorem dX9_word_85 : decode cX9_word 85 = .ok (.aload_n 0, 1) := by decide +kernel
theorem dX9_word_86 : decode cX9_word 86 = .ok (.getfield 180, 3) := by decide +kernel
theorem dX9_word_89 : decode cX9_word 89 = .ok (.lload_n 3, 1) := by decide +kernel
theorem dX9_word_90 : decode cX9_word 90 = .ok (.lastore, 1) := by decide +kernel
theorem dX9_word_91 : decode cX9_word 91 = .ok (.aload_n 0, 1) := by decide +kernel
theorem dX9_word_92 : decode cX9_word 92 = .ok (.getfield 29, 3) := by decide +kernel
theorem dX9_word_95 : decode cX9_word 95 = .ok (.aload_n 0, 1) := by decide +kernel
theorem dX9_word_96 : decode cX9_word 96 = .ok (.getfield 180, 3) := by decide +kernel
theorem dX9_word_99 : decode cX9_word 99 = .ok (.iload 5, 2) := by decide +kernel
theorem dX9_word_101 : decode cX9_word 101 = .ok (.iastore, 1) := by decide +kernel
theorem dX9_word_102 : decode cX9_word 102 = .ok (.aload_n 0, 1) := by decide +kernel
theorem dX9_word_103 : decode cX9_word 103 = .ok (.getfield 32, 3) := by decide +kernel
theorem dX9_word_106 : decode cX9_word 106 = .ok (.aload_n 0, 1) := by decide +kernel
theorem dX9_word_107 : decode cX9_word 107 = .ok (.getfield 180, 3) := by decide +kernel
theorem dX9_word_110 : decode cX9_word 110 = .ok (.iload 6, 2) := by decide +kernel
theorem dX9_word_112 : decode cX9_word 112 = .ok (.iastore, 1) := by decide +kernel
theorem dX9_word_113 : decode cX9_word 113 = .ok (.aload_n 0, 1) := by decide +kernel
theorem dX9_word_114 : decode cX9_word 114 = .ok (.dup, 1) := by decide +kernel
theorem dX9_word_115 : decode cX9_word 115 = .ok (.getfield 180, 3) := by decide +kernel
theorem dX9_word_118 : decode cX9_word 118 = .ok (.iconst 1, 1) := by decide +kernel
theorem dX9_word_119 : decode cX9_word 119 = .ok (.iadd, 1) := by decide +kernel
theorem dX9_word_120 : decode cX9_word 120 = .ok (.putfield 180, 3) := by decide +kernel
theorem dX9_word_123 : decode cX9_word 123 = .ok (.aload_n 0, 1) := by decide +kernel
theorem dX9_word_124 : decode cX9_word 124 = .ok (.invokevirtual 177, 3) := by decide +kernel
theorem dX9_word_127 : decode cX9_word 127 = .ok (.aload_n 0, 1) := by decide +kernel
theorem dX9_word_128 : decode cX9_word 128 = .ok (.getfield 180, 3) := by decide +kernel
theorem dX9_word_131 : decode cX9_word 131 = .ok (.iconst 1, 1) := by decide +kernel
theorem dX9_word_132 : decode cX9_word 132 = .ok (.isub, 1) := by decide +kernel
theorem dX9_word_133 : decode cX9_word 133 = .ok (.ireturn, 1) := by decide +kernel
set_option maxRecDepth 20000 in
theorem ggX9_ending_X9_isRow : GoodIn wsX9_ending wsX9_isRow := goodIn_r _ [10, 11, 12, 9, 13, 14, 15, 16] (by decide +kernel) (by decide +kernel)
set_option maxRecDepth 20000 in
theorem gX9_ending_X9_isRow : GoodIn wsX9_ending (va_wsS RX9 169 yX9_isRow wsX9_isRow) := goodIn_app (goodIn_of _ (by decide +kernel)) ggX9_ending_X9_isRow
set_option maxRecDepth 20000 in
theorem ggX9_ending_X9_fail : GoodIn wsX9_ending wsX9_fail := goodIn_r _ [20, 1, 27, 28, 29, 30, 31, 32, 33, 34, 35, 36, 37, 38, 39, 40, 41, 42, 43, 44, 45, 46, 47, 48, 49, 50, 51, 52, 53, 54, 55, 56, 57, 58, 59, 60, 61, 62, 63, 64, 65, 66, 67, 68, 69, 70, 71, 72, 73, 74, 75, 76, 77, 78, 79, 80, 81, 82, 83, 84, 85, 86, 87] (by decide +kernel) (by decide +kernel)
set_option maxRecDepth 20000 in
theorem gX9_ending_X9_fail : GoodIn wsX9_ending (wsV RX9 173 RX9 yX9_fail wsX9_fail) := goodIn_app (goodIn_of _ (by decide +kernel)) ggX9_ending_X9_fail
set_option maxRecDepth 20000 in
theorem ggX9_ending_X9_changed : GoodIn wsX9_ending wsX9_changed := goodIn_r _ [24, 25, 26, 27, 28, 29, 30, 31, 32, 33, 34, 35, 36, 37, 38, 39, 40, 41, 42, 43, 44, 45, 46, 47, 48, 49, 50, 51, 52, 53, 54, 55, 56, 57, 58, 59, 60, 61, 62, 63, 64, 65, 66, 67, 68, 69, 70, 71, 72, 73, 74, 75, 76, 77, 78, 79, 80, 81, 82, 83, 84, 85, 86, 87] (by decide +kernel) (by decide +kernel)
set_option maxRecDepth 20000 in
theorem gX9_ending_X9_changed : GoodIn wsX9_ending (wsV RX9 177 RX9 yX9_changed wsX9_changed) := goodIn_app (goodIn_of _ (by decide +kernel)) ggX9_ending_X9_changed
theorem dX9_ending_0 : decode cX9_ending 0 = .ok (.aload_n 0, 1) := by decide +kernel
theorem dX9_ending_1 : decode cX9_ending 1 = .ok (.iconst 0, 1) := by decide +kernel
theorem dX9_ending_2 : decode cX9_ending 2 = .ok (.putfield 151, 3) := by decide +kernel
theorem dX9_ending_5 : decode cX9_ending 5 = .ok (.lload_n 1, 1) := by decide +kernel
theorem dX9_ending_6 : decode cX9_ending 6 = .ok (.bipush 6, 2) := by decide +kernel
theorem dX9_ending_8 : decode cX9_ending 8 = .ok (.iconst 3, 1) := by decide +kernel
theorem dX9_ending_9 : decode cX9_ending 9 = .ok (.bipush 50, 2) := by decide +kernel
theorem dX9_ending_11 : decode cX9_ending 11 = .ok (.invokestatic 169, 3) := by decide +kernel
theorem dX9_ending_14 : decode cX9_ending 14 = .ok (.ifCond .eq 38, 3) := by decide +kernel
theorem dX9_ending_17 : decode cX9_ending 17 = .ok (.iload_n 3, 1) := by decide +kernel
theorem dX9_ending_18 : decode cX9_ending 18 = .ok (.iconst 1, 1) := by decide +kernel
theorem dX9_ending_19 : decode cX9_ending 19 = .ok (.if_icmp .lt 33, 3) := by decide +kernel
theorem dX9_ending_22 : decode cX9_ending 22 = .ok (.iload_n 3, 1) := by decide +kernel
theorem dX9_ending_23 : decode cX9_ending 23 = .ok (.sipush 16383, 3) := by decide +kernel
theorem dX9_ending_26 : decode cX9_ending 26 = .ok (.if_icmp .gt 26, 3) := by decide +kernel
theorem dX9_ending_29 : decode cX9_ending 29 = .ok (.iload 4, 2) := by decide +kernel
theorem dX9_ending_31 : decode cX9_ending 31 = .ok (.ifCond .lt 21, 3) := by decide +kernel
theorem dX9_ending_34 : decode cX9_ending 34 = .ok (.iload 4, 2) := by decide +kernel
theorem dX9_ending_36 : decode cX9_ending 36 = .ok (.iconst 5, 1) := by decide +kernel
theorem dX9_ending_37 : decode cX9_ending 37 = .ok (.if_icmp .gt 15, 3) := by decide +kernel
theorem dX9_ending_40 : decode cX9_ending 40 = .ok (.iload 5, 2) := by decide +kernel
theorem dX9_ending_42 : decode cX9_ending 42 = .ok (.ifCond .lt 10, 3) := by decide +kernel
theorem dX9_ending_45 : decode cX9_ending 45 = .ok (.iload 5, 2) := by decide +kernel
theorem dX9_ending_47 : decode cX9_ending 47 = .ok (.bipush 60, 2) := by decide +kernel
theorem dX9_ending_49 : decode cX9_ending 49 = .ok (.if_icmp .le 8, 3) := by decide +kernel
theorem dX9_ending_52 : decode cX9_ending 52 = .ok (.aload_n 0, 1) := by decide +kernel
theorem dX9_ending_53 : decode cX9_ending 53 = .ok (.invokevirtual 173, 3) := by decide +kernel
theorem dX9_ending_56 : decode cX9_ending 56 = .ok (.ireturn, 1) := by decide +kernel
theorem dX9_ending_57 : decode cX9_ending 57 = .ok (.aload_n 0, 1) := by decide +kernel
theorem dX9_ending_58 : decode cX9_ending 58 = .ok (.getfield 183, 3) := by decide +kernel
theorem dX9_ending_61 : decode cX9_ending 61 = .ok (.bipush 8, 2) := by decide +kernel
theorem dX9_ending_63 : decode cX9_ending 63 = .ok (.if_icmp .ne 5, 3) := by decide +kernel
theorem dX9_ending_66 : decode cX9_ending 66 = .ok (.iconst (-1), 1) := by decide +kernel
theorem dX9_ending_67 : decode cX9_ending 67 = .ok (.ireturn, 1) := by decide +kernel
theorem dX9_ending_68 : decode cX9_ending 68 = .ok (.aload_n 0, 1) := by decide +kernel
theorem dX9_ending_69 : decode cX9_ending 69 = .ok (.getfield 26, 3) := by decide +kernel
theorem dX9_ending_72 : decode cX9_ending 72 = .ok (.aload_n 0, 1) := by decide +kernel
theorem dX9_ending_73 : decode cX9_ending 73 = .ok (.getfield 183, 3) := by decide +kernel
theorem dX9_ending_76 : decode cX9_ending 76 = .ok (.lload_n 1, 1) := by decide +kernel
theorem dX9_ending_77 : decode cX9_ending 77 = .ok (.lastore, 1) := by decide +kernel
theorem dX9_ending_78 : decode cX9_ending 78 = .ok (.aload_n 0, 1) := by decide +kernel
theorem dX9_ending_79 : decode cX9_ending 79 = .ok (.getfield 38, 3) := by decide +kernel
theorem dX9_ending_82 : decode cX9_ending 82 = .ok (.aload_n 0, 1) := by decide +kernel
theorem dX9_ending_83 : decode cX9_ending 83 = .ok (.getfield 183, 3) := by decide +kernel
theorem dX9_ending_86 : decode cX9_ending 86 = .ok (.iload_n 3, 1) := by decide +kernel
theorem dX9_ending_87 : decode cX9_ending 87 = .ok (.iastore, 1) := by decide +kernel
theorem dX9_ending_88 : decode cX9_ending 88 = .ok (.aload_n 0, 1) := by decide +kernel
theorem dX9_ending_89 : decode cX9_ending 89 = .ok (.getfield 41, 3) := by decide +kernel
theorem dX9_ending_92 : decode cX9_ending 92 = .ok (.aload_n 0, 1) := by decide +kernel
theorem dX9_ending_93 : decode cX9_ending 93 = .ok (.getfield 183, 3) := by decide +kernel
theorem dX9_ending_96 : decode cX9_ending 96 = .ok (.iload 4, 2) := by decide +kernel
theorem dX9_ending_98 : decode cX9_ending 98 = .ok (.iastore, 1) := by decide +kernel
theorem dX9_ending_99 : decode cX9_ending 99 = .ok (.aload_n 0, 1) := by decide +kernel
theorem dX9_ending_100 : decode cX9_ending 100 = .ok (.getfield 44, 3) := by decide +kernel
theorem dX9_ending_103 : decode cX9_ending 103 = .ok (.aload_n 0, 1) := by decide +kernel
theorem dX9_ending_104 : decode cX9_ending 104 = .ok (.getfield 183, 3) := by decide +kernel
theorem dX9_ending_107 : decode cX9_ending 107 = .ok (.iload 5, 2) := by decide +kernel
theorem dX9_ending_109 : decode cX9_ending 109 = .ok (.iastore, 1) := by decide +kernel
theorem dX9_ending_110 : decode cX9_ending 110 = .ok (.aload_n 0, 1) := by decide +kernel
theorem dX9_ending_111 : decode cX9_ending 111 = .ok (.dup, 1) := by decide +kernel
theorem dX9_ending_112 : decode cX9_ending 112 = .ok (.getfield 183, 3) := by decide +kernel
theorem dX9_ending_115 : decode cX9_ending 115 = .ok (.iconst 1, 1) := by decide +kernel
theorem dX9_ending_116 : decode cX9_ending 116 = .ok (.iadd, 1) := by decide +kernel
theorem dX9_ending_117 : decode cX9_ending 117 = .ok (.putfield 183, 3) := by decide +kernel
theorem dX9_ending_120 : decode cX9_ending 120 = .ok (.aload_n 0, 1) := by decide +kernel
theorem dX9_ending_121 : decode cX9_ending 121 = .ok (.invokevirtual 177, 3) := by decide +kernel
theorem dX9_ending_124 : decode cX9_ending 124 = .ok (.aload_n 0, 1) := by decide +kernel
theorem dX9_ending_125 : decode cX9_ending 125 = .ok (.getfield 183, 3) := by decide +kernel
theorem dX9_ending_128 : decode cX9_ending 128 = .ok (.iconst 1, 1) := by decide +kernel
theorem dX9_ending_129 : decode cX9_ending 129 = .ok (.isub, 1) := by decide +kernel
theorem dX9_ending_130 : decode cX9_ending 130 = .ok (.ireturn, 1) := by decide +kernel
set_option maxRecDepth 20000 in
theorem ggX9_price_X9_fail : GoodIn wsX9_price wsX9_fail := goodIn_r _ [9, 1, 16, 17, 18, 19, 20, 21, 22, 23, 24, 25, 26, 27, 28, 29, 30, 31, 32, 33, 34, 35, 36, 37, 38, 39, 40, 41, 42, 43, 44, 45, 46, 47, 48, 49, 50, 51, 52, 53, 54, 55, 56, 57, 58, 59, 60, 61, 62, 63, 64, 65, 66, 67, 68, 69, 70, 71, 72, 73, 74, 75, 76] (by decide +kernel) (by decide +kernel)
set_option maxRecDepth 20000 in
theorem gX9_price_X9_fail : GoodIn wsX9_price (wsV RX9 173 RX9 yX9_fail wsX9_fail) := goodIn_app (goodIn_of _ (by decide +kernel)) ggX9_price_X9_fail
set_option maxRecDepth 20000 in
theorem ggX9_price_X9_changed : GoodIn wsX9_price wsX9_changed := goodIn_r _ [13, 14, 15, 16, 17, 18, 19, 20, 21, 22, 23, 24, 25, 26, 27, 28, 29, 30, 31, 32, 33, 34, 35, 36, 37, 38, 39, 40, 41, 42, 43, 44, 45, 46, 47, 48, 49, 50, 51, 52, 53, 54, 55, 56, 57, 58, 59, 60, 61, 62, 63, 64, 65, 66, 67, 68, 69, 70, 71, 72, 73, 74, 75, 76] (by decide +kernel) (by decide +kernel)
set_option maxRecDepth 20000 in
theorem gX9_price_X9_changed : GoodIn wsX9_price (wsV RX9 177 RX9 yX9_changed wsX9_changed) := goodIn_app (goodIn_of _ (by decide +kernel)) ggX9_price_X9_changed
theorem dX9_price_0 : decode cX9_price 0 = .ok (.aload_n 0, 1) := by decide +kernel
theorem dX9_price_1 : decode cX9_price 1 = .ok (.iconst 0, 1) := by decide +kernel
theorem dX9_price_2 : decode cX9_price 2 = .ok (.putfield 151, 3) := by decide +kernel
theorem dX9_price_5 : decode cX9_price 5 = .ok (.iload_n 1, 1) := by decide +kernel
theorem dX9_price_6 : decode cX9_price 6 = .ok (.ifCond .lt 19, 3) := by decide +kernel
theorem dX9_price_9 : decode cX9_price 9 = .ok (.iload_n 1, 1) := by decide +kernel
theorem dX9_price_10 : decode cX9_price 10 = .ok (.iconst 2, 1) := by decide +kernel
theorem dX9_price_11 : decode cX9_price 11 = .ok (.if_icmp .gt 14, 3) := by decide +kernel
theorem dX9_price_14 : decode cX9_price 14 = .ok (.iload_n 2, 1) := by decide +kernel
theorem dX9_price_15 : decode cX9_price 15 = .ok (.ifCond .lt 10, 3) := by decide +kernel
theorem dX9_price_18 : decode cX9_price 18 = .ok (.iload_n 2, 1) := by decide +kernel
theorem dX9_price_19 : decode cX9_price 19 = .ok (.sipush 200, 3) := by decide +kernel
theorem dX9_price_22 : decode cX9_price 22 = .ok (.if_icmp .le 8, 3) := by decide +kernel
theorem dX9_price_25 : decode cX9_price 25 = .ok (.aload_n 0, 1) := by decide +kernel
theorem dX9_price_26 : decode cX9_price 26 = .ok (.invokevirtual 173, 3) := by decide +kernel
theorem dX9_price_29 : decode cX9_price 29 = .ok (.ireturn, 1) := by decide +kernel
theorem dX9_price_30 : decode cX9_price 30 = .ok (.iload_n 1, 1) := by decide +kernel
theorem dX9_price_31 : decode cX9_price 31 = .ok (.ifCond .ne 10, 3) := by decide +kernel
theorem dX9_price_34 : decode cX9_price 34 = .ok (.aload_n 0, 1) := by decide +kernel
theorem dX9_price_35 : decode cX9_price 35 = .ok (.getfield 47, 3) := by decide +kernel
theorem dX9_price_38 : decode cX9_price 38 = .ok (.goto 19, 3) := by decide +kernel
theorem dX9_price_41 : decode cX9_price 41 = .ok (.iload_n 1, 1) := by decide +kernel
theorem dX9_price_42 : decode cX9_price 42 = .ok (.iconst 1, 1) := by decide +kernel
theorem dX9_price_43 : decode cX9_price 43 = .ok (.if_icmp .ne 10, 3) := by decide +kernel
theorem dX9_price_46 : decode cX9_price 46 = .ok (.aload_n 0, 1) := by decide +kernel
theorem dX9_price_47 : decode cX9_price 47 = .ok (.getfield 51, 3) := by decide +kernel
theorem dX9_price_50 : decode cX9_price 50 = .ok (.goto 7, 3) := by decide +kernel
theorem dX9_price_53 : decode cX9_price 53 = .ok (.aload_n 0, 1) := by decide +kernel
theorem dX9_price_54 : decode cX9_price 54 = .ok (.getfield 54, 3) := by decide +kernel
theorem dX9_price_57 : decode cX9_price 57 = .ok (.istore_n 3, 1) := by decide +kernel
theorem dX9_price_58 : decode cX9_price 58 = .ok (.iload_n 1, 1) := by decide +kernel
theorem dX9_price_59 : decode cX9_price 59 = .ok (.ifCond .ne 11, 3) := by decide +kernel
theorem dX9_price_62 : decode cX9_price 62 = .ok (.aload_n 0, 1) := by decide +kernel
theorem dX9_price_63 : decode cX9_price 63 = .ok (.iload_n 2, 1) := by decide +kernel
theorem dX9_price_64 : decode cX9_price 64 = .ok (.putfield 47, 3) := by decide +kernel
theorem dX9_price_67 : decode cX9_price 67 = .ok (.goto 21, 3) := by decide +kernel
theorem dX9_price_70 : decode cX9_price 70 = .ok (.iload_n 1, 1) := by decide +kernel
theorem dX9_price_71 : decode cX9_price 71 = .ok (.iconst 1, 1) := by decide +kernel
theorem dX9_price_72 : decode cX9_price 72 = .ok (.if_icmp .ne 11, 3) := by decide +kernel
theorem dX9_price_75 : decode cX9_price 75 = .ok (.aload_n 0, 1) := by decide +kernel
theorem dX9_price_76 : decode cX9_price 76 = .ok (.iload_n 2, 1) := by decide +kernel
theorem dX9_price_77 : decode cX9_price 77 = .ok (.putfield 51, 3) := by decide +kernel
theorem dX9_price_80 : decode cX9_price 80 = .ok (.goto 8, 3) := by decide +kernel
theorem dX9_price_83 : decode cX9_price 83 = .ok (.aload_n 0, 1) := by decide +kernel
theorem dX9_price_84 : decode cX9_price 84 = .ok (.iload_n 2, 1) := by decide +kernel
theorem dX9_price_85 : decode cX9_price 85 = .ok (.putfield 54, 3) := by decide +kernel
theorem dX9_price_88 : decode cX9_price 88 = .ok (.aload_n 0, 1) := by decide +kernel
theorem dX9_price_89 : decode cX9_price 89 = .ok (.invokevirtual 177, 3) := by decide +kernel
theorem dX9_price_92 : decode cX9_price 92 = .ok (.iload_n 3, 1) := by decide +kernel
theorem dX9_price_93 : decode cX9_price 93 = .ok (.ireturn, 1) := by decide +kernel
set_option maxRecDepth 20000 in
theorem ggX9_step_X9_fail : GoodIn wsX9_step wsX9_fail := goodIn_r _ [8, 1, 9, 10, 11, 12, 13, 14, 15, 16, 17, 18, 19, 20, 21, 22, 23, 24, 25, 26, 27, 28, 29, 30, 31, 32, 33, 34, 35, 36, 37, 38, 39, 40, 41, 42, 43, 44, 45, 46, 47, 48, 49, 50, 51, 52, 53, 54, 55, 56, 57, 58, 59, 60, 61, 62, 63, 64, 65, 66, 67, 68, 69] (by decide +kernel) (by decide +kernel)
set_option maxRecDepth 20000 in
theorem gX9_step_X9_fail : GoodIn wsX9_step (wsV RX9 173 RX9 yX9_fail wsX9_fail) := goodIn_app (goodIn_of _ (by decide +kernel)) ggX9_step_X9_fail
theorem dX9_step_0 : decode cX9_step 0 = .ok (.aload_n 0, 1) := by decide +kernel
theorem dX9_step_1 : decode cX9_step 1 = .ok (.iconst 0, 1) := by decide +kernel
theorem dX9_step_2 : decode cX9_step 2 = .ok (.putfield 151, 3) := by decide +kernel
theorem dX9_step_5 : decode cX9_step 5 = .ok (.iload_n 1, 1) := by decide +kernel
theorem dX9_step_6 : decode cX9_step 6 = .ok (.ifCond .lt 29, 3) := by decide +kernel
theorem dX9_step_9 : decode cX9_step 9 = .ok (.iload_n 1, 1) := by decide +kernel
theorem dX9_step_10 : decode cX9_step 10 = .ok (.bipush 9, 2) := by decide +kernel
theorem dX9_step_12 : decode cX9_step 12 = .ok (.if_icmp .ge 23, 3) := by decide +kernel
theorem dX9_step_15 : decode cX9_step 15 = .ok (.iload_n 2, 1) := by decide +kernel
theorem dX9_step_16 : decode cX9_step 16 = .ok (.ifCond .lt 19, 3) := by decide +kernel
theorem dX9_step_19 : decode cX9_step 19 = .ok (.iload_n 2, 1) := by decide +kernel
theorem dX9_step_20 : decode cX9_step 20 = .ok (.bipush 9, 2) := by decide +kernel
theorem dX9_step_22 : decode cX9_step 22 = .ok (.if_icmp .ge 13, 3) := by decide +kernel
theorem dX9_step_25 : decode cX9_step 25 = .ok (.iload_n 3, 1) := by decide +kernel
theorem dX9_step_26 : decode cX9_step 26 = .ok (.ifCond .lt 9, 3) := by decide +kernel
theorem dX9_step_29 : decode cX9_step 29 = .ok (.iload_n 3, 1) := by decide +kernel
theorem dX9_step_30 : decode cX9_step 30 = .ok (.bipush 90, 2) := by decide +kernel
theorem dX9_step_32 : decode cX9_step 32 = .ok (.if_icmp .le 8, 3) := by decide +kernel
theorem dX9_step_35 : decode cX9_step 35 = .ok (.aload_n 0, 1) := by decide +kernel
theorem dX9_step_36 : decode cX9_step 36 = .ok (.invokevirtual 173, 3) := by decide +kernel
theorem dX9_step_39 : decode cX9_step 39 = .ok (.ireturn, 1) := by decide +kernel
theorem dX9_step_40 : decode cX9_step 40 = .ok (.aload_n 0, 1) := by decide +kernel
theorem dX9_step_41 : decode cX9_step 41 = .ok (.getfield 57, 3) := by decide +kernel
theorem dX9_step_44 : decode cX9_step 44 = .ok (.bipush 9, 2) := by decide +kernel
theorem dX9_step_46 : decode cX9_step 46 = .ok (.iload_n 1, 1) := by decide +kernel
theorem dX9_step_47 : decode cX9_step 47 = .ok (.imul, 1) := by decide +kernel
theorem dX9_step_48 : decode cX9_step 48 = .ok (.iload_n 2, 1) := by decide +kernel
theorem dX9_step_49 : decode cX9_step 49 = .ok (.iadd, 1) := by decide +kernel
theorem dX9_step_50 : decode cX9_step 50 = .ok (.iaload, 1) := by decide +kernel
theorem dX9_step_51 : decode cX9_step 51 = .ok (.istore 4, 2) := by decide +kernel
theorem dX9_step_53 : decode cX9_step 53 = .ok (.aload_n 0, 1) := by decide +kernel
theorem dX9_step_54 : decode cX9_step 54 = .ok (.getfield 57, 3) := by decide +kernel
theorem dX9_step_57 : decode cX9_step 57 = .ok (.bipush 9, 2) := by decide +kernel
theorem dX9_step_59 : decode cX9_step 59 = .ok (.iload_n 1, 1) := by decide +kernel
theorem dX9_step_60 : decode cX9_step 60 = .ok (.imul, 1) := by decide +kernel
theorem dX9_step_61 : decode cX9_step 61 = .ok (.iload_n 2, 1) := by decide +kernel
theorem dX9_step_62 : decode cX9_step 62 = .ok (.iadd, 1) := by decide +kernel
theorem dX9_step_63 : decode cX9_step 63 = .ok (.iload_n 3, 1) := by decide +kernel
theorem dX9_step_64 : decode cX9_step 64 = .ok (.iastore, 1) := by decide +kernel
theorem dX9_step_65 : decode cX9_step 65 = .ok (.aload_n 0, 1) := by decide +kernel
theorem dX9_step_66 : decode cX9_step 66 = .ok (.iconst 0, 1) := by decide +kernel
theorem dX9_step_67 : decode cX9_step 67 = .ok (.putfield 154, 3) := by decide +kernel
theorem dX9_step_70 : decode cX9_step 70 = .ok (.iload 4, 2) := by decide +kernel
theorem dX9_step_72 : decode cX9_step 72 = .ok (.ireturn, 1) := by decide +kernel
theorem dX9_cell_0 : decode cX9_cell 0 = .ok (.iload_n 0, 1) := by decide +kernel
theorem dX9_cell_1 : decode cX9_cell 1 = .ok (.bipush 60, 2) := by decide +kernel
theorem dX9_cell_3 : decode cX9_cell 3 = .ok (.imul, 1) := by decide +kernel
theorem dX9_cell_4 : decode cX9_cell 4 = .ok (.iload_n 1, 1) := by decide +kernel
theorem dX9_cell_5 : decode cX9_cell 5 = .ok (.iadd, 1) := by decide +kernel
theorem dX9_cell_6 : decode cX9_cell 6 = .ok (.bipush 9, 2) := by decide +kernel
theorem dX9_cell_8 : decode cX9_cell 8 = .ok (.imul, 1) := by decide +kernel
theorem dX9_cell_9 : decode cX9_cell 9 = .ok (.iload_n 2, 1) := by decide +kernel
theorem dX9_cell_10 : decode cX9_cell 10 = .ok (.iadd, 1) := by decide +kernel
theorem dX9_cell_11 : decode cX9_cell 11 = .ok (.iconst 1, 1) := by decide +kernel
theorem dX9_cell_12 : decode cX9_cell 12 = .ok (.iadd, 1) := by decide +kernel
theorem dX9_cell_13 : decode cX9_cell 13 = .ok (.bipush 37, 2) := by decide +kernel
theorem dX9_cell_15 : decode cX9_cell 15 = .ok (.imul, 1) := by decide +kernel
theorem dX9_cell_16 : decode cX9_cell 16 = .ok (.ireturn, 1) := by decide +kernel
set_option maxRecDepth 20000 in
theorem ggX9_oneSound_X9_sizeOf : GoodIn wsX9_oneSound wsX9_sizeOf := goodIn_r _ [17, 18, 19, 16, 20] (by decide +kernel) (by decide +kernel)
set_option maxRecDepth 20000 in
theorem gX9_oneSound_X9_sizeOf : GoodIn wsX9_oneSound (va_wsS RX9 165 yX9_sizeOf wsX9_sizeOf) := goodIn_app (goodIn_of _ (by decide +kernel)) ggX9_oneSound_X9_sizeOf
set_option maxRecDepth 20000 in
theorem ggX9_oneSound_X9_piece : GoodIn wsX9_oneSound wsX9_piece := goodIn_r _ [20] (by decide +kernel) (by decide +kernel)
set_option maxRecDepth 20000 in
theorem gX9_oneSound_X9_piece : GoodIn wsX9_oneSound (va_wsS RX9 161 yX9_piece wsX9_piece) := goodIn_app (goodIn_of _ (by decide +kernel)) ggX9_oneSound_X9_piece
theorem dX9_oneSound_0 : decode cX9_oneSound 0 = .ok (.iconst 0, 1) := by decide +kernel
theorem dX9_oneSound_1 : decode cX9_oneSound 1 = .ok (.istore_n 3, 1) := by decide +kernel
theorem dX9_oneSound_2 : decode cX9_oneSound 2 = .ok (.iload_n 3, 1) := by decide +kernel
theorem dX9_oneSound_3 : decode cX9_oneSound 3 = .ok (.bipush 36, 2) := by decide +kernel
theorem dX9_oneSound_5 : decode cX9_oneSound 5 = .ok (.if_icmp .gt 17, 3) := by decide +kernel
theorem dX9_oneSound_8 : decode cX9_oneSound 8 = .ok (.aload_n 0, 1) := by decide +kernel
theorem dX9_oneSound_9 : decode cX9_oneSound 9 = .ok (.getfield 121, 3) := by decide +kernel
theorem dX9_oneSound_12 : decode cX9_oneSound 12 = .ok (.iload_n 3, 1) := by decide +kernel
theorem dX9_oneSound_13 : decode cX9_oneSound 13 = .ok (.ldc 186, 2) := by decide +kernel
theorem dX9_oneSound_15 : decode cX9_oneSound 15 = .ok (.iastore, 1) := by decide +kernel
theorem dX9_oneSound_16 : decode cX9_oneSound 16 = .ok (.iinc 3 1, 3) := by decide +kernel
theorem dX9_oneSound_19 : decode cX9_oneSound 19 = .ok (.goto (-17), 3) := by decide +kernel
theorem dX9_oneSound_22 : decode cX9_oneSound 22 = .ok (.iconst 0, 1) := by decide +kernel
theorem dX9_oneSound_23 : decode cX9_oneSound 23 = .ok (.istore_n 3, 1) := by decide +kernel
theorem dX9_oneSound_24 : decode cX9_oneSound 24 = .ok (.iload_n 1, 1) := by decide +kernel
theorem dX9_oneSound_25 : decode cX9_oneSound 25 = .ok (.iload_n 3, 1) := by decide +kernel
theorem dX9_oneSound_26 : decode cX9_oneSound 26 = .ok (.iadd, 1) := by decide +kernel
theorem dX9_oneSound_27 : decode cX9_oneSound 27 = .ok (.aload_n 0, 1) := by decide +kernel
theorem dX9_oneSound_28 : decode cX9_oneSound 28 = .ok (.getfield 187, 3) := by decide +kernel
theorem dX9_oneSound_31 : decode cX9_oneSound 31 = .ok (.if_icmp .gt 187, 3) := by decide +kernel
theorem dX9_oneSound_34 : decode cX9_oneSound 34 = .ok (.aload_n 0, 1) := by decide +kernel
theorem dX9_oneSound_35 : decode cX9_oneSound 35 = .ok (.getfield 118, 3) := by decide +kernel
theorem dX9_oneSound_38 : decode cX9_oneSound 38 = .ok (.iload_n 3, 1) := by decide +kernel
theorem dX9_oneSound_39 : decode cX9_oneSound 39 = .ok (.iaload, 1) := by decide +kernel
theorem dX9_oneSound_40 : decode cX9_oneSound 40 = .ok (.ldc 186, 2) := by decide +kernel
theorem dX9_oneSound_42 : decode cX9_oneSound 42 = .ok (.if_icmp .lt 6, 3) := by decide +kernel
theorem dX9_oneSound_45 : decode cX9_oneSound 45 = .ok (.goto 167, 3) := by decide +kernel
theorem dX9_oneSound_48 : decode cX9_oneSound 48 = .ok (.iconst 0, 1) := by decide +kernel
theorem dX9_oneSound_49 : decode cX9_oneSound 49 = .ok (.istore 4, 2) := by decide +kernel
theorem dX9_oneSound_51 : decode cX9_oneSound 51 = .ok (.iload 4, 2) := by decide +kernel
theorem dX9_oneSound_53 : decode cX9_oneSound 53 = .ok (.aload_n 0, 1) := by decide +kernel
theorem dX9_oneSound_54 : decode cX9_oneSound 54 = .ok (.getfield 9, 3) := by decide +kernel
theorem dX9_oneSound_57 : decode cX9_oneSound 57 = .ok (.iload_n 2, 1) := by decide +kernel
theorem dX9_oneSound_58 : decode cX9_oneSound 58 = .ok (.iaload, 1) := by decide +kernel
theorem dX9_oneSound_59 : decode cX9_oneSound 59 = .ok (.if_icmp .ge 153, 3) := by decide +kernel
theorem dX9_oneSound_62 : decode cX9_oneSound 62 = .ok (.aload_n 0, 1) := by decide +kernel
theorem dX9_oneSound_63 : decode cX9_oneSound 63 = .ok (.getfield 16, 3) := by decide +kernel
theorem dX9_oneSound_66 : decode cX9_oneSound 66 = .ok (.iconst 3, 1) := by decide +kernel
theorem dX9_oneSound_67 : decode cX9_oneSound 67 = .ok (.iload_n 2, 1) := by decide +kernel
theorem dX9_oneSound_68 : decode cX9_oneSound 68 = .ok (.imul, 1) := by decide +kernel
theorem dX9_oneSound_69 : decode cX9_oneSound 69 = .ok (.iload 4, 2) := by decide +kernel
theorem dX9_oneSound_71 : decode cX9_oneSound 71 = .ok (.iadd, 1) := by decide +kernel
theorem dX9_oneSound_72 : decode cX9_oneSound 72 = .ok (.laload, 1) := by decide +kernel
theorem dX9_oneSound_73 : decode cX9_oneSound 73 = .ok (.lstore 5, 2) := by decide +kernel
theorem dX9_oneSound_75 : decode cX9_oneSound 75 = .ok (.lload 5, 2) := by decide +kernel
theorem dX9_oneSound_77 : decode cX9_oneSound 77 = .ok (.iconst 5, 1) := by decide +kernel
theorem dX9_oneSound_78 : decode cX9_oneSound 78 = .ok (.invokestatic 165, 3) := by decide +kernel
theorem dX9_oneSound_81 : decode cX9_oneSound 81 = .ok (.istore 7, 2) := by decide +kernel
theorem dX9_oneSound_83 : decode cX9_oneSound 83 = .ok (.iload_n 1, 1) := by decide +kernel
theorem dX9_oneSound_84 : decode cX9_oneSound 84 = .ok (.iload_n 3, 1) := by decide +kernel
theorem dX9_oneSound_85 : decode cX9_oneSound 85 = .ok (.iadd, 1) := by decide +kernel
theorem dX9_oneSound_86 : decode cX9_oneSound 86 = .ok (.iload 7, 2) := by decide +kernel
theorem dX9_oneSound_88 : decode cX9_oneSound 88 = .ok (.iadd, 1) := by decide +kernel
theorem dX9_oneSound_89 : decode cX9_oneSound 89 = .ok (.aload_n 0, 1) := by decide +kernel
theorem dX9_oneSound_90 : decode cX9_oneSound 90 = .ok (.getfield 187, 3) := by decide +kernel
theorem dX9_oneSound_93 : decode cX9_oneSound 93 = .ok (.if_icmp .le 6, 3) := by decide +kernel
theorem dX9_oneSound_96 : decode cX9_oneSound 96 = .ok (.goto 110, 3) := by decide +kernel
theorem dX9_oneSound_99 : decode cX9_oneSound 99 = .ok (.iconst 0, 1) := by decide +kernel
theorem dX9_oneSound_100 : decode cX9_oneSound 100 = .ok (.istore 8, 2) := by decide +kernel
theorem dX9_oneSound_102 : decode cX9_oneSound 102 = .ok (.iconst 0, 1) := by decide +kernel
theorem dX9_oneSound_103 : decode cX9_oneSound 103 = .ok (.istore 9, 2) := by decide +kernel
theorem dX9_oneSound_105 : decode cX9_oneSound 105 = .ok (.iload 9, 2) := by decide +kernel
theorem dX9_oneSound_107 : decode cX9_oneSound 107 = .ok (.iload 7, 2) := by decide +kernel
theorem dX9_oneSound_109 : decode cX9_oneSound 109 = .ok (.if_icmp .ge 41, 3) := by decide +kernel
theorem dX9_oneSound_112 : decode cX9_oneSound 112 = .ok (.iload 8, 2) := by decide +kernel
theorem dX9_oneSound_114 : decode cX9_oneSound 114 = .ok (.aload_n 0, 1) := by decide +kernel
theorem dX9_oneSound_115 : decode cX9_oneSound 115 = .ok (.getfield 63, 3) := by decide +kernel
theorem dX9_oneSound_118 : decode cX9_oneSound 118 = .ok (.iload_n 1, 1) := by decide +kernel
theorem dX9_oneSound_119 : decode cX9_oneSound 119 = .ok (.iload_n 3, 1) := by decide +kernel
theorem dX9_oneSound_120 : decode cX9_oneSound 120 = .ok (.iadd, 1) := by decide +kernel
theorem dX9_oneSound_121 : decode cX9_oneSound 121 = .ok (.iload 9, 2) := by decide +kernel
theorem dX9_oneSound_123 : decode cX9_oneSound 123 = .ok (.iadd, 1) := by decide +kernel
theorem dX9_oneSound_124 : decode cX9_oneSound 124 = .ok (.iaload, 1) := by decide +kernel
theorem dX9_oneSound_125 : decode cX9_oneSound 125 = .ok (.lload 5, 2) := by decide +kernel
theorem dX9_oneSound_127 : decode cX9_oneSound 127 = .ok (.iconst 5, 1) := by decide +kernel
theorem dX9_oneSound_128 : decode cX9_oneSound 128 = .ok (.iload 9, 2) := by decide +kernel
theorem dX9_oneSound_130 : decode cX9_oneSound 130 = .ok (.invokestatic 161, 3) := by decide +kernel
theorem dX9_oneSound_133 : decode cX9_oneSound 133 = .ok (.if_icmp .ne 7, 3) := by decide +kernel
theorem dX9_oneSound_136 : decode cX9_oneSound 136 = .ok (.iconst 0, 1) := by decide +kernel
theorem dX9_oneSound_137 : decode cX9_oneSound 137 = .ok (.goto 4, 3) := by decide +kernel
theorem dX9_oneSound_140 : decode cX9_oneSound 140 = .ok (.iconst 1, 1) := by decide +kernel
theorem dX9_oneSound_141 : decode cX9_oneSound 141 = .ok (.iadd, 1) := by decide +kernel
theorem dX9_oneSound_142 : decode cX9_oneSound 142 = .ok (.istore 8, 2) := by decide +kernel
theorem dX9_oneSound_144 : decode cX9_oneSound 144 = .ok (.iinc 9 1, 3) := by decide +kernel
theorem dX9_oneSound_147 : decode cX9_oneSound 147 = .ok (.goto (-42), 3) := by decide +kernel
theorem dX9_oneSound_150 : decode cX9_oneSound 150 = .ok (.iload 8, 2) := by decide +kernel
theorem dX9_oneSound_152 : decode cX9_oneSound 152 = .ok (.iconst 1, 1) := by decide +kernel
theorem dX9_oneSound_153 : decode cX9_oneSound 153 = .ok (.if_icmp .le 6, 3) := by decide +kernel
theorem dX9_oneSound_156 : decode cX9_oneSound 156 = .ok (.goto 50, 3) := by decide +kernel
theorem dX9_oneSound_159 : decode cX9_oneSound 159 = .ok (.aload_n 0, 1) := by decide +kernel
theorem dX9_oneSound_160 : decode cX9_oneSound 160 = .ok (.getfield 121, 3) := by decide +kernel
theorem dX9_oneSound_163 : decode cX9_oneSound 163 = .ok (.iload_n 3, 1) := by decide +kernel
theorem dX9_oneSound_164 : decode cX9_oneSound 164 = .ok (.iload 7, 2) := by decide +kernel
theorem dX9_oneSound_166 : decode cX9_oneSound 166 = .ok (.iadd, 1) := by decide +kernel
theorem dX9_oneSound_167 : decode cX9_oneSound 167 = .ok (.aload_n 0, 1) := by decide +kernel
theorem dX9_oneSound_168 : decode cX9_oneSound 168 = .ok (.getfield 121, 3) := by decide +kernel
theorem dX9_oneSound_171 : decode cX9_oneSound 171 = .ok (.iload_n 3, 1) := by decide +kernel
theorem dX9_oneSound_172 : decode cX9_oneSound 172 = .ok (.iload 7, 2) := by decide +kernel
theorem dX9_oneSound_174 : decode cX9_oneSound 174 = .ok (.iadd, 1) := by decide +kernel
theorem dX9_oneSound_175 : decode cX9_oneSound 175 = .ok (.iaload, 1) := by decide +kernel
theorem dX9_oneSound_176 : decode cX9_oneSound 176 = .ok (.aload_n 0, 1) := by decide +kernel
theorem dX9_oneSound_177 : decode cX9_oneSound 177 = .ok (.getfield 118, 3) := by decide +kernel
theorem dX9_oneSound_180 : decode cX9_oneSound 180 = .ok (.iload_n 3, 1) := by decide +kernel
theorem dX9_oneSound_181 : decode cX9_oneSound 181 = .ok (.iaload, 1) := by decide +kernel
theorem dX9_oneSound_182 : decode cX9_oneSound 182 = .ok (.aload_n 0, 1) := by decide +kernel
theorem dX9_oneSound_183 : decode cX9_oneSound 183 = .ok (.getfield 13, 3) := by decide +kernel
theorem dX9_oneSound_186 : decode cX9_oneSound 186 = .ok (.iconst 3, 1) := by decide +kernel
theorem dX9_oneSound_187 : decode cX9_oneSound 187 = .ok (.iload_n 2, 1) := by decide +kernel
theorem dX9_oneSound_188 : decode cX9_oneSound 188 = .ok (.imul, 1) := by decide +kernel
theorem dX9_oneSound_189 : decode cX9_oneSound 189 = .ok (.iload 4, 2) := by decide +kernel
theorem dX9_oneSound_191 : decode cX9_oneSound 191 = .ok (.iadd, 1) := by decide +kernel
theorem dX9_oneSound_192 : decode cX9_oneSound 192 = .ok (.iaload, 1) := by decide +kernel
theorem dX9_oneSound_193 : decode cX9_oneSound 193 = .ok (.iadd, 1) := by decide +kernel
theorem dX9_oneSound_194 : decode cX9_oneSound 194 = .ok (.aload_n 0, 1) := by decide +kernel
theorem dX9_oneSound_195 : decode cX9_oneSound 195 = .ok (.getfield 47, 3) := by decide +kernel
theorem dX9_oneSound_198 : decode cX9_oneSound 198 = .ok (.iload 8, 2) := by decide +kernel
theorem dX9_oneSound_200 : decode cX9_oneSound 200 = .ok (.imul, 1) := by decide +kernel
theorem dX9_oneSound_201 : decode cX9_oneSound 201 = .ok (.iadd, 1) := by decide +kernel
theorem dX9_oneSound_202 : decode cX9_oneSound 202 = .ok (.invokestatic 190, 3) := by decide +kernel
theorem dX9_oneSound_205 : decode cX9_oneSound 205 = .ok (.iastore, 1) := by decide +kernel
theorem dX9_oneSound_206 : decode cX9_oneSound 206 = .ok (.iinc 4 1, 3) := by decide +kernel
theorem dX9_oneSound_209 : decode cX9_oneSound 209 = .ok (.goto (-158), 3) := by decide +kernel
theorem dX9_oneSound_212 : decode cX9_oneSound 212 = .ok (.iinc 3 1, 3) := by decide +kernel
theorem dX9_oneSound_215 : decode cX9_oneSound 215 = .ok (.goto (-191), 3) := by decide +kernel
theorem dX9_oneSound_218 : decode cX9_oneSound 218 = .ok (.iconst 0, 1) := by decide +kernel
theorem dX9_oneSound_219 : decode cX9_oneSound 219 = .ok (.istore_n 3, 1) := by decide +kernel
theorem dX9_oneSound_220 : decode cX9_oneSound 220 = .ok (.iload_n 3, 1) := by decide +kernel
theorem dX9_oneSound_221 : decode cX9_oneSound 221 = .ok (.bipush 36, 2) := by decide +kernel
theorem dX9_oneSound_223 : decode cX9_oneSound 223 = .ok (.if_icmp .gt 21, 3) := by decide +kernel
theorem dX9_oneSound_226 : decode cX9_oneSound 226 = .ok (.aload_n 0, 1) := by decide +kernel
theorem dX9_oneSound_227 : decode cX9_oneSound 227 = .ok (.getfield 118, 3) := by decide +kernel
theorem dX9_oneSound_230 : decode cX9_oneSound 230 = .ok (.iload_n 3, 1) := by decide +kernel
theorem dX9_oneSound_231 : decode cX9_oneSound 231 = .ok (.aload_n 0, 1) := by decide +kernel
theorem dX9_oneSound_232 : decode cX9_oneSound 232 = .ok (.getfield 121, 3) := by decide +kernel
theorem dX9_oneSound_235 : decode cX9_oneSound 235 = .ok (.iload_n 3, 1) := by decide +kernel
theorem dX9_oneSound_236 : decode cX9_oneSound 236 = .ok (.iaload, 1) := by decide +kernel
theorem dX9_oneSound_237 : decode cX9_oneSound 237 = .ok (.iastore, 1) := by decide +kernel
theorem dX9_oneSound_238 : decode cX9_oneSound 238 = .ok (.iinc 3 1, 3) := by decide +kernel
theorem dX9_oneSound_241 : decode cX9_oneSound 241 = .ok (.goto (-21), 3) := by decide +kernel
theorem dX9_oneSound_244 : decode cX9_oneSound 244 = .ok (.return_, 1) := by decide +kernel
theorem dX9_keepRow_0 : decode cX9_keepRow 0 = .ok (.iconst 0, 1) := by decide +kernel
theorem dX9_keepRow_1 : decode cX9_keepRow 1 = .ok (.istore_n 2, 1) := by decide +kernel
theorem dX9_keepRow_2 : decode cX9_keepRow 2 = .ok (.iload_n 2, 1) := by decide +kernel
theorem dX9_keepRow_3 : decode cX9_keepRow 3 = .ok (.bipush 36, 2) := by decide +kernel
theorem dX9_keepRow_5 : decode cX9_keepRow 5 = .ok (.if_icmp .gt 23, 3) := by decide +kernel
theorem dX9_keepRow_8 : decode cX9_keepRow 8 = .ok (.aload_n 0, 1) := by decide +kernel
theorem dX9_keepRow_9 : decode cX9_keepRow 9 = .ok (.getfield 115, 3) := by decide +kernel
theorem dX9_keepRow_12 : decode cX9_keepRow 12 = .ok (.iload_n 1, 1) := by decide +kernel
theorem dX9_keepRow_13 : decode cX9_keepRow 13 = .ok (.iload_n 2, 1) := by decide +kernel
theorem dX9_keepRow_14 : decode cX9_keepRow 14 = .ok (.iadd, 1) := by decide +kernel
theorem dX9_keepRow_15 : decode cX9_keepRow 15 = .ok (.aload_n 0, 1) := by decide +kernel
theorem dX9_keepRow_16 : decode cX9_keepRow 16 = .ok (.getfield 118, 3) := by decide +kernel
theorem dX9_keepRow_19 : decode cX9_keepRow 19 = .ok (.iload_n 2, 1) := by decide +kernel
theorem dX9_keepRow_20 : decode cX9_keepRow 20 = .ok (.iaload, 1) := by decide +kernel
theorem dX9_keepRow_21 : decode cX9_keepRow 21 = .ok (.iastore, 1) := by decide +kernel
theorem dX9_keepRow_22 : decode cX9_keepRow 22 = .ok (.iinc 2 1, 3) := by decide +kernel
theorem dX9_keepRow_25 : decode cX9_keepRow 25 = .ok (.goto (-23), 3) := by decide +kernel
theorem dX9_keepRow_28 : decode cX9_keepRow 28 = .ok (.return_, 1) := by decide +kernel
set_option maxRecDepth 20000 in
theorem ggX9_makeTable_X9_sizeOf : GoodIn wsX9_makeTable wsX9_sizeOf := goodIn_r _ [14, 15, 16, 13, 17] (by decide +kernel) (by decide +kernel)
set_option maxRecDepth 20000 in
theorem gX9_makeTable_X9_sizeOf : GoodIn wsX9_makeTable (va_wsS RX9 165 yX9_sizeOf wsX9_sizeOf) := goodIn_app (goodIn_of _ (by decide +kernel)) ggX9_makeTable_X9_sizeOf
set_option maxRecDepth 20000 in
theorem ggX9_makeTable_X9_piece : GoodIn wsX9_makeTable wsX9_piece := goodIn_r _ [17] (by decide +kernel) (by decide +kernel)
set_option maxRecDepth 20000 in
theorem gX9_makeTable_X9_piece : GoodIn wsX9_makeTable (va_wsS RX9 161 yX9_piece wsX9_piece) := goodIn_app (goodIn_of _ (by decide +kernel)) ggX9_makeTable_X9_piece
set_option maxRecDepth 20000 in
theorem ggX9_makeTable_X9_oneSound : GoodIn wsX9_makeTable wsX9_oneSound := goodIn_r _ [21, 22, 4, 1, 3, 23, 24, 25, 26, 27, 28, 29, 30, 31, 11, 12, 13, 14, 15, 16, 17, 39, 40, 41, 42, 43, 44, 45, 46, 47, 48, 49, 50, 51, 52, 53, 54, 55, 56, 57, 58, 59, 60, 61, 62, 63, 64, 65, 66, 67, 68, 69, 70, 71, 72, 73, 74, 75, 76, 77, 78, 79, 80, 81, 82, 83, 84, 85, 86, 87, 88, 89, 90, 91, 92, 93, 94, 95, 96, 97, 98, 99] (by decide +kernel) (by decide +kernel)
set_option maxRecDepth 20000 in
theorem gX9_makeTable_X9_oneSound : GoodIn wsX9_makeTable (wsV RX9 196 RX9 yX9_oneSound wsX9_oneSound) := goodIn_app (goodIn_of _ (by decide +kernel)) ggX9_makeTable_X9_oneSound
set_option maxRecDepth 20000 in
theorem ggX9_makeTable_X9_cell : GoodIn wsX9_makeTable wsX9_cell := goodIn_r _ [34] (by decide +kernel) (by decide +kernel)
set_option maxRecDepth 20000 in
theorem gX9_makeTable_X9_cell : GoodIn wsX9_makeTable (va_wsS RX9 200 yX9_cell wsX9_cell) := goodIn_app (goodIn_of _ (by decide +kernel)) ggX9_makeTable_X9_cell
set_option maxRecDepth 20000 in
theorem ggX9_makeTable_X9_keepRow : GoodIn wsX9_makeTable wsX9_keepRow := goodIn_r _ [38, 9, 3, 39, 40, 41, 42, 43, 44, 45, 46, 47, 48, 49, 50, 51, 52, 53, 54, 55, 56, 57, 58, 59, 60, 61, 62, 63, 64, 65, 66, 67, 68, 69, 70, 71, 72, 73, 74, 75, 76, 77, 78, 79, 80, 81, 82, 83, 84, 85, 86, 87, 88, 89, 90, 91, 92, 93, 94, 95, 96, 97, 98, 99] (by decide +kernel) (by decide +kernel)
set_option maxRecDepth 20000 in
theorem gX9_makeTable_X9_keepRow : GoodIn wsX9_makeTable (wsV RX9 204 RX9 yX9_keepRow wsX9_keepRow) := goodIn_app (goodIn_of _ (by decide +kernel)) ggX9_makeTable_X9_keepRow
theorem dX9_makeTable_0 : decode cX9_makeTable 0 = .ok (.iconst 0, 1) := by decide +kernel
theorem dX9_makeTable_1 : decode cX9_makeTable 1 = .ok (.istore_n 1, 1) := by decide +kernel
theorem dX9_makeTable_2 : decode cX9_makeTable 2 = .ok (.iload_n 1, 1) := by decide +kernel
theorem dX9_makeTable_3 : decode cX9_makeTable 3 = .ok (.aload_n 0, 1) := by decide +kernel
theorem dX9_makeTable_4 : decode cX9_makeTable 4 = .ok (.getfield 187, 3) := by decide +kernel
theorem dX9_makeTable_7 : decode cX9_makeTable 7 = .ok (.if_icmp .ge 233, 3) := by decide +kernel
theorem dX9_makeTable_10 : decode cX9_makeTable 10 = .ok (.iconst 0, 1) := by decide +kernel
theorem dX9_makeTable_11 : decode cX9_makeTable 11 = .ok (.istore_n 2, 1) := by decide +kernel
theorem dX9_makeTable_12 : decode cX9_makeTable 12 = .ok (.iload_n 2, 1) := by decide +kernel
theorem dX9_makeTable_13 : decode cX9_makeTable 13 = .ok (.aload_n 0, 1) := by decide +kernel
theorem dX9_makeTable_14 : decode cX9_makeTable 14 = .ok (.getfield 180, 3) := by decide +kernel
theorem dX9_makeTable_17 : decode cX9_makeTable 17 = .ok (.if_icmp .ge 217, 3) := by decide +kernel
theorem dX9_makeTable_20 : decode cX9_makeTable 20 = .ok (.iconst 0, 1) := by decide +kernel
theorem dX9_makeTable_21 : decode cX9_makeTable 21 = .ok (.istore_n 3, 1) := by decide +kernel
theorem dX9_makeTable_22 : decode cX9_makeTable 22 = .ok (.iload_n 3, 1) := by decide +kernel
theorem dX9_makeTable_23 : decode cX9_makeTable 23 = .ok (.bipush 36, 2) := by decide +kernel
theorem dX9_makeTable_25 : decode cX9_makeTable 25 = .ok (.if_icmp .gt 25, 3) := by decide +kernel
theorem dX9_makeTable_28 : decode cX9_makeTable 28 = .ok (.aload_n 0, 1) := by decide +kernel
theorem dX9_makeTable_29 : decode cX9_makeTable 29 = .ok (.getfield 118, 3) := by decide +kernel
theorem dX9_makeTable_32 : decode cX9_makeTable 32 = .ok (.iload_n 3, 1) := by decide +kernel
theorem dX9_makeTable_33 : decode cX9_makeTable 33 = .ok (.iload_n 3, 1) := by decide +kernel
theorem dX9_makeTable_34 : decode cX9_makeTable 34 = .ok (.ifCond .ne 7, 3) := by decide +kernel
theorem dX9_makeTable_37 : decode cX9_makeTable 37 = .ok (.iconst 0, 1) := by decide +kernel
theorem dX9_makeTable_38 : decode cX9_makeTable 38 = .ok (.goto 5, 3) := by decide +kernel
theorem dX9_makeTable_41 : decode cX9_makeTable 41 = .ok (.ldc 186, 2) := by decide +kernel
theorem dX9_makeTable_43 : decode cX9_makeTable 43 = .ok (.iastore, 1) := by decide +kernel
theorem dX9_makeTable_44 : decode cX9_makeTable 44 = .ok (.iinc 3 1, 3) := by decide +kernel
theorem dX9_makeTable_47 : decode cX9_makeTable 47 = .ok (.goto (-25), 3) := by decide +kernel
theorem dX9_makeTable_50 : decode cX9_makeTable 50 = .ok (.iconst 0, 1) := by decide +kernel
theorem dX9_makeTable_51 : decode cX9_makeTable 51 = .ok (.istore_n 3, 1) := by decide +kernel
theorem dX9_makeTable_52 : decode cX9_makeTable 52 = .ok (.iload_n 3, 1) := by decide +kernel
theorem dX9_makeTable_53 : decode cX9_makeTable 53 = .ok (.aload_n 0, 1) := by decide +kernel
theorem dX9_makeTable_54 : decode cX9_makeTable 54 = .ok (.getfield 20, 3) := by decide +kernel
theorem dX9_makeTable_57 : decode cX9_makeTable 57 = .ok (.iload_n 2, 1) := by decide +kernel
theorem dX9_makeTable_58 : decode cX9_makeTable 58 = .ok (.laload, 1) := by decide +kernel
theorem dX9_makeTable_59 : decode cX9_makeTable 59 = .ok (.bipush 6, 2) := by decide +kernel
theorem dX9_makeTable_61 : decode cX9_makeTable 61 = .ok (.invokestatic 165, 3) := by decide +kernel
theorem dX9_makeTable_64 : decode cX9_makeTable 64 = .ok (.if_icmp .ge 28, 3) := by decide +kernel
theorem dX9_makeTable_67 : decode cX9_makeTable 67 = .ok (.aload_n 0, 1) := by decide +kernel
theorem dX9_makeTable_68 : decode cX9_makeTable 68 = .ok (.iload_n 1, 1) := by decide +kernel
theorem dX9_makeTable_69 : decode cX9_makeTable 69 = .ok (.aload_n 0, 1) := by decide +kernel
theorem dX9_makeTable_70 : decode cX9_makeTable 70 = .ok (.getfield 20, 3) := by decide +kernel
theorem dX9_makeTable_73 : decode cX9_makeTable 73 = .ok (.iload_n 2, 1) := by decide +kernel
theorem dX9_makeTable_74 : decode cX9_makeTable 74 = .ok (.laload, 1) := by decide +kernel
theorem dX9_makeTable_75 : decode cX9_makeTable 75 = .ok (.bipush 6, 2) := by decide +kernel
theorem dX9_makeTable_77 : decode cX9_makeTable 77 = .ok (.iload_n 3, 1) := by decide +kernel
theorem dX9_makeTable_78 : decode cX9_makeTable 78 = .ok (.invokestatic 161, 3) := by decide +kernel
theorem dX9_makeTable_81 : decode cX9_makeTable 81 = .ok (.iconst 1, 1) := by decide +kernel
theorem dX9_makeTable_82 : decode cX9_makeTable 82 = .ok (.isub, 1) := by decide +kernel
theorem dX9_makeTable_83 : decode cX9_makeTable 83 = .ok (.invokevirtual 196, 3) := by decide +kernel
theorem dX9_makeTable_86 : decode cX9_makeTable 86 = .ok (.iinc 3 1, 3) := by decide +kernel
theorem dX9_makeTable_89 : decode cX9_makeTable 89 = .ok (.goto (-37), 3) := by decide +kernel
theorem dX9_makeTable_92 : decode cX9_makeTable 92 = .ok (.aload_n 0, 1) := by decide +kernel
theorem dX9_makeTable_93 : decode cX9_makeTable 93 = .ok (.iload_n 1, 1) := by decide +kernel
theorem dX9_makeTable_94 : decode cX9_makeTable 94 = .ok (.iload_n 2, 1) := by decide +kernel
theorem dX9_makeTable_95 : decode cX9_makeTable 95 = .ok (.iconst (-1), 1) := by decide +kernel
theorem dX9_makeTable_96 : decode cX9_makeTable 96 = .ok (.invokestatic 200, 3) := by decide +kernel
theorem dX9_makeTable_99 : decode cX9_makeTable 99 = .ok (.invokevirtual 204, 3) := by decide +kernel
theorem dX9_makeTable_102 : decode cX9_makeTable 102 = .ok (.iconst 0, 1) := by decide +kernel
theorem dX9_makeTable_103 : decode cX9_makeTable 103 = .ok (.istore_n 3, 1) := by decide +kernel
theorem dX9_makeTable_104 : decode cX9_makeTable 104 = .ok (.iload_n 3, 1) := by decide +kernel
theorem dX9_makeTable_105 : decode cX9_makeTable 105 = .ok (.aload_n 0, 1) := by decide +kernel
theorem dX9_makeTable_106 : decode cX9_makeTable 106 = .ok (.getfield 183, 3) := by decide +kernel
theorem dX9_makeTable_109 : decode cX9_makeTable 109 = .ok (.if_icmp .ge 119, 3) := by decide +kernel
theorem dX9_makeTable_112 : decode cX9_makeTable 112 = .ok (.aload_n 0, 1) := by decide +kernel
theorem dX9_makeTable_113 : decode cX9_makeTable 113 = .ok (.getfield 41, 3) := by decide +kernel
theorem dX9_makeTable_116 : decode cX9_makeTable 116 = .ok (.iload_n 3, 1) := by decide +kernel
theorem dX9_makeTable_117 : decode cX9_makeTable 117 = .ok (.iaload, 1) := by decide +kernel
theorem dX9_makeTable_118 : decode cX9_makeTable 118 = .ok (.aload_n 0, 1) := by decide +kernel
theorem dX9_makeTable_119 : decode cX9_makeTable 119 = .ok (.getfield 32, 3) := by decide +kernel
theorem dX9_makeTable_122 : decode cX9_makeTable 122 = .ok (.iload_n 2, 1) := by decide +kernel
theorem dX9_makeTable_123 : decode cX9_makeTable 123 = .ok (.iaload, 1) := by decide +kernel
theorem dX9_makeTable_124 : decode cX9_makeTable 124 = .ok (.if_icmp .eq 6, 3) := by decide +kernel
theorem dX9_makeTable_127 : decode cX9_makeTable 127 = .ok (.goto 95, 3) := by decide +kernel
theorem dX9_makeTable_130 : decode cX9_makeTable 130 = .ok (.iconst 0, 1) := by decide +kernel
theorem dX9_makeTable_131 : decode cX9_makeTable 131 = .ok (.istore 4, 2) := by decide +kernel
theorem dX9_makeTable_133 : decode cX9_makeTable 133 = .ok (.iload 4, 2) := by decide +kernel
theorem dX9_makeTable_135 : decode cX9_makeTable 135 = .ok (.bipush 36, 2) := by decide +kernel
theorem dX9_makeTable_137 : decode cX9_makeTable 137 = .ok (.if_icmp .gt 30, 3) := by decide +kernel
theorem dX9_makeTable_140 : decode cX9_makeTable 140 = .ok (.aload_n 0, 1) := by decide +kernel
theorem dX9_makeTable_141 : decode cX9_makeTable 141 = .ok (.getfield 118, 3) := by decide +kernel
theorem dX9_makeTable_144 : decode cX9_makeTable 144 = .ok (.iload 4, 2) := by decide +kernel
theorem dX9_makeTable_146 : decode cX9_makeTable 146 = .ok (.aload_n 0, 1) := by decide +kernel
theorem dX9_makeTable_147 : decode cX9_makeTable 147 = .ok (.getfield 115, 3) := by decide +kernel
theorem dX9_makeTable_150 : decode cX9_makeTable 150 = .ok (.iload_n 1, 1) := by decide +kernel
theorem dX9_makeTable_151 : decode cX9_makeTable 151 = .ok (.iload_n 2, 1) := by decide +kernel
theorem dX9_makeTable_152 : decode cX9_makeTable 152 = .ok (.iconst (-1), 1) := by decide +kernel
theorem dX9_makeTable_153 : decode cX9_makeTable 153 = .ok (.invokestatic 200, 3) := by decide +kernel
theorem dX9_makeTable_156 : decode cX9_makeTable 156 = .ok (.iload 4, 2) := by decide +kernel
theorem dX9_makeTable_158 : decode cX9_makeTable 158 = .ok (.iadd, 1) := by decide +kernel
theorem dX9_makeTable_159 : decode cX9_makeTable 159 = .ok (.iaload, 1) := by decide +kernel
theorem dX9_makeTable_160 : decode cX9_makeTable 160 = .ok (.iastore, 1) := by decide +kernel
theorem dX9_makeTable_161 : decode cX9_makeTable 161 = .ok (.iinc 4 1, 3) := by decide +kernel
theorem dX9_makeTable_164 : decode cX9_makeTable 164 = .ok (.goto (-31), 3) := by decide +kernel
theorem dX9_makeTable_167 : decode cX9_makeTable 167 = .ok (.iconst 0, 1) := by decide +kernel
theorem dX9_makeTable_168 : decode cX9_makeTable 168 = .ok (.istore 4, 2) := by decide +kernel
theorem dX9_makeTable_170 : decode cX9_makeTable 170 = .ok (.iload 4, 2) := by decide +kernel
theorem dX9_makeTable_172 : decode cX9_makeTable 172 = .ok (.aload_n 0, 1) := by decide +kernel
theorem dX9_makeTable_173 : decode cX9_makeTable 173 = .ok (.getfield 26, 3) := by decide +kernel
theorem dX9_makeTable_176 : decode cX9_makeTable 176 = .ok (.iload_n 3, 1) := by decide +kernel
theorem dX9_makeTable_177 : decode cX9_makeTable 177 = .ok (.laload, 1) := by decide +kernel
theorem dX9_makeTable_178 : decode cX9_makeTable 178 = .ok (.bipush 6, 2) := by decide +kernel
theorem dX9_makeTable_180 : decode cX9_makeTable 180 = .ok (.invokestatic 165, 3) := by decide +kernel
theorem dX9_makeTable_183 : decode cX9_makeTable 183 = .ok (.if_icmp .ge 29, 3) := by decide +kernel
theorem dX9_makeTable_186 : decode cX9_makeTable 186 = .ok (.aload_n 0, 1) := by decide +kernel
theorem dX9_makeTable_187 : decode cX9_makeTable 187 = .ok (.iload_n 1, 1) := by decide +kernel
theorem dX9_makeTable_188 : decode cX9_makeTable 188 = .ok (.aload_n 0, 1) := by decide +kernel
theorem dX9_makeTable_189 : decode cX9_makeTable 189 = .ok (.getfield 26, 3) := by decide +kernel
theorem dX9_makeTable_192 : decode cX9_makeTable 192 = .ok (.iload_n 3, 1) := by decide +kernel
theorem dX9_makeTable_193 : decode cX9_makeTable 193 = .ok (.laload, 1) := by decide +kernel
theorem dX9_makeTable_194 : decode cX9_makeTable 194 = .ok (.bipush 6, 2) := by decide +kernel
theorem dX9_makeTable_196 : decode cX9_makeTable 196 = .ok (.iload 4, 2) := by decide +kernel
theorem dX9_makeTable_198 : decode cX9_makeTable 198 = .ok (.invokestatic 161, 3) := by decide +kernel
theorem dX9_makeTable_201 : decode cX9_makeTable 201 = .ok (.iconst 1, 1) := by decide +kernel
theorem dX9_makeTable_202 : decode cX9_makeTable 202 = .ok (.isub, 1) := by decide +kernel
theorem dX9_makeTable_203 : decode cX9_makeTable 203 = .ok (.invokevirtual 196, 3) := by decide +kernel
theorem dX9_makeTable_206 : decode cX9_makeTable 206 = .ok (.iinc 4 1, 3) := by decide +kernel
theorem dX9_makeTable_209 : decode cX9_makeTable 209 = .ok (.goto (-39), 3) := by decide +kernel
theorem dX9_makeTable_212 : decode cX9_makeTable 212 = .ok (.aload_n 0, 1) := by decide +kernel
theorem dX9_makeTable_213 : decode cX9_makeTable 213 = .ok (.iload_n 1, 1) := by decide +kernel
theorem dX9_makeTable_214 : decode cX9_makeTable 214 = .ok (.iload_n 2, 1) := by decide +kernel
theorem dX9_makeTable_215 : decode cX9_makeTable 215 = .ok (.iload_n 3, 1) := by decide +kernel
theorem dX9_makeTable_216 : decode cX9_makeTable 216 = .ok (.invokestatic 200, 3) := by decide +kernel
theorem dX9_makeTable_219 : decode cX9_makeTable 219 = .ok (.invokevirtual 204, 3) := by decide +kernel
theorem dX9_makeTable_222 : decode cX9_makeTable 222 = .ok (.iinc 3 1, 3) := by decide +kernel
theorem dX9_makeTable_225 : decode cX9_makeTable 225 = .ok (.goto (-121), 3) := by decide +kernel
theorem dX9_makeTable_228 : decode cX9_makeTable 228 = .ok (.iinc 2 1, 3) := by decide +kernel
theorem dX9_makeTable_231 : decode cX9_makeTable 231 = .ok (.goto (-219), 3) := by decide +kernel
theorem dX9_makeTable_234 : decode cX9_makeTable 234 = .ok (.iinc 1 1, 3) := by decide +kernel
theorem dX9_makeTable_237 : decode cX9_makeTable 237 = .ok (.goto (-235), 3) := by decide +kernel
theorem dX9_makeTable_240 : decode cX9_makeTable 240 = .ok (.return_, 1) := by decide +kernel
theorem dX9_bitsOf_0 : decode cX9_bitsOf 0 = .ok (.iconst 0, 1) := by decide +kernel
theorem dX9_bitsOf_1 : decode cX9_bitsOf 1 = .ok (.istore_n 1, 1) := by decide +kernel
theorem dX9_bitsOf_2 : decode cX9_bitsOf 2 = .ok (.iload_n 0, 1) := by decide +kernel
theorem dX9_bitsOf_3 : decode cX9_bitsOf 3 = .ok (.istore_n 2, 1) := by decide +kernel
theorem dX9_bitsOf_4 : decode cX9_bitsOf 4 = .ok (.iload_n 2, 1) := by decide +kernel
theorem dX9_bitsOf_5 : decode cX9_bitsOf 5 = .ok (.ifCond .le 13, 3) := by decide +kernel
theorem dX9_bitsOf_8 : decode cX9_bitsOf 8 = .ok (.iinc 1 1, 3) := by decide +kernel
theorem dX9_bitsOf_11 : decode cX9_bitsOf 11 = .ok (.iload_n 2, 1) := by decide +kernel
theorem dX9_bitsOf_12 : decode cX9_bitsOf 12 = .ok (.iconst 1, 1) := by decide +kernel
theorem dX9_bitsOf_13 : decode cX9_bitsOf 13 = .ok (.ishr, 1) := by decide +kernel
theorem dX9_bitsOf_14 : decode cX9_bitsOf 14 = .ok (.istore_n 2, 1) := by decide +kernel
theorem dX9_bitsOf_15 : decode cX9_bitsOf 15 = .ok (.goto (-11), 3) := by decide +kernel
theorem dX9_bitsOf_18 : decode cX9_bitsOf 18 = .ok (.iload_n 1, 1) := by decide +kernel
theorem dX9_bitsOf_19 : decode cX9_bitsOf 19 = .ok (.ireturn, 1) := by decide +kernel
set_option maxRecDepth 20000 in
theorem ggX9_costOf_X9_cell : GoodIn wsX9_costOf wsX9_cell := goodIn_r _ [12] (by decide +kernel) (by decide +kernel)
set_option maxRecDepth 20000 in
theorem gX9_costOf_X9_cell : GoodIn wsX9_costOf (va_wsS RX9 200 yX9_cell wsX9_cell) := goodIn_app (goodIn_of _ (by decide +kernel)) ggX9_costOf_X9_cell
set_option maxRecDepth 20000 in
theorem ggX9_costOf_X9_bitsOf : GoodIn wsX9_costOf wsX9_bitsOf := goodIn_r _ [15] (by decide +kernel) (by decide +kernel)
set_option maxRecDepth 20000 in
theorem gX9_costOf_X9_bitsOf : GoodIn wsX9_costOf (va_wsS RX9 208 yX9_bitsOf wsX9_bitsOf) := goodIn_app (goodIn_of _ (by decide +kernel)) ggX9_costOf_X9_bitsOf
theorem dX9_costOf_0 : decode cX9_costOf 0 = .ok (.iload_n 3, 1) := by decide +kernel
theorem dX9_costOf_1 : decode cX9_costOf 1 = .ok (.bipush 60, 2) := by decide +kernel
theorem dX9_costOf_3 : decode cX9_costOf 3 = .ok (.if_icmp .ne 26, 3) := by decide +kernel
theorem dX9_costOf_6 : decode cX9_costOf 6 = .ok (.iload_n 2, 1) := by decide +kernel
theorem dX9_costOf_7 : decode cX9_costOf 7 = .ok (.iload_n 1, 1) := by decide +kernel
theorem dX9_costOf_8 : decode cX9_costOf 8 = .ok (.iconst 1, 1) := by decide +kernel
theorem dX9_costOf_9 : decode cX9_costOf 9 = .ok (.iadd, 1) := by decide +kernel
theorem dX9_costOf_10 : decode cX9_costOf 10 = .ok (.if_icmp .ne 16, 3) := by decide +kernel
theorem dX9_costOf_13 : decode cX9_costOf 13 = .ok (.iload 4, 2) := by decide +kernel
theorem dX9_costOf_15 : decode cX9_costOf 15 = .ok (.iconst (-1), 1) := by decide +kernel
theorem dX9_costOf_16 : decode cX9_costOf 16 = .ok (.if_icmp .ne 10, 3) := by decide +kernel
theorem dX9_costOf_19 : decode cX9_costOf 19 = .ok (.aload_n 0, 1) := by decide +kernel
theorem dX9_costOf_20 : decode cX9_costOf 20 = .ok (.getfield 51, 3) := by decide +kernel
theorem dX9_costOf_23 : decode cX9_costOf 23 = .ok (.goto 5, 3) := by decide +kernel
theorem dX9_costOf_26 : decode cX9_costOf 26 = .ok (.ldc 186, 2) := by decide +kernel
theorem dX9_costOf_28 : decode cX9_costOf 28 = .ok (.ireturn, 1) := by decide +kernel
theorem dX9_costOf_29 : decode cX9_costOf 29 = .ok (.iload 4, 2) := by decide +kernel
theorem dX9_costOf_31 : decode cX9_costOf 31 = .ok (.iconst (-1), 1) := by decide +kernel
theorem dX9_costOf_32 : decode cX9_costOf 32 = .ok (.if_icmp .eq 22, 3) := by decide +kernel
theorem dX9_costOf_35 : decode cX9_costOf 35 = .ok (.aload_n 0, 1) := by decide +kernel
theorem dX9_costOf_36 : decode cX9_costOf 36 = .ok (.getfield 41, 3) := by decide +kernel
theorem dX9_costOf_39 : decode cX9_costOf 39 = .ok (.iload 4, 2) := by decide +kernel
theorem dX9_costOf_41 : decode cX9_costOf 41 = .ok (.iaload, 1) := by decide +kernel
theorem dX9_costOf_42 : decode cX9_costOf 42 = .ok (.aload_n 0, 1) := by decide +kernel
theorem dX9_costOf_43 : decode cX9_costOf 43 = .ok (.getfield 32, 3) := by decide +kernel
theorem dX9_costOf_46 : decode cX9_costOf 46 = .ok (.iload_n 3, 1) := by decide +kernel
theorem dX9_costOf_47 : decode cX9_costOf 47 = .ok (.iaload, 1) := by decide +kernel
theorem dX9_costOf_48 : decode cX9_costOf 48 = .ok (.if_icmp .eq 6, 3) := by decide +kernel
theorem dX9_costOf_51 : decode cX9_costOf 51 = .ok (.ldc 186, 2) := by decide +kernel
theorem dX9_costOf_53 : decode cX9_costOf 53 = .ok (.ireturn, 1) := by decide +kernel
theorem dX9_costOf_54 : decode cX9_costOf 54 = .ok (.aload_n 0, 1) := by decide +kernel
theorem dX9_costOf_55 : decode cX9_costOf 55 = .ok (.getfield 115, 3) := by decide +kernel
theorem dX9_costOf_58 : decode cX9_costOf 58 = .ok (.iload_n 1, 1) := by decide +kernel
theorem dX9_costOf_59 : decode cX9_costOf 59 = .ok (.iload_n 3, 1) := by decide +kernel
theorem dX9_costOf_60 : decode cX9_costOf 60 = .ok (.iload 4, 2) := by decide +kernel
theorem dX9_costOf_62 : decode cX9_costOf 62 = .ok (.invokestatic 200, 3) := by decide +kernel
theorem dX9_costOf_65 : decode cX9_costOf 65 = .ok (.iload_n 2, 1) := by decide +kernel
theorem dX9_costOf_66 : decode cX9_costOf 66 = .ok (.iadd, 1) := by decide +kernel
theorem dX9_costOf_67 : decode cX9_costOf 67 = .ok (.iload_n 1, 1) := by decide +kernel
theorem dX9_costOf_68 : decode cX9_costOf 68 = .ok (.isub, 1) := by decide +kernel
theorem dX9_costOf_69 : decode cX9_costOf 69 = .ok (.iaload, 1) := by decide +kernel
theorem dX9_costOf_70 : decode cX9_costOf 70 = .ok (.istore 5, 2) := by decide +kernel
theorem dX9_costOf_72 : decode cX9_costOf 72 = .ok (.iload 5, 2) := by decide +kernel
theorem dX9_costOf_74 : decode cX9_costOf 74 = .ok (.ldc 186, 2) := by decide +kernel
theorem dX9_costOf_76 : decode cX9_costOf 76 = .ok (.if_icmp .lt 8, 3) := by decide +kernel
theorem dX9_costOf_79 : decode cX9_costOf 79 = .ok (.ldc 186, 2) := by decide +kernel
theorem dX9_costOf_81 : decode cX9_costOf 81 = .ok (.goto 41, 3) := by decide +kernel
theorem dX9_costOf_84 : decode cX9_costOf 84 = .ok (.aload_n 0, 1) := by decide +kernel
theorem dX9_costOf_85 : decode cX9_costOf 85 = .ok (.getfield 54, 3) := by decide +kernel
theorem dX9_costOf_88 : decode cX9_costOf 88 = .ok (.bipush 8, 2) := by decide +kernel
theorem dX9_costOf_90 : decode cX9_costOf 90 = .ok (.aload_n 0, 1) := by decide +kernel
theorem dX9_costOf_91 : decode cX9_costOf 91 = .ok (.getfield 35, 3) := by decide +kernel
theorem dX9_costOf_94 : decode cX9_costOf 94 = .ok (.iload_n 3, 1) := by decide +kernel
theorem dX9_costOf_95 : decode cX9_costOf 95 = .ok (.iaload, 1) := by decide +kernel
theorem dX9_costOf_96 : decode cX9_costOf 96 = .ok (.invokestatic 208, 3) := by decide +kernel
theorem dX9_costOf_99 : decode cX9_costOf 99 = .ok (.imul, 1) := by decide +kernel
theorem dX9_costOf_100 : decode cX9_costOf 100 = .ok (.isub, 1) := by decide +kernel
theorem dX9_costOf_101 : decode cX9_costOf 101 = .ok (.iload 4, 2) := by decide +kernel
theorem dX9_costOf_103 : decode cX9_costOf 103 = .ok (.iconst (-1), 1) := by decide +kernel
theorem dX9_costOf_104 : decode cX9_costOf 104 = .ok (.if_icmp .ne 7, 3) := by decide +kernel
theorem dX9_costOf_107 : decode cX9_costOf 107 = .ok (.iconst 0, 1) := by decide +kernel
theorem dX9_costOf_108 : decode cX9_costOf 108 = .ok (.goto 10, 3) := by decide +kernel
theorem dX9_costOf_111 : decode cX9_costOf 111 = .ok (.aload_n 0, 1) := by decide +kernel
theorem dX9_costOf_112 : decode cX9_costOf 112 = .ok (.getfield 44, 3) := by decide +kernel
theorem dX9_costOf_115 : decode cX9_costOf 115 = .ok (.iload 4, 2) := by decide +kernel
theorem dX9_costOf_117 : decode cX9_costOf 117 = .ok (.iaload, 1) := by decide +kernel
theorem dX9_costOf_118 : decode cX9_costOf 118 = .ok (.iadd, 1) := by decide +kernel
theorem dX9_costOf_119 : decode cX9_costOf 119 = .ok (.iload 5, 2) := by decide +kernel
theorem dX9_costOf_121 : decode cX9_costOf 121 = .ok (.iadd, 1) := by decide +kernel
theorem dX9_costOf_122 : decode cX9_costOf 122 = .ok (.ireturn, 1) := by decide +kernel
theorem dX9_kindOf_0 : decode cX9_kindOf 0 = .ok (.iload_n 1, 1) := by decide +kernel
theorem dX9_kindOf_1 : decode cX9_kindOf 1 = .ok (.bipush 60, 2) := by decide +kernel
theorem dX9_kindOf_3 : decode cX9_kindOf 3 = .ok (.if_icmp .ne 8, 3) := by decide +kernel
theorem dX9_kindOf_6 : decode cX9_kindOf 6 = .ok (.bipush 8, 2) := by decide +kernel
theorem dX9_kindOf_8 : decode cX9_kindOf 8 = .ok (.goto 9, 3) := by decide +kernel
theorem dX9_kindOf_11 : decode cX9_kindOf 11 = .ok (.aload_n 0, 1) := by decide +kernel
theorem dX9_kindOf_12 : decode cX9_kindOf 12 = .ok (.getfield 29, 3) := by decide +kernel
theorem dX9_kindOf_15 : decode cX9_kindOf 15 = .ok (.iload_n 1, 1) := by decide +kernel
theorem dX9_kindOf_16 : decode cX9_kindOf 16 = .ok (.iaload, 1) := by decide +kernel
theorem dX9_kindOf_17 : decode cX9_kindOf 17 = .ok (.ireturn, 1) := by decide +kernel
set_option maxRecDepth 20000 in
theorem ggX9_stepOf_X9_bitsOf : GoodIn wsX9_stepOf wsX9_bitsOf := goodIn_r _ [6] (by decide +kernel) (by decide +kernel)
set_option maxRecDepth 20000 in
theorem gX9_stepOf_X9_bitsOf : GoodIn wsX9_stepOf (va_wsS RX9 208 yX9_bitsOf wsX9_bitsOf) := goodIn_app (goodIn_of _ (by decide +kernel)) ggX9_stepOf_X9_bitsOf
theorem dX9_stepOf_0 : decode cX9_stepOf 0 = .ok (.iload_n 1, 1) := by decide +kernel
theorem dX9_stepOf_1 : decode cX9_stepOf 1 = .ok (.bipush 9, 2) := by decide +kernel
theorem dX9_stepOf_3 : decode cX9_stepOf 3 = .ok (.if_icmp .ne 7, 3) := by decide +kernel
theorem dX9_stepOf_6 : decode cX9_stepOf 6 = .ok (.iconst 0, 1) := by decide +kernel
theorem dX9_stepOf_7 : decode cX9_stepOf 7 = .ok (.goto 31, 3) := by decide +kernel
theorem dX9_stepOf_10 : decode cX9_stepOf 10 = .ok (.aload_n 0, 1) := by decide +kernel
theorem dX9_stepOf_11 : decode cX9_stepOf 11 = .ok (.getfield 57, 3) := by decide +kernel
theorem dX9_stepOf_14 : decode cX9_stepOf 14 = .ok (.bipush 9, 2) := by decide +kernel
theorem dX9_stepOf_16 : decode cX9_stepOf 16 = .ok (.iload_n 1, 1) := by decide +kernel
theorem dX9_stepOf_17 : decode cX9_stepOf 17 = .ok (.imul, 1) := by decide +kernel
theorem dX9_stepOf_18 : decode cX9_stepOf 18 = .ok (.iload_n 2, 1) := by decide +kernel
theorem dX9_stepOf_19 : decode cX9_stepOf 19 = .ok (.iadd, 1) := by decide +kernel
theorem dX9_stepOf_20 : decode cX9_stepOf 20 = .ok (.iaload, 1) := by decide +kernel
theorem dX9_stepOf_21 : decode cX9_stepOf 21 = .ok (.iconst 2, 1) := by decide +kernel
theorem dX9_stepOf_22 : decode cX9_stepOf 22 = .ok (.aload_n 0, 1) := by decide +kernel
theorem dX9_stepOf_23 : decode cX9_stepOf 23 = .ok (.getfield 60, 3) := by decide +kernel
theorem dX9_stepOf_26 : decode cX9_stepOf 26 = .ok (.bipush 9, 2) := by decide +kernel
theorem dX9_stepOf_28 : decode cX9_stepOf 28 = .ok (.iload_n 1, 1) := by decide +kernel
theorem dX9_stepOf_29 : decode cX9_stepOf 29 = .ok (.imul, 1) := by decide +kernel
theorem dX9_stepOf_30 : decode cX9_stepOf 30 = .ok (.iload_n 2, 1) := by decide +kernel
theorem dX9_stepOf_31 : decode cX9_stepOf 31 = .ok (.iadd, 1) := by decide +kernel
theorem dX9_stepOf_32 : decode cX9_stepOf 32 = .ok (.iaload, 1) := by decide +kernel
theorem dX9_stepOf_33 : decode cX9_stepOf 33 = .ok (.invokestatic 208, 3) := by decide +kernel
theorem dX9_stepOf_36 : decode cX9_stepOf 36 = .ok (.imul, 1) := by decide +kernel
theorem dX9_stepOf_37 : decode cX9_stepOf 37 = .ok (.isub, 1) := by decide +kernel
theorem dX9_stepOf_38 : decode cX9_stepOf 38 = .ok (.ireturn, 1) := by decide +kernel
theorem dX9_isLet_0 : decode cX9_isLet 0 = .ok (.iload_n 1, 1) := by decide +kernel
theorem dX9_isLet_1 : decode cX9_isLet 1 = .ok (.ifCond .le 13, 3) := by decide +kernel
theorem dX9_isLet_4 : decode cX9_isLet 4 = .ok (.aload_n 0, 1) := by decide +kernel
theorem dX9_isLet_5 : decode cX9_isLet 5 = .ok (.getfield 66, 3) := by decide +kernel
theorem dX9_isLet_8 : decode cX9_isLet 8 = .ok (.iload_n 1, 1) := by decide +kernel
theorem dX9_isLet_9 : decode cX9_isLet 9 = .ok (.iaload, 1) := by decide +kernel
theorem dX9_isLet_10 : decode cX9_isLet 10 = .ok (.iconst 2, 1) := by decide +kernel
theorem dX9_isLet_11 : decode cX9_isLet 11 = .ok (.if_icmp .eq 21, 3) := by decide +kernel
theorem dX9_isLet_14 : decode cX9_isLet 14 = .ok (.iload_n 2, 1) := by decide +kernel
theorem dX9_isLet_15 : decode cX9_isLet 15 = .ok (.aload_n 0, 1) := by decide +kernel
theorem dX9_isLet_16 : decode cX9_isLet 16 = .ok (.getfield 187, 3) := by decide +kernel
theorem dX9_isLet_19 : decode cX9_isLet 19 = .ok (.if_icmp .ge 15, 3) := by decide +kernel
theorem dX9_isLet_22 : decode cX9_isLet 22 = .ok (.aload_n 0, 1) := by decide +kernel
theorem dX9_isLet_23 : decode cX9_isLet 23 = .ok (.getfield 66, 3) := by decide +kernel
theorem dX9_isLet_26 : decode cX9_isLet 26 = .ok (.iload_n 2, 1) := by decide +kernel
theorem dX9_isLet_27 : decode cX9_isLet 27 = .ok (.iaload, 1) := by decide +kernel
theorem dX9_isLet_28 : decode cX9_isLet 28 = .ok (.iconst 2, 1) := by decide +kernel
theorem dX9_isLet_29 : decode cX9_isLet 29 = .ok (.if_icmp .ne 5, 3) := by decide +kernel
theorem dX9_isLet_32 : decode cX9_isLet 32 = .ok (.iconst 0, 1) := by decide +kernel
theorem dX9_isLet_33 : decode cX9_isLet 33 = .ok (.ireturn, 1) := by decide +kernel
theorem dX9_isLet_34 : decode cX9_isLet 34 = .ok (.iload_n 1, 1) := by decide +kernel
theorem dX9_isLet_35 : decode cX9_isLet 35 = .ok (.iconst 1, 1) := by decide +kernel
theorem dX9_isLet_36 : decode cX9_isLet 36 = .ok (.iadd, 1) := by decide +kernel
theorem dX9_isLet_37 : decode cX9_isLet 37 = .ok (.istore_n 3, 1) := by decide +kernel
theorem dX9_isLet_38 : decode cX9_isLet 38 = .ok (.iload_n 3, 1) := by decide +kernel
theorem dX9_isLet_39 : decode cX9_isLet 39 = .ok (.iload_n 2, 1) := by decide +kernel
theorem dX9_isLet_40 : decode cX9_isLet 40 = .ok (.if_icmp .ge 21, 3) := by decide +kernel
theorem dX9_isLet_43 : decode cX9_isLet 43 = .ok (.aload_n 0, 1) := by decide +kernel
theorem dX9_isLet_44 : decode cX9_isLet 44 = .ok (.getfield 66, 3) := by decide +kernel
theorem dX9_isLet_47 : decode cX9_isLet 47 = .ok (.iload_n 3, 1) := by decide +kernel
theorem dX9_isLet_48 : decode cX9_isLet 48 = .ok (.iaload, 1) := by decide +kernel
theorem dX9_isLet_49 : decode cX9_isLet 49 = .ok (.iconst 1, 1) := by decide +kernel
theorem dX9_isLet_50 : decode cX9_isLet 50 = .ok (.if_icmp .ne 5, 3) := by decide +kernel
theorem dX9_isLet_53 : decode cX9_isLet 53 = .ok (.iconst 0, 1) := by decide +kernel
theorem dX9_isLet_54 : decode cX9_isLet 54 = .ok (.ireturn, 1) := by decide +kernel
theorem dX9_isLet_55 : decode cX9_isLet 55 = .ok (.iinc 3 1, 3) := by decide +kernel
theorem dX9_isLet_58 : decode cX9_isLet 58 = .ok (.goto (-20), 3) := by decide +kernel
theorem dX9_isLet_61 : decode cX9_isLet 61 = .ok (.iconst 1, 1) := by decide +kernel
theorem dX9_isLet_62 : decode cX9_isLet 62 = .ok (.ireturn, 1) := by decide +kernel
set_option maxRecDepth 20000 in
theorem ggX9_isAllowed_X9_isLet : GoodIn wsX9_isAllowed wsX9_isLet := goodIn_r _ [10, 11, 12, 13, 14, 15, 16, 17, 18, 19, 20, 21, 22, 23, 24, 25, 26, 27, 28, 29, 30, 31, 32, 33, 34, 35, 36, 37, 38, 39, 40, 41, 42, 43, 44, 45, 46, 47, 48, 49, 50, 51, 52, 53, 54, 55, 56, 57, 58, 59, 60, 61, 62, 63, 64, 65, 66, 67, 68, 69, 70, 71, 72, 73] (by decide +kernel) (by decide +kernel)
set_option maxRecDepth 20000 in
theorem gX9_isAllowed_X9_isLet : GoodIn wsX9_isAllowed (wsV RX9 212 RX9 yX9_isLet wsX9_isLet) := goodIn_app (goodIn_of _ (by decide +kernel)) ggX9_isAllowed_X9_isLet
theorem dX9_isAllowed_0 : decode cX9_isAllowed 0 = .ok (.aload_n 0, 1) := by decide +kernel
theorem dX9_isAllowed_1 : decode cX9_isAllowed 1 = .ok (.iload_n 1, 1) := by decide +kernel
theorem dX9_isAllowed_2 : decode cX9_isAllowed 2 = .ok (.iload_n 2, 1) := by decide +kernel
theorem dX9_isAllowed_3 : decode cX9_isAllowed 3 = .ok (.invokevirtual 212, 3) := by decide +kernel
theorem dX9_isAllowed_6 : decode cX9_isAllowed 6 = .ok (.istore 5, 2) := by decide +kernel
theorem dX9_isAllowed_8 : decode cX9_isAllowed 8 = .ok (.iconst 0, 1) := by decide +kernel
theorem dX9_isAllowed_9 : decode cX9_isAllowed 9 = .ok (.istore 6, 2) := by decide +kernel
theorem dX9_isAllowed_11 : decode cX9_isAllowed 11 = .ok (.iload 6, 2) := by decide +kernel
theorem dX9_isAllowed_13 : decode cX9_isAllowed 13 = .ok (.aload_n 0, 1) := by decide +kernel
theorem dX9_isAllowed_14 : decode cX9_isAllowed 14 = .ok (.getfield 216, 3) := by decide +kernel
theorem dX9_isAllowed_17 : decode cX9_isAllowed 17 = .ok (.if_icmp .ge 91, 3) := by decide +kernel
theorem dX9_isAllowed_20 : decode cX9_isAllowed 20 = .ok (.iload 5, 2) := by decide +kernel
theorem dX9_isAllowed_22 : decode cX9_isAllowed 22 = .ok (.ifCond .eq 86, 3) := by decide +kernel
theorem dX9_isAllowed_25 : decode cX9_isAllowed 25 = .ok (.aload_n 0, 1) := by decide +kernel
theorem dX9_isAllowed_26 : decode cX9_isAllowed 26 = .ok (.getfield 72, 3) := by decide +kernel
theorem dX9_isAllowed_29 : decode cX9_isAllowed 29 = .ok (.iload 6, 2) := by decide +kernel
theorem dX9_isAllowed_31 : decode cX9_isAllowed 31 = .ok (.iaload, 1) := by decide +kernel
theorem dX9_isAllowed_32 : decode cX9_isAllowed 32 = .ok (.iload_n 1, 1) := by decide +kernel
theorem dX9_isAllowed_33 : decode cX9_isAllowed 33 = .ok (.if_icmp .le 69, 3) := by decide +kernel
theorem dX9_isAllowed_36 : decode cX9_isAllowed 36 = .ok (.aload_n 0, 1) := by decide +kernel
theorem dX9_isAllowed_37 : decode cX9_isAllowed 37 = .ok (.getfield 69, 3) := by decide +kernel
theorem dX9_isAllowed_40 : decode cX9_isAllowed 40 = .ok (.iload 6, 2) := by decide +kernel
theorem dX9_isAllowed_42 : decode cX9_isAllowed 42 = .ok (.iaload, 1) := by decide +kernel
theorem dX9_isAllowed_43 : decode cX9_isAllowed 43 = .ok (.iload_n 2, 1) := by decide +kernel
theorem dX9_isAllowed_44 : decode cX9_isAllowed 44 = .ok (.if_icmp .lt 6, 3) := by decide +kernel
theorem dX9_isAllowed_47 : decode cX9_isAllowed 47 = .ok (.goto 55, 3) := by decide +kernel
theorem dX9_isAllowed_50 : decode cX9_isAllowed 50 = .ok (.aload_n 0, 1) := by decide +kernel
theorem dX9_isAllowed_51 : decode cX9_isAllowed 51 = .ok (.getfield 69, 3) := by decide +kernel
theorem dX9_isAllowed_54 : decode cX9_isAllowed 54 = .ok (.iload 6, 2) := by decide +kernel
theorem dX9_isAllowed_56 : decode cX9_isAllowed 56 = .ok (.iaload, 1) := by decide +kernel
theorem dX9_isAllowed_57 : decode cX9_isAllowed 57 = .ok (.iload_n 1, 1) := by decide +kernel
theorem dX9_isAllowed_58 : decode cX9_isAllowed 58 = .ok (.if_icmp .ne 41, 3) := by decide +kernel
theorem dX9_isAllowed_61 : decode cX9_isAllowed 61 = .ok (.aload_n 0, 1) := by decide +kernel
theorem dX9_isAllowed_62 : decode cX9_isAllowed 62 = .ok (.getfield 72, 3) := by decide +kernel
theorem dX9_isAllowed_65 : decode cX9_isAllowed 65 = .ok (.iload 6, 2) := by decide +kernel
theorem dX9_isAllowed_67 : decode cX9_isAllowed 67 = .ok (.iaload, 1) := by decide +kernel
theorem dX9_isAllowed_68 : decode cX9_isAllowed 68 = .ok (.iload_n 2, 1) := by decide +kernel
theorem dX9_isAllowed_69 : decode cX9_isAllowed 69 = .ok (.if_icmp .ne 30, 3) := by decide +kernel
theorem dX9_isAllowed_72 : decode cX9_isAllowed 72 = .ok (.aload_n 0, 1) := by decide +kernel
theorem dX9_isAllowed_73 : decode cX9_isAllowed 73 = .ok (.getfield 75, 3) := by decide +kernel
theorem dX9_isAllowed_76 : decode cX9_isAllowed 76 = .ok (.iload 6, 2) := by decide +kernel
theorem dX9_isAllowed_78 : decode cX9_isAllowed 78 = .ok (.iaload, 1) := by decide +kernel
theorem dX9_isAllowed_79 : decode cX9_isAllowed 79 = .ok (.iload_n 3, 1) := by decide +kernel
theorem dX9_isAllowed_80 : decode cX9_isAllowed 80 = .ok (.if_icmp .ne 19, 3) := by decide +kernel
theorem dX9_isAllowed_83 : decode cX9_isAllowed 83 = .ok (.aload_n 0, 1) := by decide +kernel
theorem dX9_isAllowed_84 : decode cX9_isAllowed 84 = .ok (.getfield 78, 3) := by decide +kernel
theorem dX9_isAllowed_87 : decode cX9_isAllowed 87 = .ok (.iload 6, 2) := by decide +kernel
theorem dX9_isAllowed_89 : decode cX9_isAllowed 89 = .ok (.iaload, 1) := by decide +kernel
theorem dX9_isAllowed_90 : decode cX9_isAllowed 90 = .ok (.iload 4, 2) := by decide +kernel
theorem dX9_isAllowed_92 : decode cX9_isAllowed 92 = .ok (.if_icmp .ne 7, 3) := by decide +kernel
theorem dX9_isAllowed_95 : decode cX9_isAllowed 95 = .ok (.iconst 1, 1) := by decide +kernel
theorem dX9_isAllowed_96 : decode cX9_isAllowed 96 = .ok (.goto 4, 3) := by decide +kernel
theorem dX9_isAllowed_99 : decode cX9_isAllowed 99 = .ok (.iconst 0, 1) := by decide +kernel
theorem dX9_isAllowed_100 : decode cX9_isAllowed 100 = .ok (.istore 5, 2) := by decide +kernel
theorem dX9_isAllowed_102 : decode cX9_isAllowed 102 = .ok (.iinc 6 1, 3) := by decide +kernel
theorem dX9_isAllowed_105 : decode cX9_isAllowed 105 = .ok (.goto (-94), 3) := by decide +kernel
theorem dX9_isAllowed_108 : decode cX9_isAllowed 108 = .ok (.iload 5, 2) := by decide +kernel
theorem dX9_isAllowed_110 : decode cX9_isAllowed 110 = .ok (.ireturn, 1) := by decide +kernel
theorem dX9_at_0 : decode cX9_at 0 = .ok (.bipush 10, 2) := by decide +kernel
theorem dX9_at_2 : decode cX9_at 2 = .ok (.iload_n 0, 1) := by decide +kernel
theorem dX9_at_3 : decode cX9_at 3 = .ok (.imul, 1) := by decide +kernel
theorem dX9_at_4 : decode cX9_at 4 = .ok (.iload_n 1, 1) := by decide +kernel
theorem dX9_at_5 : decode cX9_at 5 = .ok (.iadd, 1) := by decide +kernel
theorem dX9_at_6 : decode cX9_at 6 = .ok (.ireturn, 1) := by decide +kernel
set_option maxRecDepth 20000 in
theorem ggX9_read_X9_makeTable : GoodIn wsX9_read wsX9_makeTable := goodIn_r _ [17, 4, 18, 19, 5, 20, 21, 22, 23, 24, 25, 26, 27, 16, 28, 29, 30, 31, 32, 33, 34, 35, 36, 37, 38, 39, 40, 41, 42, 43, 44, 45, 46, 47, 48, 49, 50, 51, 52, 115, 116, 117, 118, 119, 120, 121, 122, 123, 124, 125, 126, 127, 128, 129, 130, 131, 132, 133, 134, 135, 136, 137, 138, 139, 140, 141, 142, 143, 144, 145, 146, 147, 148, 149, 150, 151, 152, 153, 154, 155, 156, 157, 158, 159, 160, 161, 162, 163, 164, 165, 166, 167, 168, 169, 170, 171, 172, 173, 174, 175] (by decide +kernel) (by decide +kernel)
set_option maxRecDepth 20000 in
theorem gX9_read_X9_makeTable : GoodIn wsX9_read (wsV RX9 219 RX9 yX9_makeTable wsX9_makeTable) := goodIn_app (goodIn_of _ (by decide +kernel)) ggX9_read_X9_makeTable
set_option maxRecDepth 20000 in
theorem ggX9_read_X9_at : GoodIn wsX9_read wsX9_at := goodIn_r _ [55] (by decide +kernel) (by decide +kernel)
set_option maxRecDepth 20000 in
theorem gX9_read_X9_at : GoodIn wsX9_read (va_wsS RX9 222 yX9_at wsX9_at) := goodIn_app (goodIn_of _ (by decide +kernel)) ggX9_read_X9_at
set_option maxRecDepth 20000 in
theorem ggX9_read_X9_eachFrom : GoodIn wsX9_read wsX9_eachFrom := goodIn_r _ [59, 18, 21, 4, 60, 61, 62, 16, 63, 5, 3, 42, 43, 44, 45, 8, 10, 9, 64, 7, 11, 12, 65, 66, 67, 68, 69, 70, 22, 23, 24, 71, 72, 73, 46, 47, 48, 74, 75, 76, 77, 78, 79, 80, 81, 53, 54, 55, 82, 83, 84, 85, 86, 87, 88, 89, 90, 91, 92, 93, 94, 95, 96, 97, 98, 99, 100, 101, 115, 116, 117, 118, 119, 120, 121, 122, 123, 124, 125, 126, 127, 128, 129, 130, 131, 132, 133, 134, 135, 136, 137, 138, 139, 140, 141, 142, 143, 144, 145, 146, 147, 148, 149, 150, 151, 152, 153, 154, 155, 156, 157, 158, 159, 160, 161, 162, 163, 164, 165, 166, 167, 168, 169, 170, 171, 172, 173, 174, 175] (by decide +kernel) (by decide +kernel)
set_option maxRecDepth 20000 in
theorem gX9_read_X9_eachFrom : GoodIn wsX9_read (wsV RX9 225 RX9 yX9_eachFrom wsX9_eachFrom) := goodIn_app (goodIn_of _ (by decide +kernel)) ggX9_read_X9_eachFrom
set_option maxRecDepth 20000 in
theorem ggX9_read_X9_kindOf : GoodIn wsX9_read wsX9_kindOf := goodIn_r _ [80, 81, 115, 116, 117, 118, 119, 120, 121, 122, 123, 124, 125, 126, 127, 128, 129, 130, 131, 132, 133, 134, 135, 136, 137, 138, 139, 140, 141, 142, 143, 144, 145, 146, 147, 148, 149, 150, 151, 152, 153, 154, 155, 156, 157, 158, 159, 160, 161, 162, 163, 164, 165, 166, 167, 168, 169, 170, 171, 172, 173, 174, 175] (by decide +kernel) (by decide +kernel)
set_option maxRecDepth 20000 in
theorem gX9_read_X9_kindOf : GoodIn wsX9_read (wsV RX9 244 RX9 yX9_kindOf wsX9_kindOf) := goodIn_app (goodIn_of _ (by decide +kernel)) ggX9_read_X9_kindOf
set_option maxRecDepth 20000 in
theorem ggX9_read_X9_readAhead : GoodIn wsX9_read wsX9_readAhead := goodIn_r _ [105, 4, 106, 5, 18, 21, 53, 54, 16, 55, 107, 108, 109, 110, 42, 43, 44, 45, 66, 67, 68, 69, 70, 22, 23, 24, 71, 72, 73, 46, 47, 48, 74, 75, 76, 82, 83, 84, 85, 86, 87, 88, 89, 90, 91, 92, 93, 94, 95, 77, 78, 79, 80, 81, 111, 112, 113, 114, 96, 97, 98, 99, 100, 101, 115, 116, 117, 118, 119, 120, 121, 122, 123, 124, 125, 126, 127, 128, 129, 130, 131, 132, 133, 134, 135, 136, 137, 138, 139, 140, 141, 142, 143, 144, 145, 146, 147, 148, 149, 150, 151, 152, 153, 154, 155, 156, 157, 158, 159, 160, 161, 162, 163, 164, 165, 166, 167, 168, 169, 170, 171, 172, 173, 174, 175] (by decide +kernel) (by decide +kernel)
set_option maxRecDepth 20000 in
theorem gX9_read_X9_readAhead : GoodIn wsX9_read (wsV RX9 247 RX9 yX9_readAhead wsX9_readAhead) := goodIn_app (goodIn_of _ (by decide +kernel)) ggX9_read_X9_readAhead
theorem dX9_read_0 : decode cX9_read 0 = .ok (.aload_n 0, 1) := by decide +kernel
theorem dX9_read_1 : decode cX9_read 1 = .ok (.getfield 154, 3) := by decide +kernel
theorem dX9_read_4 : decode cX9_read 4 = .ok (.ifCond .eq 4, 3) := by decide +kernel
theorem dX9_read_7 : decode cX9_read 7 = .ok (.return_, 1) := by decide +kernel
theorem dX9_read_8 : decode cX9_read 8 = .ok (.aload_n 0, 1) := by decide +kernel
theorem dX9_read_9 : decode cX9_read 9 = .ok (.iconst 1, 1) := by decide +kernel
theorem dX9_read_10 : decode cX9_read 10 = .ok (.putfield 154, 3) := by decide +kernel
theorem dX9_read_13 : decode cX9_read 13 = .ok (.aload_n 0, 1) := by decide +kernel
theorem dX9_read_14 : decode cX9_read 14 = .ok (.getfield 158, 3) := by decide +kernel
theorem dX9_read_17 : decode cX9_read 17 = .ok (.ifCond .ne 7, 3) := by decide +kernel
theorem dX9_read_20 : decode cX9_read 20 = .ok (.aload_n 0, 1) := by decide +kernel
theorem dX9_read_21 : decode cX9_read 21 = .ok (.invokevirtual 219, 3) := by decide +kernel
theorem dX9_read_24 : decode cX9_read 24 = .ok (.aload_n 0, 1) := by decide +kernel
theorem dX9_read_25 : decode cX9_read 25 = .ok (.iconst 1, 1) := by decide +kernel
theorem dX9_read_26 : decode cX9_read 26 = .ok (.putfield 158, 3) := by decide +kernel
theorem dX9_read_29 : decode cX9_read 29 = .ok (.iconst 0, 1) := by decide +kernel
theorem dX9_read_30 : decode cX9_read 30 = .ok (.istore_n 1, 1) := by decide +kernel
theorem dX9_read_31 : decode cX9_read 31 = .ok (.iload_n 1, 1) := by decide +kernel
theorem dX9_read_32 : decode cX9_read 32 = .ok (.bipush 9, 2) := by decide +kernel
theorem dX9_read_34 : decode cX9_read 34 = .ok (.if_icmp .gt 23, 3) := by decide +kernel
theorem dX9_read_37 : decode cX9_read 37 = .ok (.aload_n 0, 1) := by decide +kernel
theorem dX9_read_38 : decode cX9_read 38 = .ok (.getfield 124, 3) := by decide +kernel
theorem dX9_read_41 : decode cX9_read 41 = .ok (.aload_n 0, 1) := by decide +kernel
theorem dX9_read_42 : decode cX9_read 42 = .ok (.getfield 187, 3) := by decide +kernel
theorem dX9_read_45 : decode cX9_read 45 = .ok (.iload_n 1, 1) := by decide +kernel
theorem dX9_read_46 : decode cX9_read 46 = .ok (.invokestatic 222, 3) := by decide +kernel
theorem dX9_read_49 : decode cX9_read 49 = .ok (.iconst 0, 1) := by decide +kernel
theorem dX9_read_50 : decode cX9_read 50 = .ok (.iastore, 1) := by decide +kernel
theorem dX9_read_51 : decode cX9_read 51 = .ok (.iinc 1 1, 3) := by decide +kernel
theorem dX9_read_54 : decode cX9_read 54 = .ok (.goto (-23), 3) := by decide +kernel
theorem dX9_read_57 : decode cX9_read 57 = .ok (.aload_n 0, 1) := by decide +kernel
theorem dX9_read_58 : decode cX9_read 58 = .ok (.getfield 187, 3) := by decide +kernel
theorem dX9_read_61 : decode cX9_read 61 = .ok (.iconst 1, 1) := by decide +kernel
theorem dX9_read_62 : decode cX9_read 62 = .ok (.isub, 1) := by decide +kernel
theorem dX9_read_63 : decode cX9_read 63 = .ok (.istore_n 1, 1) := by decide +kernel
theorem dX9_read_64 : decode cX9_read 64 = .ok (.iload_n 1, 1) := by decide +kernel
theorem dX9_read_65 : decode cX9_read 65 = .ok (.ifCond .lt 41, 3) := by decide +kernel
theorem dX9_read_68 : decode cX9_read 68 = .ok (.iconst 0, 1) := by decide +kernel
theorem dX9_read_69 : decode cX9_read 69 = .ok (.istore_n 2, 1) := by decide +kernel
theorem dX9_read_70 : decode cX9_read 70 = .ok (.iload_n 2, 1) := by decide +kernel
theorem dX9_read_71 : decode cX9_read 71 = .ok (.bipush 9, 2) := by decide +kernel
theorem dX9_read_73 : decode cX9_read 73 = .ok (.if_icmp .gt 21, 3) := by decide +kernel
theorem dX9_read_76 : decode cX9_read 76 = .ok (.aload_n 0, 1) := by decide +kernel
theorem dX9_read_77 : decode cX9_read 77 = .ok (.getfield 124, 3) := by decide +kernel
theorem dX9_read_80 : decode cX9_read 80 = .ok (.iload_n 1, 1) := by decide +kernel
theorem dX9_read_81 : decode cX9_read 81 = .ok (.iload_n 2, 1) := by decide +kernel
theorem dX9_read_82 : decode cX9_read 82 = .ok (.invokestatic 222, 3) := by decide +kernel
theorem dX9_read_85 : decode cX9_read 85 = .ok (.ldc 186, 2) := by decide +kernel
theorem dX9_read_87 : decode cX9_read 87 = .ok (.iastore, 1) := by decide +kernel
theorem dX9_read_88 : decode cX9_read 88 = .ok (.iinc 2 1, 3) := by decide +kernel
theorem dX9_read_91 : decode cX9_read 91 = .ok (.goto (-21), 3) := by decide +kernel
theorem dX9_read_94 : decode cX9_read 94 = .ok (.aload_n 0, 1) := by decide +kernel
theorem dX9_read_95 : decode cX9_read 95 = .ok (.iload_n 1, 1) := by decide +kernel
theorem dX9_read_96 : decode cX9_read 96 = .ok (.iconst 0, 1) := by decide +kernel
theorem dX9_read_97 : decode cX9_read 97 = .ok (.invokevirtual 225, 3) := by decide +kernel
theorem dX9_read_100 : decode cX9_read 100 = .ok (.iinc 1 (-1), 3) := by decide +kernel
theorem dX9_read_103 : decode cX9_read 103 = .ok (.goto (-39), 3) := by decide +kernel
theorem dX9_read_106 : decode cX9_read 106 = .ok (.aload_n 0, 1) := by decide +kernel
theorem dX9_read_107 : decode cX9_read 107 = .ok (.aload_n 0, 1) := by decide +kernel
theorem dX9_read_108 : decode cX9_read 108 = .ok (.getfield 124, 3) := by decide +kernel
theorem dX9_read_111 : decode cX9_read 111 = .ok (.iconst 0, 1) := by decide +kernel
theorem dX9_read_112 : decode cX9_read 112 = .ok (.bipush 9, 2) := by decide +kernel
theorem dX9_read_114 : decode cX9_read 114 = .ok (.invokestatic 222, 3) := by decide +kernel
theorem dX9_read_117 : decode cX9_read 117 = .ok (.iaload, 1) := by decide +kernel
theorem dX9_read_118 : decode cX9_read 118 = .ok (.putfield 229, 3) := by decide +kernel
theorem dX9_read_121 : decode cX9_read 121 = .ok (.aload_n 0, 1) := by decide +kernel
theorem dX9_read_122 : decode cX9_read 122 = .ok (.iconst 0, 1) := by decide +kernel
theorem dX9_read_123 : decode cX9_read 123 = .ok (.putfield 232, 3) := by decide +kernel
theorem dX9_read_126 : decode cX9_read 126 = .ok (.iconst 0, 1) := by decide +kernel
theorem dX9_read_127 : decode cX9_read 127 = .ok (.istore_n 1, 1) := by decide +kernel
theorem dX9_read_128 : decode cX9_read 128 = .ok (.bipush 9, 2) := by decide +kernel
theorem dX9_read_130 : decode cX9_read 130 = .ok (.istore_n 2, 1) := by decide +kernel
theorem dX9_read_131 : decode cX9_read 131 = .ok (.aload_n 0, 1) := by decide +kernel
theorem dX9_read_132 : decode cX9_read 132 = .ok (.getfield 229, 3) := by decide +kernel
theorem dX9_read_135 : decode cX9_read 135 = .ok (.ldc 186, 2) := by decide +kernel
theorem dX9_read_137 : decode cX9_read 137 = .ok (.if_icmp .ge 69, 3) := by decide +kernel
theorem dX9_read_140 : decode cX9_read 140 = .ok (.iload_n 1, 1) := by decide +kernel
theorem dX9_read_141 : decode cX9_read 141 = .ok (.aload_n 0, 1) := by decide +kernel
theorem dX9_read_142 : decode cX9_read 142 = .ok (.getfield 187, 3) := by decide +kernel
theorem dX9_read_145 : decode cX9_read 145 = .ok (.if_icmp .ge 61, 3) := by decide +kernel
theorem dX9_read_148 : decode cX9_read 148 = .ok (.aload_n 0, 1) := by decide +kernel
theorem dX9_read_149 : decode cX9_read 149 = .ok (.iconst 0, 1) := by decide +kernel
theorem dX9_read_150 : decode cX9_read 150 = .ok (.putfield 235, 3) := by decide +kernel
theorem dX9_read_153 : decode cX9_read 153 = .ok (.aload_n 0, 1) := by decide +kernel
theorem dX9_read_154 : decode cX9_read 154 = .ok (.iload_n 1, 1) := by decide +kernel
theorem dX9_read_155 : decode cX9_read 155 = .ok (.putfield 238, 3) := by decide +kernel
theorem dX9_read_158 : decode cX9_read 158 = .ok (.aload_n 0, 1) := by decide +kernel
theorem dX9_read_159 : decode cX9_read 159 = .ok (.iload_n 2, 1) := by decide +kernel
theorem dX9_read_160 : decode cX9_read 160 = .ok (.putfield 241, 3) := by decide +kernel
theorem dX9_read_163 : decode cX9_read 163 = .ok (.aload_n 0, 1) := by decide +kernel
theorem dX9_read_164 : decode cX9_read 164 = .ok (.iload_n 1, 1) := by decide +kernel
theorem dX9_read_165 : decode cX9_read 165 = .ok (.iconst 1, 1) := by decide +kernel
theorem dX9_read_166 : decode cX9_read 166 = .ok (.invokevirtual 225, 3) := by decide +kernel
theorem dX9_read_169 : decode cX9_read 169 = .ok (.aload_n 0, 1) := by decide +kernel
theorem dX9_read_170 : decode cX9_read 170 = .ok (.getfield 133, 3) := by decide +kernel
theorem dX9_read_173 : decode cX9_read 173 = .ok (.aload_n 0, 1) := by decide +kernel
theorem dX9_read_174 : decode cX9_read 174 = .ok (.getfield 232, 3) := by decide +kernel
theorem dX9_read_177 : decode cX9_read 177 = .ok (.iaload, 1) := by decide +kernel
theorem dX9_read_178 : decode cX9_read 178 = .ok (.istore_n 1, 1) := by decide +kernel
theorem dX9_read_179 : decode cX9_read 179 = .ok (.aload_n 0, 1) := by decide +kernel
theorem dX9_read_180 : decode cX9_read 180 = .ok (.aload_n 0, 1) := by decide +kernel
theorem dX9_read_181 : decode cX9_read 181 = .ok (.getfield 136, 3) := by decide +kernel
theorem dX9_read_184 : decode cX9_read 184 = .ok (.aload_n 0, 1) := by decide +kernel
theorem dX9_read_185 : decode cX9_read 185 = .ok (.getfield 232, 3) := by decide +kernel
theorem dX9_read_188 : decode cX9_read 188 = .ok (.iaload, 1) := by decide +kernel
theorem dX9_read_189 : decode cX9_read 189 = .ok (.invokevirtual 244, 3) := by decide +kernel
theorem dX9_read_192 : decode cX9_read 192 = .ok (.istore_n 2, 1) := by decide +kernel
theorem dX9_read_193 : decode cX9_read 193 = .ok (.aload_n 0, 1) := by decide +kernel
theorem dX9_read_194 : decode cX9_read 194 = .ok (.dup, 1) := by decide +kernel
theorem dX9_read_195 : decode cX9_read 195 = .ok (.getfield 232, 3) := by decide +kernel
theorem dX9_read_198 : decode cX9_read 198 = .ok (.iconst 1, 1) := by decide +kernel
theorem dX9_read_199 : decode cX9_read 199 = .ok (.iadd, 1) := by decide +kernel
theorem dX9_read_200 : decode cX9_read 200 = .ok (.putfield 232, 3) := by decide +kernel
theorem dX9_read_203 : decode cX9_read 203 = .ok (.goto (-72), 3) := by decide +kernel
theorem dX9_read_206 : decode cX9_read 206 = .ok (.aload_n 0, 1) := by decide +kernel
theorem dX9_read_207 : decode cX9_read 207 = .ok (.invokevirtual 247, 3) := by decide +kernel
theorem dX9_read_210 : decode cX9_read 210 = .ok (.return_, 1) := by decide +kernel
set_option maxRecDepth 20000 in
theorem ggX9_eachFrom_X9_onePart : GoodIn wsX9_eachFrom wsX9_onePart := goodIn_r _ [8, 9, 10, 11, 12, 13, 14, 15, 16, 17, 18, 19, 20, 21, 22, 23, 24, 25, 7, 26, 27, 28, 29, 30, 31, 32, 33, 34, 35, 36, 37, 38, 39, 40, 41, 42, 43, 44, 45, 46, 47, 48, 49, 50, 51, 52, 53, 54, 55, 56, 57, 58, 59, 60, 61, 3, 62, 63, 64, 65, 66, 67, 68, 69, 70, 71, 72, 73, 74, 75, 76, 77, 78, 79, 80, 81, 82, 83, 84, 85, 86, 87, 88, 89, 90, 91, 92, 93, 94, 95, 96, 97, 98, 99, 100, 101, 102, 103, 104, 105, 106, 107, 108, 109, 110, 111, 112, 113, 114, 115, 116, 117, 118, 119, 120, 121, 122, 123, 124, 125, 126, 127, 128] (by decide +kernel) (by decide +kernel)
set_option maxRecDepth 20000 in
theorem gX9_eachFrom_X9_onePart : GoodIn wsX9_eachFrom (wsV RX9 250 RX9 yX9_onePart wsX9_onePart) := goodIn_app (goodIn_of _ (by decide +kernel)) ggX9_eachFrom_X9_onePart
theorem dX9_eachFrom_0 : decode cX9_eachFrom 0 = .ok (.iconst 0, 1) := by decide +kernel
theorem dX9_eachFrom_1 : decode cX9_eachFrom 1 = .ok (.istore_n 3, 1) := by decide +kernel
theorem dX9_eachFrom_2 : decode cX9_eachFrom 2 = .ok (.iload_n 3, 1) := by decide +kernel
theorem dX9_eachFrom_3 : decode cX9_eachFrom 3 = .ok (.bipush 60, 2) := by decide +kernel
theorem dX9_eachFrom_5 : decode cX9_eachFrom 5 = .ok (.if_icmp .gt 85, 3) := by decide +kernel
theorem dX9_eachFrom_8 : decode cX9_eachFrom 8 = .ok (.iload_n 3, 1) := by decide +kernel
theorem dX9_eachFrom_9 : decode cX9_eachFrom 9 = .ok (.aload_n 0, 1) := by decide +kernel
theorem dX9_eachFrom_10 : decode cX9_eachFrom 10 = .ok (.getfield 180, 3) := by decide +kernel
theorem dX9_eachFrom_13 : decode cX9_eachFrom 13 = .ok (.if_icmp .lt 12, 3) := by decide +kernel
theorem dX9_eachFrom_16 : decode cX9_eachFrom 16 = .ok (.iload_n 3, 1) := by decide +kernel
theorem dX9_eachFrom_17 : decode cX9_eachFrom 17 = .ok (.bipush 60, 2) := by decide +kernel
theorem dX9_eachFrom_19 : decode cX9_eachFrom 19 = .ok (.if_icmp .ge 6, 3) := by decide +kernel
theorem dX9_eachFrom_22 : decode cX9_eachFrom 22 = .ok (.goto 62, 3) := by decide +kernel
theorem dX9_eachFrom_25 : decode cX9_eachFrom 25 = .ok (.iconst (-1), 1) := by decide +kernel
theorem dX9_eachFrom_26 : decode cX9_eachFrom 26 = .ok (.istore 4, 2) := by decide +kernel
theorem dX9_eachFrom_28 : decode cX9_eachFrom 28 = .ok (.iload 4, 2) := by decide +kernel
theorem dX9_eachFrom_30 : decode cX9_eachFrom 30 = .ok (.iload_n 3, 1) := by decide +kernel
theorem dX9_eachFrom_31 : decode cX9_eachFrom 31 = .ok (.bipush 60, 2) := by decide +kernel
theorem dX9_eachFrom_33 : decode cX9_eachFrom 33 = .ok (.if_icmp .ne 7, 3) := by decide +kernel
theorem dX9_eachFrom_36 : decode cX9_eachFrom 36 = .ok (.iconst 0, 1) := by decide +kernel
theorem dX9_eachFrom_37 : decode cX9_eachFrom 37 = .ok (.goto 7, 3) := by decide +kernel
theorem dX9_eachFrom_40 : decode cX9_eachFrom 40 = .ok (.aload_n 0, 1) := by decide +kernel
theorem dX9_eachFrom_41 : decode cX9_eachFrom 41 = .ok (.getfield 183, 3) := by decide +kernel
theorem dX9_eachFrom_44 : decode cX9_eachFrom 44 = .ok (.if_icmp .ge 40, 3) := by decide +kernel
theorem dX9_eachFrom_47 : decode cX9_eachFrom 47 = .ok (.iload_n 1, 1) := by decide +kernel
theorem dX9_eachFrom_48 : decode cX9_eachFrom 48 = .ok (.iconst 1, 1) := by decide +kernel
theorem dX9_eachFrom_49 : decode cX9_eachFrom 49 = .ok (.iadd, 1) := by decide +kernel
theorem dX9_eachFrom_50 : decode cX9_eachFrom 50 = .ok (.istore 5, 2) := by decide +kernel
theorem dX9_eachFrom_52 : decode cX9_eachFrom 52 = .ok (.iload 5, 2) := by decide +kernel
theorem dX9_eachFrom_54 : decode cX9_eachFrom 54 = .ok (.aload_n 0, 1) := by decide +kernel
theorem dX9_eachFrom_55 : decode cX9_eachFrom 55 = .ok (.getfield 187, 3) := by decide +kernel
theorem dX9_eachFrom_58 : decode cX9_eachFrom 58 = .ok (.if_icmp .gt 20, 3) := by decide +kernel
theorem dX9_eachFrom_61 : decode cX9_eachFrom 61 = .ok (.aload_n 0, 1) := by decide +kernel
theorem dX9_eachFrom_62 : decode cX9_eachFrom 62 = .ok (.iload_n 1, 1) := by decide +kernel
theorem dX9_eachFrom_63 : decode cX9_eachFrom 63 = .ok (.iload 5, 2) := by decide +kernel
theorem dX9_eachFrom_65 : decode cX9_eachFrom 65 = .ok (.iload_n 3, 1) := by decide +kernel
theorem dX9_eachFrom_66 : decode cX9_eachFrom 66 = .ok (.iload 4, 2) := by decide +kernel
theorem dX9_eachFrom_68 : decode cX9_eachFrom 68 = .ok (.iload_n 2, 1) := by decide +kernel
theorem dX9_eachFrom_69 : decode cX9_eachFrom 69 = .ok (.invokevirtual 250, 3) := by decide +kernel
theorem dX9_eachFrom_72 : decode cX9_eachFrom 72 = .ok (.iinc 5 1, 3) := by decide +kernel
theorem dX9_eachFrom_75 : decode cX9_eachFrom 75 = .ok (.goto (-23), 3) := by decide +kernel
theorem dX9_eachFrom_78 : decode cX9_eachFrom 78 = .ok (.iinc 4 1, 3) := by decide +kernel
theorem dX9_eachFrom_81 : decode cX9_eachFrom 81 = .ok (.goto (-53), 3) := by decide +kernel
theorem dX9_eachFrom_84 : decode cX9_eachFrom 84 = .ok (.iinc 3 1, 3) := by decide +kernel
theorem dX9_eachFrom_87 : decode cX9_eachFrom 87 = .ok (.goto (-85), 3) := by decide +kernel
theorem dX9_eachFrom_90 : decode cX9_eachFrom 90 = .ok (.return_, 1) := by decide +kernel
set_option maxRecDepth 20000 in
theorem ggX9_onePart_X9_costOf : GoodIn wsX9_onePart wsX9_costOf := goodIn_r _ [19, 20, 1, 21, 22, 23, 24, 25, 26, 27, 28, 18, 29, 30, 31, 32, 62, 63, 64, 65, 66, 67, 68, 69, 70, 71, 72, 73, 74, 75, 76, 77, 78, 79, 80, 81, 82, 83, 84, 85, 86, 87, 88, 89, 90, 91, 92, 93, 94, 95, 96, 97, 98, 99, 100, 101, 102, 103, 104, 105, 106, 107, 108, 109, 110, 111, 112, 113, 114, 115, 116, 117, 118, 119, 120, 121, 122] (by decide +kernel) (by decide +kernel)
set_option maxRecDepth 20000 in
theorem gX9_onePart_X9_costOf : GoodIn wsX9_onePart (wsV RX9 254 RX9 yX9_costOf wsX9_costOf) := goodIn_app (goodIn_of _ (by decide +kernel)) ggX9_onePart_X9_costOf
set_option maxRecDepth 20000 in
theorem ggX9_onePart_X9_kindOf : GoodIn wsX9_onePart wsX9_kindOf := goodIn_r _ [36, 37, 62, 63, 64, 65, 66, 67, 68, 69, 70, 71, 72, 73, 74, 75, 76, 77, 78, 79, 80, 81, 82, 83, 84, 85, 86, 87, 88, 89, 90, 91, 92, 93, 94, 95, 96, 97, 98, 99, 100, 101, 102, 103, 104, 105, 106, 107, 108, 109, 110, 111, 112, 113, 114, 115, 116, 117, 118, 119, 120, 121, 122] (by decide +kernel) (by decide +kernel)
set_option maxRecDepth 20000 in
theorem gX9_onePart_X9_kindOf : GoodIn wsX9_onePart (wsV RX9 244 RX9 yX9_kindOf wsX9_kindOf) := goodIn_app (goodIn_of _ (by decide +kernel)) ggX9_onePart_X9_kindOf
set_option maxRecDepth 20000 in
theorem ggX9_onePart_X9_at : GoodIn wsX9_onePart wsX9_at := goodIn_r _ [40] (by decide +kernel) (by decide +kernel)
set_option maxRecDepth 20000 in
theorem gX9_onePart_X9_at : GoodIn wsX9_onePart (va_wsS RX9 222 yX9_at wsX9_at) := goodIn_app (goodIn_of _ (by decide +kernel)) ggX9_onePart_X9_at
set_option maxRecDepth 20000 in
theorem ggX9_onePart_X9_isAllowed : GoodIn wsX9_onePart wsX9_isAllowed := goodIn_r _ [44, 45, 46, 47, 48, 49, 50, 51, 52, 18, 53, 54, 55, 62, 63, 64, 65, 66, 67, 68, 69, 70, 71, 72, 73, 74, 75, 76, 77, 78, 79, 80, 81, 82, 83, 84, 85, 86, 87, 88, 89, 90, 91, 92, 93, 94, 95, 96, 97, 98, 99, 100, 101, 102, 103, 104, 105, 106, 107, 108, 109, 110, 111, 112, 113, 114, 115, 116, 117, 118, 119, 120, 121, 122] (by decide +kernel) (by decide +kernel)
set_option maxRecDepth 20000 in
theorem gX9_onePart_X9_isAllowed : GoodIn wsX9_onePart (wsV RX9 258 RX9 yX9_isAllowed wsX9_isAllowed) := goodIn_app (goodIn_of _ (by decide +kernel)) ggX9_onePart_X9_isAllowed
set_option maxRecDepth 20000 in
theorem ggX9_onePart_X9_stepOf : GoodIn wsX9_onePart wsX9_stepOf := goodIn_r _ [59, 60, 61, 30, 31, 18, 32, 62, 63, 64, 65, 66, 67, 68, 69, 70, 71, 72, 73, 74, 75, 76, 77, 78, 79, 80, 81, 82, 83, 84, 85, 86, 87, 88, 89, 90, 91, 92, 93, 94, 95, 96, 97, 98, 99, 100, 101, 102, 103, 104, 105, 106, 107, 108, 109, 110, 111, 112, 113, 114, 115, 116, 117, 118, 119, 120, 121, 122] (by decide +kernel) (by decide +kernel)
set_option maxRecDepth 20000 in
theorem gX9_onePart_X9_stepOf : GoodIn wsX9_onePart (wsV RX9 262 RX9 yX9_stepOf wsX9_stepOf) := goodIn_app (goodIn_of _ (by decide +kernel)) ggX9_onePart_X9_stepOf
theorem dX9_onePart_0 : decode cX9_onePart 0 = .ok (.aload_n 0, 1) := by decide +kernel
theorem dX9_onePart_1 : decode cX9_onePart 1 = .ok (.iload_n 1, 1) := by decide +kernel
theorem dX9_onePart_2 : decode cX9_onePart 2 = .ok (.iload_n 2, 1) := by decide +kernel
theorem dX9_onePart_3 : decode cX9_onePart 3 = .ok (.iload_n 3, 1) := by decide +kernel
theorem dX9_onePart_4 : decode cX9_onePart 4 = .ok (.iload 4, 2) := by decide +kernel
theorem dX9_onePart_6 : decode cX9_onePart 6 = .ok (.invokevirtual 254, 3) := by decide +kernel
theorem dX9_onePart_9 : decode cX9_onePart 9 = .ok (.istore 6, 2) := by decide +kernel
theorem dX9_onePart_11 : decode cX9_onePart 11 = .ok (.iload 6, 2) := by decide +kernel
theorem dX9_onePart_13 : decode cX9_onePart 13 = .ok (.ldc 186, 2) := by decide +kernel
theorem dX9_onePart_15 : decode cX9_onePart 15 = .ok (.if_icmp .ge 34, 3) := by decide +kernel
theorem dX9_onePart_18 : decode cX9_onePart 18 = .ok (.aload_n 0, 1) := by decide +kernel
theorem dX9_onePart_19 : decode cX9_onePart 19 = .ok (.getfield 124, 3) := by decide +kernel
theorem dX9_onePart_22 : decode cX9_onePart 22 = .ok (.iload_n 2, 1) := by decide +kernel
theorem dX9_onePart_23 : decode cX9_onePart 23 = .ok (.aload_n 0, 1) := by decide +kernel
theorem dX9_onePart_24 : decode cX9_onePart 24 = .ok (.iload_n 3, 1) := by decide +kernel
theorem dX9_onePart_25 : decode cX9_onePart 25 = .ok (.invokevirtual 244, 3) := by decide +kernel
theorem dX9_onePart_28 : decode cX9_onePart 28 = .ok (.invokestatic 222, 3) := by decide +kernel
theorem dX9_onePart_31 : decode cX9_onePart 31 = .ok (.iaload, 1) := by decide +kernel
theorem dX9_onePart_32 : decode cX9_onePart 32 = .ok (.ldc 186, 2) := by decide +kernel
theorem dX9_onePart_34 : decode cX9_onePart 34 = .ok (.if_icmp .ge 15, 3) := by decide +kernel
theorem dX9_onePart_37 : decode cX9_onePart 37 = .ok (.aload_n 0, 1) := by decide +kernel
theorem dX9_onePart_38 : decode cX9_onePart 38 = .ok (.iload_n 1, 1) := by decide +kernel
theorem dX9_onePart_39 : decode cX9_onePart 39 = .ok (.iload_n 2, 1) := by decide +kernel
theorem dX9_onePart_40 : decode cX9_onePart 40 = .ok (.iload_n 3, 1) := by decide +kernel
theorem dX9_onePart_41 : decode cX9_onePart 41 = .ok (.iload 4, 2) := by decide +kernel
theorem dX9_onePart_43 : decode cX9_onePart 43 = .ok (.invokevirtual 258, 3) := by decide +kernel
theorem dX9_onePart_46 : decode cX9_onePart 46 = .ok (.ifCond .ne 4, 3) := by decide +kernel
theorem dX9_onePart_49 : decode cX9_onePart 49 = .ok (.return_, 1) := by decide +kernel
theorem dX9_onePart_50 : decode cX9_onePart 50 = .ok (.iload 6, 2) := by decide +kernel
theorem dX9_onePart_52 : decode cX9_onePart 52 = .ok (.aload_n 0, 1) := by decide +kernel
theorem dX9_onePart_53 : decode cX9_onePart 53 = .ok (.getfield 124, 3) := by decide +kernel
theorem dX9_onePart_56 : decode cX9_onePart 56 = .ok (.iload_n 2, 1) := by decide +kernel
theorem dX9_onePart_57 : decode cX9_onePart 57 = .ok (.aload_n 0, 1) := by decide +kernel
theorem dX9_onePart_58 : decode cX9_onePart 58 = .ok (.iload_n 3, 1) := by decide +kernel
theorem dX9_onePart_59 : decode cX9_onePart 59 = .ok (.invokevirtual 244, 3) := by decide +kernel
theorem dX9_onePart_62 : decode cX9_onePart 62 = .ok (.invokestatic 222, 3) := by decide +kernel
theorem dX9_onePart_65 : decode cX9_onePart 65 = .ok (.iaload, 1) := by decide +kernel
theorem dX9_onePart_66 : decode cX9_onePart 66 = .ok (.iadd, 1) := by decide +kernel
theorem dX9_onePart_67 : decode cX9_onePart 67 = .ok (.istore 7, 2) := by decide +kernel
theorem dX9_onePart_69 : decode cX9_onePart 69 = .ok (.iload 5, 2) := by decide +kernel
theorem dX9_onePart_71 : decode cX9_onePart 71 = .ok (.ifCond .ne 59, 3) := by decide +kernel
theorem dX9_onePart_74 : decode cX9_onePart 74 = .ok (.iconst 0, 1) := by decide +kernel
theorem dX9_onePart_75 : decode cX9_onePart 75 = .ok (.istore 8, 2) := by decide +kernel
theorem dX9_onePart_77 : decode cX9_onePart 77 = .ok (.iload 8, 2) := by decide +kernel
theorem dX9_onePart_79 : decode cX9_onePart 79 = .ok (.bipush 9, 2) := by decide +kernel
theorem dX9_onePart_81 : decode cX9_onePart 81 = .ok (.if_icmp .gt 48, 3) := by decide +kernel
theorem dX9_onePart_84 : decode cX9_onePart 84 = .ok (.aload_n 0, 1) := by decide +kernel
theorem dX9_onePart_85 : decode cX9_onePart 85 = .ok (.getfield 124, 3) := by decide +kernel
theorem dX9_onePart_88 : decode cX9_onePart 88 = .ok (.iload_n 1, 1) := by decide +kernel
theorem dX9_onePart_89 : decode cX9_onePart 89 = .ok (.iload 8, 2) := by decide +kernel
theorem dX9_onePart_91 : decode cX9_onePart 91 = .ok (.invokestatic 222, 3) := by decide +kernel
theorem dX9_onePart_94 : decode cX9_onePart 94 = .ok (.aload_n 0, 1) := by decide +kernel
theorem dX9_onePart_95 : decode cX9_onePart 95 = .ok (.getfield 124, 3) := by decide +kernel
theorem dX9_onePart_98 : decode cX9_onePart 98 = .ok (.iload_n 1, 1) := by decide +kernel
theorem dX9_onePart_99 : decode cX9_onePart 99 = .ok (.iload 8, 2) := by decide +kernel
theorem dX9_onePart_101 : decode cX9_onePart 101 = .ok (.invokestatic 222, 3) := by decide +kernel
theorem dX9_onePart_104 : decode cX9_onePart 104 = .ok (.iaload, 1) := by decide +kernel
theorem dX9_onePart_105 : decode cX9_onePart 105 = .ok (.iload 7, 2) := by decide +kernel
theorem dX9_onePart_107 : decode cX9_onePart 107 = .ok (.aload_n 0, 1) := by decide +kernel
theorem dX9_onePart_108 : decode cX9_onePart 108 = .ok (.iload 8, 2) := by decide +kernel
theorem dX9_onePart_110 : decode cX9_onePart 110 = .ok (.aload_n 0, 1) := by decide +kernel
theorem dX9_onePart_111 : decode cX9_onePart 111 = .ok (.iload_n 3, 1) := by decide +kernel
theorem dX9_onePart_112 : decode cX9_onePart 112 = .ok (.invokevirtual 244, 3) := by decide +kernel
theorem dX9_onePart_115 : decode cX9_onePart 115 = .ok (.invokevirtual 262, 3) := by decide +kernel
theorem dX9_onePart_118 : decode cX9_onePart 118 = .ok (.iadd, 1) := by decide +kernel
theorem dX9_onePart_119 : decode cX9_onePart 119 = .ok (.invokestatic 190, 3) := by decide +kernel
theorem dX9_onePart_122 : decode cX9_onePart 122 = .ok (.iastore, 1) := by decide +kernel
theorem dX9_onePart_123 : decode cX9_onePart 123 = .ok (.iinc 8 1, 3) := by decide +kernel
theorem dX9_onePart_126 : decode cX9_onePart 126 = .ok (.goto (-49), 3) := by decide +kernel
theorem dX9_onePart_129 : decode cX9_onePart 129 = .ok (.return_, 1) := by decide +kernel
theorem dX9_onePart_130 : decode cX9_onePart 130 = .ok (.aload_n 0, 1) := by decide +kernel
theorem dX9_onePart_131 : decode cX9_onePart 131 = .ok (.getfield 235, 3) := by decide +kernel
theorem dX9_onePart_134 : decode cX9_onePart 134 = .ok (.ifCond .ne 38, 3) := by decide +kernel
theorem dX9_onePart_137 : decode cX9_onePart 137 = .ok (.iload 7, 2) := by decide +kernel
theorem dX9_onePart_139 : decode cX9_onePart 139 = .ok (.aload_n 0, 1) := by decide +kernel
theorem dX9_onePart_140 : decode cX9_onePart 140 = .ok (.aload_n 0, 1) := by decide +kernel
theorem dX9_onePart_141 : decode cX9_onePart 141 = .ok (.getfield 241, 3) := by decide +kernel
theorem dX9_onePart_144 : decode cX9_onePart 144 = .ok (.aload_n 0, 1) := by decide +kernel
theorem dX9_onePart_145 : decode cX9_onePart 145 = .ok (.iload_n 3, 1) := by decide +kernel
theorem dX9_onePart_146 : decode cX9_onePart 146 = .ok (.invokevirtual 244, 3) := by decide +kernel
theorem dX9_onePart_149 : decode cX9_onePart 149 = .ok (.invokevirtual 262, 3) := by decide +kernel
theorem dX9_onePart_152 : decode cX9_onePart 152 = .ok (.iadd, 1) := by decide +kernel
theorem dX9_onePart_153 : decode cX9_onePart 153 = .ok (.aload_n 0, 1) := by decide +kernel
theorem dX9_onePart_154 : decode cX9_onePart 154 = .ok (.getfield 124, 3) := by decide +kernel
theorem dX9_onePart_157 : decode cX9_onePart 157 = .ok (.aload_n 0, 1) := by decide +kernel
theorem dX9_onePart_158 : decode cX9_onePart 158 = .ok (.getfield 238, 3) := by decide +kernel
theorem dX9_onePart_161 : decode cX9_onePart 161 = .ok (.aload_n 0, 1) := by decide +kernel
theorem dX9_onePart_162 : decode cX9_onePart 162 = .ok (.getfield 241, 3) := by decide +kernel
theorem dX9_onePart_165 : decode cX9_onePart 165 = .ok (.invokestatic 222, 3) := by decide +kernel
theorem dX9_onePart_168 : decode cX9_onePart 168 = .ok (.iaload, 1) := by decide +kernel
theorem dX9_onePart_169 : decode cX9_onePart 169 = .ok (.if_icmp .eq 4, 3) := by decide +kernel
theorem dX9_onePart_172 : decode cX9_onePart 172 = .ok (.return_, 1) := by decide +kernel
theorem dX9_onePart_173 : decode cX9_onePart 173 = .ok (.aload_n 0, 1) := by decide +kernel
theorem dX9_onePart_174 : decode cX9_onePart 174 = .ok (.iconst 1, 1) := by decide +kernel
theorem dX9_onePart_175 : decode cX9_onePart 175 = .ok (.putfield 235, 3) := by decide +kernel
theorem dX9_onePart_178 : decode cX9_onePart 178 = .ok (.aload_n 0, 1) := by decide +kernel
theorem dX9_onePart_179 : decode cX9_onePart 179 = .ok (.getfield 130, 3) := by decide +kernel
theorem dX9_onePart_182 : decode cX9_onePart 182 = .ok (.aload_n 0, 1) := by decide +kernel
theorem dX9_onePart_183 : decode cX9_onePart 183 = .ok (.getfield 232, 3) := by decide +kernel
theorem dX9_onePart_186 : decode cX9_onePart 186 = .ok (.iload_n 1, 1) := by decide +kernel
theorem dX9_onePart_187 : decode cX9_onePart 187 = .ok (.iastore, 1) := by decide +kernel
theorem dX9_onePart_188 : decode cX9_onePart 188 = .ok (.aload_n 0, 1) := by decide +kernel
theorem dX9_onePart_189 : decode cX9_onePart 189 = .ok (.getfield 133, 3) := by decide +kernel
theorem dX9_onePart_192 : decode cX9_onePart 192 = .ok (.aload_n 0, 1) := by decide +kernel
theorem dX9_onePart_193 : decode cX9_onePart 193 = .ok (.getfield 232, 3) := by decide +kernel
theorem dX9_onePart_196 : decode cX9_onePart 196 = .ok (.iload_n 2, 1) := by decide +kernel
theorem dX9_onePart_197 : decode cX9_onePart 197 = .ok (.iastore, 1) := by decide +kernel
theorem dX9_onePart_198 : decode cX9_onePart 198 = .ok (.aload_n 0, 1) := by decide +kernel
theorem dX9_onePart_199 : decode cX9_onePart 199 = .ok (.getfield 136, 3) := by decide +kernel
theorem dX9_onePart_202 : decode cX9_onePart 202 = .ok (.aload_n 0, 1) := by decide +kernel
theorem dX9_onePart_203 : decode cX9_onePart 203 = .ok (.getfield 232, 3) := by decide +kernel
theorem dX9_onePart_206 : decode cX9_onePart 206 = .ok (.iload_n 3, 1) := by decide +kernel
theorem dX9_onePart_207 : decode cX9_onePart 207 = .ok (.iastore, 1) := by decide +kernel
theorem dX9_onePart_208 : decode cX9_onePart 208 = .ok (.aload_n 0, 1) := by decide +kernel
theorem dX9_onePart_209 : decode cX9_onePart 209 = .ok (.getfield 139, 3) := by decide +kernel
theorem dX9_onePart_212 : decode cX9_onePart 212 = .ok (.aload_n 0, 1) := by decide +kernel
theorem dX9_onePart_213 : decode cX9_onePart 213 = .ok (.getfield 232, 3) := by decide +kernel
theorem dX9_onePart_216 : decode cX9_onePart 216 = .ok (.iload 4, 2) := by decide +kernel
theorem dX9_onePart_218 : decode cX9_onePart 218 = .ok (.iastore, 1) := by decide +kernel
theorem dX9_onePart_219 : decode cX9_onePart 219 = .ok (.return_, 1) := by decide +kernel
set_option maxRecDepth 20000 in
theorem ggX9_readAhead_X9_at : GoodIn wsX9_readAhead wsX9_at := goodIn_r _ [9] (by decide +kernel) (by decide +kernel)
set_option maxRecDepth 20000 in
theorem gX9_readAhead_X9_at : GoodIn wsX9_readAhead (va_wsS RX9 222 yX9_at wsX9_at) := goodIn_app (goodIn_of _ (by decide +kernel)) ggX9_readAhead_X9_at
set_option maxRecDepth 20000 in
theorem ggX9_readAhead_X9_goAhead : GoodIn wsX9_readAhead wsX9_goAhead := goodIn_r _ [13, 3, 2, 14, 15, 16, 17, 18, 19, 20, 8, 21, 22, 23, 24, 25, 26, 27, 28, 29, 30, 31, 32, 33, 34, 35, 36, 37, 38, 39, 40, 41, 42, 43, 44, 45, 46, 47, 48, 1, 49, 50, 51, 52, 53, 54, 55, 56, 57, 6, 7, 9, 58, 59, 60, 61, 62, 63, 64, 65, 66, 67, 68, 69, 70, 71, 72, 73, 74, 75, 76, 77, 78, 79, 80, 81, 82, 83, 84, 85, 86, 87, 88, 89, 90, 91, 92, 93, 94, 95, 96, 97, 98, 99, 100, 101, 102, 103, 104, 105, 106, 107, 108, 109, 110, 111, 112, 113, 114, 115, 116, 117, 118, 119, 120, 121, 122, 123, 124] (by decide +kernel) (by decide +kernel)
set_option maxRecDepth 20000 in
theorem gX9_readAhead_X9_goAhead : GoodIn wsX9_readAhead (wsV RX9 265 RX9 yX9_goAhead wsX9_goAhead) := goodIn_app (goodIn_of _ (by decide +kernel)) ggX9_readAhead_X9_goAhead
theorem dX9_readAhead_0 : decode cX9_readAhead 0 = .ok (.iconst 0, 1) := by decide +kernel
theorem dX9_readAhead_1 : decode cX9_readAhead 1 = .ok (.istore_n 1, 1) := by decide +kernel
theorem dX9_readAhead_2 : decode cX9_readAhead 2 = .ok (.iload_n 1, 1) := by decide +kernel
theorem dX9_readAhead_3 : decode cX9_readAhead 3 = .ok (.aload_n 0, 1) := by decide +kernel
theorem dX9_readAhead_4 : decode cX9_readAhead 4 = .ok (.getfield 187, 3) := by decide +kernel
theorem dX9_readAhead_7 : decode cX9_readAhead 7 = .ok (.if_icmp .gt 49, 3) := by decide +kernel
theorem dX9_readAhead_10 : decode cX9_readAhead 10 = .ok (.iconst 0, 1) := by decide +kernel
theorem dX9_readAhead_11 : decode cX9_readAhead 11 = .ok (.istore_n 2, 1) := by decide +kernel
theorem dX9_readAhead_12 : decode cX9_readAhead 12 = .ok (.iload_n 2, 1) := by decide +kernel
theorem dX9_readAhead_13 : decode cX9_readAhead 13 = .ok (.bipush 9, 2) := by decide +kernel
theorem dX9_readAhead_15 : decode cX9_readAhead 15 = .ok (.if_icmp .gt 35, 3) := by decide +kernel
theorem dX9_readAhead_18 : decode cX9_readAhead 18 = .ok (.aload_n 0, 1) := by decide +kernel
theorem dX9_readAhead_19 : decode cX9_readAhead 19 = .ok (.getfield 127, 3) := by decide +kernel
theorem dX9_readAhead_22 : decode cX9_readAhead 22 = .ok (.iload_n 1, 1) := by decide +kernel
theorem dX9_readAhead_23 : decode cX9_readAhead 23 = .ok (.iload_n 2, 1) := by decide +kernel
theorem dX9_readAhead_24 : decode cX9_readAhead 24 = .ok (.invokestatic 222, 3) := by decide +kernel
theorem dX9_readAhead_27 : decode cX9_readAhead 27 = .ok (.iload_n 1, 1) := by decide +kernel
theorem dX9_readAhead_28 : decode cX9_readAhead 28 = .ok (.ifCond .ne 13, 3) := by decide +kernel
theorem dX9_readAhead_31 : decode cX9_readAhead 31 = .ok (.iload_n 2, 1) := by decide +kernel
theorem dX9_readAhead_32 : decode cX9_readAhead 32 = .ok (.bipush 9, 2) := by decide +kernel
theorem dX9_readAhead_34 : decode cX9_readAhead 34 = .ok (.if_icmp .ne 7, 3) := by decide +kernel
theorem dX9_readAhead_37 : decode cX9_readAhead 37 = .ok (.iconst 0, 1) := by decide +kernel
theorem dX9_readAhead_38 : decode cX9_readAhead 38 = .ok (.goto 5, 3) := by decide +kernel
theorem dX9_readAhead_41 : decode cX9_readAhead 41 = .ok (.ldc 186, 2) := by decide +kernel
theorem dX9_readAhead_43 : decode cX9_readAhead 43 = .ok (.iastore, 1) := by decide +kernel
theorem dX9_readAhead_44 : decode cX9_readAhead 44 = .ok (.iinc 2 1, 3) := by decide +kernel
theorem dX9_readAhead_47 : decode cX9_readAhead 47 = .ok (.goto (-35), 3) := by decide +kernel
theorem dX9_readAhead_50 : decode cX9_readAhead 50 = .ok (.iinc 1 1, 3) := by decide +kernel
theorem dX9_readAhead_53 : decode cX9_readAhead 53 = .ok (.goto (-51), 3) := by decide +kernel
theorem dX9_readAhead_56 : decode cX9_readAhead 56 = .ok (.iconst 0, 1) := by decide +kernel
theorem dX9_readAhead_57 : decode cX9_readAhead 57 = .ok (.istore_n 1, 1) := by decide +kernel
theorem dX9_readAhead_58 : decode cX9_readAhead 58 = .ok (.iload_n 1, 1) := by decide +kernel
theorem dX9_readAhead_59 : decode cX9_readAhead 59 = .ok (.aload_n 0, 1) := by decide +kernel
theorem dX9_readAhead_60 : decode cX9_readAhead 60 = .ok (.getfield 187, 3) := by decide +kernel
theorem dX9_readAhead_63 : decode cX9_readAhead 63 = .ok (.if_icmp .ge 95, 3) := by decide +kernel
theorem dX9_readAhead_66 : decode cX9_readAhead 66 = .ok (.iconst 0, 1) := by decide +kernel
theorem dX9_readAhead_67 : decode cX9_readAhead 67 = .ok (.istore_n 2, 1) := by decide +kernel
theorem dX9_readAhead_68 : decode cX9_readAhead 68 = .ok (.iload_n 2, 1) := by decide +kernel
theorem dX9_readAhead_69 : decode cX9_readAhead 69 = .ok (.bipush 60, 2) := by decide +kernel
theorem dX9_readAhead_71 : decode cX9_readAhead 71 = .ok (.if_icmp .gt 81, 3) := by decide +kernel
theorem dX9_readAhead_74 : decode cX9_readAhead 74 = .ok (.iload_n 2, 1) := by decide +kernel
theorem dX9_readAhead_75 : decode cX9_readAhead 75 = .ok (.aload_n 0, 1) := by decide +kernel
theorem dX9_readAhead_76 : decode cX9_readAhead 76 = .ok (.getfield 180, 3) := by decide +kernel
theorem dX9_readAhead_79 : decode cX9_readAhead 79 = .ok (.if_icmp .lt 12, 3) := by decide +kernel
theorem dX9_readAhead_82 : decode cX9_readAhead 82 = .ok (.iload_n 2, 1) := by decide +kernel
theorem dX9_readAhead_83 : decode cX9_readAhead 83 = .ok (.bipush 60, 2) := by decide +kernel
theorem dX9_readAhead_85 : decode cX9_readAhead 85 = .ok (.if_icmp .ge 6, 3) := by decide +kernel
theorem dX9_readAhead_88 : decode cX9_readAhead 88 = .ok (.goto 58, 3) := by decide +kernel
theorem dX9_readAhead_91 : decode cX9_readAhead 91 = .ok (.iconst (-1), 1) := by decide +kernel
theorem dX9_readAhead_92 : decode cX9_readAhead 92 = .ok (.istore_n 3, 1) := by decide +kernel
theorem dX9_readAhead_93 : decode cX9_readAhead 93 = .ok (.iload_n 3, 1) := by decide +kernel
theorem dX9_readAhead_94 : decode cX9_readAhead 94 = .ok (.iload_n 2, 1) := by decide +kernel
theorem dX9_readAhead_95 : decode cX9_readAhead 95 = .ok (.bipush 60, 2) := by decide +kernel
theorem dX9_readAhead_97 : decode cX9_readAhead 97 = .ok (.if_icmp .ne 7, 3) := by decide +kernel
theorem dX9_readAhead_100 : decode cX9_readAhead 100 = .ok (.iconst 0, 1) := by decide +kernel
theorem dX9_readAhead_101 : decode cX9_readAhead 101 = .ok (.goto 7, 3) := by decide +kernel
theorem dX9_readAhead_104 : decode cX9_readAhead 104 = .ok (.aload_n 0, 1) := by decide +kernel
theorem dX9_readAhead_105 : decode cX9_readAhead 105 = .ok (.getfield 183, 3) := by decide +kernel
theorem dX9_readAhead_108 : decode cX9_readAhead 108 = .ok (.if_icmp .ge 38, 3) := by decide +kernel
theorem dX9_readAhead_111 : decode cX9_readAhead 111 = .ok (.iload_n 1, 1) := by decide +kernel
theorem dX9_readAhead_112 : decode cX9_readAhead 112 = .ok (.iconst 1, 1) := by decide +kernel
theorem dX9_readAhead_113 : decode cX9_readAhead 113 = .ok (.iadd, 1) := by decide +kernel
theorem dX9_readAhead_114 : decode cX9_readAhead 114 = .ok (.istore 4, 2) := by decide +kernel
theorem dX9_readAhead_116 : decode cX9_readAhead 116 = .ok (.iload 4, 2) := by decide +kernel
theorem dX9_readAhead_118 : decode cX9_readAhead 118 = .ok (.aload_n 0, 1) := by decide +kernel
theorem dX9_readAhead_119 : decode cX9_readAhead 119 = .ok (.getfield 187, 3) := by decide +kernel
theorem dX9_readAhead_122 : decode cX9_readAhead 122 = .ok (.if_icmp .gt 18, 3) := by decide +kernel
theorem dX9_readAhead_125 : decode cX9_readAhead 125 = .ok (.aload_n 0, 1) := by decide +kernel
theorem dX9_readAhead_126 : decode cX9_readAhead 126 = .ok (.iload_n 1, 1) := by decide +kernel
theorem dX9_readAhead_127 : decode cX9_readAhead 127 = .ok (.iload 4, 2) := by decide +kernel
theorem dX9_readAhead_129 : decode cX9_readAhead 129 = .ok (.iload_n 2, 1) := by decide +kernel
theorem dX9_readAhead_130 : decode cX9_readAhead 130 = .ok (.iload_n 3, 1) := by decide +kernel
theorem dX9_readAhead_131 : decode cX9_readAhead 131 = .ok (.invokevirtual 265, 3) := by decide +kernel
theorem dX9_readAhead_134 : decode cX9_readAhead 134 = .ok (.iinc 4 1, 3) := by decide +kernel
theorem dX9_readAhead_137 : decode cX9_readAhead 137 = .ok (.goto (-21), 3) := by decide +kernel
theorem dX9_readAhead_140 : decode cX9_readAhead 140 = .ok (.iinc 3 1, 3) := by decide +kernel
theorem dX9_readAhead_143 : decode cX9_readAhead 143 = .ok (.goto (-50), 3) := by decide +kernel
theorem dX9_readAhead_146 : decode cX9_readAhead 146 = .ok (.iinc 2 1, 3) := by decide +kernel
theorem dX9_readAhead_149 : decode cX9_readAhead 149 = .ok (.goto (-81), 3) := by decide +kernel
theorem dX9_readAhead_152 : decode cX9_readAhead 152 = .ok (.iinc 1 1, 3) := by decide +kernel
theorem dX9_readAhead_155 : decode cX9_readAhead 155 = .ok (.goto (-97), 3) := by decide +kernel
theorem dX9_readAhead_158 : decode cX9_readAhead 158 = .ok (.return_, 1) := by decide +kernel
set_option maxRecDepth 20000 in
theorem ggX9_leastAhead_X9_at : GoodIn wsX9_leastAhead wsX9_at := goodIn_r _ [10] (by decide +kernel) (by decide +kernel)
set_option maxRecDepth 20000 in
theorem gX9_leastAhead_X9_at : GoodIn wsX9_leastAhead (va_wsS RX9 222 yX9_at wsX9_at) := goodIn_app (goodIn_of _ (by decide +kernel)) ggX9_leastAhead_X9_at
set_option maxRecDepth 20000 in
theorem ggX9_leastAhead_X9_stepOf : GoodIn wsX9_leastAhead wsX9_stepOf := goodIn_r _ [14, 15, 16, 17, 18, 9, 19, 20, 21, 22, 23, 24, 25, 26, 27, 28, 29, 30, 31, 32, 33, 34, 35, 36, 37, 38, 39, 40, 41, 42, 43, 44, 45, 46, 47, 48, 49, 50, 51, 52, 53, 54, 55, 56, 57, 58, 59, 60, 61, 62, 63, 64, 65, 66, 67, 68, 69, 70, 71, 72, 73, 74, 75, 76, 77, 78, 79, 80] (by decide +kernel) (by decide +kernel)
set_option maxRecDepth 20000 in
theorem gX9_leastAhead_X9_stepOf : GoodIn wsX9_leastAhead (wsV RX9 262 RX9 yX9_stepOf wsX9_stepOf) := goodIn_app (goodIn_of _ (by decide +kernel)) ggX9_leastAhead_X9_stepOf
theorem dX9_leastAhead_0 : decode cX9_leastAhead 0 = .ok (.ldc 186, 2) := by decide +kernel
theorem dX9_leastAhead_2 : decode cX9_leastAhead 2 = .ok (.istore_n 3, 1) := by decide +kernel
theorem dX9_leastAhead_3 : decode cX9_leastAhead 3 = .ok (.iconst 0, 1) := by decide +kernel
theorem dX9_leastAhead_4 : decode cX9_leastAhead 4 = .ok (.istore 4, 2) := by decide +kernel
theorem dX9_leastAhead_6 : decode cX9_leastAhead 6 = .ok (.iload 4, 2) := by decide +kernel
theorem dX9_leastAhead_8 : decode cX9_leastAhead 8 = .ok (.bipush 9, 2) := by decide +kernel
theorem dX9_leastAhead_10 : decode cX9_leastAhead 10 = .ok (.if_icmp .gt 49, 3) := by decide +kernel
theorem dX9_leastAhead_13 : decode cX9_leastAhead 13 = .ok (.aload_n 0, 1) := by decide +kernel
theorem dX9_leastAhead_14 : decode cX9_leastAhead 14 = .ok (.getfield 127, 3) := by decide +kernel
theorem dX9_leastAhead_17 : decode cX9_leastAhead 17 = .ok (.iload_n 1, 1) := by decide +kernel
theorem dX9_leastAhead_18 : decode cX9_leastAhead 18 = .ok (.iload 4, 2) := by decide +kernel
theorem dX9_leastAhead_20 : decode cX9_leastAhead 20 = .ok (.invokestatic 222, 3) := by decide +kernel
theorem dX9_leastAhead_23 : decode cX9_leastAhead 23 = .ok (.iaload, 1) := by decide +kernel
theorem dX9_leastAhead_24 : decode cX9_leastAhead 24 = .ok (.ldc 186, 2) := by decide +kernel
theorem dX9_leastAhead_26 : decode cX9_leastAhead 26 = .ok (.if_icmp .ge 27, 3) := by decide +kernel
theorem dX9_leastAhead_29 : decode cX9_leastAhead 29 = .ok (.iload_n 3, 1) := by decide +kernel
theorem dX9_leastAhead_30 : decode cX9_leastAhead 30 = .ok (.aload_n 0, 1) := by decide +kernel
theorem dX9_leastAhead_31 : decode cX9_leastAhead 31 = .ok (.getfield 127, 3) := by decide +kernel
theorem dX9_leastAhead_34 : decode cX9_leastAhead 34 = .ok (.iload_n 1, 1) := by decide +kernel
theorem dX9_leastAhead_35 : decode cX9_leastAhead 35 = .ok (.iload 4, 2) := by decide +kernel
theorem dX9_leastAhead_37 : decode cX9_leastAhead 37 = .ok (.invokestatic 222, 3) := by decide +kernel
theorem dX9_leastAhead_40 : decode cX9_leastAhead 40 = .ok (.iaload, 1) := by decide +kernel
theorem dX9_leastAhead_41 : decode cX9_leastAhead 41 = .ok (.aload_n 0, 1) := by decide +kernel
theorem dX9_leastAhead_42 : decode cX9_leastAhead 42 = .ok (.iload 4, 2) := by decide +kernel
theorem dX9_leastAhead_44 : decode cX9_leastAhead 44 = .ok (.iload_n 2, 1) := by decide +kernel
theorem dX9_leastAhead_45 : decode cX9_leastAhead 45 = .ok (.invokevirtual 262, 3) := by decide +kernel
theorem dX9_leastAhead_48 : decode cX9_leastAhead 48 = .ok (.iadd, 1) := by decide +kernel
theorem dX9_leastAhead_49 : decode cX9_leastAhead 49 = .ok (.invokestatic 190, 3) := by decide +kernel
theorem dX9_leastAhead_52 : decode cX9_leastAhead 52 = .ok (.istore_n 3, 1) := by decide +kernel
theorem dX9_leastAhead_53 : decode cX9_leastAhead 53 = .ok (.iinc 4 1, 3) := by decide +kernel
theorem dX9_leastAhead_56 : decode cX9_leastAhead 56 = .ok (.goto (-50), 3) := by decide +kernel
theorem dX9_leastAhead_59 : decode cX9_leastAhead 59 = .ok (.iload_n 3, 1) := by decide +kernel
theorem dX9_leastAhead_60 : decode cX9_leastAhead 60 = .ok (.ireturn, 1) := by decide +kernel
set_option maxRecDepth 20000 in
theorem ggX9_goAhead_X9_costOf : GoodIn wsX9_goAhead wsX9_costOf := goodIn_r _ [11, 12, 1, 13, 14, 15, 16, 17, 18, 19, 20, 10, 21, 22, 23, 24, 58, 59, 60, 61, 62, 63, 64, 65, 66, 67, 68, 69, 70, 71, 72, 73, 74, 75, 76, 77, 78, 79, 80, 81, 82, 83, 84, 85, 86, 87, 88, 89, 90, 91, 92, 93, 94, 95, 96, 97, 98, 99, 100, 101, 102, 103, 104, 105, 106, 107, 108, 109, 110, 111, 112, 113, 114, 115, 116, 117, 118] (by decide +kernel) (by decide +kernel)
set_option maxRecDepth 20000 in
theorem gX9_goAhead_X9_costOf : GoodIn wsX9_goAhead (wsV RX9 254 RX9 yX9_costOf wsX9_costOf) := goodIn_app (goodIn_of _ (by decide +kernel)) ggX9_goAhead_X9_costOf
set_option maxRecDepth 20000 in
theorem ggX9_goAhead_X9_isAllowed : GoodIn wsX9_goAhead wsX9_isAllowed := goodIn_r _ [28, 29, 30, 31, 32, 33, 34, 35, 36, 10, 37, 38, 39, 58, 59, 60, 61, 62, 63, 64, 65, 66, 67, 68, 69, 70, 71, 72, 73, 74, 75, 76, 77, 78, 79, 80, 81, 82, 83, 84, 85, 86, 87, 88, 89, 90, 91, 92, 93, 94, 95, 96, 97, 98, 99, 100, 101, 102, 103, 104, 105, 106, 107, 108, 109, 110, 111, 112, 113, 114, 115, 116, 117, 118] (by decide +kernel) (by decide +kernel)
set_option maxRecDepth 20000 in
theorem gX9_goAhead_X9_isAllowed : GoodIn wsX9_goAhead (wsV RX9 258 RX9 yX9_isAllowed wsX9_isAllowed) := goodIn_app (goodIn_of _ (by decide +kernel)) ggX9_goAhead_X9_isAllowed
set_option maxRecDepth 20000 in
theorem ggX9_goAhead_X9_kindOf : GoodIn wsX9_goAhead wsX9_kindOf := goodIn_r _ [43, 44, 58, 59, 60, 61, 62, 63, 64, 65, 66, 67, 68, 69, 70, 71, 72, 73, 74, 75, 76, 77, 78, 79, 80, 81, 82, 83, 84, 85, 86, 87, 88, 89, 90, 91, 92, 93, 94, 95, 96, 97, 98, 99, 100, 101, 102, 103, 104, 105, 106, 107, 108, 109, 110, 111, 112, 113, 114, 115, 116, 117, 118] (by decide +kernel) (by decide +kernel)
set_option maxRecDepth 20000 in
theorem gX9_goAhead_X9_kindOf : GoodIn wsX9_goAhead (wsV RX9 244 RX9 yX9_kindOf wsX9_kindOf) := goodIn_app (goodIn_of _ (by decide +kernel)) ggX9_goAhead_X9_kindOf
set_option maxRecDepth 20000 in
theorem ggX9_goAhead_X9_leastAhead : GoodIn wsX9_goAhead wsX9_leastAhead := goodIn_r _ [48, 1, 2, 3, 4, 5, 6, 49, 50, 10, 51, 52, 53, 54, 55, 56, 57, 22, 23, 24, 58, 59, 60, 61, 62, 63, 64, 65, 66, 67, 68, 69, 70, 71, 72, 73, 74, 75, 76, 77, 78, 79, 80, 81, 82, 83, 84, 85, 86, 87, 88, 89, 90, 91, 92, 93, 94, 95, 96, 97, 98, 99, 100, 101, 102, 103, 104, 105, 106, 107, 108, 109, 110, 111, 112, 113, 114, 115, 116, 117, 118] (by decide +kernel) (by decide +kernel)
set_option maxRecDepth 20000 in
theorem gX9_goAhead_X9_leastAhead : GoodIn wsX9_goAhead (wsV RX9 269 RX9 yX9_leastAhead wsX9_leastAhead) := goodIn_app (goodIn_of _ (by decide +kernel)) ggX9_goAhead_X9_leastAhead
set_option maxRecDepth 20000 in
theorem ggX9_goAhead_X9_at : GoodIn wsX9_goAhead wsX9_at := goodIn_r _ [51] (by decide +kernel) (by decide +kernel)
set_option maxRecDepth 20000 in
theorem gX9_goAhead_X9_at : GoodIn wsX9_goAhead (va_wsS RX9 222 yX9_at wsX9_at) := goodIn_app (goodIn_of _ (by decide +kernel)) ggX9_goAhead_X9_at
theorem dX9_goAhead_0 : decode cX9_goAhead 0 = .ok (.aload_n 0, 1) := by decide +kernel
theorem dX9_goAhead_1 : decode cX9_goAhead 1 = .ok (.iload_n 1, 1) := by decide +kernel
theorem dX9_goAhead_2 : decode cX9_goAhead 2 = .ok (.iload_n 2, 1) := by decide +kernel
theorem dX9_goAhead_3 : decode cX9_goAhead 3 = .ok (.iload_n 3, 1) := by decide +kernel
theorem dX9_goAhead_4 : decode cX9_goAhead 4 = .ok (.iload 4, 2) := by decide +kernel
theorem dX9_goAhead_6 : decode cX9_goAhead 6 = .ok (.invokevirtual 254, 3) := by decide +kernel
theorem dX9_goAhead_9 : decode cX9_goAhead 9 = .ok (.istore 5, 2) := by decide +kernel
theorem dX9_goAhead_11 : decode cX9_goAhead 11 = .ok (.iload 5, 2) := by decide +kernel
theorem dX9_goAhead_13 : decode cX9_goAhead 13 = .ok (.ldc 186, 2) := by decide +kernel
theorem dX9_goAhead_15 : decode cX9_goAhead 15 = .ok (.if_icmp .ge 15, 3) := by decide +kernel
theorem dX9_goAhead_18 : decode cX9_goAhead 18 = .ok (.aload_n 0, 1) := by decide +kernel
theorem dX9_goAhead_19 : decode cX9_goAhead 19 = .ok (.iload_n 1, 1) := by decide +kernel
theorem dX9_goAhead_20 : decode cX9_goAhead 20 = .ok (.iload_n 2, 1) := by decide +kernel
theorem dX9_goAhead_21 : decode cX9_goAhead 21 = .ok (.iload_n 3, 1) := by decide +kernel
theorem dX9_goAhead_22 : decode cX9_goAhead 22 = .ok (.iload 4, 2) := by decide +kernel
theorem dX9_goAhead_24 : decode cX9_goAhead 24 = .ok (.invokevirtual 258, 3) := by decide +kernel
theorem dX9_goAhead_27 : decode cX9_goAhead 27 = .ok (.ifCond .ne 4, 3) := by decide +kernel
theorem dX9_goAhead_30 : decode cX9_goAhead 30 = .ok (.return_, 1) := by decide +kernel
theorem dX9_goAhead_31 : decode cX9_goAhead 31 = .ok (.aload_n 0, 1) := by decide +kernel
theorem dX9_goAhead_32 : decode cX9_goAhead 32 = .ok (.iload_n 1, 1) := by decide +kernel
theorem dX9_goAhead_33 : decode cX9_goAhead 33 = .ok (.aload_n 0, 1) := by decide +kernel
theorem dX9_goAhead_34 : decode cX9_goAhead 34 = .ok (.iload_n 3, 1) := by decide +kernel
theorem dX9_goAhead_35 : decode cX9_goAhead 35 = .ok (.invokevirtual 244, 3) := by decide +kernel
theorem dX9_goAhead_38 : decode cX9_goAhead 38 = .ok (.invokevirtual 269, 3) := by decide +kernel
theorem dX9_goAhead_41 : decode cX9_goAhead 41 = .ok (.istore 6, 2) := by decide +kernel
theorem dX9_goAhead_43 : decode cX9_goAhead 43 = .ok (.iload 6, 2) := by decide +kernel
theorem dX9_goAhead_45 : decode cX9_goAhead 45 = .ok (.ldc 186, 2) := by decide +kernel
theorem dX9_goAhead_47 : decode cX9_goAhead 47 = .ok (.if_icmp .ge 39, 3) := by decide +kernel
theorem dX9_goAhead_50 : decode cX9_goAhead 50 = .ok (.aload_n 0, 1) := by decide +kernel
theorem dX9_goAhead_51 : decode cX9_goAhead 51 = .ok (.getfield 127, 3) := by decide +kernel
theorem dX9_goAhead_54 : decode cX9_goAhead 54 = .ok (.iload_n 2, 1) := by decide +kernel
theorem dX9_goAhead_55 : decode cX9_goAhead 55 = .ok (.aload_n 0, 1) := by decide +kernel
theorem dX9_goAhead_56 : decode cX9_goAhead 56 = .ok (.iload_n 3, 1) := by decide +kernel
theorem dX9_goAhead_57 : decode cX9_goAhead 57 = .ok (.invokevirtual 244, 3) := by decide +kernel
theorem dX9_goAhead_60 : decode cX9_goAhead 60 = .ok (.invokestatic 222, 3) := by decide +kernel
theorem dX9_goAhead_63 : decode cX9_goAhead 63 = .ok (.aload_n 0, 1) := by decide +kernel
theorem dX9_goAhead_64 : decode cX9_goAhead 64 = .ok (.getfield 127, 3) := by decide +kernel
theorem dX9_goAhead_67 : decode cX9_goAhead 67 = .ok (.iload_n 2, 1) := by decide +kernel
theorem dX9_goAhead_68 : decode cX9_goAhead 68 = .ok (.aload_n 0, 1) := by decide +kernel
theorem dX9_goAhead_69 : decode cX9_goAhead 69 = .ok (.iload_n 3, 1) := by decide +kernel
theorem dX9_goAhead_70 : decode cX9_goAhead 70 = .ok (.invokevirtual 244, 3) := by decide +kernel
theorem dX9_goAhead_73 : decode cX9_goAhead 73 = .ok (.invokestatic 222, 3) := by decide +kernel
theorem dX9_goAhead_76 : decode cX9_goAhead 76 = .ok (.iaload, 1) := by decide +kernel
theorem dX9_goAhead_77 : decode cX9_goAhead 77 = .ok (.iload 6, 2) := by decide +kernel
theorem dX9_goAhead_79 : decode cX9_goAhead 79 = .ok (.iload 5, 2) := by decide +kernel
theorem dX9_goAhead_81 : decode cX9_goAhead 81 = .ok (.iadd, 1) := by decide +kernel
theorem dX9_goAhead_82 : decode cX9_goAhead 82 = .ok (.invokestatic 190, 3) := by decide +kernel
theorem dX9_goAhead_85 : decode cX9_goAhead 85 = .ok (.iastore, 1) := by decide +kernel
theorem dX9_goAhead_86 : decode cX9_goAhead 86 = .ok (.return_, 1) := by decide +kernel
set_option maxRecDepth 20000 in
theorem ggX9_type_X9_fail : GoodIn wsX9_type wsX9_fail := goodIn_r _ [11, 1, 38, 39, 40, 41, 42, 43, 44, 45, 46, 47, 48, 49, 50, 51, 52, 53, 54, 55, 56, 57, 58, 59, 60, 61, 62, 63, 64, 65, 66, 67, 68, 69, 70, 71, 72, 73, 74, 75, 76, 77, 78, 79, 80, 81, 82, 83, 84, 85, 86, 87, 88, 89, 90, 91, 92, 93, 94, 95, 96, 97, 98] (by decide +kernel) (by decide +kernel)
set_option maxRecDepth 20000 in
theorem gX9_type_X9_fail : GoodIn wsX9_type (wsV RX9 173 RX9 yX9_fail wsX9_fail) := goodIn_app (goodIn_of _ (by decide +kernel)) ggX9_type_X9_fail
set_option maxRecDepth 20000 in
theorem ggX9_type_X9_act : GoodIn wsX9_type wsX9_act := goodIn_r _ [15, 16, 17, 18, 2, 19, 3, 20, 6, 21, 22, 23, 4, 24, 25, 26, 27, 28, 5, 29, 30, 31, 10, 32, 38, 39, 40, 41, 42, 43, 44, 45, 46, 47, 48, 49, 50, 51, 52, 53, 54, 55, 56, 57, 58, 59, 60, 61, 62, 63, 64, 65, 66, 67, 68, 69, 70, 71, 72, 73, 74, 75, 76, 77, 78, 79, 80, 81, 82, 83, 84, 85, 86, 87, 88, 89, 90, 91, 92, 93, 94, 95, 96, 97, 98] (by decide +kernel) (by decide +kernel)
set_option maxRecDepth 20000 in
theorem gX9_type_X9_act : GoodIn wsX9_type (wsV RX9 272 RX9 yX9_act wsX9_act) := goodIn_app (goodIn_of _ (by decide +kernel)) ggX9_type_X9_act
set_option maxRecDepth 20000 in
theorem ggX9_type_X9_changed : GoodIn wsX9_type wsX9_changed := goodIn_r _ [36, 16, 37, 38, 39, 40, 41, 42, 43, 44, 45, 46, 47, 48, 49, 50, 51, 52, 53, 54, 55, 56, 57, 58, 59, 60, 61, 62, 63, 64, 65, 66, 67, 68, 69, 70, 71, 72, 73, 74, 75, 76, 77, 78, 79, 80, 81, 82, 83, 84, 85, 86, 87, 88, 89, 90, 91, 92, 93, 94, 95, 96, 97, 98] (by decide +kernel) (by decide +kernel)
set_option maxRecDepth 20000 in
theorem gX9_type_X9_changed : GoodIn wsX9_type (wsV RX9 177 RX9 yX9_changed wsX9_changed) := goodIn_app (goodIn_of _ (by decide +kernel)) ggX9_type_X9_changed
theorem dX9_type_0 : decode cX9_type 0 = .ok (.aload_n 0, 1) := by decide +kernel
theorem dX9_type_1 : decode cX9_type 1 = .ok (.iconst 0, 1) := by decide +kernel
theorem dX9_type_2 : decode cX9_type 2 = .ok (.putfield 151, 3) := by decide +kernel
theorem dX9_type_5 : decode cX9_type 5 = .ok (.iload_n 1, 1) := by decide +kernel
theorem dX9_type_6 : decode cX9_type 6 = .ok (.iconst 1, 1) := by decide +kernel
theorem dX9_type_7 : decode cX9_type 7 = .ok (.if_icmp .lt 9, 3) := by decide +kernel
theorem dX9_type_10 : decode cX9_type 10 = .ok (.iload_n 1, 1) := by decide +kernel
theorem dX9_type_11 : decode cX9_type 11 = .ok (.bipush 26, 2) := by decide +kernel
theorem dX9_type_13 : decode cX9_type 13 = .ok (.if_icmp .le 8, 3) := by decide +kernel
theorem dX9_type_16 : decode cX9_type 16 = .ok (.aload_n 0, 1) := by decide +kernel
theorem dX9_type_17 : decode cX9_type 17 = .ok (.invokevirtual 173, 3) := by decide +kernel
theorem dX9_type_20 : decode cX9_type 20 = .ok (.ireturn, 1) := by decide +kernel
theorem dX9_type_21 : decode cX9_type 21 = .ok (.aload_n 0, 1) := by decide +kernel
theorem dX9_type_22 : decode cX9_type 22 = .ok (.getfield 187, 3) := by decide +kernel
theorem dX9_type_25 : decode cX9_type 25 = .ok (.bipush 36, 2) := by decide +kernel
theorem dX9_type_27 : decode cX9_type 27 = .ok (.if_icmp .ne 5, 3) := by decide +kernel
theorem dX9_type_30 : decode cX9_type 30 = .ok (.iconst (-1), 1) := by decide +kernel
theorem dX9_type_31 : decode cX9_type 31 = .ok (.ireturn, 1) := by decide +kernel
theorem dX9_type_32 : decode cX9_type 32 = .ok (.aload_n 0, 1) := by decide +kernel
theorem dX9_type_33 : decode cX9_type 33 = .ok (.invokevirtual 272, 3) := by decide +kernel
theorem dX9_type_36 : decode cX9_type 36 = .ok (.iconst 0, 1) := by decide +kernel
theorem dX9_type_37 : decode cX9_type 37 = .ok (.istore_n 2, 1) := by decide +kernel
theorem dX9_type_38 : decode cX9_type 38 = .ok (.iconst 0, 1) := by decide +kernel
theorem dX9_type_39 : decode cX9_type 39 = .ok (.istore_n 3, 1) := by decide +kernel
theorem dX9_type_40 : decode cX9_type 40 = .ok (.iload_n 3, 1) := by decide +kernel
theorem dX9_type_41 : decode cX9_type 41 = .ok (.aload_n 0, 1) := by decide +kernel
theorem dX9_type_42 : decode cX9_type 42 = .ok (.getfield 216, 3) := by decide +kernel
theorem dX9_type_45 : decode cX9_type 45 = .ok (.if_icmp .ge 24, 3) := by decide +kernel
theorem dX9_type_48 : decode cX9_type 48 = .ok (.aload_n 0, 1) := by decide +kernel
theorem dX9_type_49 : decode cX9_type 49 = .ok (.getfield 72, 3) := by decide +kernel
theorem dX9_type_52 : decode cX9_type 52 = .ok (.iload_n 3, 1) := by decide +kernel
theorem dX9_type_53 : decode cX9_type 53 = .ok (.iaload, 1) := by decide +kernel
theorem dX9_type_54 : decode cX9_type 54 = .ok (.aload_n 0, 1) := by decide +kernel
theorem dX9_type_55 : decode cX9_type 55 = .ok (.getfield 187, 3) := by decide +kernel
theorem dX9_type_58 : decode cX9_type 58 = .ok (.if_icmp .ne 5, 3) := by decide +kernel
theorem dX9_type_61 : decode cX9_type 61 = .ok (.iconst 1, 1) := by decide +kernel
theorem dX9_type_62 : decode cX9_type 62 = .ok (.istore_n 2, 1) := by decide +kernel
theorem dX9_type_63 : decode cX9_type 63 = .ok (.iinc 3 1, 3) := by decide +kernel
theorem dX9_type_66 : decode cX9_type 66 = .ok (.goto (-26), 3) := by decide +kernel
theorem dX9_type_69 : decode cX9_type 69 = .ok (.aload_n 0, 1) := by decide +kernel
theorem dX9_type_70 : decode cX9_type 70 = .ok (.getfield 66, 3) := by decide +kernel
theorem dX9_type_73 : decode cX9_type 73 = .ok (.aload_n 0, 1) := by decide +kernel
theorem dX9_type_74 : decode cX9_type 74 = .ok (.getfield 187, 3) := by decide +kernel
theorem dX9_type_77 : decode cX9_type 77 = .ok (.aload_n 0, 1) := by decide +kernel
theorem dX9_type_78 : decode cX9_type 78 = .ok (.getfield 187, 3) := by decide +kernel
theorem dX9_type_81 : decode cX9_type 81 = .ok (.ifCond .le 11, 3) := by decide +kernel
theorem dX9_type_84 : decode cX9_type 84 = .ok (.iload_n 2, 1) := by decide +kernel
theorem dX9_type_85 : decode cX9_type 85 = .ok (.ifCond .eq 7, 3) := by decide +kernel
theorem dX9_type_88 : decode cX9_type 88 = .ok (.iconst 1, 1) := by decide +kernel
theorem dX9_type_89 : decode cX9_type 89 = .ok (.goto 4, 3) := by decide +kernel
theorem dX9_type_92 : decode cX9_type 92 = .ok (.iconst 0, 1) := by decide +kernel
theorem dX9_type_93 : decode cX9_type 93 = .ok (.iastore, 1) := by decide +kernel
theorem dX9_type_94 : decode cX9_type 94 = .ok (.aload_n 0, 1) := by decide +kernel
theorem dX9_type_95 : decode cX9_type 95 = .ok (.getfield 63, 3) := by decide +kernel
theorem dX9_type_98 : decode cX9_type 98 = .ok (.aload_n 0, 1) := by decide +kernel
theorem dX9_type_99 : decode cX9_type 99 = .ok (.getfield 187, 3) := by decide +kernel
theorem dX9_type_102 : decode cX9_type 102 = .ok (.iload_n 1, 1) := by decide +kernel
theorem dX9_type_103 : decode cX9_type 103 = .ok (.iastore, 1) := by decide +kernel
