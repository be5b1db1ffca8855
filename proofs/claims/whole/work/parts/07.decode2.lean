theorem dX8_spelling_51 : decode cX8_spelling 51 = .ok (.iload_n 1, 1) := by decide +kernel
theorem dX8_spelling_52 : decode cX8_spelling 52 = .ok (.lload_n 2, 1) := by decide +kernel
theorem dX8_spelling_53 : decode cX8_spelling 53 = .ok (.l2i, 1) := by decide +kernel
theorem dX8_spelling_54 : decode cX8_spelling 54 = .ok (.iload 5, 2) := by decide +kernel
theorem dX8_spelling_56 : decode cX8_spelling 56 = .ok (.iload 4, 2) := by decide +kernel
theorem dX8_spelling_58 : decode cX8_spelling 58 = .ok (.invokevirtual 84, 3) := by decide +kernel
theorem dX8_spelling_61 : decode cX8_spelling 61 = .ok (.ifCond .ne 5, 3) := by decide +kernel
theorem dX8_spelling_64 : decode cX8_spelling 64 = .ok (.iconst (-1), 1) := by decide +kernel
theorem dX8_spelling_65 : decode cX8_spelling 65 = .ok (.ireturn, 1) := by decide +kernel
theorem dX8_spelling_66 : decode cX8_spelling 66 = .ok (.aload_n 0, 1) := by decide +kernel
theorem dX8_spelling_67 : decode cX8_spelling 67 = .ok (.invokevirtual 88, 3) := by decide +kernel
theorem dX8_spelling_70 : decode cX8_spelling 70 = .ok (.aload_n 0, 1) := by decide +kernel
theorem dX8_spelling_71 : decode cX8_spelling 71 = .ok (.getfield 12, 3) := by decide +kernel
theorem dX8_spelling_74 : decode cX8_spelling 74 = .ok (.getfield 91, 3) := by decide +kernel
theorem dX8_spelling_77 : decode cX8_spelling 77 = .ok (.iload_n 1, 1) := by decide +kernel
theorem dX8_spelling_78 : decode cX8_spelling 78 = .ok (.iaload, 1) := by decide +kernel
theorem dX8_spelling_79 : decode cX8_spelling 79 = .ok (.ireturn, 1) := by decide +kernel
set_option maxRecDepth 20000 in
theorem ggX8_word_X8_rowLength : GoodIn wsX8_word wsX8_rowLength := goodIn_r _ [7] (by decide +kernel) (by decide +kernel)
set_option maxRecDepth 20000 in
theorem gX8_word_X8_rowLength : GoodIn wsX8_word (va_wsS RX8 73 yX8_rowLength wsX8_rowLength) := goodIn_app (goodIn_of _ (by decide +kernel)) ggX8_word_X8_rowLength
set_option maxRecDepth 20000 in
theorem ggX8_word_X8_bookChanged : GoodIn wsX8_word wsX8_bookChanged := goodIn_r _ [11, 12, 13, 14, 15, 16, 17, 18, 19, 20, 6, 21, 22, 23, 24, 25, 26, 27, 28, 29, 30, 31, 32, 33, 34, 44, 45, 46, 47, 48, 49, 50, 51, 71, 72, 73, 74, 75, 76, 77, 78, 79, 80, 81, 82, 83, 84, 85, 86, 87, 88, 89, 90, 91, 92, 93, 94, 95, 96, 97, 98, 99, 100, 101] (by decide +kernel) (by decide +kernel)
set_option maxRecDepth 20000 in
theorem gX8_word_X8_bookChanged : GoodIn wsX8_word (wsV RX8 88 RX8 yX8_bookChanged wsX8_bookChanged) := goodIn_app (goodIn_of _ (by decide +kernel)) ggX8_word_X8_bookChanged
set_option maxRecDepth 20000 in
theorem ggX8_word_X1_addWord : GoodIn wsX8_word wsX1_addWord := goodIn_r _ [38, 39, 40, 41, 42, 43, 52, 53, 54, 55, 56, 57, 58, 59, 60, 61, 62, 63, 64, 65, 66, 67, 68, 69, 70] (by decide +kernel) (by decide +kernel)
set_option maxRecDepth 20000 in
theorem gX8_word_X1_addWord_n103 : GoodIn wsX8_word (wsX1_addWord) := ggX8_word_X1_addWord
theorem dX8_word_0 : decode cX8_word 0 = .ok (.lload_n 1, 1) := by decide +kernel
theorem dX8_word_1 : decode cX8_word 1 = .ok (.bipush 6, 2) := by decide +kernel
theorem dX8_word_3 : decode cX8_word 3 = .ok (.bipush 50, 2) := by decide +kernel
theorem dX8_word_5 : decode cX8_word 5 = .ok (.bipush 6, 2) := by decide +kernel
theorem dX8_word_7 : decode cX8_word 7 = .ok (.invokestatic 73, 3) := by decide +kernel
theorem dX8_word_10 : decode cX8_word 10 = .ok (.ifCond .eq 16, 3) := by decide +kernel
theorem dX8_word_13 : decode cX8_word 13 = .ok (.lload_n 3, 1) := by decide +kernel
theorem dX8_word_14 : decode cX8_word 14 = .ok (.bipush 14, 2) := by decide +kernel
theorem dX8_word_16 : decode cX8_word 16 = .ok (.sipush 16383, 3) := by decide +kernel
theorem dX8_word_19 : decode cX8_word 19 = .ok (.iconst 4, 1) := by decide +kernel
theorem dX8_word_20 : decode cX8_word 20 = .ok (.invokestatic 73, 3) := by decide +kernel
theorem dX8_word_23 : decode cX8_word 23 = .ok (.ifCond .ne 13, 3) := by decide +kernel
theorem dX8_word_26 : decode cX8_word 26 = .ok (.new 77, 3) := by decide +kernel
theorem dX8_word_29 : decode cX8_word 29 = .ok (.dup, 1) := by decide +kernel
theorem dX8_word_30 : decode cX8_word 30 = .ok (.ldc 95, 2) := by decide +kernel
theorem dX8_word_32 : decode cX8_word 32 = .ok (.invokespecial 81, 3) := by decide +kernel
theorem dX8_word_35 : decode cX8_word 35 = .ok (.athrow, 1) := by decide +kernel
theorem dX8_word_36 : decode cX8_word 36 = .ok (.iload 5, 2) := by decide +kernel
theorem dX8_word_38 : decode cX8_word 38 = .ok (.ifCond .lt 23, 3) := by decide +kernel
theorem dX8_word_41 : decode cX8_word 41 = .ok (.iload 5, 2) := by decide +kernel
theorem dX8_word_43 : decode cX8_word 43 = .ok (.bipush 8, 2) := by decide +kernel
theorem dX8_word_45 : decode cX8_word 45 = .ok (.if_icmp .ge 16, 3) := by decide +kernel
theorem dX8_word_48 : decode cX8_word 48 = .ok (.iload 6, 2) := by decide +kernel
theorem dX8_word_50 : decode cX8_word 50 = .ok (.iconst (-1), 1) := by decide +kernel
theorem dX8_word_51 : decode cX8_word 51 = .ok (.if_icmp .lt 10, 3) := by decide +kernel
theorem dX8_word_54 : decode cX8_word 54 = .ok (.iload 6, 2) := by decide +kernel
theorem dX8_word_56 : decode cX8_word 56 = .ok (.bipush 6, 2) := by decide +kernel
theorem dX8_word_58 : decode cX8_word 58 = .ok (.if_icmp .lt 13, 3) := by decide +kernel
theorem dX8_word_61 : decode cX8_word 61 = .ok (.new 77, 3) := by decide +kernel
theorem dX8_word_64 : decode cX8_word 64 = .ok (.dup, 1) := by decide +kernel
theorem dX8_word_65 : decode cX8_word 65 = .ok (.ldc 97, 2) := by decide +kernel
theorem dX8_word_67 : decode cX8_word 67 = .ok (.invokespecial 81, 3) := by decide +kernel
theorem dX8_word_70 : decode cX8_word 70 = .ok (.athrow, 1) := by decide +kernel
theorem dX8_word_71 : decode cX8_word 71 = .ok (.aload_n 0, 1) := by decide +kernel
theorem dX8_word_72 : decode cX8_word 72 = .ok (.getfield 12, 3) := by decide +kernel
theorem dX8_word_75 : decode cX8_word 75 = .ok (.getfield 99, 3) := by decide +kernel
theorem dX8_word_78 : decode cX8_word 78 = .ok (.bipush 60, 2) := by decide +kernel
theorem dX8_word_80 : decode cX8_word 80 = .ok (.if_icmp .lt 5, 3) := by decide +kernel
theorem dX8_word_83 : decode cX8_word 83 = .ok (.iconst (-1), 1) := by decide +kernel
theorem dX8_word_84 : decode cX8_word 84 = .ok (.ireturn, 1) := by decide +kernel
theorem dX8_word_85 : decode cX8_word 85 = .ok (.aload_n 0, 1) := by decide +kernel
theorem dX8_word_86 : decode cX8_word 86 = .ok (.invokevirtual 88, 3) := by decide +kernel
theorem dX8_word_89 : decode cX8_word 89 = .ok (.aload_n 0, 1) := by decide +kernel
theorem dX8_word_90 : decode cX8_word 90 = .ok (.getfield 12, 3) := by decide +kernel
theorem dX8_word_93 : decode cX8_word 93 = .ok (.lload_n 1, 1) := by decide +kernel
theorem dX8_word_94 : decode cX8_word 94 = .ok (.lload_n 3, 1) := by decide +kernel
theorem dX8_word_95 : decode cX8_word 95 = .ok (.iload 5, 2) := by decide +kernel
theorem dX8_word_97 : decode cX8_word 97 = .ok (.iload 6, 2) := by decide +kernel
theorem dX8_word_99 : decode cX8_word 99 = .ok (.invokevirtual 103, 3) := by decide +kernel
theorem dX8_word_102 : decode cX8_word 102 = .ok (.ireturn, 1) := by decide +kernel
set_option maxRecDepth 20000 in
theorem ggX8_ending_X8_rowLength : GoodIn wsX8_ending wsX8_rowLength := goodIn_r _ [7] (by decide +kernel) (by decide +kernel)
set_option maxRecDepth 20000 in
theorem gX8_ending_X8_rowLength : GoodIn wsX8_ending (va_wsS RX8 73 yX8_rowLength wsX8_rowLength) := goodIn_app (goodIn_of _ (by decide +kernel)) ggX8_ending_X8_rowLength
set_option maxRecDepth 20000 in
theorem ggX8_ending_X8_bookChanged : GoodIn wsX8_ending wsX8_bookChanged := goodIn_r _ [11, 12, 13, 14, 15, 16, 17, 18, 19, 20, 6, 21, 22, 23, 24, 25, 26, 27, 28, 29, 30, 31, 32, 33, 34, 44, 45, 46, 47, 48, 49, 50, 51, 71, 72, 73, 74, 75, 76, 77, 78, 79, 80, 81, 82, 83, 84, 85, 86, 87, 88, 89, 90, 91, 92, 93, 94, 95, 96, 97, 98, 99, 100, 101] (by decide +kernel) (by decide +kernel)
set_option maxRecDepth 20000 in
theorem gX8_ending_X8_bookChanged : GoodIn wsX8_ending (wsV RX8 88 RX8 yX8_bookChanged wsX8_bookChanged) := goodIn_app (goodIn_of _ (by decide +kernel)) ggX8_ending_X8_bookChanged
set_option maxRecDepth 20000 in
theorem ggX8_ending_X1_addEnding : GoodIn wsX8_ending wsX1_addEnding := goodIn_r _ [38, 39, 40, 41, 42, 43, 52, 53, 54, 55, 56, 57, 58, 59, 60, 61, 62, 63, 64, 65, 66, 67, 68, 69, 70] (by decide +kernel) (by decide +kernel)
set_option maxRecDepth 20000 in
theorem gX8_ending_X1_addEnding_n114 : GoodIn wsX8_ending (wsX1_addEnding) := ggX8_ending_X1_addEnding
theorem dX8_ending_0 : decode cX8_ending 0 = .ok (.lload_n 1, 1) := by decide +kernel
theorem dX8_ending_1 : decode cX8_ending 1 = .ok (.bipush 6, 2) := by decide +kernel
theorem dX8_ending_3 : decode cX8_ending 3 = .ok (.bipush 50, 2) := by decide +kernel
theorem dX8_ending_5 : decode cX8_ending 5 = .ok (.iconst 3, 1) := by decide +kernel
theorem dX8_ending_6 : decode cX8_ending 6 = .ok (.invokestatic 73, 3) := by decide +kernel
theorem dX8_ending_9 : decode cX8_ending 9 = .ok (.ifCond .eq 15, 3) := by decide +kernel
theorem dX8_ending_12 : decode cX8_ending 12 = .ok (.iload_n 3, 1) := by decide +kernel
theorem dX8_ending_13 : decode cX8_ending 13 = .ok (.iconst 1, 1) := by decide +kernel
theorem dX8_ending_14 : decode cX8_ending 14 = .ok (.if_icmp .lt 10, 3) := by decide +kernel
theorem dX8_ending_17 : decode cX8_ending 17 = .ok (.iload_n 3, 1) := by decide +kernel
theorem dX8_ending_18 : decode cX8_ending 18 = .ok (.sipush 16383, 3) := by decide +kernel
theorem dX8_ending_21 : decode cX8_ending 21 = .ok (.if_icmp .le 13, 3) := by decide +kernel
theorem dX8_ending_24 : decode cX8_ending 24 = .ok (.new 77, 3) := by decide +kernel
theorem dX8_ending_27 : decode cX8_ending 27 = .ok (.dup, 1) := by decide +kernel
theorem dX8_ending_28 : decode cX8_ending 28 = .ok (.ldc 107, 2) := by decide +kernel
theorem dX8_ending_30 : decode cX8_ending 30 = .ok (.invokespecial 81, 3) := by decide +kernel
theorem dX8_ending_33 : decode cX8_ending 33 = .ok (.athrow, 1) := by decide +kernel
theorem dX8_ending_34 : decode cX8_ending 34 = .ok (.iload 4, 2) := by decide +kernel
theorem dX8_ending_36 : decode cX8_ending 36 = .ok (.ifCond .lt 22, 3) := by decide +kernel
theorem dX8_ending_39 : decode cX8_ending 39 = .ok (.iload 4, 2) := by decide +kernel
theorem dX8_ending_41 : decode cX8_ending 41 = .ok (.bipush 6, 2) := by decide +kernel
theorem dX8_ending_43 : decode cX8_ending 43 = .ok (.if_icmp .ge 15, 3) := by decide +kernel
theorem dX8_ending_46 : decode cX8_ending 46 = .ok (.iload 5, 2) := by decide +kernel
theorem dX8_ending_48 : decode cX8_ending 48 = .ok (.ifCond .lt 10, 3) := by decide +kernel
theorem dX8_ending_51 : decode cX8_ending 51 = .ok (.iload 5, 2) := by decide +kernel
theorem dX8_ending_53 : decode cX8_ending 53 = .ok (.bipush 60, 2) := by decide +kernel
theorem dX8_ending_55 : decode cX8_ending 55 = .ok (.if_icmp .le 13, 3) := by decide +kernel
theorem dX8_ending_58 : decode cX8_ending 58 = .ok (.new 77, 3) := by decide +kernel
theorem dX8_ending_61 : decode cX8_ending 61 = .ok (.dup, 1) := by decide +kernel
theorem dX8_ending_62 : decode cX8_ending 62 = .ok (.ldc 109, 2) := by decide +kernel
theorem dX8_ending_64 : decode cX8_ending 64 = .ok (.invokespecial 81, 3) := by decide +kernel
theorem dX8_ending_67 : decode cX8_ending 67 = .ok (.athrow, 1) := by decide +kernel
theorem dX8_ending_68 : decode cX8_ending 68 = .ok (.aload_n 0, 1) := by decide +kernel
theorem dX8_ending_69 : decode cX8_ending 69 = .ok (.getfield 12, 3) := by decide +kernel
theorem dX8_ending_72 : decode cX8_ending 72 = .ok (.getfield 111, 3) := by decide +kernel
theorem dX8_ending_75 : decode cX8_ending 75 = .ok (.bipush 8, 2) := by decide +kernel
theorem dX8_ending_77 : decode cX8_ending 77 = .ok (.if_icmp .lt 5, 3) := by decide +kernel
theorem dX8_ending_80 : decode cX8_ending 80 = .ok (.iconst (-1), 1) := by decide +kernel
theorem dX8_ending_81 : decode cX8_ending 81 = .ok (.ireturn, 1) := by decide +kernel
theorem dX8_ending_82 : decode cX8_ending 82 = .ok (.aload_n 0, 1) := by decide +kernel
theorem dX8_ending_83 : decode cX8_ending 83 = .ok (.invokevirtual 88, 3) := by decide +kernel
theorem dX8_ending_86 : decode cX8_ending 86 = .ok (.aload_n 0, 1) := by decide +kernel
theorem dX8_ending_87 : decode cX8_ending 87 = .ok (.getfield 12, 3) := by decide +kernel
theorem dX8_ending_90 : decode cX8_ending 90 = .ok (.lload_n 1, 1) := by decide +kernel
theorem dX8_ending_91 : decode cX8_ending 91 = .ok (.iload_n 3, 1) := by decide +kernel
theorem dX8_ending_92 : decode cX8_ending 92 = .ok (.iload 4, 2) := by decide +kernel
theorem dX8_ending_94 : decode cX8_ending 94 = .ok (.iload 5, 2) := by decide +kernel
theorem dX8_ending_96 : decode cX8_ending 96 = .ok (.invokevirtual 114, 3) := by decide +kernel
theorem dX8_ending_99 : decode cX8_ending 99 = .ok (.ireturn, 1) := by decide +kernel
set_option maxRecDepth 20000 in
theorem ggX8_price_X8_bookChanged : GoodIn wsX8_price wsX8_bookChanged := goodIn_r _ [8, 9, 10, 11, 12, 13, 14, 15, 16, 17, 7, 18, 19, 20, 21, 22, 23, 24, 25, 26, 27, 28, 29, 30, 31, 32, 33, 34, 35, 36, 37, 38, 39, 59, 60, 61, 62, 63, 64, 65, 66, 67, 68, 69, 70, 71, 72, 73, 74, 75, 76, 77, 78, 79, 80, 81, 82, 83, 84, 85, 86, 87, 88, 89] (by decide +kernel) (by decide +kernel)
set_option maxRecDepth 20000 in
theorem gX8_price_X8_bookChanged : GoodIn wsX8_price (wsV RX8 88 RX8 yX8_bookChanged wsX8_bookChanged) := goodIn_app (goodIn_of _ (by decide +kernel)) ggX8_price_X8_bookChanged
theorem dX8_price_0 : decode cX8_price 0 = .ok (.iload_n 1, 1) := by decide +kernel
theorem dX8_price_1 : decode cX8_price 1 = .ok (.ifCond .lt 19, 3) := by decide +kernel
theorem dX8_price_4 : decode cX8_price 4 = .ok (.iload_n 1, 1) := by decide +kernel
theorem dX8_price_5 : decode cX8_price 5 = .ok (.iconst 3, 1) := by decide +kernel
theorem dX8_price_6 : decode cX8_price 6 = .ok (.if_icmp .ge 14, 3) := by decide +kernel
theorem dX8_price_9 : decode cX8_price 9 = .ok (.iload_n 2, 1) := by decide +kernel
theorem dX8_price_10 : decode cX8_price 10 = .ok (.ifCond .lt 10, 3) := by decide +kernel
theorem dX8_price_13 : decode cX8_price 13 = .ok (.iload_n 2, 1) := by decide +kernel
theorem dX8_price_14 : decode cX8_price 14 = .ok (.sipush 200, 3) := by decide +kernel
theorem dX8_price_17 : decode cX8_price 17 = .ok (.if_icmp .le 13, 3) := by decide +kernel
theorem dX8_price_20 : decode cX8_price 20 = .ok (.new 77, 3) := by decide +kernel
theorem dX8_price_23 : decode cX8_price 23 = .ok (.dup, 1) := by decide +kernel
theorem dX8_price_24 : decode cX8_price 24 = .ok (.ldc 117, 2) := by decide +kernel
theorem dX8_price_26 : decode cX8_price 26 = .ok (.invokespecial 81, 3) := by decide +kernel
theorem dX8_price_29 : decode cX8_price 29 = .ok (.athrow, 1) := by decide +kernel
theorem dX8_price_30 : decode cX8_price 30 = .ok (.aload_n 0, 1) := by decide +kernel
theorem dX8_price_31 : decode cX8_price 31 = .ok (.getfield 12, 3) := by decide +kernel
theorem dX8_price_34 : decode cX8_price 34 = .ok (.getfield 119, 3) := by decide +kernel
theorem dX8_price_37 : decode cX8_price 37 = .ok (.iload_n 1, 1) := by decide +kernel
theorem dX8_price_38 : decode cX8_price 38 = .ok (.iaload, 1) := by decide +kernel
theorem dX8_price_39 : decode cX8_price 39 = .ok (.istore_n 3, 1) := by decide +kernel
theorem dX8_price_40 : decode cX8_price 40 = .ok (.aload_n 0, 1) := by decide +kernel
theorem dX8_price_41 : decode cX8_price 41 = .ok (.getfield 12, 3) := by decide +kernel
theorem dX8_price_44 : decode cX8_price 44 = .ok (.getfield 119, 3) := by decide +kernel
theorem dX8_price_47 : decode cX8_price 47 = .ok (.iload_n 1, 1) := by decide +kernel
theorem dX8_price_48 : decode cX8_price 48 = .ok (.iload_n 2, 1) := by decide +kernel
theorem dX8_price_49 : decode cX8_price 49 = .ok (.iastore, 1) := by decide +kernel
theorem dX8_price_50 : decode cX8_price 50 = .ok (.aload_n 0, 1) := by decide +kernel
theorem dX8_price_51 : decode cX8_price 51 = .ok (.invokevirtual 88, 3) := by decide +kernel
theorem dX8_price_54 : decode cX8_price 54 = .ok (.iload_n 3, 1) := by decide +kernel
theorem dX8_price_55 : decode cX8_price 55 = .ok (.ireturn, 1) := by decide +kernel
set_option maxRecDepth 20000 in
theorem ggX8_step_X8_areKinds : GoodIn wsX8_step wsX8_areKinds := goodIn_r _ [7] (by decide +kernel) (by decide +kernel)
set_option maxRecDepth 20000 in
theorem gX8_step_X8_areKinds : GoodIn wsX8_step (va_wsS RX8 122 yX8_areKinds wsX8_areKinds) := goodIn_app (goodIn_of _ (by decide +kernel)) ggX8_step_X8_areKinds
set_option maxRecDepth 20000 in
theorem ggX8_step_X1_priceStep : GoodIn wsX8_step wsX1_priceStep := goodIn_r _ [11, 12, 13, 14, 15, 6, 16, 42, 43, 44, 45, 46, 47, 48, 49, 50, 51, 52, 53, 54, 55, 56, 57, 58, 59, 60] (by decide +kernel) (by decide +kernel)
set_option maxRecDepth 20000 in
theorem gX8_step_X1_priceStep_n131 : GoodIn wsX8_step (wsX1_priceStep) := ggX8_step_X1_priceStep
set_option maxRecDepth 20000 in
theorem ggX8_step_X8_lineChanged : GoodIn wsX8_step wsX8_lineChanged := goodIn_r _ [20, 21, 22, 23, 24, 25, 26, 27, 28, 29, 30, 31, 32, 33, 34, 35, 36, 37, 38, 39, 40, 41, 61, 62, 63, 64, 65, 66, 67, 68, 69, 70, 71, 72, 73, 74, 75, 76, 77, 78, 79, 80, 81, 82, 83, 84, 85] (by decide +kernel) (by decide +kernel)
set_option maxRecDepth 20000 in
theorem gX8_step_X8_lineChanged : GoodIn wsX8_step (wsV RX8 135 RX8 yX8_lineChanged wsX8_lineChanged) := goodIn_app (goodIn_of _ (by decide +kernel)) ggX8_step_X8_lineChanged
theorem dX8_step_0 : decode cX8_step 0 = .ok (.iload_n 1, 1) := by decide +kernel
theorem dX8_step_1 : decode cX8_step 1 = .ok (.iload_n 2, 1) := by decide +kernel
theorem dX8_step_2 : decode cX8_step 2 = .ok (.invokestatic 122, 3) := by decide +kernel
theorem dX8_step_5 : decode cX8_step 5 = .ok (.ifCond .eq 13, 3) := by decide +kernel
theorem dX8_step_8 : decode cX8_step 8 = .ok (.iload_n 3, 1) := by decide +kernel
theorem dX8_step_9 : decode cX8_step 9 = .ok (.ifCond .lt 9, 3) := by decide +kernel
theorem dX8_step_12 : decode cX8_step 12 = .ok (.iload_n 3, 1) := by decide +kernel
theorem dX8_step_13 : decode cX8_step 13 = .ok (.bipush 90, 2) := by decide +kernel
theorem dX8_step_15 : decode cX8_step 15 = .ok (.if_icmp .le 13, 3) := by decide +kernel
theorem dX8_step_18 : decode cX8_step 18 = .ok (.new 77, 3) := by decide +kernel
theorem dX8_step_21 : decode cX8_step 21 = .ok (.dup, 1) := by decide +kernel
theorem dX8_step_22 : decode cX8_step 22 = .ok (.ldc 126, 2) := by decide +kernel
theorem dX8_step_24 : decode cX8_step 24 = .ok (.invokespecial 81, 3) := by decide +kernel
theorem dX8_step_27 : decode cX8_step 27 = .ok (.athrow, 1) := by decide +kernel
theorem dX8_step_28 : decode cX8_step 28 = .ok (.aload_n 0, 1) := by decide +kernel
theorem dX8_step_29 : decode cX8_step 29 = .ok (.getfield 12, 3) := by decide +kernel
theorem dX8_step_32 : decode cX8_step 32 = .ok (.getfield 128, 3) := by decide +kernel
theorem dX8_step_35 : decode cX8_step 35 = .ok (.iload_n 1, 1) := by decide +kernel
theorem dX8_step_36 : decode cX8_step 36 = .ok (.bipush 9, 2) := by decide +kernel
theorem dX8_step_38 : decode cX8_step 38 = .ok (.imul, 1) := by decide +kernel
theorem dX8_step_39 : decode cX8_step 39 = .ok (.iload_n 2, 1) := by decide +kernel
theorem dX8_step_40 : decode cX8_step 40 = .ok (.iadd, 1) := by decide +kernel
theorem dX8_step_41 : decode cX8_step 41 = .ok (.iaload, 1) := by decide +kernel
theorem dX8_step_42 : decode cX8_step 42 = .ok (.istore 4, 2) := by decide +kernel
theorem dX8_step_44 : decode cX8_step 44 = .ok (.aload_n 0, 1) := by decide +kernel
theorem dX8_step_45 : decode cX8_step 45 = .ok (.getfield 12, 3) := by decide +kernel
theorem dX8_step_48 : decode cX8_step 48 = .ok (.iload_n 1, 1) := by decide +kernel
theorem dX8_step_49 : decode cX8_step 49 = .ok (.bipush 9, 2) := by decide +kernel
theorem dX8_step_51 : decode cX8_step 51 = .ok (.imul, 1) := by decide +kernel
theorem dX8_step_52 : decode cX8_step 52 = .ok (.iload_n 2, 1) := by decide +kernel
theorem dX8_step_53 : decode cX8_step 53 = .ok (.iadd, 1) := by decide +kernel
theorem dX8_step_54 : decode cX8_step 54 = .ok (.iload_n 3, 1) := by decide +kernel
theorem dX8_step_55 : decode cX8_step 55 = .ok (.invokevirtual 131, 3) := by decide +kernel
theorem dX8_step_58 : decode cX8_step 58 = .ok (.aload_n 0, 1) := by decide +kernel
theorem dX8_step_59 : decode cX8_step 59 = .ok (.invokevirtual 135, 3) := by decide +kernel
theorem dX8_step_62 : decode cX8_step 62 = .ok (.iload 4, 2) := by decide +kernel
theorem dX8_step_64 : decode cX8_step 64 = .ok (.ireturn, 1) := by decide +kernel
set_option maxRecDepth 20000 in
theorem ggX8_type_X8_beginAct : GoodIn wsX8_type wsX8_beginAct := goodIn_r _ [8, 9, 3, 10, 11, 12, 13, 14, 15, 16, 17, 18, 19, 20, 21, 22, 23, 24, 25, 26, 27, 28, 29, 30, 31, 32, 33, 34, 35, 36, 37, 38, 39, 40, 41, 42, 43, 7, 44, 45, 46, 47, 48, 49, 50, 51, 52, 53, 54, 55, 56, 57, 65, 66, 67, 68, 69, 70, 71, 72, 77, 78, 79, 73, 74, 75, 76, 80, 81, 82, 83, 84, 85, 86, 87, 88, 89, 90, 91, 92, 93, 94, 95, 96, 97, 98, 99, 100, 101, 102, 103, 104] (by decide +kernel) (by decide +kernel)
set_option maxRecDepth 20000 in
theorem gX8_type_X8_beginAct : GoodIn wsX8_type (wsV RX8 143 RX8 yX8_beginAct wsX8_beginAct) := goodIn_app (goodIn_of _ (by decide +kernel)) ggX8_type_X8_beginAct
set_option maxRecDepth 20000 in
theorem ggX8_type_X4_append : GoodIn wsX8_type wsX4_append := goodIn_r _ [60, 30, 36, 31, 61, 62, 63, 18, 64, 32, 73, 74, 75, 76] (by decide +kernel) (by decide +kernel)
set_option maxRecDepth 20000 in
theorem gX8_type_X4_append_n146 : GoodIn wsX8_type (wsX4_append) := ggX8_type_X4_append
theorem dX8_type_0 : decode cX8_type 0 = .ok (.iload_n 1, 1) := by decide +kernel
theorem dX8_type_1 : decode cX8_type 1 = .ok (.iconst 1, 1) := by decide +kernel
theorem dX8_type_2 : decode cX8_type 2 = .ok (.if_icmp .lt 9, 3) := by decide +kernel
theorem dX8_type_5 : decode cX8_type 5 = .ok (.iload_n 1, 1) := by decide +kernel
theorem dX8_type_6 : decode cX8_type 6 = .ok (.bipush 26, 2) := by decide +kernel
theorem dX8_type_8 : decode cX8_type 8 = .ok (.if_icmp .le 13, 3) := by decide +kernel
theorem dX8_type_11 : decode cX8_type 11 = .ok (.new 77, 3) := by decide +kernel
theorem dX8_type_14 : decode cX8_type 14 = .ok (.dup, 1) := by decide +kernel
theorem dX8_type_15 : decode cX8_type 15 = .ok (.ldc 138, 2) := by decide +kernel
theorem dX8_type_17 : decode cX8_type 17 = .ok (.invokespecial 81, 3) := by decide +kernel
theorem dX8_type_20 : decode cX8_type 20 = .ok (.athrow, 1) := by decide +kernel
theorem dX8_type_21 : decode cX8_type 21 = .ok (.aload_n 0, 1) := by decide +kernel
theorem dX8_type_22 : decode cX8_type 22 = .ok (.getfield 19, 3) := by decide +kernel
theorem dX8_type_25 : decode cX8_type 25 = .ok (.getfield 140, 3) := by decide +kernel
theorem dX8_type_28 : decode cX8_type 28 = .ok (.bipush 36, 2) := by decide +kernel
theorem dX8_type_30 : decode cX8_type 30 = .ok (.if_icmp .lt 5, 3) := by decide +kernel
theorem dX8_type_33 : decode cX8_type 33 = .ok (.iconst (-1), 1) := by decide +kernel
theorem dX8_type_34 : decode cX8_type 34 = .ok (.ireturn, 1) := by decide +kernel
theorem dX8_type_35 : decode cX8_type 35 = .ok (.aload_n 0, 1) := by decide +kernel
theorem dX8_type_36 : decode cX8_type 36 = .ok (.invokevirtual 143, 3) := by decide +kernel
theorem dX8_type_39 : decode cX8_type 39 = .ok (.aload_n 0, 1) := by decide +kernel
theorem dX8_type_40 : decode cX8_type 40 = .ok (.getfield 19, 3) := by decide +kernel
theorem dX8_type_43 : decode cX8_type 43 = .ok (.iload_n 1, 1) := by decide +kernel
theorem dX8_type_44 : decode cX8_type 44 = .ok (.invokevirtual 146, 3) := by decide +kernel
theorem dX8_type_47 : decode cX8_type 47 = .ok (.aload_n 0, 1) := by decide +kernel
theorem dX8_type_48 : decode cX8_type 48 = .ok (.getfield 19, 3) := by decide +kernel
theorem dX8_type_51 : decode cX8_type 51 = .ok (.getfield 140, 3) := by decide +kernel
theorem dX8_type_54 : decode cX8_type 54 = .ok (.ireturn, 1) := by decide +kernel
theorem dX8_typed_0 : decode cX8_typed 0 = .ok (.iload_n 1, 1) := by decide +kernel
theorem dX8_typed_1 : decode cX8_typed 1 = .ok (.iconst (-1), 1) := by decide +kernel
theorem dX8_typed_2 : decode cX8_typed 2 = .ok (.if_icmp .ne 11, 3) := by decide +kernel
theorem dX8_typed_5 : decode cX8_typed 5 = .ok (.aload_n 0, 1) := by decide +kernel
theorem dX8_typed_6 : decode cX8_typed 6 = .ok (.getfield 19, 3) := by decide +kernel
theorem dX8_typed_9 : decode cX8_typed 9 = .ok (.getfield 140, 3) := by decide +kernel
theorem dX8_typed_12 : decode cX8_typed 12 = .ok (.ireturn, 1) := by decide +kernel
theorem dX8_typed_13 : decode cX8_typed 13 = .ok (.iload_n 1, 1) := by decide +kernel
theorem dX8_typed_14 : decode cX8_typed 14 = .ok (.ifCond .lt 14, 3) := by decide +kernel
theorem dX8_typed_17 : decode cX8_typed 17 = .ok (.iload_n 1, 1) := by decide +kernel
theorem dX8_typed_18 : decode cX8_typed 18 = .ok (.aload_n 0, 1) := by decide +kernel
theorem dX8_typed_19 : decode cX8_typed 19 = .ok (.getfield 19, 3) := by decide +kernel
theorem dX8_typed_22 : decode cX8_typed 22 = .ok (.getfield 140, 3) := by decide +kernel
theorem dX8_typed_25 : decode cX8_typed 25 = .ok (.if_icmp .lt 13, 3) := by decide +kernel
theorem dX8_typed_28 : decode cX8_typed 28 = .ok (.new 150, 3) := by decide +kernel
theorem dX8_typed_31 : decode cX8_typed 31 = .ok (.dup, 1) := by decide +kernel
theorem dX8_typed_32 : decode cX8_typed 32 = .ok (.ldc 138, 2) := by decide +kernel
theorem dX8_typed_34 : decode cX8_typed 34 = .ok (.invokespecial 152, 3) := by decide +kernel
theorem dX8_typed_37 : decode cX8_typed 37 = .ok (.athrow, 1) := by decide +kernel
theorem dX8_typed_38 : decode cX8_typed 38 = .ok (.aload_n 0, 1) := by decide +kernel
theorem dX8_typed_39 : decode cX8_typed 39 = .ok (.getfield 19, 3) := by decide +kernel
theorem dX8_typed_42 : decode cX8_typed 42 = .ok (.getfield 153, 3) := by decide +kernel
theorem dX8_typed_45 : decode cX8_typed 45 = .ok (.iload_n 1, 1) := by decide +kernel
theorem dX8_typed_46 : decode cX8_typed 46 = .ok (.iaload, 1) := by decide +kernel
theorem dX8_typed_47 : decode cX8_typed 47 = .ok (.ireturn, 1) := by decide +kernel
set_option maxRecDepth 20000 in
theorem ggX8_cost_X3_renew : GoodIn wsX8_cost wsX3_renew := goodIn_r _ [7, 8, 9, 10, 11, 12, 13, 14, 15, 16, 17, 18, 19, 20, 21, 22, 23, 24, 25, 26, 27, 28, 29, 30, 31, 32, 33, 34, 35, 36, 37, 38, 39, 40, 41, 42, 43, 44, 45, 46, 47, 48, 49, 50, 51, 52, 53, 54, 55, 56, 57, 58, 59, 60, 61, 62, 63, 64, 65, 66, 67, 68, 69, 70, 71, 72, 73, 74, 75, 76, 77, 78, 79, 80, 81, 82, 83, 84, 85, 86, 87, 88, 89, 90, 91, 92, 93, 94, 95, 96, 97, 98, 99, 100, 101, 5, 102, 103, 104, 105, 106, 107, 108, 109, 110, 111, 112, 113, 114, 115, 116, 117, 118, 119, 120, 121, 122, 123, 124, 125, 126, 127, 128, 129, 130, 131, 132, 133, 134, 135, 136, 137, 138, 139, 140, 141, 142, 143, 144, 145, 146, 147, 148, 149, 150, 151, 152, 153, 154, 155, 156, 157, 158, 159, 160, 161, 162, 163, 164, 173, 174, 175, 176, 177, 178, 179, 180, 181, 182, 183, 184, 185, 186, 187, 188, 189, 190, 191, 192, 193, 194, 195, 196, 197, 198, 199, 200, 201, 202, 203, 204, 205, 206, 207, 208, 209, 210, 211, 212, 213, 214, 215, 216, 217, 218, 219, 220, 221, 222, 223] (by decide +kernel) (by decide +kernel)
set_option maxRecDepth 20000 in
theorem gX8_cost_X3_renew_n156 : GoodIn wsX8_cost (wsX3_renew) := ggX8_cost_X3_renew
theorem dX8_cost_0 : decode cX8_cost 0 = .ok (.aload_n 0, 1) := by decide +kernel
theorem dX8_cost_1 : decode cX8_cost 1 = .ok (.getfield 60, 3) := by decide +kernel
theorem dX8_cost_4 : decode cX8_cost 4 = .ok (.invokevirtual 156, 3) := by decide +kernel
theorem dX8_cost_7 : decode cX8_cost 7 = .ok (.aload_n 0, 1) := by decide +kernel
theorem dX8_cost_8 : decode cX8_cost 8 = .ok (.getfield 60, 3) := by decide +kernel
theorem dX8_cost_11 : decode cX8_cost 11 = .ok (.getfield 159, 3) := by decide +kernel
theorem dX8_cost_14 : decode cX8_cost 14 = .ok (.ldc 162, 2) := by decide +kernel
theorem dX8_cost_16 : decode cX8_cost 16 = .ok (.if_icmp .lt 8, 3) := by decide +kernel
theorem dX8_cost_19 : decode cX8_cost 19 = .ok (.ldc 163, 2) := by decide +kernel
theorem dX8_cost_21 : decode cX8_cost 21 = .ok (.goto 10, 3) := by decide +kernel
theorem dX8_cost_24 : decode cX8_cost 24 = .ok (.aload_n 0, 1) := by decide +kernel
theorem dX8_cost_25 : decode cX8_cost 25 = .ok (.getfield 60, 3) := by decide +kernel
theorem dX8_cost_28 : decode cX8_cost 28 = .ok (.getfield 159, 3) := by decide +kernel
theorem dX8_cost_31 : decode cX8_cost 31 = .ok (.ireturn, 1) := by decide +kernel
set_option maxRecDepth 20000 in
theorem ggX8_parts_X3_renew : GoodIn wsX8_parts wsX3_renew := goodIn_r _ [5, 6, 7, 8, 9, 10, 11, 12, 13, 14, 15, 16, 17, 18, 19, 20, 21, 22, 23, 24, 25, 26, 27, 28, 29, 30, 31, 32, 33, 34, 35, 36, 37, 38, 39, 40, 41, 42, 43, 44, 45, 46, 47, 48, 49, 50, 51, 52, 53, 54, 55, 56, 57, 58, 59, 60, 61, 62, 63, 64, 65, 66, 67, 68, 69, 70, 71, 72, 73, 74, 75, 76, 77, 78, 79, 80, 81, 82, 83, 84, 85, 86, 87, 88, 89, 90, 91, 92, 93, 94, 95, 96, 97, 98, 99, 3, 100, 101, 102, 103, 104, 105, 106, 107, 108, 109, 110, 111, 112, 113, 114, 115, 116, 117, 118, 119, 120, 121, 122, 123, 124, 125, 126, 127, 128, 129, 130, 131, 132, 133, 134, 135, 136, 137, 138, 139, 140, 141, 142, 143, 144, 145, 146, 147, 148, 149, 150, 151, 152, 153, 154, 155, 156, 157, 158, 159, 160, 161, 162, 171, 172, 173, 174, 175, 176, 177, 178, 179, 180, 181, 182, 183, 184, 185, 186, 187, 188, 189, 190, 191, 192, 193, 194, 195, 196, 197, 198, 199, 200, 201, 202, 203, 204, 205, 206, 207, 208, 209, 210, 211, 212, 213, 214, 215, 216, 217, 218, 219, 220, 221] (by decide +kernel) (by decide +kernel)
set_option maxRecDepth 20000 in
theorem gX8_parts_X3_renew_n156 : GoodIn wsX8_parts (wsX3_renew) := ggX8_parts_X3_renew
theorem dX8_parts_0 : decode cX8_parts 0 = .ok (.aload_n 0, 1) := by decide +kernel
theorem dX8_parts_1 : decode cX8_parts 1 = .ok (.getfield 60, 3) := by decide +kernel
theorem dX8_parts_4 : decode cX8_parts 4 = .ok (.invokevirtual 156, 3) := by decide +kernel
theorem dX8_parts_7 : decode cX8_parts 7 = .ok (.aload_n 0, 1) := by decide +kernel
theorem dX8_parts_8 : decode cX8_parts 8 = .ok (.getfield 60, 3) := by decide +kernel
theorem dX8_parts_11 : decode cX8_parts 11 = .ok (.getfield 164, 3) := by decide +kernel
theorem dX8_parts_14 : decode cX8_parts 14 = .ok (.ireturn, 1) := by decide +kernel
set_option maxRecDepth 20000 in
theorem ggX8_part_X3_renew : GoodIn wsX8_part wsX3_renew := goodIn_r _ [9, 10, 11, 12, 13, 14, 15, 16, 17, 18, 19, 20, 21, 22, 23, 24, 25, 26, 27, 28, 29, 30, 31, 32, 33, 34, 35, 36, 37, 38, 39, 40, 41, 42, 43, 44, 45, 46, 47, 48, 49, 50, 51, 52, 53, 54, 55, 56, 57, 58, 59, 60, 61, 62, 63, 64, 65, 66, 67, 68, 69, 70, 71, 72, 73, 74, 75, 76, 77, 78, 79, 80, 81, 82, 83, 84, 85, 86, 87, 88, 89, 90, 91, 92, 93, 94, 95, 96, 97, 98, 99, 100, 101, 102, 103, 7, 104, 105, 106, 107, 108, 109, 110, 111, 112, 113, 114, 115, 116, 117, 118, 119, 120, 121, 122, 123, 124, 125, 126, 127, 128, 129, 130, 131, 132, 133, 134, 135, 136, 137, 138, 139, 140, 141, 142, 143, 144, 145, 146, 147, 148, 149, 150, 151, 152, 153, 154, 155, 156, 157, 158, 159, 160, 161, 162, 163, 164, 165, 166, 177, 178, 179, 180, 181, 182, 183, 184, 185, 186, 187, 188, 189, 190, 191, 192, 193, 194, 195, 196, 197, 198, 199, 200, 201, 202, 203, 204, 205, 206, 207, 208, 209, 210, 211, 212, 213, 214, 215, 216, 217, 218, 219, 220, 221, 222, 223, 224, 225, 226, 227] (by decide +kernel) (by decide +kernel)
set_option maxRecDepth 20000 in
theorem gX8_part_X3_renew_n156 : GoodIn wsX8_part (wsX3_renew) := ggX8_part_X3_renew
set_option maxRecDepth 20000 in
theorem ggX8_part_X8_wordOf : GoodIn wsX8_part wsX8_wordOf := goodIn_r _ [112] (by decide +kernel) (by decide +kernel)
set_option maxRecDepth 20000 in
theorem gX8_part_X8_wordOf : GoodIn wsX8_part (va_wsS RX8 176 yX8_wordOf wsX8_wordOf) := goodIn_app (goodIn_of _ (by decide +kernel)) ggX8_part_X8_wordOf
set_option maxRecDepth 20000 in
theorem ggX8_part_X8_endingOf : GoodIn wsX8_part wsX8_endingOf := goodIn_r _ [114] (by decide +kernel) (by decide +kernel)
set_option maxRecDepth 20000 in
theorem gX8_part_X8_endingOf : GoodIn wsX8_part (va_wsS RX8 180 yX8_endingOf wsX8_endingOf) := goodIn_app (goodIn_of _ (by decide +kernel)) ggX8_part_X8_endingOf
set_option maxRecDepth 20000 in
theorem ggX8_part_X1_kindOf : GoodIn wsX8_part wsX1_kindOf := goodIn_r _ [141, 142, 111, 78, 112, 209, 210, 211, 212, 213, 214, 215, 216, 217, 218, 219, 220, 221, 222, 223, 224, 225, 226, 227] (by decide +kernel) (by decide +kernel)
set_option maxRecDepth 20000 in
theorem gX8_part_X1_kindOf_n183 : GoodIn wsX8_part (wsX1_kindOf) := ggX8_part_X1_kindOf
theorem dX8_part_0 : decode cX8_part 0 = .ok (.aload_n 0, 1) := by decide +kernel
theorem dX8_part_1 : decode cX8_part 1 = .ok (.getfield 60, 3) := by decide +kernel
theorem dX8_part_4 : decode cX8_part 4 = .ok (.invokevirtual 156, 3) := by decide +kernel
theorem dX8_part_7 : decode cX8_part 7 = .ok (.iload_n 1, 1) := by decide +kernel
theorem dX8_part_8 : decode cX8_part 8 = .ok (.ifCond .lt 14, 3) := by decide +kernel
theorem dX8_part_11 : decode cX8_part 11 = .ok (.iload_n 1, 1) := by decide +kernel
theorem dX8_part_12 : decode cX8_part 12 = .ok (.aload_n 0, 1) := by decide +kernel
theorem dX8_part_13 : decode cX8_part 13 = .ok (.getfield 60, 3) := by decide +kernel
theorem dX8_part_16 : decode cX8_part 16 = .ok (.getfield 164, 3) := by decide +kernel
theorem dX8_part_19 : decode cX8_part 19 = .ok (.if_icmp .lt 13, 3) := by decide +kernel
theorem dX8_part_22 : decode cX8_part 22 = .ok (.new 150, 3) := by decide +kernel
theorem dX8_part_25 : decode cX8_part 25 = .ok (.dup, 1) := by decide +kernel
theorem dX8_part_26 : decode cX8_part 26 = .ok (.ldc 165, 2) := by decide +kernel
theorem dX8_part_28 : decode cX8_part 28 = .ok (.invokespecial 152, 3) := by decide +kernel
theorem dX8_part_31 : decode cX8_part 31 = .ok (.athrow, 1) := by decide +kernel
theorem dX8_part_32 : decode cX8_part 32 = .ok (.iload_n 2, 1) := by decide +kernel
theorem dX8_part_33 : decode cX8_part 33 = .ok (.tableswitch 142 0 6 #[43, 53, 63, 76, 89, 106, 116], 43) := by decide +kernel
theorem dX8_part_76 : decode cX8_part 76 = .ok (.aload_n 0, 1) := by decide +kernel
theorem dX8_part_77 : decode cX8_part 77 = .ok (.getfield 60, 3) := by decide +kernel
theorem dX8_part_80 : decode cX8_part 80 = .ok (.getfield 167, 3) := by decide +kernel
theorem dX8_part_83 : decode cX8_part 83 = .ok (.iload_n 1, 1) := by decide +kernel
theorem dX8_part_84 : decode cX8_part 84 = .ok (.iaload, 1) := by decide +kernel
theorem dX8_part_85 : decode cX8_part 85 = .ok (.ireturn, 1) := by decide +kernel
theorem dX8_part_86 : decode cX8_part 86 = .ok (.aload_n 0, 1) := by decide +kernel
theorem dX8_part_87 : decode cX8_part 87 = .ok (.getfield 60, 3) := by decide +kernel
theorem dX8_part_90 : decode cX8_part 90 = .ok (.getfield 170, 3) := by decide +kernel
theorem dX8_part_93 : decode cX8_part 93 = .ok (.iload_n 1, 1) := by decide +kernel
theorem dX8_part_94 : decode cX8_part 94 = .ok (.iaload, 1) := by decide +kernel
theorem dX8_part_95 : decode cX8_part 95 = .ok (.ireturn, 1) := by decide +kernel
theorem dX8_part_96 : decode cX8_part 96 = .ok (.aload_n 0, 1) := by decide +kernel
theorem dX8_part_97 : decode cX8_part 97 = .ok (.getfield 60, 3) := by decide +kernel
theorem dX8_part_100 : decode cX8_part 100 = .ok (.getfield 173, 3) := by decide +kernel
theorem dX8_part_103 : decode cX8_part 103 = .ok (.iload_n 1, 1) := by decide +kernel
theorem dX8_part_104 : decode cX8_part 104 = .ok (.iaload, 1) := by decide +kernel
theorem dX8_part_105 : decode cX8_part 105 = .ok (.invokestatic 176, 3) := by decide +kernel
theorem dX8_part_108 : decode cX8_part 108 = .ok (.ireturn, 1) := by decide +kernel
theorem dX8_part_109 : decode cX8_part 109 = .ok (.aload_n 0, 1) := by decide +kernel
theorem dX8_part_110 : decode cX8_part 110 = .ok (.getfield 60, 3) := by decide +kernel
theorem dX8_part_113 : decode cX8_part 113 = .ok (.getfield 173, 3) := by decide +kernel
theorem dX8_part_116 : decode cX8_part 116 = .ok (.iload_n 1, 1) := by decide +kernel
theorem dX8_part_117 : decode cX8_part 117 = .ok (.iaload, 1) := by decide +kernel
theorem dX8_part_118 : decode cX8_part 118 = .ok (.invokestatic 180, 3) := by decide +kernel
theorem dX8_part_121 : decode cX8_part 121 = .ok (.ireturn, 1) := by decide +kernel
theorem dX8_part_122 : decode cX8_part 122 = .ok (.aload_n 0, 1) := by decide +kernel
theorem dX8_part_123 : decode cX8_part 123 = .ok (.getfield 12, 3) := by decide +kernel
theorem dX8_part_126 : decode cX8_part 126 = .ok (.aload_n 0, 1) := by decide +kernel
theorem dX8_part_127 : decode cX8_part 127 = .ok (.getfield 60, 3) := by decide +kernel
theorem dX8_part_130 : decode cX8_part 130 = .ok (.getfield 173, 3) := by decide +kernel
theorem dX8_part_133 : decode cX8_part 133 = .ok (.iload_n 1, 1) := by decide +kernel
theorem dX8_part_134 : decode cX8_part 134 = .ok (.iaload, 1) := by decide +kernel
theorem dX8_part_135 : decode cX8_part 135 = .ok (.invokevirtual 183, 3) := by decide +kernel
theorem dX8_part_138 : decode cX8_part 138 = .ok (.ireturn, 1) := by decide +kernel
theorem dX8_part_139 : decode cX8_part 139 = .ok (.aload_n 0, 1) := by decide +kernel
theorem dX8_part_140 : decode cX8_part 140 = .ok (.getfield 60, 3) := by decide +kernel
theorem dX8_part_143 : decode cX8_part 143 = .ok (.getfield 186, 3) := by decide +kernel
theorem dX8_part_146 : decode cX8_part 146 = .ok (.iload_n 1, 1) := by decide +kernel
theorem dX8_part_147 : decode cX8_part 147 = .ok (.iaload, 1) := by decide +kernel
theorem dX8_part_148 : decode cX8_part 148 = .ok (.ireturn, 1) := by decide +kernel
theorem dX8_part_149 : decode cX8_part 149 = .ok (.aload_n 0, 1) := by decide +kernel
theorem dX8_part_150 : decode cX8_part 150 = .ok (.getfield 19, 3) := by decide +kernel
theorem dX8_part_153 : decode cX8_part 153 = .ok (.getfield 189, 3) := by decide +kernel
theorem dX8_part_156 : decode cX8_part 156 = .ok (.aload_n 0, 1) := by decide +kernel
theorem dX8_part_157 : decode cX8_part 157 = .ok (.getfield 60, 3) := by decide +kernel
theorem dX8_part_160 : decode cX8_part 160 = .ok (.getfield 167, 3) := by decide +kernel
theorem dX8_part_163 : decode cX8_part 163 = .ok (.iload_n 1, 1) := by decide +kernel
theorem dX8_part_164 : decode cX8_part 164 = .ok (.iaload, 1) := by decide +kernel
theorem dX8_part_165 : decode cX8_part 165 = .ok (.iaload, 1) := by decide +kernel
theorem dX8_part_166 : decode cX8_part 166 = .ok (.ifCond .eq 7, 3) := by decide +kernel
theorem dX8_part_169 : decode cX8_part 169 = .ok (.iconst 1, 1) := by decide +kernel
theorem dX8_part_170 : decode cX8_part 170 = .ok (.goto 4, 3) := by decide +kernel
theorem dX8_part_173 : decode cX8_part 173 = .ok (.iconst 0, 1) := by decide +kernel
theorem dX8_part_174 : decode cX8_part 174 = .ok (.ireturn, 1) := by decide +kernel
theorem dX8_part_175 : decode cX8_part 175 = .ok (.new 150, 3) := by decide +kernel
theorem dX8_part_178 : decode cX8_part 178 = .ok (.dup, 1) := by decide +kernel
theorem dX8_part_179 : decode cX8_part 179 = .ok (.ldc 192, 2) := by decide +kernel
theorem dX8_part_181 : decode cX8_part 181 = .ok (.invokespecial 152, 3) := by decide +kernel
theorem dX8_part_184 : decode cX8_part 184 = .ok (.athrow, 1) := by decide +kernel
set_option maxRecDepth 20000 in
theorem ggX8_sign_X3_renew : GoodIn wsX8_sign wsX3_renew := goodIn_r _ [9, 10, 11, 12, 13, 14, 15, 16, 17, 18, 19, 20, 21, 22, 23, 24, 25, 26, 27, 28, 29, 30, 31, 32, 33, 34, 35, 36, 37, 38, 39, 40, 41, 42, 43, 44, 45, 46, 47, 48, 49, 50, 51, 52, 53, 54, 55, 56, 57, 58, 59, 60, 61, 62, 63, 64, 65, 66, 67, 68, 69, 70, 71, 72, 73, 74, 75, 76, 77, 78, 79, 80, 81, 82, 83, 84, 85, 86, 87, 88, 89, 90, 91, 92, 93, 94, 95, 96, 97, 98, 99, 100, 101, 102, 103, 7, 104, 105, 106, 107, 108, 109, 110, 111, 112, 113, 114, 115, 116, 117, 118, 119, 120, 121, 122, 123, 124, 125, 126, 127, 128, 129, 130, 131, 132, 133, 134, 135, 136, 137, 138, 139, 140, 141, 142, 143, 144, 145, 146, 147, 148, 149, 150, 151, 152, 153, 154, 155, 156, 157, 158, 159, 160, 161, 162, 163, 164, 165, 166, 186, 187, 188, 189, 190, 191, 192, 193, 194, 195, 196, 197, 198, 199, 200, 201, 202, 203, 204, 205, 206, 207, 208, 209, 210, 211, 212, 213, 214, 215, 216, 217, 218, 219, 220, 221, 222, 223, 224, 225, 226, 227, 228, 229, 230, 231, 232, 233, 234, 235, 236] (by decide +kernel) (by decide +kernel)
set_option maxRecDepth 20000 in
theorem gX8_sign_X3_renew_n156 : GoodIn wsX8_sign (wsX3_renew) := ggX8_sign_X3_renew
set_option maxRecDepth 20000 in
theorem ggX8_sign_X1_signsOf : GoodIn wsX8_sign wsX1_signsOf := goodIn_r _ [169, 170, 111, 78, 112, 171, 172, 113, 114, 218, 219, 220, 221, 222, 223, 224, 225, 226, 227, 228, 229, 230, 231, 232, 233, 234, 235, 236] (by decide +kernel) (by decide +kernel)
set_option maxRecDepth 20000 in
theorem gX8_sign_X1_signsOf_n194 : GoodIn wsX8_sign (wsX1_signsOf) := ggX8_sign_X1_signsOf
set_option maxRecDepth 20000 in
theorem ggX8_sign_X1_signAt : GoodIn wsX8_sign wsX1_signAt := goodIn_r _ [175, 176, 170, 113, 78, 114, 177, 167, 168, 94, 169, 111, 112, 171, 172, 218, 219, 220, 221, 222, 223, 224, 225, 226, 227, 228, 229, 230, 231, 232, 233, 234, 235, 236] (by decide +kernel) (by decide +kernel)
set_option maxRecDepth 20000 in
theorem gX8_sign_X1_signAt_n197 : GoodIn wsX8_sign (wsX1_signAt) := ggX8_sign_X1_signAt
theorem dX8_sign_0 : decode cX8_sign 0 = .ok (.aload_n 0, 1) := by decide +kernel
theorem dX8_sign_1 : decode cX8_sign 1 = .ok (.getfield 60, 3) := by decide +kernel
theorem dX8_sign_4 : decode cX8_sign 4 = .ok (.invokevirtual 156, 3) := by decide +kernel
theorem dX8_sign_7 : decode cX8_sign 7 = .ok (.iconst 0, 1) := by decide +kernel
theorem dX8_sign_8 : decode cX8_sign 8 = .ok (.istore_n 2, 1) := by decide +kernel
theorem dX8_sign_9 : decode cX8_sign 9 = .ok (.iconst 0, 1) := by decide +kernel
theorem dX8_sign_10 : decode cX8_sign 10 = .ok (.istore_n 3, 1) := by decide +kernel
theorem dX8_sign_11 : decode cX8_sign 11 = .ok (.iload_n 3, 1) := by decide +kernel
theorem dX8_sign_12 : decode cX8_sign 12 = .ok (.aload_n 0, 1) := by decide +kernel
theorem dX8_sign_13 : decode cX8_sign 13 = .ok (.getfield 60, 3) := by decide +kernel
theorem dX8_sign_16 : decode cX8_sign 16 = .ok (.getfield 164, 3) := by decide +kernel
theorem dX8_sign_19 : decode cX8_sign 19 = .ok (.if_icmp .ge 82, 3) := by decide +kernel
theorem dX8_sign_22 : decode cX8_sign 22 = .ok (.aload_n 0, 1) := by decide +kernel
theorem dX8_sign_23 : decode cX8_sign 23 = .ok (.getfield 12, 3) := by decide +kernel
theorem dX8_sign_26 : decode cX8_sign 26 = .ok (.aload_n 0, 1) := by decide +kernel
theorem dX8_sign_27 : decode cX8_sign 27 = .ok (.getfield 60, 3) := by decide +kernel
theorem dX8_sign_30 : decode cX8_sign 30 = .ok (.getfield 173, 3) := by decide +kernel
theorem dX8_sign_33 : decode cX8_sign 33 = .ok (.iload_n 3, 1) := by decide +kernel
theorem dX8_sign_34 : decode cX8_sign 34 = .ok (.iaload, 1) := by decide +kernel
theorem dX8_sign_35 : decode cX8_sign 35 = .ok (.invokevirtual 194, 3) := by decide +kernel
theorem dX8_sign_38 : decode cX8_sign 38 = .ok (.istore 4, 2) := by decide +kernel
theorem dX8_sign_40 : decode cX8_sign 40 = .ok (.iload_n 1, 1) := by decide +kernel
theorem dX8_sign_41 : decode cX8_sign 41 = .ok (.iload_n 2, 1) := by decide +kernel
theorem dX8_sign_42 : decode cX8_sign 42 = .ok (.if_icmp .lt 48, 3) := by decide +kernel
theorem dX8_sign_45 : decode cX8_sign 45 = .ok (.iload_n 1, 1) := by decide +kernel
theorem dX8_sign_46 : decode cX8_sign 46 = .ok (.iload_n 2, 1) := by decide +kernel
theorem dX8_sign_47 : decode cX8_sign 47 = .ok (.iload 4, 2) := by decide +kernel
theorem dX8_sign_49 : decode cX8_sign 49 = .ok (.iadd, 1) := by decide +kernel
theorem dX8_sign_50 : decode cX8_sign 50 = .ok (.if_icmp .ge 40, 3) := by decide +kernel
theorem dX8_sign_53 : decode cX8_sign 53 = .ok (.aload_n 0, 1) := by decide +kernel
theorem dX8_sign_54 : decode cX8_sign 54 = .ok (.getfield 12, 3) := by decide +kernel
theorem dX8_sign_57 : decode cX8_sign 57 = .ok (.aload_n 0, 1) := by decide +kernel
theorem dX8_sign_58 : decode cX8_sign 58 = .ok (.getfield 60, 3) := by decide +kernel
theorem dX8_sign_61 : decode cX8_sign 61 = .ok (.getfield 173, 3) := by decide +kernel
theorem dX8_sign_64 : decode cX8_sign 64 = .ok (.iload_n 3, 1) := by decide +kernel
theorem dX8_sign_65 : decode cX8_sign 65 = .ok (.iaload, 1) := by decide +kernel
theorem dX8_sign_66 : decode cX8_sign 66 = .ok (.iload_n 1, 1) := by decide +kernel
theorem dX8_sign_67 : decode cX8_sign 67 = .ok (.iload_n 2, 1) := by decide +kernel
theorem dX8_sign_68 : decode cX8_sign 68 = .ok (.isub, 1) := by decide +kernel
theorem dX8_sign_69 : decode cX8_sign 69 = .ok (.aload_n 0, 1) := by decide +kernel
theorem dX8_sign_70 : decode cX8_sign 70 = .ok (.getfield 19, 3) := by decide +kernel
theorem dX8_sign_73 : decode cX8_sign 73 = .ok (.getfield 153, 3) := by decide +kernel
theorem dX8_sign_76 : decode cX8_sign 76 = .ok (.aload_n 0, 1) := by decide +kernel
theorem dX8_sign_77 : decode cX8_sign 77 = .ok (.getfield 60, 3) := by decide +kernel
theorem dX8_sign_80 : decode cX8_sign 80 = .ok (.getfield 167, 3) := by decide +kernel
theorem dX8_sign_83 : decode cX8_sign 83 = .ok (.iload_n 3, 1) := by decide +kernel
theorem dX8_sign_84 : decode cX8_sign 84 = .ok (.iaload, 1) := by decide +kernel
theorem dX8_sign_85 : decode cX8_sign 85 = .ok (.iaload, 1) := by decide +kernel
theorem dX8_sign_86 : decode cX8_sign 86 = .ok (.invokevirtual 197, 3) := by decide +kernel
theorem dX8_sign_89 : decode cX8_sign 89 = .ok (.ireturn, 1) := by decide +kernel
theorem dX8_sign_90 : decode cX8_sign 90 = .ok (.iload_n 2, 1) := by decide +kernel
theorem dX8_sign_91 : decode cX8_sign 91 = .ok (.iload 4, 2) := by decide +kernel
theorem dX8_sign_93 : decode cX8_sign 93 = .ok (.iadd, 1) := by decide +kernel
theorem dX8_sign_94 : decode cX8_sign 94 = .ok (.istore_n 2, 1) := by decide +kernel
theorem dX8_sign_95 : decode cX8_sign 95 = .ok (.iinc 3 1, 3) := by decide +kernel
theorem dX8_sign_98 : decode cX8_sign 98 = .ok (.goto (-87), 3) := by decide +kernel
theorem dX8_sign_101 : decode cX8_sign 101 = .ok (.iload_n 1, 1) := by decide +kernel
theorem dX8_sign_102 : decode cX8_sign 102 = .ok (.iconst (-1), 1) := by decide +kernel
theorem dX8_sign_103 : decode cX8_sign 103 = .ok (.if_icmp .ne 5, 3) := by decide +kernel
theorem dX8_sign_106 : decode cX8_sign 106 = .ok (.iload_n 2, 1) := by decide +kernel
theorem dX8_sign_107 : decode cX8_sign 107 = .ok (.ireturn, 1) := by decide +kernel
theorem dX8_sign_108 : decode cX8_sign 108 = .ok (.new 150, 3) := by decide +kernel
theorem dX8_sign_111 : decode cX8_sign 111 = .ok (.dup, 1) := by decide +kernel
theorem dX8_sign_112 : decode cX8_sign 112 = .ok (.ldc 201, 2) := by decide +kernel
theorem dX8_sign_114 : decode cX8_sign 114 = .ok (.invokespecial 152, 3) := by decide +kernel
theorem dX8_sign_117 : decode cX8_sign 117 = .ok (.athrow, 1) := by decide +kernel
set_option maxRecDepth 20000 in
theorem ggX8_choices_X3_renew : GoodIn wsX8_choices wsX3_renew := goodIn_r _ [8, 9, 10, 11, 12, 13, 14, 15, 16, 17, 18, 19, 20, 21, 22, 23, 24, 25, 26, 27, 28, 29, 30, 31, 32, 33, 34, 35, 36, 37, 38, 39, 40, 41, 42, 43, 44, 45, 46, 47, 48, 49, 50, 51, 52, 53, 54, 55, 56, 57, 58, 59, 60, 61, 62, 63, 64, 65, 66, 67, 68, 69, 70, 71, 72, 73, 74, 75, 76, 77, 78, 79, 80, 81, 82, 83, 84, 85, 86, 87, 88, 89, 90, 91, 92, 93, 94, 95, 96, 97, 98, 99, 100, 101, 102, 6, 103, 104, 105, 106, 107, 108, 109, 110, 111, 112, 113, 114, 115, 116, 117, 118, 119, 120, 121, 122, 123, 124, 125, 126, 127, 128, 129, 130, 131, 132, 133, 134, 135, 136, 137, 138, 139, 140, 141, 142, 143, 144, 145, 146, 147, 148, 149, 150, 151, 152, 153, 154, 155, 156, 157, 158, 159, 160, 161, 162, 163, 164, 165, 234, 235, 236, 237, 238, 239, 240, 241, 242, 243, 244, 245, 246, 247, 248, 249, 250, 251, 252, 253, 254, 255, 256, 257, 258, 259, 260, 261, 262, 263, 264, 265, 266, 267, 268, 269, 270, 271, 272, 273, 274, 275, 276, 277, 278, 279, 280, 281, 282, 283, 284] (by decide +kernel) (by decide +kernel)
set_option maxRecDepth 20000 in
theorem gX8_choices_X3_renew_n156 : GoodIn wsX8_choices (wsX3_renew) := ggX8_choices_X3_renew
set_option maxRecDepth 20000 in
theorem ggX8_choices_X2_list : GoodIn wsX8_choices wsX2_list := goodIn_r _ [169, 170, 171, 172, 173, 174, 175, 167, 176, 177, 178, 179, 180, 181, 40, 41, 42, 182, 183, 184, 185, 186, 187, 36, 37, 38, 188, 124, 125, 126, 127, 128, 129, 189, 190, 191, 192, 193, 130, 131, 132, 134, 6, 135, 136, 12, 13, 137, 105, 106, 73, 17, 74, 75, 138, 93, 139, 140, 141, 110, 77, 111, 194, 195, 196, 197, 198, 199, 200, 201, 202, 203, 204, 107, 25, 108, 109, 31, 30, 34, 112, 113, 43, 44, 45, 46, 32, 33, 47, 48, 49, 50, 51, 52, 53, 54, 55, 56, 57, 58, 59, 60, 61, 62, 63, 64, 114, 115, 116, 117, 92, 94, 95, 96, 97, 98, 99, 205, 206, 207, 208, 209, 210, 211, 212, 213, 214, 223, 224, 225, 226, 227, 228, 229, 230, 231, 232, 233, 234, 235, 236, 237, 238, 239, 240, 241, 242, 243, 244, 245, 246, 247, 248, 249, 250, 251, 266, 267, 268, 269, 270, 271, 272, 273, 274, 275, 276, 277, 278, 279, 280, 281, 282, 283, 284, 252, 253, 254, 255, 256, 257, 258, 259, 260, 261, 262, 263, 264, 265] (by decide +kernel) (by decide +kernel)
set_option maxRecDepth 20000 in
theorem gX8_choices_X2_list_n203 : GoodIn wsX8_choices (wsX2_list) := ggX8_choices_X2_list
theorem dX8_choices_0 : decode cX8_choices 0 = .ok (.aload_n 0, 1) := by decide +kernel
theorem dX8_choices_1 : decode cX8_choices 1 = .ok (.getfield 60, 3) := by decide +kernel
theorem dX8_choices_4 : decode cX8_choices 4 = .ok (.invokevirtual 156, 3) := by decide +kernel
theorem dX8_choices_7 : decode cX8_choices 7 = .ok (.aload_n 0, 1) := by decide +kernel
theorem dX8_choices_8 : decode cX8_choices 8 = .ok (.getfield 69, 3) := by decide +kernel
theorem dX8_choices_11 : decode cX8_choices 11 = .ok (.iload_n 1, 1) := by decide +kernel
theorem dX8_choices_12 : decode cX8_choices 12 = .ok (.invokevirtual 203, 3) := by decide +kernel
theorem dX8_choices_15 : decode cX8_choices 15 = .ok (.ifCond .ne 13, 3) := by decide +kernel
theorem dX8_choices_18 : decode cX8_choices 18 = .ok (.new 150, 3) := by decide +kernel
theorem dX8_choices_21 : decode cX8_choices 21 = .ok (.dup, 1) := by decide +kernel
theorem dX8_choices_22 : decode cX8_choices 22 = .ok (.ldc 165, 2) := by decide +kernel
theorem dX8_choices_24 : decode cX8_choices 24 = .ok (.invokespecial 152, 3) := by decide +kernel
theorem dX8_choices_27 : decode cX8_choices 27 = .ok (.athrow, 1) := by decide +kernel
theorem dX8_choices_28 : decode cX8_choices 28 = .ok (.aload_n 0, 1) := by decide +kernel
theorem dX8_choices_29 : decode cX8_choices 29 = .ok (.getfield 69, 3) := by decide +kernel
theorem dX8_choices_32 : decode cX8_choices 32 = .ok (.getfield 207, 3) := by decide +kernel
theorem dX8_choices_35 : decode cX8_choices 35 = .ok (.ireturn, 1) := by decide +kernel
set_option maxRecDepth 20000 in
theorem ggX8_choice_X3_renew : GoodIn wsX8_choice wsX3_renew := goodIn_r _ [8, 9, 10, 11, 12, 13, 14, 15, 16, 17, 18, 19, 20, 21, 22, 23, 24, 25, 26, 27, 28, 29, 30, 31, 32, 33, 34, 35, 36, 37, 38, 39, 40, 41, 42, 43, 44, 45, 46, 47, 48, 49, 50, 51, 52, 53, 54, 55, 56, 57, 58, 59, 60, 61, 62, 63, 64, 65, 66, 67, 68, 69, 70, 71, 72, 73, 74, 75, 76, 77, 78, 79, 80, 81, 82, 83, 84, 85, 86, 87, 88, 89, 90, 91, 92, 93, 94, 95, 96, 97, 98, 99, 100, 101, 102, 6, 103, 104, 105, 106, 107, 108, 109, 110, 111, 112, 113, 114, 115, 116, 117, 118, 119, 120, 121, 122, 123, 124, 125, 126, 127, 128, 129, 130, 131, 132, 133, 134, 135, 136, 137, 138, 139, 140, 141, 142, 143, 144, 145, 146, 147, 148, 149, 150, 151, 152, 153, 154, 155, 156, 157, 158, 159, 160, 161, 162, 163, 164, 165, 236, 237, 238, 239, 240, 241, 242, 243, 244, 245, 246, 247, 248, 249, 250, 251, 252, 253, 254, 255, 256, 257, 258, 259, 260, 261, 262, 263, 264, 265, 266, 267, 268, 269, 270, 271, 272, 273, 274, 275, 276, 277, 278, 279, 280, 281, 282, 283, 284, 285, 286] (by decide +kernel) (by decide +kernel)
set_option maxRecDepth 20000 in
theorem gX8_choice_X3_renew_n156 : GoodIn wsX8_choice (wsX3_renew) := ggX8_choice_X3_renew
set_option maxRecDepth 20000 in
theorem ggX8_choice_X2_list : GoodIn wsX8_choice wsX2_list := goodIn_r _ [169, 170, 171, 172, 173, 174, 175, 167, 176, 177, 178, 179, 180, 181, 40, 41, 42, 182, 183, 184, 185, 186, 187, 36, 37, 38, 188, 124, 125, 126, 127, 128, 129, 189, 190, 191, 192, 193, 130, 131, 132, 134, 6, 135, 136, 12, 13, 137, 105, 106, 73, 17, 74, 75, 138, 93, 139, 140, 141, 110, 77, 111, 194, 195, 196, 197, 198, 199, 200, 201, 202, 203, 204, 107, 25, 108, 109, 31, 30, 34, 112, 113, 43, 44, 45, 46, 32, 33, 47, 48, 49, 50, 51, 52, 53, 54, 55, 56, 57, 58, 59, 60, 61, 62, 63, 64, 114, 115, 116, 117, 92, 94, 95, 96, 97, 98, 99, 205, 206, 207, 208, 209, 210, 211, 212, 213, 214, 225, 226, 227, 228, 229, 230, 231, 232, 233, 234, 235, 236, 237, 238, 239, 240, 241, 242, 243, 244, 245, 246, 247, 248, 249, 250, 251, 252, 253, 268, 269, 270, 271, 272, 273, 274, 275, 276, 277, 278, 279, 280, 281, 282, 283, 284, 285, 286, 254, 255, 256, 257, 258, 259, 260, 261, 262, 263, 264, 265, 266, 267] (by decide +kernel) (by decide +kernel)
set_option maxRecDepth 20000 in
theorem gX8_choice_X2_list_n203 : GoodIn wsX8_choice (wsX2_list) := ggX8_choice_X2_list
set_option maxRecDepth 20000 in
theorem ggX8_choice_X8_wordOf : GoodIn wsX8_choice wsX8_wordOf := goodIn_r _ [111] (by decide +kernel) (by decide +kernel)
set_option maxRecDepth 20000 in
theorem gX8_choice_X8_wordOf : GoodIn wsX8_choice (va_wsS RX8 176 yX8_wordOf wsX8_wordOf) := goodIn_app (goodIn_of _ (by decide +kernel)) ggX8_choice_X8_wordOf
set_option maxRecDepth 20000 in
theorem ggX8_choice_X8_endingOf : GoodIn wsX8_choice wsX8_endingOf := goodIn_r _ [113] (by decide +kernel) (by decide +kernel)
set_option maxRecDepth 20000 in
theorem gX8_choice_X8_endingOf : GoodIn wsX8_choice (va_wsS RX8 180 yX8_endingOf wsX8_endingOf) := goodIn_app (goodIn_of _ (by decide +kernel)) ggX8_choice_X8_endingOf
theorem dX8_choice_0 : decode cX8_choice 0 = .ok (.aload_n 0, 1) := by decide +kernel
theorem dX8_choice_1 : decode cX8_choice 1 = .ok (.getfield 60, 3) := by decide +kernel
theorem dX8_choice_4 : decode cX8_choice 4 = .ok (.invokevirtual 156, 3) := by decide +kernel
theorem dX8_choice_7 : decode cX8_choice 7 = .ok (.aload_n 0, 1) := by decide +kernel
theorem dX8_choice_8 : decode cX8_choice 8 = .ok (.getfield 69, 3) := by decide +kernel
theorem dX8_choice_11 : decode cX8_choice 11 = .ok (.iload_n 1, 1) := by decide +kernel
theorem dX8_choice_12 : decode cX8_choice 12 = .ok (.invokevirtual 203, 3) := by decide +kernel
theorem dX8_choice_15 : decode cX8_choice 15 = .ok (.ifCond .eq 18, 3) := by decide +kernel
theorem dX8_choice_18 : decode cX8_choice 18 = .ok (.iload_n 2, 1) := by decide +kernel
theorem dX8_choice_19 : decode cX8_choice 19 = .ok (.ifCond .lt 14, 3) := by decide +kernel
theorem dX8_choice_22 : decode cX8_choice 22 = .ok (.iload_n 2, 1) := by decide +kernel
theorem dX8_choice_23 : decode cX8_choice 23 = .ok (.aload_n 0, 1) := by decide +kernel
theorem dX8_choice_24 : decode cX8_choice 24 = .ok (.getfield 69, 3) := by decide +kernel
theorem dX8_choice_27 : decode cX8_choice 27 = .ok (.getfield 207, 3) := by decide +kernel
theorem dX8_choice_30 : decode cX8_choice 30 = .ok (.if_icmp .lt 13, 3) := by decide +kernel
theorem dX8_choice_33 : decode cX8_choice 33 = .ok (.new 150, 3) := by decide +kernel
theorem dX8_choice_36 : decode cX8_choice 36 = .ok (.dup, 1) := by decide +kernel
theorem dX8_choice_37 : decode cX8_choice 37 = .ok (.ldc 208, 2) := by decide +kernel
theorem dX8_choice_39 : decode cX8_choice 39 = .ok (.invokespecial 152, 3) := by decide +kernel
theorem dX8_choice_42 : decode cX8_choice 42 = .ok (.athrow, 1) := by decide +kernel
theorem dX8_choice_43 : decode cX8_choice 43 = .ok (.iload_n 3, 1) := by decide +kernel
theorem dX8_choice_44 : decode cX8_choice 44 = .ok (.tableswitch 64 0 2 #[28, 41, 54], 28) := by decide +kernel
theorem dX8_choice_72 : decode cX8_choice 72 = .ok (.aload_n 0, 1) := by decide +kernel
theorem dX8_choice_73 : decode cX8_choice 73 = .ok (.getfield 69, 3) := by decide +kernel
theorem dX8_choice_76 : decode cX8_choice 76 = .ok (.getfield 210, 3) := by decide +kernel
theorem dX8_choice_79 : decode cX8_choice 79 = .ok (.iload_n 2, 1) := by decide +kernel
theorem dX8_choice_80 : decode cX8_choice 80 = .ok (.iaload, 1) := by decide +kernel
theorem dX8_choice_81 : decode cX8_choice 81 = .ok (.invokestatic 176, 3) := by decide +kernel
theorem dX8_choice_84 : decode cX8_choice 84 = .ok (.ireturn, 1) := by decide +kernel
theorem dX8_choice_85 : decode cX8_choice 85 = .ok (.aload_n 0, 1) := by decide +kernel
theorem dX8_choice_86 : decode cX8_choice 86 = .ok (.getfield 69, 3) := by decide +kernel
theorem dX8_choice_89 : decode cX8_choice 89 = .ok (.getfield 210, 3) := by decide +kernel
theorem dX8_choice_92 : decode cX8_choice 92 = .ok (.iload_n 2, 1) := by decide +kernel
theorem dX8_choice_93 : decode cX8_choice 93 = .ok (.iaload, 1) := by decide +kernel
theorem dX8_choice_94 : decode cX8_choice 94 = .ok (.invokestatic 180, 3) := by decide +kernel
theorem dX8_choice_97 : decode cX8_choice 97 = .ok (.ireturn, 1) := by decide +kernel
theorem dX8_choice_98 : decode cX8_choice 98 = .ok (.aload_n 0, 1) := by decide +kernel
theorem dX8_choice_99 : decode cX8_choice 99 = .ok (.getfield 69, 3) := by decide +kernel
theorem dX8_choice_102 : decode cX8_choice 102 = .ok (.getfield 211, 3) := by decide +kernel
theorem dX8_choice_105 : decode cX8_choice 105 = .ok (.iload_n 2, 1) := by decide +kernel
theorem dX8_choice_106 : decode cX8_choice 106 = .ok (.iaload, 1) := by decide +kernel
theorem dX8_choice_107 : decode cX8_choice 107 = .ok (.ireturn, 1) := by decide +kernel
theorem dX8_choice_108 : decode cX8_choice 108 = .ok (.new 150, 3) := by decide +kernel
theorem dX8_choice_111 : decode cX8_choice 111 = .ok (.dup, 1) := by decide +kernel
theorem dX8_choice_112 : decode cX8_choice 112 = .ok (.ldc 212, 2) := by decide +kernel
theorem dX8_choice_114 : decode cX8_choice 114 = .ok (.invokespecial 152, 3) := by decide +kernel
theorem dX8_choice_117 : decode cX8_choice 117 = .ok (.athrow, 1) := by decide +kernel
set_option maxRecDepth 20000 in
theorem ggX8_choose_X3_renew : GoodIn wsX8_choose wsX3_renew := goodIn_r _ [9, 10, 11, 12, 13, 14, 15, 16, 17, 18, 19, 20, 21, 22, 23, 24, 25, 26, 27, 28, 29, 30, 31, 32, 33, 34, 35, 36, 37, 38, 39, 40, 41, 42, 43, 44, 45, 46, 47, 48, 49, 50, 51, 52, 53, 54, 55, 56, 57, 58, 59, 60, 61, 62, 63, 64, 65, 66, 67, 68, 69, 70, 71, 72, 73, 74, 75, 76, 77, 78, 79, 80, 81, 82, 83, 84, 85, 86, 87, 88, 89, 90, 91, 92, 93, 94, 95, 96, 97, 98, 99, 100, 101, 102, 103, 7, 104, 105, 106, 107, 108, 109, 110, 111, 112, 113, 114, 115, 116, 117, 118, 119, 120, 121, 122, 123, 124, 125, 126, 127, 128, 129, 130, 131, 132, 133, 134, 135, 136, 137, 138, 139, 140, 141, 142, 143, 144, 145, 146, 147, 148, 149, 150, 151, 152, 153, 154, 155, 156, 157, 158, 159, 160, 161, 162, 163, 164, 165, 166, 279, 280, 281, 282, 283, 284, 285, 286, 287, 288, 289, 290, 291, 292, 293, 294, 295, 296, 297, 298, 299, 300, 301, 302, 303, 304, 305, 306, 307, 308, 309, 310, 311, 312, 313, 314, 315, 316, 317, 318, 319, 320, 321, 322, 323, 324, 325, 326, 327, 328, 329] (by decide +kernel) (by decide +kernel)
set_option maxRecDepth 20000 in
theorem gX8_choose_X3_renew_n156 : GoodIn wsX8_choose (wsX3_renew) := ggX8_choose_X3_renew
set_option maxRecDepth 20000 in
theorem ggX8_choose_X2_list : GoodIn wsX8_choose wsX2_list := goodIn_r _ [170, 171, 172, 173, 174, 175, 176, 168, 177, 178, 179, 180, 181, 182, 41, 42, 43, 183, 184, 185, 186, 187, 188, 37, 38, 39, 189, 125, 126, 127, 128, 129, 130, 190, 191, 192, 193, 194, 131, 132, 133, 135, 7, 136, 137, 13, 14, 138, 106, 107, 74, 18, 75, 76, 139, 94, 140, 141, 142, 111, 78, 112, 195, 196, 197, 198, 199, 200, 201, 202, 203, 204, 205, 108, 26, 109, 110, 32, 31, 35, 113, 114, 44, 45, 46, 47, 33, 34, 48, 49, 50, 51, 52, 53, 54, 55, 56, 57, 58, 59, 60, 61, 62, 63, 64, 65, 115, 116, 117, 118, 93, 95, 96, 97, 98, 99, 100, 206, 207, 208, 209, 210, 211, 212, 213, 214, 215, 268, 269, 270, 271, 272, 273, 274, 275, 276, 277, 278, 279, 280, 281, 282, 283, 284, 285, 286, 287, 288, 289, 290, 291, 292, 293, 294, 295, 296, 311, 312, 313, 314, 315, 316, 317, 318, 319, 320, 321, 322, 323, 324, 325, 326, 327, 328, 329, 297, 298, 299, 300, 301, 302, 303, 304, 305, 306, 307, 308, 309, 310] (by decide +kernel) (by decide +kernel)
set_option maxRecDepth 20000 in
theorem gX8_choose_X2_list_n203 : GoodIn wsX8_choose (wsX2_list) := ggX8_choose_X2_list
set_option maxRecDepth 20000 in
theorem ggX8_choose_X8_beginAct : GoodIn wsX8_choose wsX8_beginAct := goodIn_r _ [219, 220, 5, 221, 222, 223, 224, 225, 226, 227, 228, 126, 229, 230, 37, 38, 39, 231, 232, 233, 234, 235, 236, 237, 130, 238, 239, 240, 241, 129, 242, 84, 85, 86, 243, 244, 245, 78, 246, 3, 4, 247, 7, 248, 249, 10, 250, 168, 251, 252, 178, 172, 260, 261, 262, 263, 264, 265, 266, 267, 330, 331, 332, 293, 294, 295, 296, 279, 280, 281, 282, 283, 284, 285, 286, 287, 288, 289, 290, 291, 292, 268, 269, 270, 271, 272, 273, 274, 275, 276, 277, 278] (by decide +kernel) (by decide +kernel)
set_option maxRecDepth 20000 in
theorem gX8_choose_X8_beginAct : GoodIn wsX8_choose (wsV RX8 143 RX8 yX8_beginAct wsX8_beginAct) := goodIn_app (goodIn_of _ (by decide +kernel)) ggX8_choose_X8_beginAct
set_option maxRecDepth 20000 in
theorem ggX8_choose_X4_fix : GoodIn wsX8_choose wsX4_fix := goodIn_r _ [255, 238, 130, 77, 78, 79, 256, 257, 258, 126, 259, 129, 293, 294, 295, 296] (by decide +kernel) (by decide +kernel)
set_option maxRecDepth 20000 in
theorem gX8_choose_X4_fix_n214 : GoodIn wsX8_choose (wsX4_fix) := ggX8_choose_X4_fix
theorem dX8_choose_0 : decode cX8_choose 0 = .ok (.aload_n 0, 1) := by decide +kernel
theorem dX8_choose_1 : decode cX8_choose 1 = .ok (.getfield 60, 3) := by decide +kernel
theorem dX8_choose_4 : decode cX8_choose 4 = .ok (.invokevirtual 156, 3) := by decide +kernel
theorem dX8_choose_7 : decode cX8_choose 7 = .ok (.aload_n 0, 1) := by decide +kernel
theorem dX8_choose_8 : decode cX8_choose 8 = .ok (.getfield 69, 3) := by decide +kernel
theorem dX8_choose_11 : decode cX8_choose 11 = .ok (.iload_n 1, 1) := by decide +kernel
theorem dX8_choose_12 : decode cX8_choose 12 = .ok (.invokevirtual 203, 3) := by decide +kernel
theorem dX8_choose_15 : decode cX8_choose 15 = .ok (.ifCond .eq 18, 3) := by decide +kernel
theorem dX8_choose_18 : decode cX8_choose 18 = .ok (.iload_n 2, 1) := by decide +kernel
theorem dX8_choose_19 : decode cX8_choose 19 = .ok (.ifCond .lt 14, 3) := by decide +kernel
theorem dX8_choose_22 : decode cX8_choose 22 = .ok (.iload_n 2, 1) := by decide +kernel
theorem dX8_choose_23 : decode cX8_choose 23 = .ok (.aload_n 0, 1) := by decide +kernel
theorem dX8_choose_24 : decode cX8_choose 24 = .ok (.getfield 69, 3) := by decide +kernel
theorem dX8_choose_27 : decode cX8_choose 27 = .ok (.getfield 207, 3) := by decide +kernel
theorem dX8_choose_30 : decode cX8_choose 30 = .ok (.if_icmp .lt 13, 3) := by decide +kernel
theorem dX8_choose_33 : decode cX8_choose 33 = .ok (.new 150, 3) := by decide +kernel
theorem dX8_choose_36 : decode cX8_choose 36 = .ok (.dup, 1) := by decide +kernel
theorem dX8_choose_37 : decode cX8_choose 37 = .ok (.ldc 208, 2) := by decide +kernel
theorem dX8_choose_39 : decode cX8_choose 39 = .ok (.invokespecial 152, 3) := by decide +kernel
theorem dX8_choose_42 : decode cX8_choose 42 = .ok (.athrow, 1) := by decide +kernel
theorem dX8_choose_43 : decode cX8_choose 43 = .ok (.aload_n 0, 1) := by decide +kernel
theorem dX8_choose_44 : decode cX8_choose 44 = .ok (.getfield 69, 3) := by decide +kernel
theorem dX8_choose_47 : decode cX8_choose 47 = .ok (.getfield 210, 3) := by decide +kernel
theorem dX8_choose_50 : decode cX8_choose 50 = .ok (.iload_n 2, 1) := by decide +kernel
theorem dX8_choose_51 : decode cX8_choose 51 = .ok (.iaload, 1) := by decide +kernel
theorem dX8_choose_52 : decode cX8_choose 52 = .ok (.istore_n 3, 1) := by decide +kernel
theorem dX8_choose_53 : decode cX8_choose 53 = .ok (.aload_n 0, 1) := by decide +kernel
theorem dX8_choose_54 : decode cX8_choose 54 = .ok (.invokevirtual 143, 3) := by decide +kernel
theorem dX8_choose_57 : decode cX8_choose 57 = .ok (.aload_n 0, 1) := by decide +kernel
theorem dX8_choose_58 : decode cX8_choose 58 = .ok (.getfield 19, 3) := by decide +kernel
theorem dX8_choose_61 : decode cX8_choose 61 = .ok (.aload_n 0, 1) := by decide +kernel
theorem dX8_choose_62 : decode cX8_choose 62 = .ok (.getfield 60, 3) := by decide +kernel
theorem dX8_choose_65 : decode cX8_choose 65 = .ok (.getfield 167, 3) := by decide +kernel
theorem dX8_choose_68 : decode cX8_choose 68 = .ok (.iload_n 1, 1) := by decide +kernel
theorem dX8_choose_69 : decode cX8_choose 69 = .ok (.iaload, 1) := by decide +kernel
theorem dX8_choose_70 : decode cX8_choose 70 = .ok (.aload_n 0, 1) := by decide +kernel
theorem dX8_choose_71 : decode cX8_choose 71 = .ok (.getfield 60, 3) := by decide +kernel
theorem dX8_choose_74 : decode cX8_choose 74 = .ok (.getfield 170, 3) := by decide +kernel
theorem dX8_choose_77 : decode cX8_choose 77 = .ok (.iload_n 1, 1) := by decide +kernel
theorem dX8_choose_78 : decode cX8_choose 78 = .ok (.iaload, 1) := by decide +kernel
theorem dX8_choose_79 : decode cX8_choose 79 = .ok (.iload_n 3, 1) := by decide +kernel
theorem dX8_choose_80 : decode cX8_choose 80 = .ok (.invokevirtual 214, 3) := by decide +kernel
theorem dX8_choose_83 : decode cX8_choose 83 = .ok (.return_, 1) := by decide +kernel
set_option maxRecDepth 20000 in
theorem ggX8_setBreak_X8_beginAct : GoodIn wsX8_setBreak wsX8_beginAct := goodIn_r _ [8, 9, 3, 10, 11, 12, 13, 14, 15, 16, 17, 18, 19, 20, 21, 22, 23, 24, 25, 26, 27, 28, 29, 30, 31, 32, 33, 34, 35, 36, 37, 38, 39, 40, 41, 42, 43, 7, 44, 45, 46, 47, 48, 49, 50, 51, 52, 53, 54, 55, 56, 57, 61, 62, 63, 64, 65, 66, 67, 68, 73, 74, 75, 69, 70, 71, 72, 76, 77, 78, 79, 80, 81, 82, 83, 84, 85, 86, 87, 88, 89, 90, 91, 92, 93, 94, 95, 96, 97, 98, 99, 100] (by decide +kernel) (by decide +kernel)
set_option maxRecDepth 20000 in
theorem gX8_setBreak_X8_beginAct : GoodIn wsX8_setBreak (wsV RX8 143 RX8 yX8_beginAct wsX8_beginAct) := goodIn_app (goodIn_of _ (by decide +kernel)) ggX8_setBreak_X8_beginAct
set_option maxRecDepth 20000 in
theorem ggX8_setBreak_X4_moveBreak : GoodIn wsX8_setBreak wsX4_moveBreak := goodIn_r _ [60, 31, 32, 69, 70, 71, 72] (by decide +kernel) (by decide +kernel)
set_option maxRecDepth 20000 in
theorem gX8_setBreak_X4_moveBreak_n223 : GoodIn wsX8_setBreak (wsX4_moveBreak) := ggX8_setBreak_X4_moveBreak
theorem dX8_setBreak_0 : decode cX8_setBreak 0 = .ok (.iload_n 1, 1) := by decide +kernel
theorem dX8_setBreak_1 : decode cX8_setBreak 1 = .ok (.iconst 1, 1) := by decide +kernel
theorem dX8_setBreak_2 : decode cX8_setBreak 2 = .ok (.if_icmp .lt 23, 3) := by decide +kernel
theorem dX8_setBreak_5 : decode cX8_setBreak 5 = .ok (.iload_n 1, 1) := by decide +kernel
theorem dX8_setBreak_6 : decode cX8_setBreak 6 = .ok (.aload_n 0, 1) := by decide +kernel
theorem dX8_setBreak_7 : decode cX8_setBreak 7 = .ok (.getfield 19, 3) := by decide +kernel
theorem dX8_setBreak_10 : decode cX8_setBreak 10 = .ok (.getfield 140, 3) := by decide +kernel
theorem dX8_setBreak_13 : decode cX8_setBreak 13 = .ok (.if_icmp .ge 12, 3) := by decide +kernel
theorem dX8_setBreak_16 : decode cX8_setBreak 16 = .ok (.iload_n 2, 1) := by decide +kernel
theorem dX8_setBreak_17 : decode cX8_setBreak 17 = .ok (.ifCond .lt 8, 3) := by decide +kernel
theorem dX8_setBreak_20 : decode cX8_setBreak 20 = .ok (.iload_n 2, 1) := by decide +kernel
theorem dX8_setBreak_21 : decode cX8_setBreak 21 = .ok (.iconst 2, 1) := by decide +kernel
theorem dX8_setBreak_22 : decode cX8_setBreak 22 = .ok (.if_icmp .le 13, 3) := by decide +kernel
theorem dX8_setBreak_25 : decode cX8_setBreak 25 = .ok (.new 77, 3) := by decide +kernel
theorem dX8_setBreak_28 : decode cX8_setBreak 28 = .ok (.dup, 1) := by decide +kernel
theorem dX8_setBreak_29 : decode cX8_setBreak 29 = .ok (.ldc 218, 2) := by decide +kernel
theorem dX8_setBreak_31 : decode cX8_setBreak 31 = .ok (.invokespecial 81, 3) := by decide +kernel
theorem dX8_setBreak_34 : decode cX8_setBreak 34 = .ok (.athrow, 1) := by decide +kernel
theorem dX8_setBreak_35 : decode cX8_setBreak 35 = .ok (.aload_n 0, 1) := by decide +kernel
theorem dX8_setBreak_36 : decode cX8_setBreak 36 = .ok (.getfield 19, 3) := by decide +kernel
theorem dX8_setBreak_39 : decode cX8_setBreak 39 = .ok (.getfield 220, 3) := by decide +kernel
theorem dX8_setBreak_42 : decode cX8_setBreak 42 = .ok (.iload_n 1, 1) := by decide +kernel
theorem dX8_setBreak_43 : decode cX8_setBreak 43 = .ok (.iaload, 1) := by decide +kernel
theorem dX8_setBreak_44 : decode cX8_setBreak 44 = .ok (.istore_n 3, 1) := by decide +kernel
theorem dX8_setBreak_45 : decode cX8_setBreak 45 = .ok (.aload_n 0, 1) := by decide +kernel
theorem dX8_setBreak_46 : decode cX8_setBreak 46 = .ok (.invokevirtual 143, 3) := by decide +kernel
theorem dX8_setBreak_49 : decode cX8_setBreak 49 = .ok (.aload_n 0, 1) := by decide +kernel
theorem dX8_setBreak_50 : decode cX8_setBreak 50 = .ok (.getfield 19, 3) := by decide +kernel
theorem dX8_setBreak_53 : decode cX8_setBreak 53 = .ok (.iload_n 1, 1) := by decide +kernel
theorem dX8_setBreak_54 : decode cX8_setBreak 54 = .ok (.iload_n 2, 1) := by decide +kernel
theorem dX8_setBreak_55 : decode cX8_setBreak 55 = .ok (.invokevirtual 223, 3) := by decide +kernel
theorem dX8_setBreak_58 : decode cX8_setBreak 58 = .ok (.iload_n 3, 1) := by decide +kernel
theorem dX8_setBreak_59 : decode cX8_setBreak 59 = .ok (.ireturn, 1) := by decide +kernel
set_option maxRecDepth 20000 in
theorem ggX8_free_X4_fixedParts : GoodIn wsX8_free wsX4_fixedParts := goodIn_r _ [5, 6, 74, 75, 76, 77] (by decide +kernel) (by decide +kernel)
set_option maxRecDepth 20000 in
theorem gX8_free_X4_fixedParts_n226 : GoodIn wsX8_free (wsX4_fixedParts) := ggX8_free_X4_fixedParts
set_option maxRecDepth 20000 in
theorem ggX8_free_X8_beginAct : GoodIn wsX8_free wsX8_beginAct := goodIn_r _ [11, 12, 1, 13, 14, 15, 16, 17, 18, 19, 20, 3, 21, 22, 23, 24, 25, 26, 27, 28, 29, 30, 31, 32, 33, 6, 34, 35, 36, 37, 38, 39, 40, 41, 42, 43, 44, 10, 45, 46, 47, 48, 49, 50, 51, 52, 53, 54, 55, 56, 57, 58, 66, 67, 68, 69, 70, 71, 72, 73, 78, 79, 80, 74, 75, 76, 77, 81, 82, 83, 84, 85, 86, 87, 88, 89, 90, 91, 92, 93, 94, 95, 96, 97, 98, 99, 100, 101, 102, 103, 104, 105] (by decide +kernel) (by decide +kernel)
set_option maxRecDepth 20000 in
theorem gX8_free_X8_beginAct : GoodIn wsX8_free (wsV RX8 143 RX8 yX8_beginAct wsX8_beginAct) := goodIn_app (goodIn_of _ (by decide +kernel)) ggX8_free_X8_beginAct
set_option maxRecDepth 20000 in
theorem ggX8_free_X4_freeHand : GoodIn wsX8_free wsX4_freeHand := goodIn_r _ [61, 33, 6, 62, 63, 64, 65, 74, 75, 76, 77] (by decide +kernel) (by decide +kernel)
set_option maxRecDepth 20000 in
theorem gX8_free_X4_freeHand_n230 : GoodIn wsX8_free (wsX4_freeHand) := ggX8_free_X4_freeHand
theorem dX8_free_0 : decode cX8_free 0 = .ok (.aload_n 0, 1) := by decide +kernel
theorem dX8_free_1 : decode cX8_free 1 = .ok (.getfield 19, 3) := by decide +kernel
theorem dX8_free_4 : decode cX8_free 4 = .ok (.invokevirtual 226, 3) := by decide +kernel
theorem dX8_free_7 : decode cX8_free 7 = .ok (.istore_n 1, 1) := by decide +kernel
theorem dX8_free_8 : decode cX8_free 8 = .ok (.aload_n 0, 1) := by decide +kernel
theorem dX8_free_9 : decode cX8_free 9 = .ok (.invokevirtual 143, 3) := by decide +kernel
theorem dX8_free_12 : decode cX8_free 12 = .ok (.aload_n 0, 1) := by decide +kernel
theorem dX8_free_13 : decode cX8_free 13 = .ok (.getfield 19, 3) := by decide +kernel
theorem dX8_free_16 : decode cX8_free 16 = .ok (.invokevirtual 230, 3) := by decide +kernel
theorem dX8_free_19 : decode cX8_free 19 = .ok (.iload_n 1, 1) := by decide +kernel
theorem dX8_free_20 : decode cX8_free 20 = .ok (.ireturn, 1) := by decide +kernel
set_option maxRecDepth 20000 in
theorem ggX8_empty_X8_beginAct : GoodIn wsX8_empty wsX8_beginAct := goodIn_r _ [6, 7, 1, 8, 9, 10, 11, 12, 13, 14, 15, 16, 17, 18, 19, 20, 21, 22, 23, 24, 25, 26, 27, 28, 29, 30, 31, 32, 33, 34, 35, 36, 37, 38, 39, 40, 41, 5, 42, 43, 44, 45, 46, 47, 48, 49, 50, 51, 52, 53, 54, 55, 67, 68, 69, 70, 71, 72, 73, 74, 79, 80, 81, 75, 76, 77, 78, 82, 83, 84, 85, 86, 87, 88, 89, 90, 91, 92, 93, 94, 95, 96, 97, 98, 99, 100, 101, 102, 103, 104, 105, 106] (by decide +kernel) (by decide +kernel)
set_option maxRecDepth 20000 in
theorem gX8_empty_X8_beginAct : GoodIn wsX8_empty (wsV RX8 143 RX8 yX8_beginAct wsX8_beginAct) := goodIn_app (goodIn_of _ (by decide +kernel)) ggX8_empty_X8_beginAct
set_option maxRecDepth 20000 in
theorem ggX8_empty_X4_clear : GoodIn wsX8_empty wsX4_clear := goodIn_r _ [58, 34, 59, 60, 61, 16, 62, 29, 30, 63, 64, 65, 66, 75, 76, 77, 78] (by decide +kernel) (by decide +kernel)
set_option maxRecDepth 20000 in
theorem gX8_empty_X4_clear_n233 : GoodIn wsX8_empty (wsX4_clear) := ggX8_empty_X4_clear
theorem dX8_empty_0 : decode cX8_empty 0 = .ok (.aload_n 0, 1) := by decide +kernel
theorem dX8_empty_1 : decode cX8_empty 1 = .ok (.getfield 19, 3) := by decide +kernel
theorem dX8_empty_4 : decode cX8_empty 4 = .ok (.getfield 140, 3) := by decide +kernel
theorem dX8_empty_7 : decode cX8_empty 7 = .ok (.istore_n 1, 1) := by decide +kernel
theorem dX8_empty_8 : decode cX8_empty 8 = .ok (.aload_n 0, 1) := by decide +kernel
theorem dX8_empty_9 : decode cX8_empty 9 = .ok (.invokevirtual 143, 3) := by decide +kernel
theorem dX8_empty_12 : decode cX8_empty 12 = .ok (.aload_n 0, 1) := by decide +kernel
theorem dX8_empty_13 : decode cX8_empty 13 = .ok (.getfield 19, 3) := by decide +kernel
theorem dX8_empty_16 : decode cX8_empty 16 = .ok (.invokevirtual 233, 3) := by decide +kernel
theorem dX8_empty_19 : decode cX8_empty 19 = .ok (.iload_n 1, 1) := by decide +kernel
theorem dX8_empty_20 : decode cX8_empty 20 = .ok (.ireturn, 1) := by decide +kernel
set_option maxRecDepth 20000 in
theorem ggX8_back_X8_lineChanged : GoodIn wsX8_back wsX8_lineChanged := goodIn_r _ [7, 8, 9, 10, 11, 12, 13, 14, 15, 16, 17, 18, 19, 20, 40, 41, 42, 43, 44, 45, 46, 47, 48, 49, 50, 51, 52, 53, 54, 55, 56, 57, 58, 59, 60, 61, 62, 63, 64, 65, 66, 67, 68, 69, 70, 71, 72] (by decide +kernel) (by decide +kernel)
set_option maxRecDepth 20000 in
theorem gX8_back_X8_lineChanged : GoodIn wsX8_back (wsV RX8 135 RX8 yX8_lineChanged wsX8_lineChanged) := goodIn_app (goodIn_of _ (by decide +kernel)) ggX8_back_X8_lineChanged
set_option maxRecDepth 20000 in
theorem ggX8_back_X0_undo : GoodIn wsX8_back wsX0_undo := goodIn_r _ [24, 25, 26, 27, 28, 29, 30, 31, 32, 33, 34, 35, 36, 37, 38, 39, 73, 74, 75, 76, 77, 78, 79] (by decide +kernel) (by decide +kernel)
set_option maxRecDepth 20000 in
theorem gX8_back_X0_undo_n236 : GoodIn wsX8_back (wsX0_undo) := ggX8_back_X0_undo
theorem dX8_back_0 : decode cX8_back 0 = .ok (.aload_n 0, 1) := by decide +kernel
theorem dX8_back_1 : decode cX8_back 1 = .ok (.invokevirtual 135, 3) := by decide +kernel
theorem dX8_back_4 : decode cX8_back 4 = .ok (.aload_n 0, 1) := by decide +kernel
theorem dX8_back_5 : decode cX8_back 5 = .ok (.getfield 26, 3) := by decide +kernel
theorem dX8_back_8 : decode cX8_back 8 = .ok (.aload_n 0, 1) := by decide +kernel
theorem dX8_back_9 : decode cX8_back 9 = .ok (.getfield 19, 3) := by decide +kernel
theorem dX8_back_12 : decode cX8_back 12 = .ok (.invokevirtual 236, 3) := by decide +kernel
theorem dX8_back_15 : decode cX8_back 15 = .ok (.ireturn, 1) := by decide +kernel
set_option maxRecDepth 20000 in
theorem ggX8_take_X3_renew : GoodIn wsX8_take wsX3_renew := goodIn_r _ [9, 10, 11, 12, 13, 14, 15, 16, 17, 18, 19, 20, 21, 22, 23, 24, 25, 26, 27, 28, 29, 30, 31, 32, 33, 34, 35, 36, 37, 38, 39, 40, 41, 42, 43, 44, 45, 46, 47, 48, 49, 50, 51, 52, 53, 54, 55, 56, 57, 58, 59, 60, 61, 62, 63, 64, 65, 66, 67, 68, 69, 70, 71, 72, 73, 74, 75, 76, 77, 78, 79, 80, 81, 82, 83, 84, 85, 86, 87, 88, 89, 90, 91, 92, 93, 94, 95, 96, 97, 98, 99, 100, 101, 102, 103, 7, 104, 105, 106, 107, 108, 109, 110, 111, 112, 113, 114, 115, 116, 117, 118, 119, 120, 121, 122, 123, 124, 125, 126, 127, 128, 129, 130, 131, 132, 133, 134, 135, 136, 137, 138, 139, 140, 141, 142, 143, 144, 145, 146, 147, 148, 149, 150, 151, 152, 153, 154, 155, 156, 157, 158, 159, 160, 161, 162, 163, 164, 165, 166, 230, 231, 232, 233, 234, 235, 236, 237, 238, 239, 240, 241, 242, 243, 247, 248, 249, 250, 251, 252, 253, 254, 255, 256, 257, 258, 259, 260, 261, 262, 263, 264, 265, 266, 267, 268, 269, 270, 271, 272, 273, 274, 275, 276, 277, 278, 279, 280, 281, 282, 283] (by decide +kernel) (by decide +kernel)
set_option maxRecDepth 20000 in
theorem gX8_take_X3_renew_n156 : GoodIn wsX8_take (wsX3_renew) := ggX8_take_X3_renew
set_option maxRecDepth 20000 in
theorem ggX8_take_X7_keep : GoodIn wsX8_take wsX7_keep := goodIn_r _ [170, 171, 172, 173, 84, 85, 86, 174, 244, 245, 246] (by decide +kernel) (by decide +kernel)
set_option maxRecDepth 20000 in
theorem gX8_take_X7_keep_n243 : GoodIn wsX8_take (wsX7_keep) := ggX8_take_X7_keep
set_option maxRecDepth 20000 in
theorem ggX8_take_X1_learn : GoodIn wsX8_take wsX1_learn := goodIn_r _ [177, 98, 178, 179, 111, 78, 112, 180, 139, 140, 94, 141, 142, 181, 182, 183, 184, 185, 99, 100, 265, 266, 267, 268, 269, 270, 271, 272, 273, 274, 275, 276, 277, 278, 279, 280, 281, 282, 283] (by decide +kernel) (by decide +kernel)
set_option maxRecDepth 20000 in
theorem gX8_take_X1_learn_n247 : GoodIn wsX8_take (wsX1_learn) := ggX8_take_X1_learn
set_option maxRecDepth 20000 in
theorem ggX8_take_X4_clear : GoodIn wsX8_take wsX4_clear := goodIn_r _ [188, 129, 189, 190, 191, 126, 192, 130, 193, 194, 41, 42, 43, 247, 248, 249, 250] (by decide +kernel) (by decide +kernel)
set_option maxRecDepth 20000 in
theorem gX8_take_X4_clear_n233 : GoodIn wsX8_take (wsX4_clear) := ggX8_take_X4_clear
set_option maxRecDepth 20000 in
theorem ggX8_take_X0_forget : GoodIn wsX8_take wsX0_forget := goodIn_r _ [198, 199, 284, 285, 286] (by decide +kernel) (by decide +kernel)
set_option maxRecDepth 20000 in
theorem gX8_take_X0_forget_n251 : GoodIn wsX8_take (wsX0_forget) := ggX8_take_X0_forget
set_option maxRecDepth 20000 in
theorem ggX8_take_X8_bookChanged : GoodIn wsX8_take wsX8_bookChanged := goodIn_r _ [203, 204, 205, 18, 206, 207, 21, 208, 209, 210, 78, 211, 1, 212, 213, 7, 214, 215, 10, 216, 217, 218, 219, 220, 221, 222, 223, 224, 225, 226, 227, 228, 229, 251, 252, 253, 254, 255, 256, 230, 231, 232, 233, 234, 235, 236, 237, 238, 239, 240, 241, 242, 243, 287, 288, 289, 290, 291, 292, 293, 294, 295, 296, 297] (by decide +kernel) (by decide +kernel)
set_option maxRecDepth 20000 in
theorem gX8_take_X8_bookChanged : GoodIn wsX8_take (wsV RX8 88 RX8 yX8_bookChanged wsX8_bookChanged) := goodIn_app (goodIn_of _ (by decide +kernel)) ggX8_take_X8_bookChanged
theorem dX8_take_0 : decode cX8_take 0 = .ok (.aload_n 0, 1) := by decide +kernel
theorem dX8_take_1 : decode cX8_take 1 = .ok (.getfield 60, 3) := by decide +kernel
theorem dX8_take_4 : decode cX8_take 4 = .ok (.invokevirtual 156, 3) := by decide +kernel
theorem dX8_take_7 : decode cX8_take 7 = .ok (.aload_n 0, 1) := by decide +kernel
theorem dX8_take_8 : decode cX8_take 8 = .ok (.getfield 60, 3) := by decide +kernel
theorem dX8_take_11 : decode cX8_take 11 = .ok (.getfield 164, 3) := by decide +kernel
theorem dX8_take_14 : decode cX8_take 14 = .ok (.ifCond .eq 15, 3) := by decide +kernel
theorem dX8_take_17 : decode cX8_take 17 = .ok (.aload_n 0, 1) := by decide +kernel
theorem dX8_take_18 : decode cX8_take 18 = .ok (.getfield 33, 3) := by decide +kernel
theorem dX8_take_21 : decode cX8_take 21 = .ok (.getfield 240, 3) := by decide +kernel
theorem dX8_take_24 : decode cX8_take 24 = .ok (.bipush 40, 2) := by decide +kernel
theorem dX8_take_26 : decode cX8_take 26 = .ok (.if_icmp .lt 5, 3) := by decide +kernel
theorem dX8_take_29 : decode cX8_take 29 = .ok (.iconst (-1), 1) := by decide +kernel
theorem dX8_take_30 : decode cX8_take 30 = .ok (.ireturn, 1) := by decide +kernel
theorem dX8_take_31 : decode cX8_take 31 = .ok (.aload_n 0, 1) := by decide +kernel
theorem dX8_take_32 : decode cX8_take 32 = .ok (.getfield 60, 3) := by decide +kernel
theorem dX8_take_35 : decode cX8_take 35 = .ok (.getfield 164, 3) := by decide +kernel
theorem dX8_take_38 : decode cX8_take 38 = .ok (.istore_n 1, 1) := by decide +kernel
theorem dX8_take_39 : decode cX8_take 39 = .ok (.aload_n 0, 1) := by decide +kernel
theorem dX8_take_40 : decode cX8_take 40 = .ok (.getfield 33, 3) := by decide +kernel
theorem dX8_take_43 : decode cX8_take 43 = .ok (.aload_n 0, 1) := by decide +kernel
theorem dX8_take_44 : decode cX8_take 44 = .ok (.getfield 60, 3) := by decide +kernel
theorem dX8_take_47 : decode cX8_take 47 = .ok (.getfield 173, 3) := by decide +kernel
theorem dX8_take_50 : decode cX8_take 50 = .ok (.iload_n 1, 1) := by decide +kernel
theorem dX8_take_51 : decode cX8_take 51 = .ok (.invokevirtual 243, 3) := by decide +kernel
theorem dX8_take_54 : decode cX8_take 54 = .ok (.aload_n 0, 1) := by decide +kernel
theorem dX8_take_55 : decode cX8_take 55 = .ok (.getfield 12, 3) := by decide +kernel
theorem dX8_take_58 : decode cX8_take 58 = .ok (.aload_n 0, 1) := by decide +kernel
theorem dX8_take_59 : decode cX8_take 59 = .ok (.getfield 60, 3) := by decide +kernel
theorem dX8_take_62 : decode cX8_take 62 = .ok (.getfield 173, 3) := by decide +kernel
theorem dX8_take_65 : decode cX8_take 65 = .ok (.iconst 0, 1) := by decide +kernel
theorem dX8_take_66 : decode cX8_take 66 = .ok (.iload_n 1, 1) := by decide +kernel
theorem dX8_take_67 : decode cX8_take 67 = .ok (.iconst 1, 1) := by decide +kernel
theorem dX8_take_68 : decode cX8_take 68 = .ok (.invokevirtual 247, 3) := by decide +kernel
theorem dX8_take_71 : decode cX8_take 71 = .ok (.aload_n 0, 1) := by decide +kernel
theorem dX8_take_72 : decode cX8_take 72 = .ok (.getfield 19, 3) := by decide +kernel
theorem dX8_take_75 : decode cX8_take 75 = .ok (.invokevirtual 233, 3) := by decide +kernel
theorem dX8_take_78 : decode cX8_take 78 = .ok (.aload_n 0, 1) := by decide +kernel
theorem dX8_take_79 : decode cX8_take 79 = .ok (.getfield 26, 3) := by decide +kernel
theorem dX8_take_82 : decode cX8_take 82 = .ok (.invokevirtual 251, 3) := by decide +kernel
theorem dX8_take_85 : decode cX8_take 85 = .ok (.aload_n 0, 1) := by decide +kernel
theorem dX8_take_86 : decode cX8_take 86 = .ok (.invokevirtual 88, 3) := by decide +kernel
theorem dX8_take_89 : decode cX8_take 89 = .ok (.iload_n 1, 1) := by decide +kernel
theorem dX8_take_90 : decode cX8_take 90 = .ok (.ireturn, 1) := by decide +kernel
set_option maxRecDepth 20000 in
theorem ggX8_unlearn_X1_learn : GoodIn wsX8_unlearn wsX1_learn := goodIn_r _ [6, 7, 8, 9, 10, 11, 12, 13, 14, 15, 4, 16, 17, 18, 19, 20, 21, 22, 23, 24, 63, 64, 65, 66, 67, 68, 69, 70, 71, 72, 73, 74, 75, 76, 77, 78, 79, 80, 81] (by decide +kernel) (by decide +kernel)
set_option maxRecDepth 20000 in
theorem gX8_unlearn_X1_learn_n247 : GoodIn wsX8_unlearn (wsX1_learn) := ggX8_unlearn_X1_learn
set_option maxRecDepth 20000 in
theorem ggX8_unlearn_X8_bookChanged : GoodIn wsX8_unlearn wsX8_bookChanged := goodIn_r _ [28, 29, 30, 31, 32, 33, 34, 35, 36, 37, 11, 38, 39, 40, 41, 42, 43, 44, 45, 46, 47, 48, 49, 50, 51, 52, 53, 54, 55, 56, 57, 58, 59, 82, 83, 84, 85, 86, 87, 88, 89, 90, 91, 92, 93, 94, 95, 96, 97, 98, 99, 100, 101, 102, 103, 104, 105, 106, 107, 108, 109, 110, 111, 112] (by decide +kernel) (by decide +kernel)
set_option maxRecDepth 20000 in
theorem gX8_unlearn_X8_bookChanged : GoodIn wsX8_unlearn (wsV RX8 88 RX8 yX8_bookChanged wsX8_bookChanged) := goodIn_app (goodIn_of _ (by decide +kernel)) ggX8_unlearn_X8_bookChanged
theorem dX8_unlearn_0 : decode cX8_unlearn 0 = .ok (.aload_n 0, 1) := by decide +kernel
theorem dX8_unlearn_1 : decode cX8_unlearn 1 = .ok (.getfield 33, 3) := by decide +kernel
theorem dX8_unlearn_4 : decode cX8_unlearn 4 = .ok (.getfield 240, 3) := by decide +kernel
theorem dX8_unlearn_7 : decode cX8_unlearn 7 = .ok (.ifCond .ne 5, 3) := by decide +kernel
theorem dX8_unlearn_10 : decode cX8_unlearn 10 = .ok (.iconst (-1), 1) := by decide +kernel
theorem dX8_unlearn_11 : decode cX8_unlearn 11 = .ok (.ireturn, 1) := by decide +kernel
theorem dX8_unlearn_12 : decode cX8_unlearn 12 = .ok (.aload_n 0, 1) := by decide +kernel
theorem dX8_unlearn_13 : decode cX8_unlearn 13 = .ok (.getfield 33, 3) := by decide +kernel
theorem dX8_unlearn_16 : decode cX8_unlearn 16 = .ok (.dup, 1) := by decide +kernel
theorem dX8_unlearn_17 : decode cX8_unlearn 17 = .ok (.getfield 240, 3) := by decide +kernel
theorem dX8_unlearn_20 : decode cX8_unlearn 20 = .ok (.iconst 1, 1) := by decide +kernel
theorem dX8_unlearn_21 : decode cX8_unlearn 21 = .ok (.isub, 1) := by decide +kernel
theorem dX8_unlearn_22 : decode cX8_unlearn 22 = .ok (.putfield 240, 3) := by decide +kernel
theorem dX8_unlearn_25 : decode cX8_unlearn 25 = .ok (.aload_n 0, 1) := by decide +kernel
theorem dX8_unlearn_26 : decode cX8_unlearn 26 = .ok (.getfield 12, 3) := by decide +kernel
theorem dX8_unlearn_29 : decode cX8_unlearn 29 = .ok (.aload_n 0, 1) := by decide +kernel
theorem dX8_unlearn_30 : decode cX8_unlearn 30 = .ok (.getfield 33, 3) := by decide +kernel
theorem dX8_unlearn_33 : decode cX8_unlearn 33 = .ok (.getfield 254, 3) := by decide +kernel
theorem dX8_unlearn_36 : decode cX8_unlearn 36 = .ok (.aload_n 0, 1) := by decide +kernel
theorem dX8_unlearn_37 : decode cX8_unlearn 37 = .ok (.getfield 33, 3) := by decide +kernel
theorem dX8_unlearn_40 : decode cX8_unlearn 40 = .ok (.getfield 240, 3) := by decide +kernel
theorem dX8_unlearn_43 : decode cX8_unlearn 43 = .ok (.bipush 36, 2) := by decide +kernel
theorem dX8_unlearn_45 : decode cX8_unlearn 45 = .ok (.imul, 1) := by decide +kernel
theorem dX8_unlearn_46 : decode cX8_unlearn 46 = .ok (.aload_n 0, 1) := by decide +kernel
theorem dX8_unlearn_47 : decode cX8_unlearn 47 = .ok (.getfield 33, 3) := by decide +kernel
theorem dX8_unlearn_50 : decode cX8_unlearn 50 = .ok (.getfield 255, 3) := by decide +kernel
theorem dX8_unlearn_53 : decode cX8_unlearn 53 = .ok (.aload_n 0, 1) := by decide +kernel
theorem dX8_unlearn_54 : decode cX8_unlearn 54 = .ok (.getfield 33, 3) := by decide +kernel
theorem dX8_unlearn_57 : decode cX8_unlearn 57 = .ok (.getfield 240, 3) := by decide +kernel
theorem dX8_unlearn_60 : decode cX8_unlearn 60 = .ok (.iaload, 1) := by decide +kernel
theorem dX8_unlearn_61 : decode cX8_unlearn 61 = .ok (.iconst (-1), 1) := by decide +kernel
theorem dX8_unlearn_62 : decode cX8_unlearn 62 = .ok (.invokevirtual 247, 3) := by decide +kernel
theorem dX8_unlearn_65 : decode cX8_unlearn 65 = .ok (.aload_n 0, 1) := by decide +kernel
theorem dX8_unlearn_66 : decode cX8_unlearn 66 = .ok (.invokevirtual 88, 3) := by decide +kernel
theorem dX8_unlearn_69 : decode cX8_unlearn 69 = .ok (.aload_n 0, 1) := by decide +kernel
theorem dX8_unlearn_70 : decode cX8_unlearn 70 = .ok (.getfield 33, 3) := by decide +kernel
theorem dX8_unlearn_73 : decode cX8_unlearn 73 = .ok (.getfield 240, 3) := by decide +kernel
theorem dX8_unlearn_76 : decode cX8_unlearn 76 = .ok (.ireturn, 1) := by decide +kernel
theorem dX8_count_0 : decode cX8_count 0 = .ok (.iload_n 1, 1) := by decide +kernel
theorem dX8_count_1 : decode cX8_count 1 = .ok (.ifCond .lt 14, 3) := by decide +kernel
theorem dX8_count_4 : decode cX8_count 4 = .ok (.iload_n 1, 1) := by decide +kernel
theorem dX8_count_5 : decode cX8_count 5 = .ok (.aload_n 0, 1) := by decide +kernel
theorem dX8_count_6 : decode cX8_count 6 = .ok (.getfield 12, 3) := by decide +kernel
theorem dX8_count_9 : decode cX8_count 9 = .ok (.getfield 99, 3) := by decide +kernel
theorem dX8_count_12 : decode cX8_count 12 = .ok (.if_icmp .lt 14, 3) := by decide +kernel
theorem dX8_count_15 : decode cX8_count 15 = .ok (.new 150, 3) := by decide +kernel
theorem dX8_count_18 : decode cX8_count 18 = .ok (.dup, 1) := by decide +kernel
theorem dX8_count_19 : decode cX8_count 19 = .ok (.ldc_w 258, 3) := by decide +kernel
theorem dX8_count_22 : decode cX8_count 22 = .ok (.invokespecial 152, 3) := by decide +kernel
theorem dX8_count_25 : decode cX8_count 25 = .ok (.athrow, 1) := by decide +kernel
theorem dX8_count_26 : decode cX8_count 26 = .ok (.aload_n 0, 1) := by decide +kernel
theorem dX8_count_27 : decode cX8_count 27 = .ok (.getfield 12, 3) := by decide +kernel
theorem dX8_count_30 : decode cX8_count 30 = .ok (.getfield 260, 3) := by decide +kernel
theorem dX8_count_33 : decode cX8_count 33 = .ok (.iload_n 1, 1) := by decide +kernel
theorem dX8_count_34 : decode cX8_count 34 = .ok (.iaload, 1) := by decide +kernel
theorem dX8_count_35 : decode cX8_count 35 = .ok (.ireturn, 1) := by decide +kernel
set_option maxRecDepth 20000 in
theorem ggX8_pairs_X8_areKinds : GoodIn wsX8_pairs wsX8_areKinds := goodIn_r _ [7] (by decide +kernel) (by decide +kernel)
set_option maxRecDepth 20000 in
theorem gX8_pairs_X8_areKinds : GoodIn wsX8_pairs (va_wsS RX8 122 yX8_areKinds wsX8_areKinds) := goodIn_app (goodIn_of _ (by decide +kernel)) ggX8_pairs_X8_areKinds
theorem dX8_pairs_0 : decode cX8_pairs 0 = .ok (.iload_n 1, 1) := by decide +kernel
theorem dX8_pairs_1 : decode cX8_pairs 1 = .ok (.iload_n 2, 1) := by decide +kernel
theorem dX8_pairs_2 : decode cX8_pairs 2 = .ok (.invokestatic 122, 3) := by decide +kernel
theorem dX8_pairs_5 : decode cX8_pairs 5 = .ok (.ifCond .ne 14, 3) := by decide +kernel
theorem dX8_pairs_8 : decode cX8_pairs 8 = .ok (.new 150, 3) := by decide +kernel
theorem dX8_pairs_11 : decode cX8_pairs 11 = .ok (.dup, 1) := by decide +kernel
theorem dX8_pairs_12 : decode cX8_pairs 12 = .ok (.ldc_w 263, 3) := by decide +kernel
theorem dX8_pairs_15 : decode cX8_pairs 15 = .ok (.invokespecial 152, 3) := by decide +kernel
theorem dX8_pairs_18 : decode cX8_pairs 18 = .ok (.athrow, 1) := by decide +kernel
theorem dX8_pairs_19 : decode cX8_pairs 19 = .ok (.aload_n 0, 1) := by decide +kernel
theorem dX8_pairs_20 : decode cX8_pairs 20 = .ok (.getfield 12, 3) := by decide +kernel
theorem dX8_pairs_23 : decode cX8_pairs 23 = .ok (.getfield 265, 3) := by decide +kernel
theorem dX8_pairs_26 : decode cX8_pairs 26 = .ok (.iload_n 1, 1) := by decide +kernel
theorem dX8_pairs_27 : decode cX8_pairs 27 = .ok (.bipush 9, 2) := by decide +kernel
theorem dX8_pairs_29 : decode cX8_pairs 29 = .ok (.imul, 1) := by decide +kernel
theorem dX8_pairs_30 : decode cX8_pairs 30 = .ok (.iload_n 2, 1) := by decide +kernel
theorem dX8_pairs_31 : decode cX8_pairs 31 = .ok (.iadd, 1) := by decide +kernel
theorem dX8_pairs_32 : decode cX8_pairs 32 = .ok (.iaload, 1) := by decide +kernel
theorem dX8_pairs_33 : decode cX8_pairs 33 = .ok (.ireturn, 1) := by decide +kernel
set_option maxRecDepth 20000 in
theorem ggX8_about_X4_fixedParts : GoodIn wsX8_about wsX4_fixedParts := goodIn_r _ [10, 11, 45, 46, 47, 48] (by decide +kernel) (by decide +kernel)
set_option maxRecDepth 20000 in
theorem gX8_about_X4_fixedParts_n226 : GoodIn wsX8_about (wsX4_fixedParts) := ggX8_about_X4_fixedParts
theorem dX8_about_0 : decode cX8_about 0 = .ok (.iload_n 1, 1) := by decide +kernel
theorem dX8_about_1 : decode cX8_about 1 = .ok (.tableswitch 75 0 4 #[35, 43, 51, 59, 67], 35) := by decide +kernel
theorem dX8_about_36 : decode cX8_about 36 = .ok (.aload_n 0, 1) := by decide +kernel
theorem dX8_about_37 : decode cX8_about 37 = .ok (.getfield 12, 3) := by decide +kernel
theorem dX8_about_40 : decode cX8_about 40 = .ok (.getfield 99, 3) := by decide +kernel
theorem dX8_about_43 : decode cX8_about 43 = .ok (.ireturn, 1) := by decide +kernel
theorem dX8_about_44 : decode cX8_about 44 = .ok (.aload_n 0, 1) := by decide +kernel
theorem dX8_about_45 : decode cX8_about 45 = .ok (.getfield 12, 3) := by decide +kernel
theorem dX8_about_48 : decode cX8_about 48 = .ok (.getfield 111, 3) := by decide +kernel
theorem dX8_about_51 : decode cX8_about 51 = .ok (.ireturn, 1) := by decide +kernel
theorem dX8_about_52 : decode cX8_about 52 = .ok (.aload_n 0, 1) := by decide +kernel
theorem dX8_about_53 : decode cX8_about 53 = .ok (.getfield 26, 3) := by decide +kernel
theorem dX8_about_56 : decode cX8_about 56 = .ok (.getfield 268, 3) := by decide +kernel
theorem dX8_about_59 : decode cX8_about 59 = .ok (.ireturn, 1) := by decide +kernel
theorem dX8_about_60 : decode cX8_about 60 = .ok (.aload_n 0, 1) := by decide +kernel
theorem dX8_about_61 : decode cX8_about 61 = .ok (.getfield 33, 3) := by decide +kernel
theorem dX8_about_64 : decode cX8_about 64 = .ok (.getfield 240, 3) := by decide +kernel
theorem dX8_about_67 : decode cX8_about 67 = .ok (.ireturn, 1) := by decide +kernel
theorem dX8_about_68 : decode cX8_about 68 = .ok (.aload_n 0, 1) := by decide +kernel
theorem dX8_about_69 : decode cX8_about 69 = .ok (.getfield 19, 3) := by decide +kernel
theorem dX8_about_72 : decode cX8_about 72 = .ok (.invokevirtual 226, 3) := by decide +kernel
theorem dX8_about_75 : decode cX8_about 75 = .ok (.ireturn, 1) := by decide +kernel
theorem dX8_about_76 : decode cX8_about 76 = .ok (.new 150, 3) := by decide +kernel
theorem dX8_about_79 : decode cX8_about 79 = .ok (.dup, 1) := by decide +kernel
theorem dX8_about_80 : decode cX8_about 80 = .ok (.ldc_w 269, 3) := by decide +kernel
theorem dX8_about_83 : decode cX8_about 83 = .ok (.invokespecial 152, 3) := by decide +kernel
theorem dX8_about_86 : decode cX8_about 86 = .ok (.athrow, 1) := by decide +kernel
set_option maxRecDepth 20000 in
theorem ggX8_beginAct_X0_keep : GoodIn wsX8_beginAct wsX0_keep := goodIn_r _ [6, 7, 8, 9, 10, 11, 12, 13, 14, 15, 16, 17, 18, 19, 20, 21, 22, 23, 24, 25, 26, 27, 28, 29, 30, 31, 32, 33, 60, 61, 62, 63, 64, 65, 66] (by decide +kernel) (by decide +kernel)
set_option maxRecDepth 20000 in
theorem gX8_beginAct_X0_keep_n271 : GoodIn wsX8_beginAct (wsX0_keep) := ggX8_beginAct_X0_keep
set_option maxRecDepth 20000 in
theorem ggX8_beginAct_X8_lineChanged : GoodIn wsX8_beginAct wsX8_lineChanged := goodIn_r _ [38, 39, 40, 41, 42, 43, 44, 45, 46, 47, 48, 49, 50, 51, 52, 53, 54, 55, 56, 57, 58, 59, 67, 68, 69, 70, 71, 72, 73, 74, 75, 76, 77, 78, 79, 80, 81, 82, 83, 84, 85, 86, 87, 88, 89, 90, 91] (by decide +kernel) (by decide +kernel)
set_option maxRecDepth 20000 in
theorem gX8_beginAct_X8_lineChanged : GoodIn wsX8_beginAct (wsV RX8 135 RX8 yX8_lineChanged wsX8_lineChanged) := goodIn_app (goodIn_of _ (by decide +kernel)) ggX8_beginAct_X8_lineChanged
theorem dX8_beginAct_0 : decode cX8_beginAct 0 = .ok (.aload_n 0, 1) := by decide +kernel
theorem dX8_beginAct_1 : decode cX8_beginAct 1 = .ok (.getfield 26, 3) := by decide +kernel
theorem dX8_beginAct_4 : decode cX8_beginAct 4 = .ok (.aload_n 0, 1) := by decide +kernel
theorem dX8_beginAct_5 : decode cX8_beginAct 5 = .ok (.getfield 19, 3) := by decide +kernel
theorem dX8_beginAct_8 : decode cX8_beginAct 8 = .ok (.invokevirtual 271, 3) := by decide +kernel
theorem dX8_beginAct_11 : decode cX8_beginAct 11 = .ok (.aload_n 0, 1) := by decide +kernel
theorem dX8_beginAct_12 : decode cX8_beginAct 12 = .ok (.invokevirtual 135, 3) := by decide +kernel
theorem dX8_beginAct_15 : decode cX8_beginAct 15 = .ok (.return_, 1) := by decide +kernel
set_option maxRecDepth 20000 in
theorem ggX8_lineChanged_X3_forget : GoodIn wsX8_lineChanged wsX3_forget := goodIn_r _ [6, 7, 22, 23, 24, 25, 26, 27, 28, 29, 30, 31, 32, 33, 34, 35] (by decide +kernel) (by decide +kernel)
set_option maxRecDepth 20000 in
theorem gX8_lineChanged_X3_forget_n274 : GoodIn wsX8_lineChanged (wsX3_forget) := ggX8_lineChanged_X3_forget
set_option maxRecDepth 20000 in
theorem ggX8_lineChanged_X2_forget : GoodIn wsX8_lineChanged wsX2_forget := goodIn_r _ [11, 12, 13, 36, 37, 38, 39, 40, 41, 42, 43, 44, 45, 46] (by decide +kernel) (by decide +kernel)
set_option maxRecDepth 20000 in
theorem gX8_lineChanged_X2_forget_n275 : GoodIn wsX8_lineChanged (wsX2_forget) := ggX8_lineChanged_X2_forget
theorem dX8_lineChanged_0 : decode cX8_lineChanged 0 = .ok (.aload_n 0, 1) := by decide +kernel
theorem dX8_lineChanged_1 : decode cX8_lineChanged 1 = .ok (.getfield 60, 3) := by decide +kernel
theorem dX8_lineChanged_4 : decode cX8_lineChanged 4 = .ok (.invokevirtual 274, 3) := by decide +kernel
theorem dX8_lineChanged_7 : decode cX8_lineChanged 7 = .ok (.aload_n 0, 1) := by decide +kernel
theorem dX8_lineChanged_8 : decode cX8_lineChanged 8 = .ok (.getfield 69, 3) := by decide +kernel
theorem dX8_lineChanged_11 : decode cX8_lineChanged 11 = .ok (.invokevirtual 275, 3) := by decide +kernel
theorem dX8_lineChanged_14 : decode cX8_lineChanged 14 = .ok (.return_, 1) := by decide +kernel
set_option maxRecDepth 20000 in
theorem ggX8_bookChanged_X5_forget : GoodIn wsX8_bookChanged wsX5_forget := goodIn_r _ [5, 6, 33, 34, 35, 36, 37, 38] (by decide +kernel) (by decide +kernel)
set_option maxRecDepth 20000 in
theorem gX8_bookChanged_X5_forget_n276 : GoodIn wsX8_bookChanged (wsX5_forget) := ggX8_bookChanged_X5_forget
set_option maxRecDepth 20000 in
theorem ggX8_bookChanged_X8_lineChanged : GoodIn wsX8_bookChanged wsX8_lineChanged := goodIn_r _ [11, 12, 13, 14, 15, 16, 17, 18, 19, 20, 21, 22, 23, 24, 25, 26, 27, 28, 29, 30, 31, 32, 39, 40, 41, 42, 43, 44, 45, 46, 47, 48, 49, 50, 51, 52, 53, 54, 55, 56, 57, 58, 59, 60, 61, 62, 63] (by decide +kernel) (by decide +kernel)
set_option maxRecDepth 20000 in
theorem gX8_bookChanged_X8_lineChanged : GoodIn wsX8_bookChanged (wsV RX8 135 RX8 yX8_lineChanged wsX8_lineChanged) := goodIn_app (goodIn_of _ (by decide +kernel)) ggX8_bookChanged_X8_lineChanged
theorem dX8_bookChanged_0 : decode cX8_bookChanged 0 = .ok (.aload_n 0, 1) := by decide +kernel
theorem dX8_bookChanged_1 : decode cX8_bookChanged 1 = .ok (.getfield 51, 3) := by decide +kernel
theorem dX8_bookChanged_4 : decode cX8_bookChanged 4 = .ok (.invokevirtual 276, 3) := by decide +kernel
theorem dX8_bookChanged_7 : decode cX8_bookChanged 7 = .ok (.aload_n 0, 1) := by decide +kernel
theorem dX8_bookChanged_8 : decode cX8_bookChanged 8 = .ok (.invokevirtual 135, 3) := by decide +kernel
theorem dX8_bookChanged_11 : decode cX8_bookChanged 11 = .ok (.return_, 1) := by decide +kernel
theorem dX8_areKinds_0 : decode cX8_areKinds 0 = .ok (.iload_n 0, 1) := by decide +kernel
theorem dX8_areKinds_1 : decode cX8_areKinds 1 = .ok (.ifCond .lt 23, 3) := by decide +kernel
theorem dX8_areKinds_4 : decode cX8_areKinds 4 = .ok (.iload_n 0, 1) := by decide +kernel
theorem dX8_areKinds_5 : decode cX8_areKinds 5 = .ok (.bipush 9, 2) := by decide +kernel
theorem dX8_areKinds_7 : decode cX8_areKinds 7 = .ok (.if_icmp .ge 17, 3) := by decide +kernel
theorem dX8_areKinds_10 : decode cX8_areKinds 10 = .ok (.iload_n 1, 1) := by decide +kernel
theorem dX8_areKinds_11 : decode cX8_areKinds 11 = .ok (.ifCond .lt 13, 3) := by decide +kernel
theorem dX8_areKinds_14 : decode cX8_areKinds 14 = .ok (.iload_n 1, 1) := by decide +kernel
theorem dX8_areKinds_15 : decode cX8_areKinds 15 = .ok (.bipush 9, 2) := by decide +kernel
theorem dX8_areKinds_17 : decode cX8_areKinds 17 = .ok (.if_icmp .ge 7, 3) := by decide +kernel
theorem dX8_areKinds_20 : decode cX8_areKinds 20 = .ok (.iconst 1, 1) := by decide +kernel
theorem dX8_areKinds_21 : decode cX8_areKinds 21 = .ok (.goto 4, 3) := by decide +kernel
theorem dX8_areKinds_24 : decode cX8_areKinds 24 = .ok (.iconst 0, 1) := by decide +kernel
theorem dX8_areKinds_25 : decode cX8_areKinds 25 = .ok (.ireturn, 1) := by decide +kernel
theorem dX8_rowLength_0 : decode cX8_rowLength 0 = .ok (.lconst 1, 1) := by decide +kernel
theorem dX8_rowLength_1 : decode cX8_rowLength 1 = .ok (.iload_n 2, 1) := by decide +kernel
theorem dX8_rowLength_2 : decode cX8_rowLength 2 = .ok (.lshl, 1) := by decide +kernel
theorem dX8_rowLength_3 : decode cX8_rowLength 3 = .ok (.lconst 1, 1) := by decide +kernel
theorem dX8_rowLength_4 : decode cX8_rowLength 4 = .ok (.lsub, 1) := by decide +kernel
theorem dX8_rowLength_5 : decode cX8_rowLength 5 = .ok (.lstore 5, 2) := by decide +kernel
theorem dX8_rowLength_7 : decode cX8_rowLength 7 = .ok (.lload_n 0, 1) := by decide +kernel
theorem dX8_rowLength_8 : decode cX8_rowLength 8 = .ok (.lstore 7, 2) := by decide +kernel
theorem dX8_rowLength_10 : decode cX8_rowLength 10 = .ok (.iconst 0, 1) := by decide +kernel
theorem dX8_rowLength_11 : decode cX8_rowLength 11 = .ok (.istore 9, 2) := by decide +kernel
theorem dX8_rowLength_13 : decode cX8_rowLength 13 = .ok (.iload 9, 2) := by decide +kernel
theorem dX8_rowLength_15 : decode cX8_rowLength 15 = .ok (.iload 4, 2) := by decide +kernel
theorem dX8_rowLength_17 : decode cX8_rowLength 17 = .ok (.if_icmp .ge 38, 3) := by decide +kernel
theorem dX8_rowLength_20 : decode cX8_rowLength 20 = .ok (.lload 7, 2) := by decide +kernel
theorem dX8_rowLength_22 : decode cX8_rowLength 22 = .ok (.lload 5, 2) := by decide +kernel
theorem dX8_rowLength_24 : decode cX8_rowLength 24 = .ok (.land, 1) := by decide +kernel
theorem dX8_rowLength_25 : decode cX8_rowLength 25 = .ok (.lconst 0, 1) := by decide +kernel
theorem dX8_rowLength_26 : decode cX8_rowLength 26 = .ok (.lcmp, 1) := by decide +kernel
theorem dX8_rowLength_27 : decode cX8_rowLength 27 = .ok (.ifCond .eq 28, 3) := by decide +kernel
theorem dX8_rowLength_30 : decode cX8_rowLength 30 = .ok (.lload 7, 2) := by decide +kernel
theorem dX8_rowLength_32 : decode cX8_rowLength 32 = .ok (.lload 5, 2) := by decide +kernel
theorem dX8_rowLength_34 : decode cX8_rowLength 34 = .ok (.land, 1) := by decide +kernel
theorem dX8_rowLength_35 : decode cX8_rowLength 35 = .ok (.iload_n 3, 1) := by decide +kernel
theorem dX8_rowLength_36 : decode cX8_rowLength 36 = .ok (.i2l, 1) := by decide +kernel
theorem dX8_rowLength_37 : decode cX8_rowLength 37 = .ok (.lcmp, 1) := by decide +kernel
theorem dX8_rowLength_38 : decode cX8_rowLength 38 = .ok (.ifCond .le 5, 3) := by decide +kernel
theorem dX8_rowLength_41 : decode cX8_rowLength 41 = .ok (.iconst 0, 1) := by decide +kernel
theorem dX8_rowLength_42 : decode cX8_rowLength 42 = .ok (.ireturn, 1) := by decide +kernel
theorem dX8_rowLength_43 : decode cX8_rowLength 43 = .ok (.lload 7, 2) := by decide +kernel
theorem dX8_rowLength_45 : decode cX8_rowLength 45 = .ok (.iload_n 2, 1) := by decide +kernel
theorem dX8_rowLength_46 : decode cX8_rowLength 46 = .ok (.lushr, 1) := by decide +kernel
theorem dX8_rowLength_47 : decode cX8_rowLength 47 = .ok (.lstore 7, 2) := by decide +kernel
theorem dX8_rowLength_49 : decode cX8_rowLength 49 = .ok (.iinc 9 1, 3) := by decide +kernel
theorem dX8_rowLength_52 : decode cX8_rowLength 52 = .ok (.goto (-39), 3) := by decide +kernel
theorem dX8_rowLength_55 : decode cX8_rowLength 55 = .ok (.lload 7, 2) := by decide +kernel
theorem dX8_rowLength_57 : decode cX8_rowLength 57 = .ok (.lconst 0, 1) := by decide +kernel
theorem dX8_rowLength_58 : decode cX8_rowLength 58 = .ok (.lcmp, 1) := by decide +kernel
theorem dX8_rowLength_59 : decode cX8_rowLength 59 = .ok (.ifCond .ne 8, 3) := by decide +kernel
theorem dX8_rowLength_62 : decode cX8_rowLength 62 = .ok (.iload 9, 2) := by decide +kernel
theorem dX8_rowLength_64 : decode cX8_rowLength 64 = .ok (.goto 4, 3) := by decide +kernel
theorem dX8_rowLength_67 : decode cX8_rowLength 67 = .ok (.iconst 0, 1) := by decide +kernel
theorem dX8_rowLength_68 : decode cX8_rowLength 68 = .ok (.ireturn, 1) := by decide +kernel
theorem dX8_wordOf_0 : decode cX8_wordOf 0 = .ok (.iload_n 0, 1) := by decide +kernel
theorem dX8_wordOf_1 : decode cX8_wordOf 1 = .ok (.sipush 540, 3) := by decide +kernel
theorem dX8_wordOf_4 : decode cX8_wordOf 4 = .ok (.if_icmp .ne 7, 3) := by decide +kernel
theorem dX8_wordOf_7 : decode cX8_wordOf 7 = .ok (.iconst (-1), 1) := by decide +kernel
theorem dX8_wordOf_8 : decode cX8_wordOf 8 = .ok (.goto 7, 3) := by decide +kernel
theorem dX8_wordOf_11 : decode cX8_wordOf 11 = .ok (.iload_n 0, 1) := by decide +kernel
theorem dX8_wordOf_12 : decode cX8_wordOf 12 = .ok (.bipush 9, 2) := by decide +kernel
theorem dX8_wordOf_14 : decode cX8_wordOf 14 = .ok (.idiv, 1) := by decide +kernel
theorem dX8_wordOf_15 : decode cX8_wordOf 15 = .ok (.ireturn, 1) := by decide +kernel
theorem dX8_endingOf_0 : decode cX8_endingOf 0 = .ok (.iload_n 0, 1) := by decide +kernel
theorem dX8_endingOf_1 : decode cX8_endingOf 1 = .ok (.sipush 540, 3) := by decide +kernel
theorem dX8_endingOf_4 : decode cX8_endingOf 4 = .ok (.if_icmp .ne 7, 3) := by decide +kernel
theorem dX8_endingOf_7 : decode cX8_endingOf 7 = .ok (.iconst (-1), 1) := by decide +kernel
theorem dX8_endingOf_8 : decode cX8_endingOf 8 = .ok (.goto 9, 3) := by decide +kernel
theorem dX8_endingOf_11 : decode cX8_endingOf 11 = .ok (.iload_n 0, 1) := by decide +kernel
theorem dX8_endingOf_12 : decode cX8_endingOf 12 = .ok (.bipush 9, 2) := by decide +kernel
theorem dX8_endingOf_14 : decode cX8_endingOf 14 = .ok (.irem, 1) := by decide +kernel
theorem dX8_endingOf_15 : decode cX8_endingOf 15 = .ok (.iconst 1, 1) := by decide +kernel
theorem dX8_endingOf_16 : decode cX8_endingOf 16 = .ok (.isub, 1) := by decide +kernel
theorem dX8_endingOf_17 : decode cX8_endingOf 17 = .ok (.ireturn, 1) := by decide +kernel
theorem dX8_fillRange_0 : decode cX8_fillRange 0 = .ok (.iload_n 1, 1) := by decide +kernel
theorem dX8_fillRange_1 : decode cX8_fillRange 1 = .ok (.istore 4, 2) := by decide +kernel
theorem dX8_fillRange_3 : decode cX8_fillRange 3 = .ok (.iload 4, 2) := by decide +kernel
theorem dX8_fillRange_5 : decode cX8_fillRange 5 = .ok (.iload_n 2, 1) := by decide +kernel
theorem dX8_fillRange_6 : decode cX8_fillRange 6 = .ok (.if_icmp .ge 14, 3) := by decide +kernel
theorem dX8_fillRange_9 : decode cX8_fillRange 9 = .ok (.aload_n 0, 1) := by decide +kernel
theorem dX8_fillRange_10 : decode cX8_fillRange 10 = .ok (.iload 4, 2) := by decide +kernel
theorem dX8_fillRange_12 : decode cX8_fillRange 12 = .ok (.iload_n 3, 1) := by decide +kernel
theorem dX8_fillRange_13 : decode cX8_fillRange 13 = .ok (.iastore, 1) := by decide +kernel
theorem dX8_fillRange_14 : decode cX8_fillRange 14 = .ok (.iinc 4 1, 3) := by decide +kernel
theorem dX8_fillRange_17 : decode cX8_fillRange 17 = .ok (.goto (-14), 3) := by decide +kernel
theorem dX8_fillRange_20 : decode cX8_fillRange 20 = .ok (.return_, 1) := by decide +kernel
theorem dX8_digits_0 : decode cX8_digits 0 = .ok (.iconst 0, 1) := by decide +kernel
theorem dX8_digits_1 : decode cX8_digits 1 = .ok (.istore_n 1, 1) := by decide +kernel
theorem dX8_digits_2 : decode cX8_digits 2 = .ok (.iload_n 1, 1) := by decide +kernel
theorem dX8_digits_3 : decode cX8_digits 3 = .ok (.bipush 31, 2) := by decide +kernel
theorem dX8_digits_5 : decode cX8_digits 5 = .ok (.if_icmp .ge 15, 3) := by decide +kernel
theorem dX8_digits_8 : decode cX8_digits 8 = .ok (.iload_n 0, 1) := by decide +kernel
theorem dX8_digits_9 : decode cX8_digits 9 = .ok (.iload_n 1, 1) := by decide +kernel
theorem dX8_digits_10 : decode cX8_digits 10 = .ok (.ishr, 1) := by decide +kernel
theorem dX8_digits_11 : decode cX8_digits 11 = .ok (.ifCond .le 9, 3) := by decide +kernel
theorem dX8_digits_14 : decode cX8_digits 14 = .ok (.iinc 1 1, 3) := by decide +kernel
theorem dX8_digits_17 : decode cX8_digits 17 = .ok (.goto (-15), 3) := by decide +kernel
theorem dX8_digits_20 : decode cX8_digits 20 = .ok (.iload_n 1, 1) := by decide +kernel
theorem dX8_digits_21 : decode cX8_digits 21 = .ok (.ireturn, 1) := by decide +kernel
theorem dX9_init_0 : decode cX9_init 0 = .ok (.aload_n 0, 1) := by decide +kernel
theorem dX9_init_1 : decode cX9_init 1 = .ok (.invokespecial 1, 3) := by decide +kernel
theorem dX9_init_4 : decode cX9_init 4 = .ok (.aload_n 0, 1) := by decide +kernel
theorem dX9_init_5 : decode cX9_init 5 = .ok (.bipush 50, 2) := by decide +kernel
theorem dX9_init_7 : decode cX9_init 7 = .ok (.newarray .int, 2) := by decide +kernel
theorem dX9_init_9 : decode cX9_init 9 = .ok (.putfield 9, 3) := by decide +kernel
theorem dX9_init_12 : decode cX9_init 12 = .ok (.aload_n 0, 1) := by decide +kernel
theorem dX9_init_13 : decode cX9_init 13 = .ok (.sipush 150, 3) := by decide +kernel
theorem dX9_init_16 : decode cX9_init 16 = .ok (.newarray .int, 2) := by decide +kernel
theorem dX9_init_18 : decode cX9_init 18 = .ok (.putfield 13, 3) := by decide +kernel
theorem dX9_init_21 : decode cX9_init 21 = .ok (.aload_n 0, 1) := by decide +kernel
theorem dX9_init_22 : decode cX9_init 22 = .ok (.sipush 150, 3) := by decide +kernel
theorem dX9_init_25 : decode cX9_init 25 = .ok (.newarray .long, 2) := by decide +kernel
theorem dX9_init_27 : decode cX9_init 27 = .ok (.putfield 16, 3) := by decide +kernel
theorem dX9_init_30 : decode cX9_init 30 = .ok (.aload_n 0, 1) := by decide +kernel
theorem dX9_init_31 : decode cX9_init 31 = .ok (.bipush 60, 2) := by decide +kernel
theorem dX9_init_33 : decode cX9_init 33 = .ok (.newarray .long, 2) := by decide +kernel
theorem dX9_init_35 : decode cX9_init 35 = .ok (.putfield 20, 3) := by decide +kernel
theorem dX9_init_38 : decode cX9_init 38 = .ok (.aload_n 0, 1) := by decide +kernel
theorem dX9_init_39 : decode cX9_init 39 = .ok (.bipush 60, 2) := by decide +kernel
theorem dX9_init_41 : decode cX9_init 41 = .ok (.newarray .long, 2) := by decide +kernel
theorem dX9_init_43 : decode cX9_init 43 = .ok (.putfield 23, 3) := by decide +kernel
theorem dX9_init_46 : decode cX9_init 46 = .ok (.aload_n 0, 1) := by decide +kernel
theorem dX9_init_47 : decode cX9_init 47 = .ok (.bipush 8, 2) := by decide +kernel
theorem dX9_init_49 : decode cX9_init 49 = .ok (.newarray .long, 2) := by decide +kernel
theorem dX9_init_51 : decode cX9_init 51 = .ok (.putfield 26, 3) := by decide +kernel
theorem dX9_init_54 : decode cX9_init 54 = .ok (.aload_n 0, 1) := by decide +kernel
theorem dX9_init_55 : decode cX9_init 55 = .ok (.bipush 60, 2) := by decide +kernel
theorem dX9_init_57 : decode cX9_init 57 = .ok (.newarray .int, 2) := by decide +kernel
theorem dX9_init_59 : decode cX9_init 59 = .ok (.putfield 29, 3) := by decide +kernel
theorem dX9_init_62 : decode cX9_init 62 = .ok (.aload_n 0, 1) := by decide +kernel
theorem dX9_init_63 : decode cX9_init 63 = .ok (.bipush 60, 2) := by decide +kernel
theorem dX9_init_65 : decode cX9_init 65 = .ok (.newarray .int, 2) := by decide +kernel
theorem dX9_init_67 : decode cX9_init 67 = .ok (.putfield 32, 3) := by decide +kernel
theorem dX9_init_70 : decode cX9_init 70 = .ok (.aload_n 0, 1) := by decide +kernel
theorem dX9_init_71 : decode cX9_init 71 = .ok (.bipush 60, 2) := by decide +kernel
theorem dX9_init_73 : decode cX9_init 73 = .ok (.newarray .int, 2) := by decide +kernel
theorem dX9_init_75 : decode cX9_init 75 = .ok (.putfield 35, 3) := by decide +kernel
theorem dX9_init_78 : decode cX9_init 78 = .ok (.aload_n 0, 1) := by decide +kernel
theorem dX9_init_79 : decode cX9_init 79 = .ok (.bipush 8, 2) := by decide +kernel
theorem dX9_init_81 : decode cX9_init 81 = .ok (.newarray .int, 2) := by decide +kernel
theorem dX9_init_83 : decode cX9_init 83 = .ok (.putfield 38, 3) := by decide +kernel
theorem dX9_init_86 : decode cX9_init 86 = .ok (.aload_n 0, 1) := by decide +kernel
theorem dX9_init_87 : decode cX9_init 87 = .ok (.bipush 8, 2) := by decide +kernel
theorem dX9_init_89 : decode cX9_init 89 = .ok (.newarray .int, 2) := by decide +kernel
theorem dX9_init_91 : decode cX9_init 91 = .ok (.putfield 41, 3) := by decide +kernel
theorem dX9_init_94 : decode cX9_init 94 = .ok (.aload_n 0, 1) := by decide +kernel
theorem dX9_init_95 : decode cX9_init 95 = .ok (.bipush 8, 2) := by decide +kernel
theorem dX9_init_97 : decode cX9_init 97 = .ok (.newarray .int, 2) := by decide +kernel
theorem dX9_init_99 : decode cX9_init 99 = .ok (.putfield 44, 3) := by decide +kernel
theorem dX9_init_102 : decode cX9_init 102 = .ok (.aload_n 0, 1) := by decide +kernel
theorem dX9_init_103 : decode cX9_init 103 = .ok (.bipush 30, 2) := by decide +kernel
theorem dX9_init_105 : decode cX9_init 105 = .ok (.putfield 47, 3) := by decide +kernel
theorem dX9_init_108 : decode cX9_init 108 = .ok (.aload_n 0, 1) := by decide +kernel
theorem dX9_init_109 : decode cX9_init 109 = .ok (.bipush 70, 2) := by decide +kernel
theorem dX9_init_111 : decode cX9_init 111 = .ok (.putfield 51, 3) := by decide +kernel
theorem dX9_init_114 : decode cX9_init 114 = .ok (.aload_n 0, 1) := by decide +kernel
theorem dX9_init_115 : decode cX9_init 115 = .ok (.bipush 100, 2) := by decide +kernel
theorem dX9_init_117 : decode cX9_init 117 = .ok (.putfield 54, 3) := by decide +kernel
theorem dX9_init_120 : decode cX9_init 120 = .ok (.aload_n 0, 1) := by decide +kernel
theorem dX9_init_121 : decode cX9_init 121 = .ok (.bipush 81, 2) := by decide +kernel
theorem dX9_init_123 : decode cX9_init 123 = .ok (.newarray .int, 2) := by decide +kernel
theorem dX9_init_125 : decode cX9_init 125 = .ok (.putfield 57, 3) := by decide +kernel
theorem dX9_init_128 : decode cX9_init 128 = .ok (.aload_n 0, 1) := by decide +kernel
theorem dX9_init_129 : decode cX9_init 129 = .ok (.bipush 81, 2) := by decide +kernel
theorem dX9_init_131 : decode cX9_init 131 = .ok (.newarray .int, 2) := by decide +kernel
theorem dX9_init_133 : decode cX9_init 133 = .ok (.putfield 60, 3) := by decide +kernel
theorem dX9_init_136 : decode cX9_init 136 = .ok (.aload_n 0, 1) := by decide +kernel
theorem dX9_init_137 : decode cX9_init 137 = .ok (.bipush 36, 2) := by decide +kernel
theorem dX9_init_139 : decode cX9_init 139 = .ok (.newarray .int, 2) := by decide +kernel
theorem dX9_init_141 : decode cX9_init 141 = .ok (.putfield 63, 3) := by decide +kernel
theorem dX9_init_144 : decode cX9_init 144 = .ok (.aload_n 0, 1) := by decide +kernel
theorem dX9_init_145 : decode cX9_init 145 = .ok (.bipush 37, 2) := by decide +kernel
theorem dX9_init_147 : decode cX9_init 147 = .ok (.newarray .int, 2) := by decide +kernel
theorem dX9_init_149 : decode cX9_init 149 = .ok (.putfield 66, 3) := by decide +kernel
theorem dX9_init_152 : decode cX9_init 152 = .ok (.aload_n 0, 1) := by decide +kernel
theorem dX9_init_153 : decode cX9_init 153 = .ok (.bipush 36, 2) := by decide +kernel
theorem dX9_init_155 : decode cX9_init 155 = .ok (.newarray .int, 2) := by decide +kernel
theorem dX9_init_157 : decode cX9_init 157 = .ok (.putfield 69, 3) := by decide +kernel
theorem dX9_init_160 : decode cX9_init 160 = .ok (.aload_n 0, 1) := by decide +kernel
theorem dX9_init_161 : decode cX9_init 161 = .ok (.bipush 36, 2) := by decide +kernel
theorem dX9_init_163 : decode cX9_init 163 = .ok (.newarray .int, 2) := by decide +kernel
theorem dX9_init_165 : decode cX9_init 165 = .ok (.putfield 72, 3) := by decide +kernel
theorem dX9_init_168 : decode cX9_init 168 = .ok (.aload_n 0, 1) := by decide +kernel
theorem dX9_init_169 : decode cX9_init 169 = .ok (.bipush 36, 2) := by decide +kernel
theorem dX9_init_171 : decode cX9_init 171 = .ok (.newarray .int, 2) := by decide +kernel
theorem dX9_init_173 : decode cX9_init 173 = .ok (.putfield 75, 3) := by decide +kernel
theorem dX9_init_176 : decode cX9_init 176 = .ok (.aload_n 0, 1) := by decide +kernel
theorem dX9_init_177 : decode cX9_init 177 = .ok (.bipush 36, 2) := by decide +kernel
theorem dX9_init_179 : decode cX9_init 179 = .ok (.newarray .int, 2) := by decide +kernel
theorem dX9_init_181 : decode cX9_init 181 = .ok (.putfield 78, 3) := by decide +kernel
theorem dX9_init_184 : decode cX9_init 184 = .ok (.aload_n 0, 1) := by decide +kernel
theorem dX9_init_185 : decode cX9_init 185 = .ok (.bipush 80, 2) := by decide +kernel
theorem dX9_init_187 : decode cX9_init 187 = .ok (.newarray .int, 2) := by decide +kernel
theorem dX9_init_189 : decode cX9_init 189 = .ok (.putfield 81, 3) := by decide +kernel
theorem dX9_init_192 : decode cX9_init 192 = .ok (.aload_n 0, 1) := by decide +kernel
theorem dX9_init_193 : decode cX9_init 193 = .ok (.bipush 80, 2) := by decide +kernel
theorem dX9_init_195 : decode cX9_init 195 = .ok (.newarray .int, 2) := by decide +kernel
theorem dX9_init_197 : decode cX9_init 197 = .ok (.putfield 84, 3) := by decide +kernel
theorem dX9_init_200 : decode cX9_init 200 = .ok (.aload_n 0, 1) := by decide +kernel
theorem dX9_init_201 : decode cX9_init 201 = .ok (.sipush 2880, 3) := by decide +kernel
theorem dX9_init_204 : decode cX9_init 204 = .ok (.newarray .int, 2) := by decide +kernel
theorem dX9_init_206 : decode cX9_init 206 = .ok (.putfield 87, 3) := by decide +kernel
theorem dX9_init_209 : decode cX9_init 209 = .ok (.aload_n 0, 1) := by decide +kernel
theorem dX9_init_210 : decode cX9_init 210 = .ok (.sipush 2960, 3) := by decide +kernel
theorem dX9_init_213 : decode cX9_init 213 = .ok (.newarray .int, 2) := by decide +kernel
theorem dX9_init_215 : decode cX9_init 215 = .ok (.putfield 90, 3) := by decide +kernel
theorem dX9_init_218 : decode cX9_init 218 = .ok (.aload_n 0, 1) := by decide +kernel
theorem dX9_init_219 : decode cX9_init 219 = .ok (.sipush 2880, 3) := by decide +kernel
theorem dX9_init_222 : decode cX9_init 222 = .ok (.newarray .int, 2) := by decide +kernel
theorem dX9_init_224 : decode cX9_init 224 = .ok (.putfield 93, 3) := by decide +kernel
theorem dX9_init_227 : decode cX9_init 227 = .ok (.aload_n 0, 1) := by decide +kernel
theorem dX9_init_228 : decode cX9_init 228 = .ok (.sipush 2880, 3) := by decide +kernel
theorem dX9_init_231 : decode cX9_init 231 = .ok (.newarray .int, 2) := by decide +kernel
theorem dX9_init_233 : decode cX9_init 233 = .ok (.putfield 96, 3) := by decide +kernel
theorem dX9_init_236 : decode cX9_init 236 = .ok (.aload_n 0, 1) := by decide +kernel
theorem dX9_init_237 : decode cX9_init 237 = .ok (.sipush 2880, 3) := by decide +kernel
theorem dX9_init_240 : decode cX9_init 240 = .ok (.newarray .int, 2) := by decide +kernel
theorem dX9_init_242 : decode cX9_init 242 = .ok (.putfield 99, 3) := by decide +kernel
theorem dX9_init_245 : decode cX9_init 245 = .ok (.aload_n 0, 1) := by decide +kernel
theorem dX9_init_246 : decode cX9_init 246 = .ok (.sipush 2880, 3) := by decide +kernel
theorem dX9_init_249 : decode cX9_init 249 = .ok (.newarray .int, 2) := by decide +kernel
theorem dX9_init_251 : decode cX9_init 251 = .ok (.putfield 102, 3) := by decide +kernel
theorem dX9_init_254 : decode cX9_init 254 = .ok (.aload_n 0, 1) := by decide +kernel
theorem dX9_init_255 : decode cX9_init 255 = .ok (.bipush 40, 2) := by decide +kernel
theorem dX9_init_257 : decode cX9_init 257 = .ok (.newarray .int, 2) := by decide +kernel
theorem dX9_init_259 : decode cX9_init 259 = .ok (.putfield 105, 3) := by decide +kernel
theorem dX9_init_262 : decode cX9_init 262 = .ok (.aload_n 0, 1) := by decide +kernel
theorem dX9_init_263 : decode cX9_init 263 = .ok (.sipush 1440, 3) := by decide +kernel
theorem dX9_init_266 : decode cX9_init 266 = .ok (.newarray .int, 2) := by decide +kernel
theorem dX9_init_268 : decode cX9_init 268 = .ok (.putfield 108, 3) := by decide +kernel
theorem dX9_init_271 : decode cX9_init 271 = .ok (.aload_n 0, 1) := by decide +kernel
theorem dX9_init_272 : decode cX9_init 272 = .ok (.sipush 1440, 3) := by decide +kernel
theorem dX9_init_275 : decode cX9_init 275 = .ok (.newarray .int, 2) := by decide +kernel
theorem dX9_init_277 : decode cX9_init 277 = .ok (.putfield 111, 3) := by decide +kernel
theorem dX9_init_280 : decode cX9_init 280 = .ok (.aload_n 0, 1) := by decide +kernel
theorem dX9_init_281 : decode cX9_init 281 = .ok (.ldc 114, 2) := by decide +kernel
theorem dX9_init_283 : decode cX9_init 283 = .ok (.newarray .int, 2) := by decide +kernel
theorem dX9_init_285 : decode cX9_init 285 = .ok (.putfield 115, 3) := by decide +kernel
theorem dX9_init_288 : decode cX9_init 288 = .ok (.aload_n 0, 1) := by decide +kernel
theorem dX9_init_289 : decode cX9_init 289 = .ok (.bipush 37, 2) := by decide +kernel
theorem dX9_init_291 : decode cX9_init 291 = .ok (.newarray .int, 2) := by decide +kernel
theorem dX9_init_293 : decode cX9_init 293 = .ok (.putfield 118, 3) := by decide +kernel
theorem dX9_init_296 : decode cX9_init 296 = .ok (.aload_n 0, 1) := by decide +kernel
theorem dX9_init_297 : decode cX9_init 297 = .ok (.bipush 37, 2) := by decide +kernel
theorem dX9_init_299 : decode cX9_init 299 = .ok (.newarray .int, 2) := by decide +kernel
theorem dX9_init_301 : decode cX9_init 301 = .ok (.putfield 121, 3) := by decide +kernel
theorem dX9_init_304 : decode cX9_init 304 = .ok (.aload_n 0, 1) := by decide +kernel
theorem dX9_init_305 : decode cX9_init 305 = .ok (.sipush 370, 3) := by decide +kernel
theorem dX9_init_308 : decode cX9_init 308 = .ok (.newarray .int, 2) := by decide +kernel
theorem dX9_init_310 : decode cX9_init 310 = .ok (.putfield 124, 3) := by decide +kernel
theorem dX9_init_313 : decode cX9_init 313 = .ok (.aload_n 0, 1) := by decide +kernel
theorem dX9_init_314 : decode cX9_init 314 = .ok (.sipush 370, 3) := by decide +kernel
theorem dX9_init_317 : decode cX9_init 317 = .ok (.newarray .int, 2) := by decide +kernel
theorem dX9_init_319 : decode cX9_init 319 = .ok (.putfield 127, 3) := by decide +kernel
theorem dX9_init_322 : decode cX9_init 322 = .ok (.aload_n 0, 1) := by decide +kernel
theorem dX9_init_323 : decode cX9_init 323 = .ok (.bipush 36, 2) := by decide +kernel
theorem dX9_init_325 : decode cX9_init 325 = .ok (.newarray .int, 2) := by decide +kernel
theorem dX9_init_327 : decode cX9_init 327 = .ok (.putfield 130, 3) := by decide +kernel
theorem dX9_init_330 : decode cX9_init 330 = .ok (.aload_n 0, 1) := by decide +kernel
theorem dX9_init_331 : decode cX9_init 331 = .ok (.bipush 36, 2) := by decide +kernel
theorem dX9_init_333 : decode cX9_init 333 = .ok (.newarray .int, 2) := by decide +kernel
theorem dX9_init_335 : decode cX9_init 335 = .ok (.putfield 133, 3) := by decide +kernel
theorem dX9_init_338 : decode cX9_init 338 = .ok (.aload_n 0, 1) := by decide +kernel
theorem dX9_init_339 : decode cX9_init 339 = .ok (.bipush 36, 2) := by decide +kernel
theorem dX9_init_341 : decode cX9_init 341 = .ok (.newarray .int, 2) := by decide +kernel
theorem dX9_init_343 : decode cX9_init 343 = .ok (.putfield 136, 3) := by decide +kernel
theorem dX9_init_346 : decode cX9_init 346 = .ok (.aload_n 0, 1) := by decide +kernel
theorem dX9_init_347 : decode cX9_init 347 = .ok (.bipush 36, 2) := by decide +kernel
theorem dX9_init_349 : decode cX9_init 349 = .ok (.newarray .int, 2) := by decide +kernel
theorem dX9_init_351 : decode cX9_init 351 = .ok (.putfield 139, 3) := by decide +kernel
theorem dX9_init_354 : decode cX9_init 354 = .ok (.aload_n 0, 1) := by decide +kernel
theorem dX9_init_355 : decode cX9_init 355 = .ok (.bipush 12, 2) := by decide +kernel
theorem dX9_init_357 : decode cX9_init 357 = .ok (.newarray .int, 2) := by decide +kernel
theorem dX9_init_359 : decode cX9_init 359 = .ok (.putfield 142, 3) := by decide +kernel
theorem dX9_init_362 : decode cX9_init 362 = .ok (.aload_n 0, 1) := by decide +kernel
theorem dX9_init_363 : decode cX9_init 363 = .ok (.bipush 12, 2) := by decide +kernel
theorem dX9_init_365 : decode cX9_init 365 = .ok (.newarray .int, 2) := by decide +kernel
theorem dX9_init_367 : decode cX9_init 367 = .ok (.putfield 145, 3) := by decide +kernel
theorem dX9_init_370 : decode cX9_init 370 = .ok (.aload_n 0, 1) := by decide +kernel
theorem dX9_init_371 : decode cX9_init 371 = .ok (.bipush 12, 2) := by decide +kernel
theorem dX9_init_373 : decode cX9_init 373 = .ok (.newarray .int, 2) := by decide +kernel
theorem dX9_init_375 : decode cX9_init 375 = .ok (.putfield 148, 3) := by decide +kernel
theorem dX9_init_378 : decode cX9_init 378 = .ok (.return_, 1) := by decide +kernel
theorem dX9_thrown_0 : decode cX9_thrown 0 = .ok (.aload_n 0, 1) := by decide +kernel
theorem dX9_thrown_1 : decode cX9_thrown 1 = .ok (.getfield 151, 3) := by decide +kernel
theorem dX9_thrown_4 : decode cX9_thrown 4 = .ok (.ireturn, 1) := by decide +kernel
theorem dX9_fail_0 : decode cX9_fail 0 = .ok (.aload_n 0, 1) := by decide +kernel
theorem dX9_fail_1 : decode cX9_fail 1 = .ok (.iconst 1, 1) := by decide +kernel
theorem dX9_fail_2 : decode cX9_fail 2 = .ok (.putfield 151, 3) := by decide +kernel
theorem dX9_fail_5 : decode cX9_fail 5 = .ok (.iconst 0, 1) := by decide +kernel
theorem dX9_fail_6 : decode cX9_fail 6 = .ok (.ireturn, 1) := by decide +kernel
theorem dX9_changed_0 : decode cX9_changed 0 = .ok (.aload_n 0, 1) := by decide +kernel
theorem dX9_changed_1 : decode cX9_changed 1 = .ok (.iconst 0, 1) := by decide +kernel
theorem dX9_changed_2 : decode cX9_changed 2 = .ok (.putfield 154, 3) := by decide +kernel
theorem dX9_changed_5 : decode cX9_changed 5 = .ok (.aload_n 0, 1) := by decide +kernel
theorem dX9_changed_6 : decode cX9_changed 6 = .ok (.iconst 0, 1) := by decide +kernel
theorem dX9_changed_7 : decode cX9_changed 7 = .ok (.putfield 158, 3) := by decide +kernel
theorem dX9_changed_10 : decode cX9_changed 10 = .ok (.return_, 1) := by decide +kernel
theorem dX9_piece_0 : decode cX9_piece 0 = .ok (.lload_n 0, 1) := by decide +kernel
theorem dX9_piece_1 : decode cX9_piece 1 = .ok (.iload_n 2, 1) := by decide +kernel
theorem dX9_piece_2 : decode cX9_piece 2 = .ok (.iload_n 3, 1) := by decide +kernel
theorem dX9_piece_3 : decode cX9_piece 3 = .ok (.imul, 1) := by decide +kernel
theorem dX9_piece_4 : decode cX9_piece 4 = .ok (.lshr, 1) := by decide +kernel
theorem dX9_piece_5 : decode cX9_piece 5 = .ok (.lconst 1, 1) := by decide +kernel
theorem dX9_piece_6 : decode cX9_piece 6 = .ok (.iload_n 2, 1) := by decide +kernel
theorem dX9_piece_7 : decode cX9_piece 7 = .ok (.lshl, 1) := by decide +kernel
theorem dX9_piece_8 : decode cX9_piece 8 = .ok (.lconst 1, 1) := by decide +kernel
theorem dX9_piece_9 : decode cX9_piece 9 = .ok (.lsub, 1) := by decide +kernel
theorem dX9_piece_10 : decode cX9_piece 10 = .ok (.land, 1) := by decide +kernel
theorem dX9_piece_11 : decode cX9_piece 11 = .ok (.l2i, 1) := by decide +kernel
theorem dX9_piece_12 : decode cX9_piece 12 = .ok (.ireturn, 1) := by decide +kernel
set_option maxRecDepth 20000 in
theorem ggX9_sizeOf_X9_piece : GoodIn wsX9_sizeOf wsX9_piece := goodIn_r _ [4] (by decide +kernel) (by decide +kernel)
set_option maxRecDepth 20000 in
theorem gX9_sizeOf_X9_piece : GoodIn wsX9_sizeOf (va_wsS RX9 161 yX9_piece wsX9_piece) := goodIn_app (goodIn_of _ (by decide +kernel)) ggX9_sizeOf_X9_piece
theorem dX9_sizeOf_0 : decode cX9_sizeOf 0 = .ok (.iconst 0, 1) := by decide +kernel
theorem dX9_sizeOf_1 : decode cX9_sizeOf 1 = .ok (.istore_n 3, 1) := by decide +kernel
theorem dX9_sizeOf_2 : decode cX9_sizeOf 2 = .ok (.iload_n 2, 1) := by decide +kernel
theorem dX9_sizeOf_3 : decode cX9_sizeOf 3 = .ok (.iload_n 3, 1) := by decide +kernel
theorem dX9_sizeOf_4 : decode cX9_sizeOf 4 = .ok (.imul, 1) := by decide +kernel
theorem dX9_sizeOf_5 : decode cX9_sizeOf 5 = .ok (.bipush 60, 2) := by decide +kernel
theorem dX9_sizeOf_7 : decode cX9_sizeOf 7 = .ok (.if_icmp .ge 18, 3) := by decide +kernel
theorem dX9_sizeOf_10 : decode cX9_sizeOf 10 = .ok (.lload_n 0, 1) := by decide +kernel
theorem dX9_sizeOf_11 : decode cX9_sizeOf 11 = .ok (.iload_n 2, 1) := by decide +kernel
theorem dX9_sizeOf_12 : decode cX9_sizeOf 12 = .ok (.iload_n 3, 1) := by decide +kernel
theorem dX9_sizeOf_13 : decode cX9_sizeOf 13 = .ok (.invokestatic 161, 3) := by decide +kernel
theorem dX9_sizeOf_16 : decode cX9_sizeOf 16 = .ok (.ifCond .eq 9, 3) := by decide +kernel
theorem dX9_sizeOf_19 : decode cX9_sizeOf 19 = .ok (.iinc 3 1, 3) := by decide +kernel
theorem dX9_sizeOf_22 : decode cX9_sizeOf 22 = .ok (.goto (-20), 3) := by decide +kernel
theorem dX9_sizeOf_25 : decode cX9_sizeOf 25 = .ok (.iload_n 3, 1) := by decide +kernel
theorem dX9_sizeOf_26 : decode cX9_sizeOf 26 = .ok (.ireturn, 1) := by decide +kernel
set_option maxRecDepth 20000 in
theorem ggX9_isRow_X9_sizeOf : GoodIn wsX9_isRow wsX9_sizeOf := goodIn_r _ [4, 5, 6, 3, 7] (by decide +kernel) (by decide +kernel)
set_option maxRecDepth 20000 in
theorem gX9_isRow_X9_sizeOf : GoodIn wsX9_isRow (va_wsS RX9 165 yX9_sizeOf wsX9_sizeOf) := goodIn_app (goodIn_of _ (by decide +kernel)) ggX9_isRow_X9_sizeOf
set_option maxRecDepth 20000 in
theorem ggX9_isRow_X9_piece : GoodIn wsX9_isRow wsX9_piece := goodIn_r _ [7] (by decide +kernel) (by decide +kernel)
set_option maxRecDepth 20000 in
theorem gX9_isRow_X9_piece : GoodIn wsX9_isRow (va_wsS RX9 161 yX9_piece wsX9_piece) := goodIn_app (goodIn_of _ (by decide +kernel)) ggX9_isRow_X9_piece
theorem dX9_isRow_0 : decode cX9_isRow 0 = .ok (.lload_n 0, 1) := by decide +kernel
theorem dX9_isRow_1 : decode cX9_isRow 1 = .ok (.iload_n 2, 1) := by decide +kernel
theorem dX9_isRow_2 : decode cX9_isRow 2 = .ok (.invokestatic 165, 3) := by decide +kernel
theorem dX9_isRow_5 : decode cX9_isRow 5 = .ok (.istore 5, 2) := by decide +kernel
theorem dX9_isRow_7 : decode cX9_isRow 7 = .ok (.lload_n 0, 1) := by decide +kernel
theorem dX9_isRow_8 : decode cX9_isRow 8 = .ok (.lconst 0, 1) := by decide +kernel
theorem dX9_isRow_9 : decode cX9_isRow 9 = .ok (.lcmp, 1) := by decide +kernel
theorem dX9_isRow_10 : decode cX9_isRow 10 = .ok (.ifCond .le 30, 3) := by decide +kernel
theorem dX9_isRow_13 : decode cX9_isRow 13 = .ok (.iload 5, 2) := by decide +kernel
theorem dX9_isRow_15 : decode cX9_isRow 15 = .ok (.iconst 1, 1) := by decide +kernel
theorem dX9_isRow_16 : decode cX9_isRow 16 = .ok (.if_icmp .lt 24, 3) := by decide +kernel
theorem dX9_isRow_19 : decode cX9_isRow 19 = .ok (.iload 5, 2) := by decide +kernel
theorem dX9_isRow_21 : decode cX9_isRow 21 = .ok (.iload_n 3, 1) := by decide +kernel
theorem dX9_isRow_22 : decode cX9_isRow 22 = .ok (.if_icmp .gt 18, 3) := by decide +kernel
theorem dX9_isRow_25 : decode cX9_isRow 25 = .ok (.lload_n 0, 1) := by decide +kernel
theorem dX9_isRow_26 : decode cX9_isRow 26 = .ok (.iload_n 2, 1) := by decide +kernel
theorem dX9_isRow_27 : decode cX9_isRow 27 = .ok (.iload 5, 2) := by decide +kernel
theorem dX9_isRow_29 : decode cX9_isRow 29 = .ok (.imul, 1) := by decide +kernel
theorem dX9_isRow_30 : decode cX9_isRow 30 = .ok (.lshr, 1) := by decide +kernel
theorem dX9_isRow_31 : decode cX9_isRow 31 = .ok (.lconst 0, 1) := by decide +kernel
theorem dX9_isRow_32 : decode cX9_isRow 32 = .ok (.lcmp, 1) := by decide +kernel
theorem dX9_isRow_33 : decode cX9_isRow 33 = .ok (.ifCond .ne 7, 3) := by decide +kernel
theorem dX9_isRow_36 : decode cX9_isRow 36 = .ok (.iconst 1, 1) := by decide +kernel
theorem dX9_isRow_37 : decode cX9_isRow 37 = .ok (.goto 4, 3) := by decide +kernel
theorem dX9_isRow_40 : decode cX9_isRow 40 = .ok (.iconst 0, 1) := by decide +kernel
theorem dX9_isRow_41 : decode cX9_isRow 41 = .ok (.istore 6, 2) := by decide +kernel
theorem dX9_isRow_43 : decode cX9_isRow 43 = .ok (.iconst 0, 1) := by decide +kernel
theorem dX9_isRow_44 : decode cX9_isRow 44 = .ok (.istore 7, 2) := by decide +kernel
theorem dX9_isRow_46 : decode cX9_isRow 46 = .ok (.iload 6, 2) := by decide +kernel
theorem dX9_isRow_48 : decode cX9_isRow 48 = .ok (.ifCond .eq 35, 3) := by decide +kernel
theorem dX9_isRow_51 : decode cX9_isRow 51 = .ok (.iload 7, 2) := by decide +kernel
theorem dX9_isRow_53 : decode cX9_isRow 53 = .ok (.iload 5, 2) := by decide +kernel
theorem dX9_isRow_55 : decode cX9_isRow 55 = .ok (.if_icmp .ge 28, 3) := by decide +kernel
theorem dX9_isRow_58 : decode cX9_isRow 58 = .ok (.lload_n 0, 1) := by decide +kernel
theorem dX9_isRow_59 : decode cX9_isRow 59 = .ok (.iload_n 2, 1) := by decide +kernel
theorem dX9_isRow_60 : decode cX9_isRow 60 = .ok (.iload 7, 2) := by decide +kernel
theorem dX9_isRow_62 : decode cX9_isRow 62 = .ok (.invokestatic 161, 3) := by decide +kernel
theorem dX9_isRow_65 : decode cX9_isRow 65 = .ok (.iload 4, 2) := by decide +kernel
theorem dX9_isRow_67 : decode cX9_isRow 67 = .ok (.if_icmp .gt 7, 3) := by decide +kernel
theorem dX9_isRow_70 : decode cX9_isRow 70 = .ok (.iconst 1, 1) := by decide +kernel
theorem dX9_isRow_71 : decode cX9_isRow 71 = .ok (.goto 4, 3) := by decide +kernel
theorem dX9_isRow_74 : decode cX9_isRow 74 = .ok (.iconst 0, 1) := by decide +kernel
theorem dX9_isRow_75 : decode cX9_isRow 75 = .ok (.istore 6, 2) := by decide +kernel
theorem dX9_isRow_77 : decode cX9_isRow 77 = .ok (.iinc 7 1, 3) := by decide +kernel
theorem dX9_isRow_80 : decode cX9_isRow 80 = .ok (.goto (-34), 3) := by decide +kernel
theorem dX9_isRow_83 : decode cX9_isRow 83 = .ok (.iload 6, 2) := by decide +kernel
theorem dX9_isRow_85 : decode cX9_isRow 85 = .ok (.ireturn, 1) := by decide +kernel
set_option maxRecDepth 20000 in
theorem ggX9_spelling_X9_isRow : GoodIn wsX9_spelling wsX9_isRow := goodIn_r _ [8, 9, 10, 7, 11, 12, 13, 14] (by decide +kernel) (by decide +kernel)
set_option maxRecDepth 20000 in
theorem gX9_spelling_X9_isRow : GoodIn wsX9_spelling (va_wsS RX9 169 yX9_isRow wsX9_isRow) := goodIn_app (goodIn_of _ (by decide +kernel)) ggX9_spelling_X9_isRow
set_option maxRecDepth 20000 in
theorem ggX9_spelling_X9_fail : GoodIn wsX9_spelling wsX9_fail := goodIn_r _ [18, 1, 25, 26, 27, 28, 29, 30, 31, 32, 33, 34, 35, 36, 37, 38, 39, 40, 41, 42, 43, 44, 45, 46, 47, 48, 49, 50, 51, 52, 53, 54, 55, 56, 57, 58, 59, 60, 61, 62, 63, 64, 65, 66, 67, 68, 69, 70, 71, 72, 73, 74, 75, 76, 77, 78, 79, 80, 81, 82, 83, 84, 85] (by decide +kernel) (by decide +kernel)
set_option maxRecDepth 20000 in
theorem gX9_spelling_X9_fail : GoodIn wsX9_spelling (wsV RX9 173 RX9 yX9_fail wsX9_fail) := goodIn_app (goodIn_of _ (by decide +kernel)) ggX9_spelling_X9_fail
set_option maxRecDepth 20000 in
theorem ggX9_spelling_X9_changed : GoodIn wsX9_spelling wsX9_changed := goodIn_r _ [22, 23, 24, 25, 26, 27, 28, 29, 30, 31, 32, 33, 34, 35, 36, 37, 38, 39, 40, 41, 42, 43, 44, 45, 46, 47, 48, 49, 50, 51, 52, 53, 54, 55, 56, 57, 58, 59, 60, 61, 62, 63, 64, 65, 66, 67, 68, 69, 70, 71, 72, 73, 74, 75, 76, 77, 78, 79, 80, 81, 82, 83, 84, 85] (by decide +kernel) (by decide +kernel)
set_option maxRecDepth 20000 in
theorem gX9_spelling_X9_changed : GoodIn wsX9_spelling (wsV RX9 177 RX9 yX9_changed wsX9_changed) := goodIn_app (goodIn_of _ (by decide +kernel)) ggX9_spelling_X9_changed
theorem dX9_spelling_0 : decode cX9_spelling 0 = .ok (.aload_n 0, 1) := by decide +kernel
theorem dX9_spelling_1 : decode cX9_spelling 1 = .ok (.iconst 0, 1) := by decide +kernel
theorem dX9_spelling_2 : decode cX9_spelling 2 = .ok (.putfield 151, 3) := by decide +kernel
theorem dX9_spelling_5 : decode cX9_spelling 5 = .ok (.iload_n 1, 1) := by decide +kernel
theorem dX9_spelling_6 : decode cX9_spelling 6 = .ok (.ifCond .lt 32, 3) := by decide +kernel
theorem dX9_spelling_9 : decode cX9_spelling 9 = .ok (.iload_n 1, 1) := by decide +kernel
theorem dX9_spelling_10 : decode cX9_spelling 10 = .ok (.bipush 50, 2) := by decide +kernel
theorem dX9_spelling_12 : decode cX9_spelling 12 = .ok (.if_icmp .ge 26, 3) := by decide +kernel
theorem dX9_spelling_15 : decode cX9_spelling 15 = .ok (.lload_n 2, 1) := by decide +kernel
theorem dX9_spelling_16 : decode cX9_spelling 16 = .ok (.iconst 5, 1) := by decide +kernel
theorem dX9_spelling_17 : decode cX9_spelling 17 = .ok (.iconst 4, 1) := by decide +kernel
theorem dX9_spelling_18 : decode cX9_spelling 18 = .ok (.bipush 26, 2) := by decide +kernel
theorem dX9_spelling_20 : decode cX9_spelling 20 = .ok (.invokestatic 169, 3) := by decide +kernel
theorem dX9_spelling_23 : decode cX9_spelling 23 = .ok (.ifCond .eq 15, 3) := by decide +kernel
theorem dX9_spelling_26 : decode cX9_spelling 26 = .ok (.iload 4, 2) := by decide +kernel
theorem dX9_spelling_28 : decode cX9_spelling 28 = .ok (.ifCond .lt 10, 3) := by decide +kernel
theorem dX9_spelling_31 : decode cX9_spelling 31 = .ok (.iload 4, 2) := by decide +kernel
theorem dX9_spelling_33 : decode cX9_spelling 33 = .ok (.bipush 40, 2) := by decide +kernel
theorem dX9_spelling_35 : decode cX9_spelling 35 = .ok (.if_icmp .le 8, 3) := by decide +kernel
theorem dX9_spelling_38 : decode cX9_spelling 38 = .ok (.aload_n 0, 1) := by decide +kernel
theorem dX9_spelling_39 : decode cX9_spelling 39 = .ok (.invokevirtual 173, 3) := by decide +kernel
theorem dX9_spelling_42 : decode cX9_spelling 42 = .ok (.ireturn, 1) := by decide +kernel
theorem dX9_spelling_43 : decode cX9_spelling 43 = .ok (.aload_n 0, 1) := by decide +kernel
theorem dX9_spelling_44 : decode cX9_spelling 44 = .ok (.getfield 9, 3) := by decide +kernel
theorem dX9_spelling_47 : decode cX9_spelling 47 = .ok (.iload_n 1, 1) := by decide +kernel
theorem dX9_spelling_48 : decode cX9_spelling 48 = .ok (.iaload, 1) := by decide +kernel
theorem dX9_spelling_49 : decode cX9_spelling 49 = .ok (.iconst 3, 1) := by decide +kernel
theorem dX9_spelling_50 : decode cX9_spelling 50 = .ok (.if_icmp .ne 7, 3) := by decide +kernel
theorem dX9_spelling_53 : decode cX9_spelling 53 = .ok (.iconst 1, 1) := by decide +kernel
theorem dX9_spelling_54 : decode cX9_spelling 54 = .ok (.goto 4, 3) := by decide +kernel
theorem dX9_spelling_57 : decode cX9_spelling 57 = .ok (.iconst 0, 1) := by decide +kernel
theorem dX9_spelling_58 : decode cX9_spelling 58 = .ok (.istore 5, 2) := by decide +kernel
theorem dX9_spelling_60 : decode cX9_spelling 60 = .ok (.iconst 0, 1) := by decide +kernel
theorem dX9_spelling_61 : decode cX9_spelling 61 = .ok (.istore 6, 2) := by decide +kernel
theorem dX9_spelling_63 : decode cX9_spelling 63 = .ok (.iload 6, 2) := by decide +kernel
theorem dX9_spelling_65 : decode cX9_spelling 65 = .ok (.aload_n 0, 1) := by decide +kernel
theorem dX9_spelling_66 : decode cX9_spelling 66 = .ok (.getfield 9, 3) := by decide +kernel
theorem dX9_spelling_69 : decode cX9_spelling 69 = .ok (.iload_n 1, 1) := by decide +kernel
theorem dX9_spelling_70 : decode cX9_spelling 70 = .ok (.iaload, 1) := by decide +kernel
theorem dX9_spelling_71 : decode cX9_spelling 71 = .ok (.if_icmp .ge 28, 3) := by decide +kernel
theorem dX9_spelling_74 : decode cX9_spelling 74 = .ok (.aload_n 0, 1) := by decide +kernel
theorem dX9_spelling_75 : decode cX9_spelling 75 = .ok (.getfield 16, 3) := by decide +kernel
theorem dX9_spelling_78 : decode cX9_spelling 78 = .ok (.iconst 3, 1) := by decide +kernel
theorem dX9_spelling_79 : decode cX9_spelling 79 = .ok (.iload_n 1, 1) := by decide +kernel
theorem dX9_spelling_80 : decode cX9_spelling 80 = .ok (.imul, 1) := by decide +kernel
theorem dX9_spelling_81 : decode cX9_spelling 81 = .ok (.iload 6, 2) := by decide +kernel
theorem dX9_spelling_83 : decode cX9_spelling 83 = .ok (.iadd, 1) := by decide +kernel
theorem dX9_spelling_84 : decode cX9_spelling 84 = .ok (.laload, 1) := by decide +kernel
theorem dX9_spelling_85 : decode cX9_spelling 85 = .ok (.lload_n 2, 1) := by decide +kernel
theorem dX9_spelling_86 : decode cX9_spelling 86 = .ok (.lcmp, 1) := by decide +kernel
theorem dX9_spelling_87 : decode cX9_spelling 87 = .ok (.ifCond .ne 6, 3) := by decide +kernel
theorem dX9_spelling_90 : decode cX9_spelling 90 = .ok (.iconst 1, 1) := by decide +kernel
theorem dX9_spelling_91 : decode cX9_spelling 91 = .ok (.istore 5, 2) := by decide +kernel
theorem dX9_spelling_93 : decode cX9_spelling 93 = .ok (.iinc 6 1, 3) := by decide +kernel
theorem dX9_spelling_96 : decode cX9_spelling 96 = .ok (.goto (-33), 3) := by decide +kernel
theorem dX9_spelling_99 : decode cX9_spelling 99 = .ok (.iload 5, 2) := by decide +kernel
theorem dX9_spelling_101 : decode cX9_spelling 101 = .ok (.ifCond .eq 5, 3) := by decide +kernel
theorem dX9_spelling_104 : decode cX9_spelling 104 = .ok (.iconst (-1), 1) := by decide +kernel
theorem dX9_spelling_105 : decode cX9_spelling 105 = .ok (.ireturn, 1) := by decide +kernel
theorem dX9_spelling_106 : decode cX9_spelling 106 = .ok (.aload_n 0, 1) := by decide +kernel
theorem dX9_spelling_107 : decode cX9_spelling 107 = .ok (.getfield 16, 3) := by decide +kernel
theorem dX9_spelling_110 : decode cX9_spelling 110 = .ok (.iconst 3, 1) := by decide +kernel
theorem dX9_spelling_111 : decode cX9_spelling 111 = .ok (.iload_n 1, 1) := by decide +kernel
theorem dX9_spelling_112 : decode cX9_spelling 112 = .ok (.imul, 1) := by decide +kernel
theorem dX9_spelling_113 : decode cX9_spelling 113 = .ok (.aload_n 0, 1) := by decide +kernel
theorem dX9_spelling_114 : decode cX9_spelling 114 = .ok (.getfield 9, 3) := by decide +kernel
theorem dX9_spelling_117 : decode cX9_spelling 117 = .ok (.iload_n 1, 1) := by decide +kernel
theorem dX9_spelling_118 : decode cX9_spelling 118 = .ok (.iaload, 1) := by decide +kernel
theorem dX9_spelling_119 : decode cX9_spelling 119 = .ok (.iadd, 1) := by decide +kernel
theorem dX9_spelling_120 : decode cX9_spelling 120 = .ok (.lload_n 2, 1) := by decide +kernel
theorem dX9_spelling_121 : decode cX9_spelling 121 = .ok (.lastore, 1) := by decide +kernel
theorem dX9_spelling_122 : decode cX9_spelling 122 = .ok (.aload_n 0, 1) := by decide +kernel
theorem dX9_spelling_123 : decode cX9_spelling 123 = .ok (.getfield 13, 3) := by decide +kernel
theorem dX9_spelling_126 : decode cX9_spelling 126 = .ok (.iconst 3, 1) := by decide +kernel
theorem dX9_spelling_127 : decode cX9_spelling 127 = .ok (.iload_n 1, 1) := by decide +kernel
theorem dX9_spelling_128 : decode cX9_spelling 128 = .ok (.imul, 1) := by decide +kernel
theorem dX9_spelling_129 : decode cX9_spelling 129 = .ok (.aload_n 0, 1) := by decide +kernel
theorem dX9_spelling_130 : decode cX9_spelling 130 = .ok (.getfield 9, 3) := by decide +kernel
theorem dX9_spelling_133 : decode cX9_spelling 133 = .ok (.iload_n 1, 1) := by decide +kernel
theorem dX9_spelling_134 : decode cX9_spelling 134 = .ok (.iaload, 1) := by decide +kernel
theorem dX9_spelling_135 : decode cX9_spelling 135 = .ok (.iadd, 1) := by decide +kernel
theorem dX9_spelling_136 : decode cX9_spelling 136 = .ok (.iload 4, 2) := by decide +kernel
theorem dX9_spelling_138 : decode cX9_spelling 138 = .ok (.iastore, 1) := by decide +kernel
theorem dX9_spelling_139 : decode cX9_spelling 139 = .ok (.aload_n 0, 1) := by decide +kernel
theorem dX9_spelling_140 : decode cX9_spelling 140 = .ok (.getfield 9, 3) := by decide +kernel
theorem dX9_spelling_143 : decode cX9_spelling 143 = .ok (.iload_n 1, 1) := by decide +kernel
theorem dX9_spelling_144 : decode cX9_spelling 144 = .ok (.dup2, 1) := by decide +kernel
theorem dX9_spelling_145 : decode cX9_spelling 145 = .ok (.iaload, 1) := by decide +kernel
