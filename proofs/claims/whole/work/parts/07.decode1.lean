theorem dX3_follow_1 : decode cX3_follow 1 = .ok (.istore_n 1, 1) := by decide +kernel
theorem dX3_follow_2 : decode cX3_follow 2 = .ok (.aload_n 0, 1) := by decide +kernel
theorem dX3_follow_3 : decode cX3_follow 3 = .ok (.getfield 57, 3) := by decide +kernel
theorem dX3_follow_6 : decode cX3_follow 6 = .ok (.istore_n 2, 1) := by decide +kernel
theorem dX3_follow_7 : decode cX3_follow 7 = .ok (.iload_n 1, 1) := by decide +kernel
theorem dX3_follow_8 : decode cX3_follow 8 = .ok (.aload_n 0, 1) := by decide +kernel
theorem dX3_follow_9 : decode cX3_follow 9 = .ok (.getfield 37, 3) := by decide +kernel
theorem dX3_follow_12 : decode cX3_follow 12 = .ok (.getfield 60, 3) := by decide +kernel
theorem dX3_follow_15 : decode cX3_follow 15 = .ok (.if_icmp .ge 59, 3) := by decide +kernel
theorem dX3_follow_18 : decode cX3_follow 18 = .ok (.aload_n 0, 1) := by decide +kernel
theorem dX3_follow_19 : decode cX3_follow 19 = .ok (.getfield 53, 3) := by decide +kernel
theorem dX3_follow_22 : decode cX3_follow 22 = .ok (.bipush 36, 2) := by decide +kernel
theorem dX3_follow_24 : decode cX3_follow 24 = .ok (.if_icmp .ge 50, 3) := by decide +kernel
theorem dX3_follow_27 : decode cX3_follow 27 = .ok (.aload_n 0, 1) := by decide +kernel
theorem dX3_follow_28 : decode cX3_follow 28 = .ok (.iload_n 1, 1) := by decide +kernel
theorem dX3_follow_29 : decode cX3_follow 29 = .ok (.iload_n 2, 1) := by decide +kernel
theorem dX3_follow_30 : decode cX3_follow 30 = .ok (.invokevirtual 131, 3) := by decide +kernel
theorem dX3_follow_33 : decode cX3_follow 33 = .ok (.istore_n 3, 1) := by decide +kernel
theorem dX3_follow_34 : decode cX3_follow 34 = .ok (.iload_n 3, 1) := by decide +kernel
theorem dX3_follow_35 : decode cX3_follow 35 = .ok (.iconst (-1), 1) := by decide +kernel
theorem dX3_follow_36 : decode cX3_follow 36 = .ok (.if_icmp .ne 4, 3) := by decide +kernel
theorem dX3_follow_39 : decode cX3_follow 39 = .ok (.return_, 1) := by decide +kernel
theorem dX3_follow_40 : decode cX3_follow 40 = .ok (.iload_n 3, 1) := by decide +kernel
theorem dX3_follow_41 : decode cX3_follow 41 = .ok (.istore_n 1, 1) := by decide +kernel
theorem dX3_follow_42 : decode cX3_follow 42 = .ok (.aload_n 0, 1) := by decide +kernel
theorem dX3_follow_43 : decode cX3_follow 43 = .ok (.getfield 18, 3) := by decide +kernel
theorem dX3_follow_46 : decode cX3_follow 46 = .ok (.iload_n 1, 1) := by decide +kernel
theorem dX3_follow_47 : decode cX3_follow 47 = .ok (.bipush 9, 2) := by decide +kernel
theorem dX3_follow_49 : decode cX3_follow 49 = .ok (.imul, 1) := by decide +kernel
theorem dX3_follow_50 : decode cX3_follow 50 = .ok (.aload_n 0, 1) := by decide +kernel
theorem dX3_follow_51 : decode cX3_follow 51 = .ok (.getfield 33, 3) := by decide +kernel
theorem dX3_follow_54 : decode cX3_follow 54 = .ok (.aload_n 0, 1) := by decide +kernel
theorem dX3_follow_55 : decode cX3_follow 55 = .ok (.getfield 27, 3) := by decide +kernel
theorem dX3_follow_58 : decode cX3_follow 58 = .ok (.aload_n 0, 1) := by decide +kernel
theorem dX3_follow_59 : decode cX3_follow 59 = .ok (.getfield 53, 3) := by decide +kernel
theorem dX3_follow_62 : decode cX3_follow 62 = .ok (.iconst 1, 1) := by decide +kernel
theorem dX3_follow_63 : decode cX3_follow 63 = .ok (.isub, 1) := by decide +kernel
theorem dX3_follow_64 : decode cX3_follow 64 = .ok (.iaload, 1) := by decide +kernel
theorem dX3_follow_65 : decode cX3_follow 65 = .ok (.invokevirtual 107, 3) := by decide +kernel
theorem dX3_follow_68 : decode cX3_follow 68 = .ok (.iadd, 1) := by decide +kernel
theorem dX3_follow_69 : decode cX3_follow 69 = .ok (.iaload, 1) := by decide +kernel
theorem dX3_follow_70 : decode cX3_follow 70 = .ok (.istore_n 2, 1) := by decide +kernel
theorem dX3_follow_71 : decode cX3_follow 71 = .ok (.goto (-64), 3) := by decide +kernel
theorem dX3_follow_74 : decode cX3_follow 74 = .ok (.return_, 1) := by decide +kernel
set_option maxRecDepth 20000 in
theorem ggX3_followPart_X4_reachFrom : GoodIn wsX3_followPart wsX4_reachFrom := goodIn_r _ [11, 12, 13, 56, 57, 58, 59] (by decide +kernel) (by decide +kernel)
set_option maxRecDepth 20000 in
theorem gX3_followPart_X4_reachFrom_n117 : GoodIn wsX3_followPart (wsX4_reachFrom) := ggX3_followPart_X4_reachFrom
set_option maxRecDepth 20000 in
theorem ggX3_followPart_X4_partsAt : GoodIn wsX3_followPart wsX4_partsAt := goodIn_r _ [16, 12, 13, 56, 57, 58, 59] (by decide +kernel) (by decide +kernel)
set_option maxRecDepth 20000 in
theorem gX3_followPart_X4_partsAt_n113 : GoodIn wsX3_followPart (wsX4_partsAt) := ggX3_followPart_X4_partsAt
set_option maxRecDepth 20000 in
theorem ggX3_followPart_X3_valueOf : GoodIn wsX3_followPart wsX3_valueOf := goodIn_r _ [21, 2, 22, 23, 24, 1, 25, 26, 27, 28, 29, 30, 31, 32, 33, 34, 35, 36, 42, 43, 44, 45, 46, 47, 48, 49, 50, 51, 52, 53, 54, 55, 56, 57, 58, 59, 60, 61, 62, 63, 64, 65, 66, 67, 68, 69, 70, 71, 72, 73, 74, 75, 76, 77, 78, 79, 80, 81, 82, 83, 84] (by decide +kernel) (by decide +kernel)
set_option maxRecDepth 20000 in
theorem gX3_followPart_X3_valueOf : GoodIn wsX3_followPart (wsV RX3 120 RX3 yX3_valueOf wsX3_valueOf) := goodIn_app (goodIn_of _ (by decide +kernel)) ggX3_followPart_X3_valueOf
set_option maxRecDepth 20000 in
theorem ggX3_followPart_X3_costFrom : GoodIn wsX3_followPart wsX3_costFrom := goodIn_r _ [40, 4, 23, 6, 41, 29, 30, 31, 32, 33, 34, 35, 36, 42, 43, 44, 45, 46, 47, 48, 49, 50, 51, 52, 53, 54, 55, 66, 67, 68, 69, 70, 71, 72, 73, 74, 75, 76, 77, 78, 79, 80, 81, 82, 83, 84] (by decide +kernel) (by decide +kernel)
set_option maxRecDepth 20000 in
theorem gX3_followPart_X3_costFrom : GoodIn wsX3_followPart (wsV RX3 134 RX3 yX3_costFrom wsX3_costFrom) := goodIn_app (goodIn_of _ (by decide +kernel)) ggX3_followPart_X3_costFrom
theorem dX3_followPart_0 : decode cX3_followPart 0 = .ok (.iconst (-1), 1) := by decide +kernel
theorem dX3_followPart_1 : decode cX3_followPart 1 = .ok (.istore_n 3, 1) := by decide +kernel
theorem dX3_followPart_2 : decode cX3_followPart 2 = .ok (.ldc 99, 2) := by decide +kernel
theorem dX3_followPart_4 : decode cX3_followPart 4 = .ok (.istore 4, 2) := by decide +kernel
theorem dX3_followPart_6 : decode cX3_followPart 6 = .ok (.aload_n 0, 1) := by decide +kernel
theorem dX3_followPart_7 : decode cX3_followPart 7 = .ok (.getfield 37, 3) := by decide +kernel
theorem dX3_followPart_10 : decode cX3_followPart 10 = .ok (.iload_n 1, 1) := by decide +kernel
theorem dX3_followPart_11 : decode cX3_followPart 11 = .ok (.invokevirtual 117, 3) := by decide +kernel
theorem dX3_followPart_14 : decode cX3_followPart 14 = .ok (.istore 5, 2) := by decide +kernel
theorem dX3_followPart_16 : decode cX3_followPart 16 = .ok (.iload_n 1, 1) := by decide +kernel
theorem dX3_followPart_17 : decode cX3_followPart 17 = .ok (.iconst 1, 1) := by decide +kernel
theorem dX3_followPart_18 : decode cX3_followPart 18 = .ok (.iadd, 1) := by decide +kernel
theorem dX3_followPart_19 : decode cX3_followPart 19 = .ok (.istore 6, 2) := by decide +kernel
theorem dX3_followPart_21 : decode cX3_followPart 21 = .ok (.iload 6, 2) := by decide +kernel
theorem dX3_followPart_23 : decode cX3_followPart 23 = .ok (.iload 5, 2) := by decide +kernel
theorem dX3_followPart_25 : decode cX3_followPart 25 = .ok (.if_icmp .gt 108, 3) := by decide +kernel
theorem dX3_followPart_28 : decode cX3_followPart 28 = .ok (.iconst 0, 1) := by decide +kernel
theorem dX3_followPart_29 : decode cX3_followPart 29 = .ok (.istore 7, 2) := by decide +kernel
theorem dX3_followPart_31 : decode cX3_followPart 31 = .ok (.iload 7, 2) := by decide +kernel
theorem dX3_followPart_33 : decode cX3_followPart 33 = .ok (.bipush 9, 2) := by decide +kernel
theorem dX3_followPart_35 : decode cX3_followPart 35 = .ok (.if_icmp .ge 92, 3) := by decide +kernel
theorem dX3_followPart_38 : decode cX3_followPart 38 = .ok (.aload_n 0, 1) := by decide +kernel
theorem dX3_followPart_39 : decode cX3_followPart 39 = .ok (.getfield 37, 3) := by decide +kernel
theorem dX3_followPart_42 : decode cX3_followPart 42 = .ok (.iload 6, 2) := by decide +kernel
theorem dX3_followPart_44 : decode cX3_followPart 44 = .ok (.invokevirtual 113, 3) := by decide +kernel
theorem dX3_followPart_47 : decode cX3_followPart 47 = .ok (.ifCond .eq 80, 3) := by decide +kernel
theorem dX3_followPart_50 : decode cX3_followPart 50 = .ok (.aload_n 0, 1) := by decide +kernel
theorem dX3_followPart_51 : decode cX3_followPart 51 = .ok (.iload_n 1, 1) := by decide +kernel
theorem dX3_followPart_52 : decode cX3_followPart 52 = .ok (.iload 6, 2) := by decide +kernel
theorem dX3_followPart_54 : decode cX3_followPart 54 = .ok (.iload 7, 2) := by decide +kernel
theorem dX3_followPart_56 : decode cX3_followPart 56 = .ok (.invokevirtual 120, 3) := by decide +kernel
theorem dX3_followPart_59 : decode cX3_followPart 59 = .ok (.istore 8, 2) := by decide +kernel
theorem dX3_followPart_61 : decode cX3_followPart 61 = .ok (.iload_n 3, 1) := by decide +kernel
theorem dX3_followPart_62 : decode cX3_followPart 62 = .ok (.iconst (-1), 1) := by decide +kernel
theorem dX3_followPart_63 : decode cX3_followPart 63 = .ok (.if_icmp .eq 18, 3) := by decide +kernel
theorem dX3_followPart_66 : decode cX3_followPart 66 = .ok (.iload 8, 2) := by decide +kernel
theorem dX3_followPart_68 : decode cX3_followPart 68 = .ok (.sipush 1023, 3) := by decide +kernel
theorem dX3_followPart_71 : decode cX3_followPart 71 = .ok (.iand, 1) := by decide +kernel
theorem dX3_followPart_72 : decode cX3_followPart 72 = .ok (.iload 4, 2) := by decide +kernel
theorem dX3_followPart_74 : decode cX3_followPart 74 = .ok (.sipush 1023, 3) := by decide +kernel
theorem dX3_followPart_77 : decode cX3_followPart 77 = .ok (.iand, 1) := by decide +kernel
theorem dX3_followPart_78 : decode cX3_followPart 78 = .ok (.if_icmp .ge 7, 3) := by decide +kernel
theorem dX3_followPart_81 : decode cX3_followPart 81 = .ok (.iconst 1, 1) := by decide +kernel
theorem dX3_followPart_82 : decode cX3_followPart 82 = .ok (.goto 4, 3) := by decide +kernel
theorem dX3_followPart_85 : decode cX3_followPart 85 = .ok (.iconst 0, 1) := by decide +kernel
theorem dX3_followPart_86 : decode cX3_followPart 86 = .ok (.istore 9, 2) := by decide +kernel
theorem dX3_followPart_88 : decode cX3_followPart 88 = .ok (.iload 8, 2) := by decide +kernel
theorem dX3_followPart_90 : decode cX3_followPart 90 = .ok (.ldc 99, 2) := by decide +kernel
theorem dX3_followPart_92 : decode cX3_followPart 92 = .ok (.if_icmp .eq 29, 3) := by decide +kernel
theorem dX3_followPart_95 : decode cX3_followPart 95 = .ok (.iload 9, 2) := by decide +kernel
theorem dX3_followPart_97 : decode cX3_followPart 97 = .ok (.ifCond .eq 24, 3) := by decide +kernel
theorem dX3_followPart_100 : decode cX3_followPart 100 = .ok (.aload_n 0, 1) := by decide +kernel
theorem dX3_followPart_101 : decode cX3_followPart 101 = .ok (.iload 8, 2) := by decide +kernel
theorem dX3_followPart_103 : decode cX3_followPart 103 = .ok (.iload 6, 2) := by decide +kernel
theorem dX3_followPart_105 : decode cX3_followPart 105 = .ok (.iload 7, 2) := by decide +kernel
theorem dX3_followPart_107 : decode cX3_followPart 107 = .ok (.invokevirtual 134, 3) := by decide +kernel
theorem dX3_followPart_110 : decode cX3_followPart 110 = .ok (.iload_n 2, 1) := by decide +kernel
theorem dX3_followPart_111 : decode cX3_followPart 111 = .ok (.if_icmp .ne 10, 3) := by decide +kernel
theorem dX3_followPart_114 : decode cX3_followPart 114 = .ok (.iload 6, 2) := by decide +kernel
theorem dX3_followPart_116 : decode cX3_followPart 116 = .ok (.istore_n 3, 1) := by decide +kernel
theorem dX3_followPart_117 : decode cX3_followPart 117 = .ok (.iload 8, 2) := by decide +kernel
theorem dX3_followPart_119 : decode cX3_followPart 119 = .ok (.istore 4, 2) := by decide +kernel
theorem dX3_followPart_121 : decode cX3_followPart 121 = .ok (.iinc 7 1, 3) := by decide +kernel
theorem dX3_followPart_124 : decode cX3_followPart 124 = .ok (.goto (-93), 3) := by decide +kernel
theorem dX3_followPart_127 : decode cX3_followPart 127 = .ok (.iinc 6 1, 3) := by decide +kernel
theorem dX3_followPart_130 : decode cX3_followPart 130 = .ok (.goto (-109), 3) := by decide +kernel
theorem dX3_followPart_133 : decode cX3_followPart 133 = .ok (.iload_n 3, 1) := by decide +kernel
theorem dX3_followPart_134 : decode cX3_followPart 134 = .ok (.iconst (-1), 1) := by decide +kernel
theorem dX3_followPart_135 : decode cX3_followPart 135 = .ok (.if_icmp .eq 62, 3) := by decide +kernel
theorem dX3_followPart_138 : decode cX3_followPart 138 = .ok (.aload_n 0, 1) := by decide +kernel
theorem dX3_followPart_139 : decode cX3_followPart 139 = .ok (.getfield 21, 3) := by decide +kernel
theorem dX3_followPart_142 : decode cX3_followPart 142 = .ok (.aload_n 0, 1) := by decide +kernel
theorem dX3_followPart_143 : decode cX3_followPart 143 = .ok (.getfield 53, 3) := by decide +kernel
theorem dX3_followPart_146 : decode cX3_followPart 146 = .ok (.iload_n 1, 1) := by decide +kernel
theorem dX3_followPart_147 : decode cX3_followPart 147 = .ok (.iastore, 1) := by decide +kernel
theorem dX3_followPart_148 : decode cX3_followPart 148 = .ok (.aload_n 0, 1) := by decide +kernel
theorem dX3_followPart_149 : decode cX3_followPart 149 = .ok (.getfield 24, 3) := by decide +kernel
theorem dX3_followPart_152 : decode cX3_followPart 152 = .ok (.aload_n 0, 1) := by decide +kernel
theorem dX3_followPart_153 : decode cX3_followPart 153 = .ok (.getfield 53, 3) := by decide +kernel
theorem dX3_followPart_156 : decode cX3_followPart 156 = .ok (.iload_n 3, 1) := by decide +kernel
theorem dX3_followPart_157 : decode cX3_followPart 157 = .ok (.iastore, 1) := by decide +kernel
theorem dX3_followPart_158 : decode cX3_followPart 158 = .ok (.aload_n 0, 1) := by decide +kernel
theorem dX3_followPart_159 : decode cX3_followPart 159 = .ok (.getfield 27, 3) := by decide +kernel
theorem dX3_followPart_162 : decode cX3_followPart 162 = .ok (.aload_n 0, 1) := by decide +kernel
theorem dX3_followPart_163 : decode cX3_followPart 163 = .ok (.getfield 53, 3) := by decide +kernel
theorem dX3_followPart_166 : decode cX3_followPart 166 = .ok (.iload 4, 2) := by decide +kernel
theorem dX3_followPart_168 : decode cX3_followPart 168 = .ok (.sipush 1023, 3) := by decide +kernel
theorem dX3_followPart_171 : decode cX3_followPart 171 = .ok (.iand, 1) := by decide +kernel
theorem dX3_followPart_172 : decode cX3_followPart 172 = .ok (.iastore, 1) := by decide +kernel
theorem dX3_followPart_173 : decode cX3_followPart 173 = .ok (.aload_n 0, 1) := by decide +kernel
theorem dX3_followPart_174 : decode cX3_followPart 174 = .ok (.getfield 30, 3) := by decide +kernel
theorem dX3_followPart_177 : decode cX3_followPart 177 = .ok (.aload_n 0, 1) := by decide +kernel
theorem dX3_followPart_178 : decode cX3_followPart 178 = .ok (.getfield 53, 3) := by decide +kernel
theorem dX3_followPart_181 : decode cX3_followPart 181 = .ok (.iload 4, 2) := by decide +kernel
theorem dX3_followPart_183 : decode cX3_followPart 183 = .ok (.bipush 10, 2) := by decide +kernel
theorem dX3_followPart_185 : decode cX3_followPart 185 = .ok (.ishr, 1) := by decide +kernel
theorem dX3_followPart_186 : decode cX3_followPart 186 = .ok (.iastore, 1) := by decide +kernel
theorem dX3_followPart_187 : decode cX3_followPart 187 = .ok (.aload_n 0, 1) := by decide +kernel
theorem dX3_followPart_188 : decode cX3_followPart 188 = .ok (.dup, 1) := by decide +kernel
theorem dX3_followPart_189 : decode cX3_followPart 189 = .ok (.getfield 53, 3) := by decide +kernel
theorem dX3_followPart_192 : decode cX3_followPart 192 = .ok (.iconst 1, 1) := by decide +kernel
theorem dX3_followPart_193 : decode cX3_followPart 193 = .ok (.iadd, 1) := by decide +kernel
theorem dX3_followPart_194 : decode cX3_followPart 194 = .ok (.putfield 53, 3) := by decide +kernel
theorem dX3_followPart_197 : decode cX3_followPart 197 = .ok (.iload_n 3, 1) := by decide +kernel
theorem dX3_followPart_198 : decode cX3_followPart 198 = .ok (.ireturn, 1) := by decide +kernel
set_option maxRecDepth 20000 in
theorem ggX3_costFrom_X1_kindOf : GoodIn wsX3_costFrom wsX1_kindOf := goodIn_r _ [8, 9, 10, 11, 12, 27, 28, 29, 30, 31, 32, 33, 34, 35, 36, 37, 38, 39, 40, 41, 42, 43, 44, 45] (by decide +kernel) (by decide +kernel)
set_option maxRecDepth 20000 in
theorem gX3_costFrom_X1_kindOf_n107 : GoodIn wsX3_costFrom (wsX1_kindOf) := ggX3_costFrom_X1_kindOf
theorem dX3_costFrom_0 : decode cX3_costFrom 0 = .ok (.aload_n 0, 1) := by decide +kernel
theorem dX3_costFrom_1 : decode cX3_costFrom 1 = .ok (.getfield 53, 3) := by decide +kernel
theorem dX3_costFrom_4 : decode cX3_costFrom 4 = .ok (.ifCond .ne 7, 3) := by decide +kernel
theorem dX3_costFrom_7 : decode cX3_costFrom 7 = .ok (.iconst 0, 1) := by decide +kernel
theorem dX3_costFrom_8 : decode cX3_costFrom 8 = .ok (.goto 34, 3) := by decide +kernel
theorem dX3_costFrom_11 : decode cX3_costFrom 11 = .ok (.aload_n 0, 1) := by decide +kernel
theorem dX3_costFrom_12 : decode cX3_costFrom 12 = .ok (.getfield 33, 3) := by decide +kernel
theorem dX3_costFrom_15 : decode cX3_costFrom 15 = .ok (.getfield 128, 3) := by decide +kernel
theorem dX3_costFrom_18 : decode cX3_costFrom 18 = .ok (.aload_n 0, 1) := by decide +kernel
theorem dX3_costFrom_19 : decode cX3_costFrom 19 = .ok (.getfield 33, 3) := by decide +kernel
theorem dX3_costFrom_22 : decode cX3_costFrom 22 = .ok (.aload_n 0, 1) := by decide +kernel
theorem dX3_costFrom_23 : decode cX3_costFrom 23 = .ok (.getfield 27, 3) := by decide +kernel
theorem dX3_costFrom_26 : decode cX3_costFrom 26 = .ok (.aload_n 0, 1) := by decide +kernel
theorem dX3_costFrom_27 : decode cX3_costFrom 27 = .ok (.getfield 53, 3) := by decide +kernel
theorem dX3_costFrom_30 : decode cX3_costFrom 30 = .ok (.iconst 1, 1) := by decide +kernel
theorem dX3_costFrom_31 : decode cX3_costFrom 31 = .ok (.isub, 1) := by decide +kernel
theorem dX3_costFrom_32 : decode cX3_costFrom 32 = .ok (.iaload, 1) := by decide +kernel
theorem dX3_costFrom_33 : decode cX3_costFrom 33 = .ok (.invokevirtual 107, 3) := by decide +kernel
theorem dX3_costFrom_36 : decode cX3_costFrom 36 = .ok (.bipush 9, 2) := by decide +kernel
theorem dX3_costFrom_38 : decode cX3_costFrom 38 = .ok (.imul, 1) := by decide +kernel
theorem dX3_costFrom_39 : decode cX3_costFrom 39 = .ok (.iload_n 3, 1) := by decide +kernel
theorem dX3_costFrom_40 : decode cX3_costFrom 40 = .ok (.iadd, 1) := by decide +kernel
theorem dX3_costFrom_41 : decode cX3_costFrom 41 = .ok (.iaload, 1) := by decide +kernel
theorem dX3_costFrom_42 : decode cX3_costFrom 42 = .ok (.istore 4, 2) := by decide +kernel
theorem dX3_costFrom_44 : decode cX3_costFrom 44 = .ok (.iload 4, 2) := by decide +kernel
theorem dX3_costFrom_46 : decode cX3_costFrom 46 = .ok (.iload_n 1, 1) := by decide +kernel
theorem dX3_costFrom_47 : decode cX3_costFrom 47 = .ok (.bipush 10, 2) := by decide +kernel
theorem dX3_costFrom_49 : decode cX3_costFrom 49 = .ok (.ishr, 1) := by decide +kernel
theorem dX3_costFrom_50 : decode cX3_costFrom 50 = .ok (.iadd, 1) := by decide +kernel
theorem dX3_costFrom_51 : decode cX3_costFrom 51 = .ok (.aload_n 0, 1) := by decide +kernel
theorem dX3_costFrom_52 : decode cX3_costFrom 52 = .ok (.getfield 18, 3) := by decide +kernel
theorem dX3_costFrom_55 : decode cX3_costFrom 55 = .ok (.iload_n 2, 1) := by decide +kernel
theorem dX3_costFrom_56 : decode cX3_costFrom 56 = .ok (.bipush 9, 2) := by decide +kernel
theorem dX3_costFrom_58 : decode cX3_costFrom 58 = .ok (.imul, 1) := by decide +kernel
theorem dX3_costFrom_59 : decode cX3_costFrom 59 = .ok (.iload_n 3, 1) := by decide +kernel
theorem dX3_costFrom_60 : decode cX3_costFrom 60 = .ok (.iadd, 1) := by decide +kernel
theorem dX3_costFrom_61 : decode cX3_costFrom 61 = .ok (.iaload, 1) := by decide +kernel
theorem dX3_costFrom_62 : decode cX3_costFrom 62 = .ok (.iadd, 1) := by decide +kernel
theorem dX3_costFrom_63 : decode cX3_costFrom 63 = .ok (.ireturn, 1) := by decide +kernel
theorem dX4_init_0 : decode cX4_init 0 = .ok (.aload_n 0, 1) := by decide +kernel
theorem dX4_init_1 : decode cX4_init 1 = .ok (.invokespecial 3, 3) := by decide +kernel
theorem dX4_init_4 : decode cX4_init 4 = .ok (.aload_n 0, 1) := by decide +kernel
theorem dX4_init_5 : decode cX4_init 5 = .ok (.bipush 36, 2) := by decide +kernel
theorem dX4_init_7 : decode cX4_init 7 = .ok (.newarray .int, 2) := by decide +kernel
theorem dX4_init_9 : decode cX4_init 9 = .ok (.putfield 9, 3) := by decide +kernel
theorem dX4_init_12 : decode cX4_init 12 = .ok (.aload_n 0, 1) := by decide +kernel
theorem dX4_init_13 : decode cX4_init 13 = .ok (.bipush 36, 2) := by decide +kernel
theorem dX4_init_15 : decode cX4_init 15 = .ok (.newarray .int, 2) := by decide +kernel
theorem dX4_init_17 : decode cX4_init 17 = .ok (.putfield 15, 3) := by decide +kernel
theorem dX4_init_20 : decode cX4_init 20 = .ok (.aload_n 0, 1) := by decide +kernel
theorem dX4_init_21 : decode cX4_init 21 = .ok (.bipush 36, 2) := by decide +kernel
theorem dX4_init_23 : decode cX4_init 23 = .ok (.newarray .int, 2) := by decide +kernel
theorem dX4_init_25 : decode cX4_init 25 = .ok (.putfield 18, 3) := by decide +kernel
theorem dX4_init_28 : decode cX4_init 28 = .ok (.return_, 1) := by decide +kernel
theorem dX4_copyFrom_0 : decode cX4_copyFrom 0 = .ok (.aload_n 0, 1) := by decide +kernel
theorem dX4_copyFrom_1 : decode cX4_copyFrom 1 = .ok (.aload_n 1, 1) := by decide +kernel
theorem dX4_copyFrom_2 : decode cX4_copyFrom 2 = .ok (.getfield 21, 3) := by decide +kernel
theorem dX4_copyFrom_5 : decode cX4_copyFrom 5 = .ok (.putfield 21, 3) := by decide +kernel
theorem dX4_copyFrom_8 : decode cX4_copyFrom 8 = .ok (.aload_n 1, 1) := by decide +kernel
theorem dX4_copyFrom_9 : decode cX4_copyFrom 9 = .ok (.getfield 9, 3) := by decide +kernel
theorem dX4_copyFrom_12 : decode cX4_copyFrom 12 = .ok (.iconst 0, 1) := by decide +kernel
theorem dX4_copyFrom_13 : decode cX4_copyFrom 13 = .ok (.aload_n 0, 1) := by decide +kernel
theorem dX4_copyFrom_14 : decode cX4_copyFrom 14 = .ok (.getfield 9, 3) := by decide +kernel
theorem dX4_copyFrom_17 : decode cX4_copyFrom 17 = .ok (.iconst 0, 1) := by decide +kernel
theorem dX4_copyFrom_18 : decode cX4_copyFrom 18 = .ok (.bipush 36, 2) := by decide +kernel
theorem dX4_copyFrom_20 : decode cX4_copyFrom 20 = .ok (.invokestatic 25, 3) := by decide +kernel
theorem dX4_copyFrom_23 : decode cX4_copyFrom 23 = .ok (.aload_n 1, 1) := by decide +kernel
theorem dX4_copyFrom_24 : decode cX4_copyFrom 24 = .ok (.getfield 15, 3) := by decide +kernel
theorem dX4_copyFrom_27 : decode cX4_copyFrom 27 = .ok (.iconst 0, 1) := by decide +kernel
theorem dX4_copyFrom_28 : decode cX4_copyFrom 28 = .ok (.aload_n 0, 1) := by decide +kernel
theorem dX4_copyFrom_29 : decode cX4_copyFrom 29 = .ok (.getfield 15, 3) := by decide +kernel
theorem dX4_copyFrom_32 : decode cX4_copyFrom 32 = .ok (.iconst 0, 1) := by decide +kernel
theorem dX4_copyFrom_33 : decode cX4_copyFrom 33 = .ok (.bipush 36, 2) := by decide +kernel
theorem dX4_copyFrom_35 : decode cX4_copyFrom 35 = .ok (.invokestatic 25, 3) := by decide +kernel
theorem dX4_copyFrom_38 : decode cX4_copyFrom 38 = .ok (.aload_n 1, 1) := by decide +kernel
theorem dX4_copyFrom_39 : decode cX4_copyFrom 39 = .ok (.getfield 18, 3) := by decide +kernel
theorem dX4_copyFrom_42 : decode cX4_copyFrom 42 = .ok (.iconst 0, 1) := by decide +kernel
theorem dX4_copyFrom_43 : decode cX4_copyFrom 43 = .ok (.aload_n 0, 1) := by decide +kernel
theorem dX4_copyFrom_44 : decode cX4_copyFrom 44 = .ok (.getfield 18, 3) := by decide +kernel
theorem dX4_copyFrom_47 : decode cX4_copyFrom 47 = .ok (.iconst 0, 1) := by decide +kernel
theorem dX4_copyFrom_48 : decode cX4_copyFrom 48 = .ok (.bipush 36, 2) := by decide +kernel
theorem dX4_copyFrom_50 : decode cX4_copyFrom 50 = .ok (.invokestatic 25, 3) := by decide +kernel
theorem dX4_copyFrom_53 : decode cX4_copyFrom 53 = .ok (.return_, 1) := by decide +kernel
set_option maxRecDepth 20000 in
theorem ggX4_append_X4_fixedEndsAt : GoodIn wsX4_append wsX4_fixedEndsAt := goodIn_r _ [8, 9, 10, 11, 12, 13] (by decide +kernel) (by decide +kernel)
set_option maxRecDepth 20000 in
theorem gX4_append_X4_fixedEndsAt : GoodIn wsX4_append (wsV RX4 31 RX4 yX4_fixedEndsAt wsX4_fixedEndsAt) := goodIn_app (goodIn_of _ (by decide +kernel)) ggX4_append_X4_fixedEndsAt
theorem dX4_append_0 : decode cX4_append 0 = .ok (.aload_n 0, 1) := by decide +kernel
theorem dX4_append_1 : decode cX4_append 1 = .ok (.getfield 9, 3) := by decide +kernel
theorem dX4_append_4 : decode cX4_append 4 = .ok (.aload_n 0, 1) := by decide +kernel
theorem dX4_append_5 : decode cX4_append 5 = .ok (.getfield 21, 3) := by decide +kernel
theorem dX4_append_8 : decode cX4_append 8 = .ok (.iload_n 1, 1) := by decide +kernel
theorem dX4_append_9 : decode cX4_append 9 = .ok (.iastore, 1) := by decide +kernel
theorem dX4_append_10 : decode cX4_append 10 = .ok (.aload_n 0, 1) := by decide +kernel
theorem dX4_append_11 : decode cX4_append 11 = .ok (.getfield 15, 3) := by decide +kernel
theorem dX4_append_14 : decode cX4_append 14 = .ok (.aload_n 0, 1) := by decide +kernel
theorem dX4_append_15 : decode cX4_append 15 = .ok (.getfield 21, 3) := by decide +kernel
theorem dX4_append_18 : decode cX4_append 18 = .ok (.aload_n 0, 1) := by decide +kernel
theorem dX4_append_19 : decode cX4_append 19 = .ok (.aload_n 0, 1) := by decide +kernel
theorem dX4_append_20 : decode cX4_append 20 = .ok (.getfield 21, 3) := by decide +kernel
theorem dX4_append_23 : decode cX4_append 23 = .ok (.invokevirtual 31, 3) := by decide +kernel
theorem dX4_append_26 : decode cX4_append 26 = .ok (.ifCond .eq 7, 3) := by decide +kernel
theorem dX4_append_29 : decode cX4_append 29 = .ok (.iconst 1, 1) := by decide +kernel
theorem dX4_append_30 : decode cX4_append 30 = .ok (.goto 4, 3) := by decide +kernel
theorem dX4_append_33 : decode cX4_append 33 = .ok (.iconst 0, 1) := by decide +kernel
theorem dX4_append_34 : decode cX4_append 34 = .ok (.iastore, 1) := by decide +kernel
theorem dX4_append_35 : decode cX4_append 35 = .ok (.aload_n 0, 1) := by decide +kernel
theorem dX4_append_36 : decode cX4_append 36 = .ok (.dup, 1) := by decide +kernel
theorem dX4_append_37 : decode cX4_append 37 = .ok (.getfield 21, 3) := by decide +kernel
theorem dX4_append_40 : decode cX4_append 40 = .ok (.iconst 1, 1) := by decide +kernel
theorem dX4_append_41 : decode cX4_append 41 = .ok (.iadd, 1) := by decide +kernel
theorem dX4_append_42 : decode cX4_append 42 = .ok (.putfield 21, 3) := by decide +kernel
theorem dX4_append_45 : decode cX4_append 45 = .ok (.return_, 1) := by decide +kernel
theorem dX4_fixedEndsAt_0 : decode cX4_fixedEndsAt 0 = .ok (.iconst 0, 1) := by decide +kernel
theorem dX4_fixedEndsAt_1 : decode cX4_fixedEndsAt 1 = .ok (.istore_n 2, 1) := by decide +kernel
theorem dX4_fixedEndsAt_2 : decode cX4_fixedEndsAt 2 = .ok (.iload_n 2, 1) := by decide +kernel
theorem dX4_fixedEndsAt_3 : decode cX4_fixedEndsAt 3 = .ok (.iload_n 1, 1) := by decide +kernel
theorem dX4_fixedEndsAt_4 : decode cX4_fixedEndsAt 4 = .ok (.if_icmp .ge 24, 3) := by decide +kernel
theorem dX4_fixedEndsAt_7 : decode cX4_fixedEndsAt 7 = .ok (.aload_n 0, 1) := by decide +kernel
theorem dX4_fixedEndsAt_8 : decode cX4_fixedEndsAt 8 = .ok (.getfield 18, 3) := by decide +kernel
theorem dX4_fixedEndsAt_11 : decode cX4_fixedEndsAt 11 = .ok (.iload_n 2, 1) := by decide +kernel
theorem dX4_fixedEndsAt_12 : decode cX4_fixedEndsAt 12 = .ok (.iaload, 1) := by decide +kernel
theorem dX4_fixedEndsAt_13 : decode cX4_fixedEndsAt 13 = .ok (.bipush 10, 2) := by decide +kernel
theorem dX4_fixedEndsAt_15 : decode cX4_fixedEndsAt 15 = .ok (.ishr, 1) := by decide +kernel
theorem dX4_fixedEndsAt_16 : decode cX4_fixedEndsAt 16 = .ok (.iload_n 1, 1) := by decide +kernel
theorem dX4_fixedEndsAt_17 : decode cX4_fixedEndsAt 17 = .ok (.if_icmp .ne 5, 3) := by decide +kernel
theorem dX4_fixedEndsAt_20 : decode cX4_fixedEndsAt 20 = .ok (.iconst 1, 1) := by decide +kernel
theorem dX4_fixedEndsAt_21 : decode cX4_fixedEndsAt 21 = .ok (.ireturn, 1) := by decide +kernel
theorem dX4_fixedEndsAt_22 : decode cX4_fixedEndsAt 22 = .ok (.iinc 2 1, 3) := by decide +kernel
theorem dX4_fixedEndsAt_25 : decode cX4_fixedEndsAt 25 = .ok (.goto (-23), 3) := by decide +kernel
theorem dX4_fixedEndsAt_28 : decode cX4_fixedEndsAt 28 = .ok (.iconst 0, 1) := by decide +kernel
theorem dX4_fixedEndsAt_29 : decode cX4_fixedEndsAt 29 = .ok (.ireturn, 1) := by decide +kernel
set_option maxRecDepth 20000 in
theorem ggX4_clear_X4_freeHand : GoodIn wsX4_clear wsX4_freeHand := goodIn_r _ [6, 7, 8, 9, 10, 11, 12, 13, 14, 15, 16] (by decide +kernel) (by decide +kernel)
set_option maxRecDepth 20000 in
theorem gX4_clear_X4_freeHand : GoodIn wsX4_clear (wsV RX4 35 RX4 yX4_freeHand wsX4_freeHand) := goodIn_app (goodIn_of _ (by decide +kernel)) ggX4_clear_X4_freeHand
theorem dX4_clear_0 : decode cX4_clear 0 = .ok (.aload_n 0, 1) := by decide +kernel
theorem dX4_clear_1 : decode cX4_clear 1 = .ok (.iconst 0, 1) := by decide +kernel
theorem dX4_clear_2 : decode cX4_clear 2 = .ok (.putfield 21, 3) := by decide +kernel
theorem dX4_clear_5 : decode cX4_clear 5 = .ok (.aload_n 0, 1) := by decide +kernel
theorem dX4_clear_6 : decode cX4_clear 6 = .ok (.invokevirtual 35, 3) := by decide +kernel
theorem dX4_clear_9 : decode cX4_clear 9 = .ok (.return_, 1) := by decide +kernel
set_option maxRecDepth 20000 in
theorem ggX4_freeHand_J7_fill_53178 : GoodIn wsX4_freeHand wsJ7_fill_53178 := goodIn_r _ [6] (by decide +kernel) (by decide +kernel)
set_option maxRecDepth 20000 in
theorem gX4_freeHand_J7_fill_53178 : GoodIn wsX4_freeHand (va_wsS RX4 38 yJ7_fill_53178 wsJ7_fill_53178) := goodIn_app (goodIn_of _ (by decide +kernel)) ggX4_freeHand_J7_fill_53178
theorem dX4_freeHand_0 : decode cX4_freeHand 0 = .ok (.aload_n 0, 1) := by decide +kernel
theorem dX4_freeHand_1 : decode cX4_freeHand 1 = .ok (.getfield 15, 3) := by decide +kernel
theorem dX4_freeHand_4 : decode cX4_freeHand 4 = .ok (.iconst 0, 1) := by decide +kernel
theorem dX4_freeHand_5 : decode cX4_freeHand 5 = .ok (.invokestatic 38, 3) := by decide +kernel
theorem dX4_freeHand_8 : decode cX4_freeHand 8 = .ok (.aload_n 0, 1) := by decide +kernel
theorem dX4_freeHand_9 : decode cX4_freeHand 9 = .ok (.getfield 18, 3) := by decide +kernel
theorem dX4_freeHand_12 : decode cX4_freeHand 12 = .ok (.iconst 0, 1) := by decide +kernel
theorem dX4_freeHand_13 : decode cX4_freeHand 13 = .ok (.invokestatic 38, 3) := by decide +kernel
theorem dX4_freeHand_16 : decode cX4_freeHand 16 = .ok (.return_, 1) := by decide +kernel
theorem dX4_fixedParts_0 : decode cX4_fixedParts 0 = .ok (.iconst 0, 1) := by decide +kernel
theorem dX4_fixedParts_1 : decode cX4_fixedParts 1 = .ok (.istore_n 1, 1) := by decide +kernel
theorem dX4_fixedParts_2 : decode cX4_fixedParts 2 = .ok (.iconst 0, 1) := by decide +kernel
theorem dX4_fixedParts_3 : decode cX4_fixedParts 3 = .ok (.istore_n 2, 1) := by decide +kernel
theorem dX4_fixedParts_4 : decode cX4_fixedParts 4 = .ok (.iload_n 2, 1) := by decide +kernel
theorem dX4_fixedParts_5 : decode cX4_fixedParts 5 = .ok (.bipush 36, 2) := by decide +kernel
theorem dX4_fixedParts_7 : decode cX4_fixedParts 7 = .ok (.if_icmp .ge 21, 3) := by decide +kernel
theorem dX4_fixedParts_10 : decode cX4_fixedParts 10 = .ok (.aload_n 0, 1) := by decide +kernel
theorem dX4_fixedParts_11 : decode cX4_fixedParts 11 = .ok (.getfield 18, 3) := by decide +kernel
theorem dX4_fixedParts_14 : decode cX4_fixedParts 14 = .ok (.iload_n 2, 1) := by decide +kernel
theorem dX4_fixedParts_15 : decode cX4_fixedParts 15 = .ok (.iaload, 1) := by decide +kernel
theorem dX4_fixedParts_16 : decode cX4_fixedParts 16 = .ok (.ifCond .eq 6, 3) := by decide +kernel
theorem dX4_fixedParts_19 : decode cX4_fixedParts 19 = .ok (.iinc 1 1, 3) := by decide +kernel
theorem dX4_fixedParts_22 : decode cX4_fixedParts 22 = .ok (.iinc 2 1, 3) := by decide +kernel
theorem dX4_fixedParts_25 : decode cX4_fixedParts 25 = .ok (.goto (-21), 3) := by decide +kernel
theorem dX4_fixedParts_28 : decode cX4_fixedParts 28 = .ok (.iload_n 1, 1) := by decide +kernel
theorem dX4_fixedParts_29 : decode cX4_fixedParts 29 = .ok (.ireturn, 1) := by decide +kernel
set_option maxRecDepth 20000 in
theorem ggX4_fix_X8_fillRange : GoodIn wsX4_fix wsX8_fillRange := goodIn_r _ [5] (by decide +kernel) (by decide +kernel)
set_option maxRecDepth 20000 in
theorem gX4_fix_X8_fillRange_n44 : GoodIn wsX4_fix (wsX8_fillRange) := ggX4_fix_X8_fillRange
set_option maxRecDepth 20000 in
theorem ggX4_fix_X4_wantBreak : GoodIn wsX4_fix wsX4_wantBreak := goodIn_r _ [10, 11, 2, 12, 13, 14, 15] (by decide +kernel) (by decide +kernel)
set_option maxRecDepth 20000 in
theorem gX4_fix_X4_wantBreak : GoodIn wsX4_fix (wsV RX4 48 RX4 yX4_wantBreak wsX4_wantBreak) := goodIn_app (goodIn_of _ (by decide +kernel)) ggX4_fix_X4_wantBreak
theorem dX4_fix_0 : decode cX4_fix 0 = .ok (.iconst 0, 1) := by decide +kernel
theorem dX4_fix_1 : decode cX4_fix 1 = .ok (.istore 4, 2) := by decide +kernel
theorem dX4_fix_3 : decode cX4_fix 3 = .ok (.iload 4, 2) := by decide +kernel
theorem dX4_fix_5 : decode cX4_fix 5 = .ok (.iload_n 2, 1) := by decide +kernel
theorem dX4_fix_6 : decode cX4_fix 6 = .ok (.if_icmp .ge 31, 3) := by decide +kernel
theorem dX4_fix_9 : decode cX4_fix 9 = .ok (.aload_n 0, 1) := by decide +kernel
theorem dX4_fix_10 : decode cX4_fix 10 = .ok (.getfield 18, 3) := by decide +kernel
theorem dX4_fix_13 : decode cX4_fix 13 = .ok (.iload 4, 2) := by decide +kernel
theorem dX4_fix_15 : decode cX4_fix 15 = .ok (.iaload, 1) := by decide +kernel
theorem dX4_fix_16 : decode cX4_fix 16 = .ok (.bipush 10, 2) := by decide +kernel
theorem dX4_fix_18 : decode cX4_fix 18 = .ok (.ishr, 1) := by decide +kernel
theorem dX4_fix_19 : decode cX4_fix 19 = .ok (.iload_n 1, 1) := by decide +kernel
theorem dX4_fix_20 : decode cX4_fix 20 = .ok (.if_icmp .le 11, 3) := by decide +kernel
theorem dX4_fix_23 : decode cX4_fix 23 = .ok (.aload_n 0, 1) := by decide +kernel
theorem dX4_fix_24 : decode cX4_fix 24 = .ok (.getfield 18, 3) := by decide +kernel
theorem dX4_fix_27 : decode cX4_fix 27 = .ok (.iload 4, 2) := by decide +kernel
theorem dX4_fix_29 : decode cX4_fix 29 = .ok (.iconst 0, 1) := by decide +kernel
theorem dX4_fix_30 : decode cX4_fix 30 = .ok (.iastore, 1) := by decide +kernel
theorem dX4_fix_31 : decode cX4_fix 31 = .ok (.iinc 4 1, 3) := by decide +kernel
theorem dX4_fix_34 : decode cX4_fix 34 = .ok (.goto (-31), 3) := by decide +kernel
theorem dX4_fix_37 : decode cX4_fix 37 = .ok (.aload_n 0, 1) := by decide +kernel
theorem dX4_fix_38 : decode cX4_fix 38 = .ok (.getfield 18, 3) := by decide +kernel
theorem dX4_fix_41 : decode cX4_fix 41 = .ok (.iload_n 1, 1) := by decide +kernel
theorem dX4_fix_42 : decode cX4_fix 42 = .ok (.iload_n 2, 1) := by decide +kernel
theorem dX4_fix_43 : decode cX4_fix 43 = .ok (.bipush 10, 2) := by decide +kernel
theorem dX4_fix_45 : decode cX4_fix 45 = .ok (.ishl, 1) := by decide +kernel
theorem dX4_fix_46 : decode cX4_fix 46 = .ok (.iload_n 3, 1) := by decide +kernel
theorem dX4_fix_47 : decode cX4_fix 47 = .ok (.iadd, 1) := by decide +kernel
theorem dX4_fix_48 : decode cX4_fix 48 = .ok (.iastore, 1) := by decide +kernel
theorem dX4_fix_49 : decode cX4_fix 49 = .ok (.aload_n 0, 1) := by decide +kernel
theorem dX4_fix_50 : decode cX4_fix 50 = .ok (.getfield 15, 3) := by decide +kernel
theorem dX4_fix_53 : decode cX4_fix 53 = .ok (.iload_n 1, 1) := by decide +kernel
theorem dX4_fix_54 : decode cX4_fix 54 = .ok (.iconst 1, 1) := by decide +kernel
theorem dX4_fix_55 : decode cX4_fix 55 = .ok (.iadd, 1) := by decide +kernel
theorem dX4_fix_56 : decode cX4_fix 56 = .ok (.iload_n 2, 1) := by decide +kernel
theorem dX4_fix_57 : decode cX4_fix 57 = .ok (.iconst 2, 1) := by decide +kernel
theorem dX4_fix_58 : decode cX4_fix 58 = .ok (.invokestatic 44, 3) := by decide +kernel
theorem dX4_fix_61 : decode cX4_fix 61 = .ok (.aload_n 0, 1) := by decide +kernel
theorem dX4_fix_62 : decode cX4_fix 62 = .ok (.iload_n 1, 1) := by decide +kernel
theorem dX4_fix_63 : decode cX4_fix 63 = .ok (.invokevirtual 48, 3) := by decide +kernel
theorem dX4_fix_66 : decode cX4_fix 66 = .ok (.aload_n 0, 1) := by decide +kernel
theorem dX4_fix_67 : decode cX4_fix 67 = .ok (.iload_n 2, 1) := by decide +kernel
theorem dX4_fix_68 : decode cX4_fix 68 = .ok (.invokevirtual 48, 3) := by decide +kernel
theorem dX4_fix_71 : decode cX4_fix 71 = .ok (.return_, 1) := by decide +kernel
theorem dX4_wantBreak_0 : decode cX4_wantBreak 0 = .ok (.iload_n 1, 1) := by decide +kernel
theorem dX4_wantBreak_1 : decode cX4_wantBreak 1 = .ok (.ifCond .le 18, 3) := by decide +kernel
theorem dX4_wantBreak_4 : decode cX4_wantBreak 4 = .ok (.iload_n 1, 1) := by decide +kernel
theorem dX4_wantBreak_5 : decode cX4_wantBreak 5 = .ok (.aload_n 0, 1) := by decide +kernel
theorem dX4_wantBreak_6 : decode cX4_wantBreak 6 = .ok (.getfield 21, 3) := by decide +kernel
theorem dX4_wantBreak_9 : decode cX4_wantBreak 9 = .ok (.if_icmp .ge 10, 3) := by decide +kernel
theorem dX4_wantBreak_12 : decode cX4_wantBreak 12 = .ok (.aload_n 0, 1) := by decide +kernel
theorem dX4_wantBreak_13 : decode cX4_wantBreak 13 = .ok (.getfield 15, 3) := by decide +kernel
theorem dX4_wantBreak_16 : decode cX4_wantBreak 16 = .ok (.iload_n 1, 1) := by decide +kernel
theorem dX4_wantBreak_17 : decode cX4_wantBreak 17 = .ok (.iconst 1, 1) := by decide +kernel
theorem dX4_wantBreak_18 : decode cX4_wantBreak 18 = .ok (.iastore, 1) := by decide +kernel
theorem dX4_wantBreak_19 : decode cX4_wantBreak 19 = .ok (.return_, 1) := by decide +kernel
theorem dX4_moveBreak_0 : decode cX4_moveBreak 0 = .ok (.aload_n 0, 1) := by decide +kernel
theorem dX4_moveBreak_1 : decode cX4_moveBreak 1 = .ok (.getfield 15, 3) := by decide +kernel
theorem dX4_moveBreak_4 : decode cX4_moveBreak 4 = .ok (.iload_n 1, 1) := by decide +kernel
theorem dX4_moveBreak_5 : decode cX4_moveBreak 5 = .ok (.iload_n 2, 1) := by decide +kernel
theorem dX4_moveBreak_6 : decode cX4_moveBreak 6 = .ok (.iastore, 1) := by decide +kernel
theorem dX4_moveBreak_7 : decode cX4_moveBreak 7 = .ok (.iconst 0, 1) := by decide +kernel
theorem dX4_moveBreak_8 : decode cX4_moveBreak 8 = .ok (.istore_n 3, 1) := by decide +kernel
theorem dX4_moveBreak_9 : decode cX4_moveBreak 9 = .ok (.iload_n 3, 1) := by decide +kernel
theorem dX4_moveBreak_10 : decode cX4_moveBreak 10 = .ok (.iload_n 1, 1) := by decide +kernel
theorem dX4_moveBreak_11 : decode cX4_moveBreak 11 = .ok (.if_icmp .gt 83, 3) := by decide +kernel
theorem dX4_moveBreak_14 : decode cX4_moveBreak 14 = .ok (.aload_n 0, 1) := by decide +kernel
theorem dX4_moveBreak_15 : decode cX4_moveBreak 15 = .ok (.getfield 18, 3) := by decide +kernel
theorem dX4_moveBreak_18 : decode cX4_moveBreak 18 = .ok (.iload_n 3, 1) := by decide +kernel
theorem dX4_moveBreak_19 : decode cX4_moveBreak 19 = .ok (.iaload, 1) := by decide +kernel
theorem dX4_moveBreak_20 : decode cX4_moveBreak 20 = .ok (.bipush 10, 2) := by decide +kernel
theorem dX4_moveBreak_22 : decode cX4_moveBreak 22 = .ok (.ishr, 1) := by decide +kernel
theorem dX4_moveBreak_23 : decode cX4_moveBreak 23 = .ok (.istore 4, 2) := by decide +kernel
theorem dX4_moveBreak_25 : decode cX4_moveBreak 25 = .ok (.iload_n 3, 1) := by decide +kernel
theorem dX4_moveBreak_26 : decode cX4_moveBreak 26 = .ok (.iload_n 1, 1) := by decide +kernel
theorem dX4_moveBreak_27 : decode cX4_moveBreak 27 = .ok (.if_icmp .ge 13, 3) := by decide +kernel
theorem dX4_moveBreak_30 : decode cX4_moveBreak 30 = .ok (.iload 4, 2) := by decide +kernel
theorem dX4_moveBreak_32 : decode cX4_moveBreak 32 = .ok (.iload_n 1, 1) := by decide +kernel
theorem dX4_moveBreak_33 : decode cX4_moveBreak 33 = .ok (.if_icmp .le 7, 3) := by decide +kernel
theorem dX4_moveBreak_36 : decode cX4_moveBreak 36 = .ok (.iconst 1, 1) := by decide +kernel
theorem dX4_moveBreak_37 : decode cX4_moveBreak 37 = .ok (.goto 4, 3) := by decide +kernel
theorem dX4_moveBreak_40 : decode cX4_moveBreak 40 = .ok (.iconst 0, 1) := by decide +kernel
theorem dX4_moveBreak_41 : decode cX4_moveBreak 41 = .ok (.istore 5, 2) := by decide +kernel
theorem dX4_moveBreak_43 : decode cX4_moveBreak 43 = .ok (.iload_n 3, 1) := by decide +kernel
theorem dX4_moveBreak_44 : decode cX4_moveBreak 44 = .ok (.iload_n 1, 1) := by decide +kernel
theorem dX4_moveBreak_45 : decode cX4_moveBreak 45 = .ok (.if_icmp .eq 9, 3) := by decide +kernel
theorem dX4_moveBreak_48 : decode cX4_moveBreak 48 = .ok (.iload 4, 2) := by decide +kernel
theorem dX4_moveBreak_50 : decode cX4_moveBreak 50 = .ok (.iload_n 1, 1) := by decide +kernel
theorem dX4_moveBreak_51 : decode cX4_moveBreak 51 = .ok (.if_icmp .ne 7, 3) := by decide +kernel
theorem dX4_moveBreak_54 : decode cX4_moveBreak 54 = .ok (.iconst 1, 1) := by decide +kernel
theorem dX4_moveBreak_55 : decode cX4_moveBreak 55 = .ok (.goto 4, 3) := by decide +kernel
theorem dX4_moveBreak_58 : decode cX4_moveBreak 58 = .ok (.iconst 0, 1) := by decide +kernel
theorem dX4_moveBreak_59 : decode cX4_moveBreak 59 = .ok (.istore 6, 2) := by decide +kernel
theorem dX4_moveBreak_61 : decode cX4_moveBreak 61 = .ok (.iload 5, 2) := by decide +kernel
theorem dX4_moveBreak_63 : decode cX4_moveBreak 63 = .ok (.ifCond .eq 8, 3) := by decide +kernel
theorem dX4_moveBreak_66 : decode cX4_moveBreak 66 = .ok (.iload_n 2, 1) := by decide +kernel
theorem dX4_moveBreak_67 : decode cX4_moveBreak 67 = .ok (.iconst 2, 1) := by decide +kernel
theorem dX4_moveBreak_68 : decode cX4_moveBreak 68 = .ok (.if_icmp .ne 13, 3) := by decide +kernel
theorem dX4_moveBreak_71 : decode cX4_moveBreak 71 = .ok (.iload 6, 2) := by decide +kernel
theorem dX4_moveBreak_73 : decode cX4_moveBreak 73 = .ok (.ifCond .eq 15, 3) := by decide +kernel
theorem dX4_moveBreak_76 : decode cX4_moveBreak 76 = .ok (.iload_n 2, 1) := by decide +kernel
theorem dX4_moveBreak_77 : decode cX4_moveBreak 77 = .ok (.iconst 1, 1) := by decide +kernel
theorem dX4_moveBreak_78 : decode cX4_moveBreak 78 = .ok (.if_icmp .eq 10, 3) := by decide +kernel
theorem dX4_moveBreak_81 : decode cX4_moveBreak 81 = .ok (.aload_n 0, 1) := by decide +kernel
theorem dX4_moveBreak_82 : decode cX4_moveBreak 82 = .ok (.getfield 18, 3) := by decide +kernel
theorem dX4_moveBreak_85 : decode cX4_moveBreak 85 = .ok (.iload_n 3, 1) := by decide +kernel
theorem dX4_moveBreak_86 : decode cX4_moveBreak 86 = .ok (.iconst 0, 1) := by decide +kernel
theorem dX4_moveBreak_87 : decode cX4_moveBreak 87 = .ok (.iastore, 1) := by decide +kernel
theorem dX4_moveBreak_88 : decode cX4_moveBreak 88 = .ok (.iinc 3 1, 3) := by decide +kernel
theorem dX4_moveBreak_91 : decode cX4_moveBreak 91 = .ok (.goto (-82), 3) := by decide +kernel
theorem dX4_moveBreak_94 : decode cX4_moveBreak 94 = .ok (.return_, 1) := by decide +kernel
theorem dX4_partsAt_0 : decode cX4_partsAt 0 = .ok (.iload_n 1, 1) := by decide +kernel
theorem dX4_partsAt_1 : decode cX4_partsAt 1 = .ok (.ifCond .eq 21, 3) := by decide +kernel
theorem dX4_partsAt_4 : decode cX4_partsAt 4 = .ok (.iload_n 1, 1) := by decide +kernel
theorem dX4_partsAt_5 : decode cX4_partsAt 5 = .ok (.aload_n 0, 1) := by decide +kernel
theorem dX4_partsAt_6 : decode cX4_partsAt 6 = .ok (.getfield 21, 3) := by decide +kernel
theorem dX4_partsAt_9 : decode cX4_partsAt 9 = .ok (.if_icmp .eq 13, 3) := by decide +kernel
theorem dX4_partsAt_12 : decode cX4_partsAt 12 = .ok (.aload_n 0, 1) := by decide +kernel
theorem dX4_partsAt_13 : decode cX4_partsAt 13 = .ok (.getfield 15, 3) := by decide +kernel
theorem dX4_partsAt_16 : decode cX4_partsAt 16 = .ok (.iload_n 1, 1) := by decide +kernel
theorem dX4_partsAt_17 : decode cX4_partsAt 17 = .ok (.iaload, 1) := by decide +kernel
theorem dX4_partsAt_18 : decode cX4_partsAt 18 = .ok (.iconst 2, 1) := by decide +kernel
theorem dX4_partsAt_19 : decode cX4_partsAt 19 = .ok (.if_icmp .eq 7, 3) := by decide +kernel
theorem dX4_partsAt_22 : decode cX4_partsAt 22 = .ok (.iconst 1, 1) := by decide +kernel
theorem dX4_partsAt_23 : decode cX4_partsAt 23 = .ok (.goto 4, 3) := by decide +kernel
theorem dX4_partsAt_26 : decode cX4_partsAt 26 = .ok (.iconst 0, 1) := by decide +kernel
theorem dX4_partsAt_27 : decode cX4_partsAt 27 = .ok (.ireturn, 1) := by decide +kernel
theorem dX4_reachFrom_0 : decode cX4_reachFrom 0 = .ok (.iload_n 1, 1) := by decide +kernel
theorem dX4_reachFrom_1 : decode cX4_reachFrom 1 = .ok (.iconst 1, 1) := by decide +kernel
theorem dX4_reachFrom_2 : decode cX4_reachFrom 2 = .ok (.iadd, 1) := by decide +kernel
theorem dX4_reachFrom_3 : decode cX4_reachFrom 3 = .ok (.istore_n 2, 1) := by decide +kernel
theorem dX4_reachFrom_4 : decode cX4_reachFrom 4 = .ok (.iload_n 2, 1) := by decide +kernel
theorem dX4_reachFrom_5 : decode cX4_reachFrom 5 = .ok (.aload_n 0, 1) := by decide +kernel
theorem dX4_reachFrom_6 : decode cX4_reachFrom 6 = .ok (.getfield 21, 3) := by decide +kernel
theorem dX4_reachFrom_9 : decode cX4_reachFrom 9 = .ok (.if_icmp .ge 19, 3) := by decide +kernel
theorem dX4_reachFrom_12 : decode cX4_reachFrom 12 = .ok (.aload_n 0, 1) := by decide +kernel
theorem dX4_reachFrom_13 : decode cX4_reachFrom 13 = .ok (.getfield 15, 3) := by decide +kernel
theorem dX4_reachFrom_16 : decode cX4_reachFrom 16 = .ok (.iload_n 2, 1) := by decide +kernel
theorem dX4_reachFrom_17 : decode cX4_reachFrom 17 = .ok (.iaload, 1) := by decide +kernel
theorem dX4_reachFrom_18 : decode cX4_reachFrom 18 = .ok (.iconst 1, 1) := by decide +kernel
theorem dX4_reachFrom_19 : decode cX4_reachFrom 19 = .ok (.if_icmp .eq 9, 3) := by decide +kernel
theorem dX4_reachFrom_22 : decode cX4_reachFrom 22 = .ok (.iinc 2 1, 3) := by decide +kernel
theorem dX4_reachFrom_25 : decode cX4_reachFrom 25 = .ok (.goto (-21), 3) := by decide +kernel
theorem dX4_reachFrom_28 : decode cX4_reachFrom 28 = .ok (.iload_n 2, 1) := by decide +kernel
theorem dX4_reachFrom_29 : decode cX4_reachFrom 29 = .ok (.ireturn, 1) := by decide +kernel
theorem dX5_init_0 : decode cX5_init 0 = .ok (.aload_n 0, 1) := by decide +kernel
theorem dX5_init_1 : decode cX5_init 1 = .ok (.invokespecial 3, 3) := by decide +kernel
theorem dX5_init_4 : decode cX5_init 4 = .ok (.aload_n 0, 1) := by decide +kernel
theorem dX5_init_5 : decode cX5_init 5 = .ok (.sipush 5994, 3) := by decide +kernel
theorem dX5_init_8 : decode cX5_init 8 = .ok (.newarray .int, 2) := by decide +kernel
theorem dX5_init_10 : decode cX5_init 10 = .ok (.putfield 9, 3) := by decide +kernel
theorem dX5_init_13 : decode cX5_init 13 = .ok (.aload_n 0, 1) := by decide +kernel
theorem dX5_init_14 : decode cX5_init 14 = .ok (.bipush 36, 2) := by decide +kernel
theorem dX5_init_16 : decode cX5_init 16 = .ok (.newarray .int, 2) := by decide +kernel
theorem dX5_init_18 : decode cX5_init 18 = .ok (.putfield 15, 3) := by decide +kernel
theorem dX5_init_21 : decode cX5_init 21 = .ok (.aload_n 0, 1) := by decide +kernel
theorem dX5_init_22 : decode cX5_init 22 = .ok (.aload_n 1, 1) := by decide +kernel
theorem dX5_init_23 : decode cX5_init 23 = .ok (.putfield 18, 3) := by decide +kernel
theorem dX5_init_26 : decode cX5_init 26 = .ok (.aload_n 0, 1) := by decide +kernel
theorem dX5_init_27 : decode cX5_init 27 = .ok (.aload_n 2, 1) := by decide +kernel
theorem dX5_init_28 : decode cX5_init 28 = .ok (.putfield 22, 3) := by decide +kernel
theorem dX5_init_31 : decode cX5_init 31 = .ok (.aload_n 0, 1) := by decide +kernel
theorem dX5_init_32 : decode cX5_init 32 = .ok (.aload_n 3, 1) := by decide +kernel
theorem dX5_init_33 : decode cX5_init 33 = .ok (.putfield 26, 3) := by decide +kernel
theorem dX5_init_36 : decode cX5_init 36 = .ok (.return_, 1) := by decide +kernel
theorem dX5_forget_0 : decode cX5_forget 0 = .ok (.aload_n 0, 1) := by decide +kernel
theorem dX5_forget_1 : decode cX5_forget 1 = .ok (.iconst 0, 1) := by decide +kernel
theorem dX5_forget_2 : decode cX5_forget 2 = .ok (.putfield 30, 3) := by decide +kernel
theorem dX5_forget_5 : decode cX5_forget 5 = .ok (.return_, 1) := by decide +kernel
set_option maxRecDepth 20000 in
theorem ggX5_renew_X6_seedEndings : GoodIn wsX5_renew wsX6_seedEndings := goodIn_r _ [8, 9, 10, 11, 12, 13, 14, 15, 16, 17, 18, 19, 20, 21, 22, 23, 24, 25, 26, 6, 27, 28, 29, 30, 31, 32, 33, 34, 35, 36, 37, 38, 39, 40, 41, 42, 43, 44, 45, 92, 93, 94, 95, 96, 97, 98, 99, 100, 101, 102, 103, 104, 105, 106, 107, 108, 109, 110, 111, 112, 113, 114, 115, 116, 117, 118, 88, 89, 90, 91] (by decide +kernel) (by decide +kernel)
set_option maxRecDepth 20000 in
theorem gX5_renew_X6_seedEndings_n42 : GoodIn wsX5_renew (wsX6_seedEndings) := ggX5_renew_X6_seedEndings
set_option maxRecDepth 20000 in
theorem ggX5_renew_X5_fillColumn : GoodIn wsX5_renew wsX5_fillColumn := goodIn_r _ [50, 51, 52, 53, 4, 54, 55, 56, 49, 57, 58, 59, 60, 61, 6, 62, 63, 12, 9, 13, 10, 15, 64, 65, 66, 67, 24, 25, 26, 27, 14, 28, 29, 30, 31, 32, 33, 34, 35, 36, 37, 38, 18, 39, 40, 11, 41, 42, 43, 44, 45, 68, 69, 70, 71, 72, 73, 17, 19, 74, 75, 76, 77, 78, 79, 80, 81, 82, 83, 84, 85, 86, 87, 100, 101, 102, 103, 104, 105, 106, 107, 108, 109, 110, 111, 112, 113, 114, 115, 116, 117, 118, 92, 93, 94, 95, 96, 97, 98, 99, 88, 89, 90, 91] (by decide +kernel) (by decide +kernel)
set_option maxRecDepth 20000 in
theorem gX5_renew_X5_fillColumn : GoodIn wsX5_renew (wsV RX5 48 RX5 yX5_fillColumn wsX5_fillColumn) := goodIn_app (goodIn_of _ (by decide +kernel)) ggX5_renew_X5_fillColumn
theorem dX5_renew_0 : decode cX5_renew 0 = .ok (.iconst 0, 1) := by decide +kernel
theorem dX5_renew_1 : decode cX5_renew 1 = .ok (.istore_n 1, 1) := by decide +kernel
theorem dX5_renew_2 : decode cX5_renew 2 = .ok (.iload_n 1, 1) := by decide +kernel
theorem dX5_renew_3 : decode cX5_renew 3 = .ok (.aload_n 0, 1) := by decide +kernel
theorem dX5_renew_4 : decode cX5_renew 4 = .ok (.getfield 30, 3) := by decide +kernel
theorem dX5_renew_7 : decode cX5_renew 7 = .ok (.if_icmp .ge 38, 3) := by decide +kernel
theorem dX5_renew_10 : decode cX5_renew 10 = .ok (.iload_n 1, 1) := by decide +kernel
theorem dX5_renew_11 : decode cX5_renew 11 = .ok (.aload_n 0, 1) := by decide +kernel
theorem dX5_renew_12 : decode cX5_renew 12 = .ok (.getfield 22, 3) := by decide +kernel
theorem dX5_renew_15 : decode cX5_renew 15 = .ok (.getfield 34, 3) := by decide +kernel
theorem dX5_renew_18 : decode cX5_renew 18 = .ok (.if_icmp .ge 27, 3) := by decide +kernel
theorem dX5_renew_21 : decode cX5_renew 21 = .ok (.aload_n 0, 1) := by decide +kernel
theorem dX5_renew_22 : decode cX5_renew 22 = .ok (.getfield 15, 3) := by decide +kernel
theorem dX5_renew_25 : decode cX5_renew 25 = .ok (.iload_n 1, 1) := by decide +kernel
theorem dX5_renew_26 : decode cX5_renew 26 = .ok (.iaload, 1) := by decide +kernel
theorem dX5_renew_27 : decode cX5_renew 27 = .ok (.aload_n 0, 1) := by decide +kernel
theorem dX5_renew_28 : decode cX5_renew 28 = .ok (.getfield 22, 3) := by decide +kernel
theorem dX5_renew_31 : decode cX5_renew 31 = .ok (.getfield 39, 3) := by decide +kernel
theorem dX5_renew_34 : decode cX5_renew 34 = .ok (.iload_n 1, 1) := by decide +kernel
theorem dX5_renew_35 : decode cX5_renew 35 = .ok (.iaload, 1) := by decide +kernel
theorem dX5_renew_36 : decode cX5_renew 36 = .ok (.if_icmp .ne 9, 3) := by decide +kernel
theorem dX5_renew_39 : decode cX5_renew 39 = .ok (.iinc 1 1, 3) := by decide +kernel
theorem dX5_renew_42 : decode cX5_renew 42 = .ok (.goto (-40), 3) := by decide +kernel
theorem dX5_renew_45 : decode cX5_renew 45 = .ok (.iload_n 1, 1) := by decide +kernel
theorem dX5_renew_46 : decode cX5_renew 46 = .ok (.iconst 1, 1) := by decide +kernel
theorem dX5_renew_47 : decode cX5_renew 47 = .ok (.iadd, 1) := by decide +kernel
theorem dX5_renew_48 : decode cX5_renew 48 = .ok (.istore_n 2, 1) := by decide +kernel
theorem dX5_renew_49 : decode cX5_renew 49 = .ok (.iload_n 2, 1) := by decide +kernel
theorem dX5_renew_50 : decode cX5_renew 50 = .ok (.aload_n 0, 1) := by decide +kernel
theorem dX5_renew_51 : decode cX5_renew 51 = .ok (.getfield 22, 3) := by decide +kernel
theorem dX5_renew_54 : decode cX5_renew 54 = .ok (.getfield 34, 3) := by decide +kernel
theorem dX5_renew_57 : decode cX5_renew 57 = .ok (.if_icmp .gt 46, 3) := by decide +kernel
theorem dX5_renew_60 : decode cX5_renew 60 = .ok (.aload_n 0, 1) := by decide +kernel
theorem dX5_renew_61 : decode cX5_renew 61 = .ok (.getfield 15, 3) := by decide +kernel
theorem dX5_renew_64 : decode cX5_renew 64 = .ok (.iload_n 2, 1) := by decide +kernel
theorem dX5_renew_65 : decode cX5_renew 65 = .ok (.iconst 1, 1) := by decide +kernel
theorem dX5_renew_66 : decode cX5_renew 66 = .ok (.isub, 1) := by decide +kernel
theorem dX5_renew_67 : decode cX5_renew 67 = .ok (.aload_n 0, 1) := by decide +kernel
theorem dX5_renew_68 : decode cX5_renew 68 = .ok (.getfield 22, 3) := by decide +kernel
theorem dX5_renew_71 : decode cX5_renew 71 = .ok (.getfield 39, 3) := by decide +kernel
theorem dX5_renew_74 : decode cX5_renew 74 = .ok (.iload_n 2, 1) := by decide +kernel
theorem dX5_renew_75 : decode cX5_renew 75 = .ok (.iconst 1, 1) := by decide +kernel
theorem dX5_renew_76 : decode cX5_renew 76 = .ok (.isub, 1) := by decide +kernel
theorem dX5_renew_77 : decode cX5_renew 77 = .ok (.iaload, 1) := by decide +kernel
theorem dX5_renew_78 : decode cX5_renew 78 = .ok (.iastore, 1) := by decide +kernel
theorem dX5_renew_79 : decode cX5_renew 79 = .ok (.aload_n 0, 1) := by decide +kernel
theorem dX5_renew_80 : decode cX5_renew 80 = .ok (.getfield 26, 3) := by decide +kernel
theorem dX5_renew_83 : decode cX5_renew 83 = .ok (.iload_n 2, 1) := by decide +kernel
theorem dX5_renew_84 : decode cX5_renew 84 = .ok (.invokevirtual 42, 3) := by decide +kernel
theorem dX5_renew_87 : decode cX5_renew 87 = .ok (.aload_n 0, 1) := by decide +kernel
theorem dX5_renew_88 : decode cX5_renew 88 = .ok (.iload_n 2, 1) := by decide +kernel
theorem dX5_renew_89 : decode cX5_renew 89 = .ok (.invokevirtual 48, 3) := by decide +kernel
theorem dX5_renew_92 : decode cX5_renew 92 = .ok (.aload_n 0, 1) := by decide +kernel
theorem dX5_renew_93 : decode cX5_renew 93 = .ok (.iload_n 2, 1) := by decide +kernel
theorem dX5_renew_94 : decode cX5_renew 94 = .ok (.putfield 30, 3) := by decide +kernel
theorem dX5_renew_97 : decode cX5_renew 97 = .ok (.iinc 2 1, 3) := by decide +kernel
theorem dX5_renew_100 : decode cX5_renew 100 = .ok (.goto (-51), 3) := by decide +kernel
theorem dX5_renew_103 : decode cX5_renew 103 = .ok (.return_, 1) := by decide +kernel
set_option maxRecDepth 20000 in
theorem ggX5_fillColumn_X5_placeOf : GoodIn wsX5_fillColumn wsX5_placeOf := goodIn_r _ [9] (by decide +kernel) (by decide +kernel)
set_option maxRecDepth 20000 in
theorem gX5_fillColumn_X5_placeOf : GoodIn wsX5_fillColumn (wsV RX5 51 RX5 yX5_placeOf wsX5_placeOf) := goodIn_app (goodIn_of _ (by decide +kernel)) ggX5_fillColumn_X5_placeOf
set_option maxRecDepth 20000 in
theorem ggX5_fillColumn_X8_fillRange : GoodIn wsX5_fillColumn wsX8_fillRange := goodIn_r _ [12] (by decide +kernel) (by decide +kernel)
set_option maxRecDepth 20000 in
theorem gX5_fillColumn_X8_fillRange_n56 : GoodIn wsX5_fillColumn (wsX8_fillRange) := ggX5_fillColumn_X8_fillRange
set_option maxRecDepth 20000 in
theorem ggX5_fillColumn_X6_walkWord : GoodIn wsX5_fillColumn wsX6_walkWord := goodIn_r _ [16, 17, 18, 19, 20, 21, 22, 23, 24, 25, 26, 27, 28, 14, 29, 30, 31, 32, 33, 34, 35, 36, 37, 38, 39, 40, 41, 42, 43, 44, 45, 46, 47, 48, 49, 50, 92, 93, 94, 95, 96, 97, 98, 99, 73, 74, 75, 76, 77, 78, 79, 80, 81, 82, 83, 84, 85, 86, 87, 88, 89, 90, 91, 100, 101, 102, 103] (by decide +kernel) (by decide +kernel)
set_option maxRecDepth 20000 in
theorem gX5_fillColumn_X6_walkWord_n68 : GoodIn wsX5_fillColumn (wsX6_walkWord) := ggX5_fillColumn_X6_walkWord
set_option maxRecDepth 20000 in
theorem ggX5_fillColumn_X5_enter : GoodIn wsX5_fillColumn wsX5_enter := goodIn_r _ [54, 3, 4, 55, 1, 56, 57, 42, 58, 59, 60, 61, 62, 63, 64, 65, 11, 66, 67, 68, 69, 70, 71, 72, 92, 93, 94, 95, 96, 97, 98, 99, 73, 74, 75, 76, 77, 78, 79, 80, 81, 82, 83, 84, 85, 86, 87, 88, 89, 90, 91] (by decide +kernel) (by decide +kernel)
set_option maxRecDepth 20000 in
theorem gX5_fillColumn_X5_enter : GoodIn wsX5_fillColumn (wsV RX5 81 RX5 yX5_enter wsX5_enter) := goodIn_app (goodIn_of _ (by decide +kernel)) ggX5_fillColumn_X5_enter
theorem dX5_fillColumn_0 : decode cX5_fillColumn 0 = .ok (.aload_n 0, 1) := by decide +kernel
theorem dX5_fillColumn_1 : decode cX5_fillColumn 1 = .ok (.iconst 0, 1) := by decide +kernel
theorem dX5_fillColumn_2 : decode cX5_fillColumn 2 = .ok (.iload_n 1, 1) := by decide +kernel
theorem dX5_fillColumn_3 : decode cX5_fillColumn 3 = .ok (.invokevirtual 51, 3) := by decide +kernel
theorem dX5_fillColumn_6 : decode cX5_fillColumn 6 = .ok (.istore_n 2, 1) := by decide +kernel
theorem dX5_fillColumn_7 : decode cX5_fillColumn 7 = .ok (.aload_n 0, 1) := by decide +kernel
theorem dX5_fillColumn_8 : decode cX5_fillColumn 8 = .ok (.getfield 9, 3) := by decide +kernel
theorem dX5_fillColumn_11 : decode cX5_fillColumn 11 = .ok (.iload_n 2, 1) := by decide +kernel
theorem dX5_fillColumn_12 : decode cX5_fillColumn 12 = .ok (.iload_n 2, 1) := by decide +kernel
theorem dX5_fillColumn_13 : decode cX5_fillColumn 13 = .ok (.iload_n 1, 1) := by decide +kernel
theorem dX5_fillColumn_14 : decode cX5_fillColumn 14 = .ok (.bipush 9, 2) := by decide +kernel
theorem dX5_fillColumn_16 : decode cX5_fillColumn 16 = .ok (.imul, 1) := by decide +kernel
theorem dX5_fillColumn_17 : decode cX5_fillColumn 17 = .ok (.iadd, 1) := by decide +kernel
theorem dX5_fillColumn_18 : decode cX5_fillColumn 18 = .ok (.ldc 55, 2) := by decide +kernel
theorem dX5_fillColumn_20 : decode cX5_fillColumn 20 = .ok (.invokestatic 56, 3) := by decide +kernel
theorem dX5_fillColumn_23 : decode cX5_fillColumn 23 = .ok (.aload_n 0, 1) := by decide +kernel
theorem dX5_fillColumn_24 : decode cX5_fillColumn 24 = .ok (.getfield 9, 3) := by decide +kernel
theorem dX5_fillColumn_27 : decode cX5_fillColumn 27 = .ok (.aload_n 0, 1) := by decide +kernel
theorem dX5_fillColumn_28 : decode cX5_fillColumn 28 = .ok (.iload_n 1, 1) := by decide +kernel
theorem dX5_fillColumn_29 : decode cX5_fillColumn 29 = .ok (.iconst 1, 1) := by decide +kernel
theorem dX5_fillColumn_30 : decode cX5_fillColumn 30 = .ok (.isub, 1) := by decide +kernel
theorem dX5_fillColumn_31 : decode cX5_fillColumn 31 = .ok (.iload_n 1, 1) := by decide +kernel
theorem dX5_fillColumn_32 : decode cX5_fillColumn 32 = .ok (.invokevirtual 51, 3) := by decide +kernel
theorem dX5_fillColumn_35 : decode cX5_fillColumn 35 = .ok (.bipush 8, 2) := by decide +kernel
theorem dX5_fillColumn_37 : decode cX5_fillColumn 37 = .ok (.iadd, 1) := by decide +kernel
theorem dX5_fillColumn_38 : decode cX5_fillColumn 38 = .ok (.aload_n 0, 1) := by decide +kernel
theorem dX5_fillColumn_39 : decode cX5_fillColumn 39 = .ok (.getfield 18, 3) := by decide +kernel
theorem dX5_fillColumn_42 : decode cX5_fillColumn 42 = .ok (.getfield 60, 3) := by decide +kernel
theorem dX5_fillColumn_45 : decode cX5_fillColumn 45 = .ok (.iconst 1, 1) := by decide +kernel
theorem dX5_fillColumn_46 : decode cX5_fillColumn 46 = .ok (.iaload, 1) := by decide +kernel
theorem dX5_fillColumn_47 : decode cX5_fillColumn 47 = .ok (.bipush 10, 2) := by decide +kernel
theorem dX5_fillColumn_49 : decode cX5_fillColumn 49 = .ok (.ishl, 1) := by decide +kernel
theorem dX5_fillColumn_50 : decode cX5_fillColumn 50 = .ok (.sipush 540, 3) := by decide +kernel
theorem dX5_fillColumn_53 : decode cX5_fillColumn 53 = .ok (.iadd, 1) := by decide +kernel
theorem dX5_fillColumn_54 : decode cX5_fillColumn 54 = .ok (.iastore, 1) := by decide +kernel
theorem dX5_fillColumn_55 : decode cX5_fillColumn 55 = .ok (.iconst 0, 1) := by decide +kernel
theorem dX5_fillColumn_56 : decode cX5_fillColumn 56 = .ok (.istore_n 3, 1) := by decide +kernel
theorem dX5_fillColumn_57 : decode cX5_fillColumn 57 = .ok (.iload_n 3, 1) := by decide +kernel
theorem dX5_fillColumn_58 : decode cX5_fillColumn 58 = .ok (.aload_n 0, 1) := by decide +kernel
theorem dX5_fillColumn_59 : decode cX5_fillColumn 59 = .ok (.getfield 18, 3) := by decide +kernel
theorem dX5_fillColumn_62 : decode cX5_fillColumn 62 = .ok (.getfield 65, 3) := by decide +kernel
theorem dX5_fillColumn_65 : decode cX5_fillColumn 65 = .ok (.if_icmp .ge 51, 3) := by decide +kernel
theorem dX5_fillColumn_68 : decode cX5_fillColumn 68 = .ok (.aload_n 0, 1) := by decide +kernel
theorem dX5_fillColumn_69 : decode cX5_fillColumn 69 = .ok (.getfield 26, 3) := by decide +kernel
theorem dX5_fillColumn_72 : decode cX5_fillColumn 72 = .ok (.iload_n 3, 1) := by decide +kernel
theorem dX5_fillColumn_73 : decode cX5_fillColumn 73 = .ok (.iload_n 1, 1) := by decide +kernel
theorem dX5_fillColumn_74 : decode cX5_fillColumn 74 = .ok (.invokevirtual 68, 3) := by decide +kernel
theorem dX5_fillColumn_77 : decode cX5_fillColumn 77 = .ok (.aload_n 0, 1) := by decide +kernel
theorem dX5_fillColumn_78 : decode cX5_fillColumn 78 = .ok (.getfield 26, 3) := by decide +kernel
theorem dX5_fillColumn_81 : decode cX5_fillColumn 81 = .ok (.getfield 72, 3) := by decide +kernel
theorem dX5_fillColumn_84 : decode cX5_fillColumn 84 = .ok (.aload_n 0, 1) := by decide +kernel
theorem dX5_fillColumn_85 : decode cX5_fillColumn 85 = .ok (.getfield 26, 3) := by decide +kernel
theorem dX5_fillColumn_88 : decode cX5_fillColumn 88 = .ok (.getfield 75, 3) := by decide +kernel
theorem dX5_fillColumn_91 : decode cX5_fillColumn 91 = .ok (.if_icmp .gt 19, 3) := by decide +kernel
theorem dX5_fillColumn_94 : decode cX5_fillColumn 94 = .ok (.aload_n 0, 1) := by decide +kernel
theorem dX5_fillColumn_95 : decode cX5_fillColumn 95 = .ok (.iload_n 3, 1) := by decide +kernel
theorem dX5_fillColumn_96 : decode cX5_fillColumn 96 = .ok (.iload_n 2, 1) := by decide +kernel
theorem dX5_fillColumn_97 : decode cX5_fillColumn 97 = .ok (.aload_n 0, 1) := by decide +kernel
theorem dX5_fillColumn_98 : decode cX5_fillColumn 98 = .ok (.getfield 18, 3) := by decide +kernel
theorem dX5_fillColumn_101 : decode cX5_fillColumn 101 = .ok (.getfield 78, 3) := by decide +kernel
theorem dX5_fillColumn_104 : decode cX5_fillColumn 104 = .ok (.iload_n 3, 1) := by decide +kernel
theorem dX5_fillColumn_105 : decode cX5_fillColumn 105 = .ok (.iaload, 1) := by decide +kernel
theorem dX5_fillColumn_106 : decode cX5_fillColumn 106 = .ok (.iadd, 1) := by decide +kernel
theorem dX5_fillColumn_107 : decode cX5_fillColumn 107 = .ok (.invokevirtual 81, 3) := by decide +kernel
theorem dX5_fillColumn_110 : decode cX5_fillColumn 110 = .ok (.iinc 3 1, 3) := by decide +kernel
theorem dX5_fillColumn_113 : decode cX5_fillColumn 113 = .ok (.goto (-56), 3) := by decide +kernel
theorem dX5_fillColumn_116 : decode cX5_fillColumn 116 = .ok (.return_, 1) := by decide +kernel
set_option maxRecDepth 20000 in
theorem ggX5_enter_X1_wordCost : GoodIn wsX5_enter wsX1_wordCost := goodIn_r _ [12, 13, 14, 15, 16, 17, 32, 33, 34, 35, 36, 37, 38, 39, 40, 41, 42, 43, 44, 45, 46, 47, 48, 49, 50] (by decide +kernel) (by decide +kernel)
set_option maxRecDepth 20000 in
theorem gX5_enter_X1_wordCost_n84 : GoodIn wsX5_enter (wsX1_wordCost) := ggX5_enter_X1_wordCost
theorem dX5_enter_0 : decode cX5_enter 0 = .ok (.aload_n 0, 1) := by decide +kernel
theorem dX5_enter_1 : decode cX5_enter 1 = .ok (.getfield 18, 3) := by decide +kernel
theorem dX5_enter_4 : decode cX5_enter 4 = .ok (.iload_n 1, 1) := by decide +kernel
theorem dX5_enter_5 : decode cX5_enter 5 = .ok (.invokevirtual 84, 3) := by decide +kernel
theorem dX5_enter_8 : decode cX5_enter 8 = .ok (.istore_n 3, 1) := by decide +kernel
theorem dX5_enter_9 : decode cX5_enter 9 = .ok (.aload_n 0, 1) := by decide +kernel
theorem dX5_enter_10 : decode cX5_enter 10 = .ok (.getfield 26, 3) := by decide +kernel
theorem dX5_enter_13 : decode cX5_enter 13 = .ok (.getfield 72, 3) := by decide +kernel
theorem dX5_enter_16 : decode cX5_enter 16 = .ok (.istore 4, 2) := by decide +kernel
theorem dX5_enter_18 : decode cX5_enter 18 = .ok (.iload 4, 2) := by decide +kernel
theorem dX5_enter_20 : decode cX5_enter 20 = .ok (.aload_n 0, 1) := by decide +kernel
theorem dX5_enter_21 : decode cX5_enter 21 = .ok (.getfield 26, 3) := by decide +kernel
theorem dX5_enter_24 : decode cX5_enter 24 = .ok (.getfield 75, 3) := by decide +kernel
theorem dX5_enter_27 : decode cX5_enter 27 = .ok (.if_icmp .gt 82, 3) := by decide +kernel
theorem dX5_enter_30 : decode cX5_enter 30 = .ok (.aload_n 0, 1) := by decide +kernel
theorem dX5_enter_31 : decode cX5_enter 31 = .ok (.getfield 26, 3) := by decide +kernel
theorem dX5_enter_34 : decode cX5_enter 34 = .ok (.getfield 88, 3) := by decide +kernel
theorem dX5_enter_37 : decode cX5_enter 37 = .ok (.iload 4, 2) := by decide +kernel
theorem dX5_enter_39 : decode cX5_enter 39 = .ok (.iaload, 1) := by decide +kernel
theorem dX5_enter_40 : decode cX5_enter 40 = .ok (.istore 5, 2) := by decide +kernel
theorem dX5_enter_42 : decode cX5_enter 42 = .ok (.iload 5, 2) := by decide +kernel
theorem dX5_enter_44 : decode cX5_enter 44 = .ok (.ldc 91, 2) := by decide +kernel
theorem dX5_enter_46 : decode cX5_enter 46 = .ok (.if_icmp .eq 57, 3) := by decide +kernel
theorem dX5_enter_49 : decode cX5_enter 49 = .ok (.iload_n 1, 1) := by decide +kernel
theorem dX5_enter_50 : decode cX5_enter 50 = .ok (.bipush 9, 2) := by decide +kernel
theorem dX5_enter_52 : decode cX5_enter 52 = .ok (.imul, 1) := by decide +kernel
theorem dX5_enter_53 : decode cX5_enter 53 = .ok (.iload 5, 2) := by decide +kernel
theorem dX5_enter_55 : decode cX5_enter 55 = .ok (.bipush 15, 2) := by decide +kernel
theorem dX5_enter_57 : decode cX5_enter 57 = .ok (.iand, 1) := by decide +kernel
theorem dX5_enter_58 : decode cX5_enter 58 = .ok (.iadd, 1) := by decide +kernel
theorem dX5_enter_59 : decode cX5_enter 59 = .ok (.istore 6, 2) := by decide +kernel
theorem dX5_enter_61 : decode cX5_enter 61 = .ok (.iload_n 3, 1) := by decide +kernel
theorem dX5_enter_62 : decode cX5_enter 62 = .ok (.iload 5, 2) := by decide +kernel
theorem dX5_enter_64 : decode cX5_enter 64 = .ok (.iconst 4, 1) := by decide +kernel
theorem dX5_enter_65 : decode cX5_enter 65 = .ok (.ishr, 1) := by decide +kernel
theorem dX5_enter_66 : decode cX5_enter 66 = .ok (.iadd, 1) := by decide +kernel
theorem dX5_enter_67 : decode cX5_enter 67 = .ok (.bipush 10, 2) := by decide +kernel
theorem dX5_enter_69 : decode cX5_enter 69 = .ok (.ishl, 1) := by decide +kernel
theorem dX5_enter_70 : decode cX5_enter 70 = .ok (.iload 6, 2) := by decide +kernel
theorem dX5_enter_72 : decode cX5_enter 72 = .ok (.iadd, 1) := by decide +kernel
theorem dX5_enter_73 : decode cX5_enter 73 = .ok (.istore 7, 2) := by decide +kernel
theorem dX5_enter_75 : decode cX5_enter 75 = .ok (.iload_n 2, 1) := by decide +kernel
theorem dX5_enter_76 : decode cX5_enter 76 = .ok (.iload 4, 2) := by decide +kernel
theorem dX5_enter_78 : decode cX5_enter 78 = .ok (.bipush 9, 2) := by decide +kernel
theorem dX5_enter_80 : decode cX5_enter 80 = .ok (.imul, 1) := by decide +kernel
theorem dX5_enter_81 : decode cX5_enter 81 = .ok (.iadd, 1) := by decide +kernel
theorem dX5_enter_82 : decode cX5_enter 82 = .ok (.istore 8, 2) := by decide +kernel
theorem dX5_enter_84 : decode cX5_enter 84 = .ok (.aload_n 0, 1) := by decide +kernel
theorem dX5_enter_85 : decode cX5_enter 85 = .ok (.getfield 9, 3) := by decide +kernel
theorem dX5_enter_88 : decode cX5_enter 88 = .ok (.iload 8, 2) := by decide +kernel
theorem dX5_enter_90 : decode cX5_enter 90 = .ok (.aload_n 0, 1) := by decide +kernel
theorem dX5_enter_91 : decode cX5_enter 91 = .ok (.getfield 9, 3) := by decide +kernel
theorem dX5_enter_94 : decode cX5_enter 94 = .ok (.iload 8, 2) := by decide +kernel
theorem dX5_enter_96 : decode cX5_enter 96 = .ok (.iaload, 1) := by decide +kernel
theorem dX5_enter_97 : decode cX5_enter 97 = .ok (.iload 7, 2) := by decide +kernel
theorem dX5_enter_99 : decode cX5_enter 99 = .ok (.invokestatic 92, 3) := by decide +kernel
theorem dX5_enter_102 : decode cX5_enter 102 = .ok (.iastore, 1) := by decide +kernel
theorem dX5_enter_103 : decode cX5_enter 103 = .ok (.iinc 4 1, 3) := by decide +kernel
theorem dX5_enter_106 : decode cX5_enter 106 = .ok (.goto (-88), 3) := by decide +kernel
theorem dX5_enter_109 : decode cX5_enter 109 = .ok (.return_, 1) := by decide +kernel
theorem dX5_placeOf_0 : decode cX5_placeOf 0 = .ok (.iload_n 2, 1) := by decide +kernel
theorem dX5_placeOf_1 : decode cX5_placeOf 1 = .ok (.iload_n 2, 1) := by decide +kernel
theorem dX5_placeOf_2 : decode cX5_placeOf 2 = .ok (.iconst 1, 1) := by decide +kernel
theorem dX5_placeOf_3 : decode cX5_placeOf 3 = .ok (.isub, 1) := by decide +kernel
theorem dX5_placeOf_4 : decode cX5_placeOf 4 = .ok (.imul, 1) := by decide +kernel
theorem dX5_placeOf_5 : decode cX5_placeOf 5 = .ok (.iconst 2, 1) := by decide +kernel
theorem dX5_placeOf_6 : decode cX5_placeOf 6 = .ok (.idiv, 1) := by decide +kernel
theorem dX5_placeOf_7 : decode cX5_placeOf 7 = .ok (.iload_n 1, 1) := by decide +kernel
theorem dX5_placeOf_8 : decode cX5_placeOf 8 = .ok (.iadd, 1) := by decide +kernel
theorem dX5_placeOf_9 : decode cX5_placeOf 9 = .ok (.bipush 9, 2) := by decide +kernel
theorem dX5_placeOf_11 : decode cX5_placeOf 11 = .ok (.imul, 1) := by decide +kernel
theorem dX5_placeOf_12 : decode cX5_placeOf 12 = .ok (.ireturn, 1) := by decide +kernel
theorem dX6_init_0 : decode cX6_init 0 = .ok (.aload_n 0, 1) := by decide +kernel
theorem dX6_init_1 : decode cX6_init 1 = .ok (.invokespecial 5, 3) := by decide +kernel
theorem dX6_init_4 : decode cX6_init 4 = .ok (.aload_n 0, 1) := by decide +kernel
theorem dX6_init_5 : decode cX6_init 5 = .ok (.bipush 37, 2) := by decide +kernel
theorem dX6_init_7 : decode cX6_init 7 = .ok (.newarray .int, 2) := by decide +kernel
theorem dX6_init_9 : decode cX6_init 9 = .ok (.putfield 11, 3) := by decide +kernel
theorem dX6_init_12 : decode cX6_init 12 = .ok (.aload_n 0, 1) := by decide +kernel
theorem dX6_init_13 : decode cX6_init 13 = .ok (.bipush 37, 2) := by decide +kernel
theorem dX6_init_15 : decode cX6_init 15 = .ok (.newarray .int, 2) := by decide +kernel
theorem dX6_init_17 : decode cX6_init 17 = .ok (.putfield 15, 3) := by decide +kernel
theorem dX6_init_20 : decode cX6_init 20 = .ok (.aload_n 0, 1) := by decide +kernel
theorem dX6_init_21 : decode cX6_init 21 = .ok (.sipush 222, 3) := by decide +kernel
theorem dX6_init_24 : decode cX6_init 24 = .ok (.newarray .int, 2) := by decide +kernel
theorem dX6_init_26 : decode cX6_init 26 = .ok (.putfield 18, 3) := by decide +kernel
theorem dX6_init_29 : decode cX6_init 29 = .ok (.aload_n 0, 1) := by decide +kernel
theorem dX6_init_30 : decode cX6_init 30 = .ok (.bipush 6, 2) := by decide +kernel
theorem dX6_init_32 : decode cX6_init 32 = .ok (.newarray .int, 2) := by decide +kernel
theorem dX6_init_34 : decode cX6_init 34 = .ok (.putfield 21, 3) := by decide +kernel
theorem dX6_init_37 : decode cX6_init 37 = .ok (.aload_n 0, 1) := by decide +kernel
theorem dX6_init_38 : decode cX6_init 38 = .ok (.aload_n 1, 1) := by decide +kernel
theorem dX6_init_39 : decode cX6_init 39 = .ok (.putfield 24, 3) := by decide +kernel
theorem dX6_init_42 : decode cX6_init 42 = .ok (.aload_n 0, 1) := by decide +kernel
theorem dX6_init_43 : decode cX6_init 43 = .ok (.aload_n 2, 1) := by decide +kernel
theorem dX6_init_44 : decode cX6_init 44 = .ok (.putfield 28, 3) := by decide +kernel
theorem dX6_init_47 : decode cX6_init 47 = .ok (.return_, 1) := by decide +kernel
set_option maxRecDepth 20000 in
theorem ggX6_costOf_X8_wordOf : GoodIn wsX6_costOf wsX8_wordOf := goodIn_r _ [6] (by decide +kernel) (by decide +kernel)
set_option maxRecDepth 20000 in
theorem gX6_costOf_X8_wordOf_n38 : GoodIn wsX6_costOf (wsX8_wordOf) := ggX6_costOf_X8_wordOf
set_option maxRecDepth 20000 in
theorem ggX6_costOf_X8_endingOf : GoodIn wsX6_costOf wsX8_endingOf := goodIn_r _ [8] (by decide +kernel) (by decide +kernel)
set_option maxRecDepth 20000 in
theorem gX6_costOf_X8_endingOf_n42 : GoodIn wsX6_costOf (wsX8_endingOf) := ggX6_costOf_X8_endingOf
set_option maxRecDepth 20000 in
theorem ggX6_costOf_X6_startAt : GoodIn wsX6_costOf wsX6_startAt := goodIn_r _ [13, 14, 15, 3, 47, 48, 49, 50, 51, 52, 53, 54] (by decide +kernel) (by decide +kernel)
set_option maxRecDepth 20000 in
theorem gX6_costOf_X6_startAt : GoodIn wsX6_costOf (wsV RX6 45 RX6 yX6_startAt wsX6_startAt) := goodIn_app (goodIn_of _ (by decide +kernel)) ggX6_costOf_X6_startAt
set_option maxRecDepth 20000 in
theorem ggX6_costOf_X6_walkBack : GoodIn wsX6_costOf wsX6_walkBack := goodIn_r _ [19, 14, 15, 20, 21, 22, 23, 12, 24, 25, 26, 27, 28, 29, 2, 1, 3, 30, 31, 32, 33, 34, 47, 48, 49, 50, 51, 52, 53, 54, 55, 56, 57, 58, 59, 60, 61, 62, 63, 64, 65, 66, 67, 68, 69, 70, 71, 72, 73, 74, 75, 76, 77] (by decide +kernel) (by decide +kernel)
set_option maxRecDepth 20000 in
theorem gX6_costOf_X6_walkBack : GoodIn wsX6_costOf (wsV RX6 56 RX6 yX6_walkBack wsX6_walkBack) := goodIn_app (goodIn_of _ (by decide +kernel)) ggX6_costOf_X6_walkBack
set_option maxRecDepth 20000 in
theorem ggX6_costOf_X6_foundAt : GoodIn wsX6_costOf wsX6_foundAt := goodIn_r _ [38, 14, 15, 2, 3, 47, 48, 49, 50, 51, 52, 53, 54] (by decide +kernel) (by decide +kernel)
set_option maxRecDepth 20000 in
theorem gX6_costOf_X6_foundAt : GoodIn wsX6_costOf (wsV RX6 63 RX6 yX6_foundAt wsX6_foundAt) := goodIn_app (goodIn_of _ (by decide +kernel)) ggX6_costOf_X6_foundAt
set_option maxRecDepth 20000 in
theorem ggX6_costOf_X1_wordCost : GoodIn wsX6_costOf wsX1_wordCost := goodIn_r _ [42, 43, 44, 45, 5, 46, 55, 56, 57, 58, 59, 60, 61, 62, 63, 64, 65, 66, 67, 68, 69, 70, 71, 72, 73] (by decide +kernel) (by decide +kernel)
set_option maxRecDepth 20000 in
theorem gX6_costOf_X1_wordCost_n66 : GoodIn wsX6_costOf (wsX1_wordCost) := ggX6_costOf_X1_wordCost
theorem dX6_costOf_0 : decode cX6_costOf 0 = .ok (.iload_n 1, 1) := by decide +kernel
theorem dX6_costOf_1 : decode cX6_costOf 1 = .ok (.sipush 540, 3) := by decide +kernel
theorem dX6_costOf_4 : decode cX6_costOf 4 = .ok (.if_icmp .ne 25, 3) := by decide +kernel
theorem dX6_costOf_7 : decode cX6_costOf 7 = .ok (.iload_n 3, 1) := by decide +kernel
theorem dX6_costOf_8 : decode cX6_costOf 8 = .ok (.iload_n 2, 1) := by decide +kernel
theorem dX6_costOf_9 : decode cX6_costOf 9 = .ok (.iconst 1, 1) := by decide +kernel
theorem dX6_costOf_10 : decode cX6_costOf 10 = .ok (.iadd, 1) := by decide +kernel
theorem dX6_costOf_11 : decode cX6_costOf 11 = .ok (.if_icmp .ne 15, 3) := by decide +kernel
theorem dX6_costOf_14 : decode cX6_costOf 14 = .ok (.aload_n 0, 1) := by decide +kernel
theorem dX6_costOf_15 : decode cX6_costOf 15 = .ok (.getfield 24, 3) := by decide +kernel
theorem dX6_costOf_18 : decode cX6_costOf 18 = .ok (.getfield 32, 3) := by decide +kernel
theorem dX6_costOf_21 : decode cX6_costOf 21 = .ok (.iconst 1, 1) := by decide +kernel
theorem dX6_costOf_22 : decode cX6_costOf 22 = .ok (.iaload, 1) := by decide +kernel
theorem dX6_costOf_23 : decode cX6_costOf 23 = .ok (.goto 5, 3) := by decide +kernel
theorem dX6_costOf_26 : decode cX6_costOf 26 = .ok (.ldc 37, 2) := by decide +kernel
theorem dX6_costOf_28 : decode cX6_costOf 28 = .ok (.ireturn, 1) := by decide +kernel
theorem dX6_costOf_29 : decode cX6_costOf 29 = .ok (.iload_n 1, 1) := by decide +kernel
theorem dX6_costOf_30 : decode cX6_costOf 30 = .ok (.invokestatic 38, 3) := by decide +kernel
theorem dX6_costOf_33 : decode cX6_costOf 33 = .ok (.istore 4, 2) := by decide +kernel
theorem dX6_costOf_35 : decode cX6_costOf 35 = .ok (.iload_n 1, 1) := by decide +kernel
theorem dX6_costOf_36 : decode cX6_costOf 36 = .ok (.invokestatic 42, 3) := by decide +kernel
theorem dX6_costOf_39 : decode cX6_costOf 39 = .ok (.istore 5, 2) := by decide +kernel
theorem dX6_costOf_41 : decode cX6_costOf 41 = .ok (.aload_n 0, 1) := by decide +kernel
theorem dX6_costOf_42 : decode cX6_costOf 42 = .ok (.iload_n 3, 1) := by decide +kernel
theorem dX6_costOf_43 : decode cX6_costOf 43 = .ok (.iconst 0, 1) := by decide +kernel
theorem dX6_costOf_44 : decode cX6_costOf 44 = .ok (.invokevirtual 45, 3) := by decide +kernel
theorem dX6_costOf_47 : decode cX6_costOf 47 = .ok (.iload 5, 2) := by decide +kernel
theorem dX6_costOf_49 : decode cX6_costOf 49 = .ok (.iconst (-1), 1) := by decide +kernel
theorem dX6_costOf_50 : decode cX6_costOf 50 = .ok (.if_icmp .eq 36, 3) := by decide +kernel
theorem dX6_costOf_53 : decode cX6_costOf 53 = .ok (.aload_n 0, 1) := by decide +kernel
theorem dX6_costOf_54 : decode cX6_costOf 54 = .ok (.getfield 11, 3) := by decide +kernel
theorem dX6_costOf_57 : decode cX6_costOf 57 = .ok (.iload_n 3, 1) := by decide +kernel
theorem dX6_costOf_58 : decode cX6_costOf 58 = .ok (.aload_n 0, 1) := by decide +kernel
theorem dX6_costOf_59 : decode cX6_costOf 59 = .ok (.getfield 24, 3) := by decide +kernel
theorem dX6_costOf_62 : decode cX6_costOf 62 = .ok (.getfield 49, 3) := by decide +kernel
theorem dX6_costOf_65 : decode cX6_costOf 65 = .ok (.iload 5, 2) := by decide +kernel
theorem dX6_costOf_67 : decode cX6_costOf 67 = .ok (.iaload, 1) := by decide +kernel
theorem dX6_costOf_68 : decode cX6_costOf 68 = .ok (.iconst 4, 1) := by decide +kernel
theorem dX6_costOf_69 : decode cX6_costOf 69 = .ok (.ishl, 1) := by decide +kernel
theorem dX6_costOf_70 : decode cX6_costOf 70 = .ok (.iastore, 1) := by decide +kernel
theorem dX6_costOf_71 : decode cX6_costOf 71 = .ok (.aload_n 0, 1) := by decide +kernel
theorem dX6_costOf_72 : decode cX6_costOf 72 = .ok (.aload_n 0, 1) := by decide +kernel
theorem dX6_costOf_73 : decode cX6_costOf 73 = .ok (.getfield 24, 3) := by decide +kernel
theorem dX6_costOf_76 : decode cX6_costOf 76 = .ok (.getfield 52, 3) := by decide +kernel
theorem dX6_costOf_79 : decode cX6_costOf 79 = .ok (.iload 5, 2) := by decide +kernel
theorem dX6_costOf_81 : decode cX6_costOf 81 = .ok (.laload, 1) := by decide +kernel
theorem dX6_costOf_82 : decode cX6_costOf 82 = .ok (.iconst 3, 1) := by decide +kernel
theorem dX6_costOf_83 : decode cX6_costOf 83 = .ok (.invokevirtual 56, 3) := by decide +kernel
theorem dX6_costOf_86 : decode cX6_costOf 86 = .ok (.aload_n 0, 1) := by decide +kernel
theorem dX6_costOf_87 : decode cX6_costOf 87 = .ok (.aload_n 0, 1) := by decide +kernel
theorem dX6_costOf_88 : decode cX6_costOf 88 = .ok (.getfield 24, 3) := by decide +kernel
theorem dX6_costOf_91 : decode cX6_costOf 91 = .ok (.getfield 60, 3) := by decide +kernel
theorem dX6_costOf_94 : decode cX6_costOf 94 = .ok (.iload 4, 2) := by decide +kernel
theorem dX6_costOf_96 : decode cX6_costOf 96 = .ok (.laload, 1) := by decide +kernel
theorem dX6_costOf_97 : decode cX6_costOf 97 = .ok (.bipush 6, 2) := by decide +kernel
theorem dX6_costOf_99 : decode cX6_costOf 99 = .ok (.invokevirtual 56, 3) := by decide +kernel
theorem dX6_costOf_102 : decode cX6_costOf 102 = .ok (.aload_n 0, 1) := by decide +kernel
theorem dX6_costOf_103 : decode cX6_costOf 103 = .ok (.iload_n 2, 1) := by decide +kernel
theorem dX6_costOf_104 : decode cX6_costOf 104 = .ok (.invokevirtual 63, 3) := by decide +kernel
theorem dX6_costOf_107 : decode cX6_costOf 107 = .ok (.istore 6, 2) := by decide +kernel
theorem dX6_costOf_109 : decode cX6_costOf 109 = .ok (.iload 6, 2) := by decide +kernel
theorem dX6_costOf_111 : decode cX6_costOf 111 = .ok (.ldc 37, 2) := by decide +kernel
theorem dX6_costOf_113 : decode cX6_costOf 113 = .ok (.if_icmp .ne 8, 3) := by decide +kernel
theorem dX6_costOf_116 : decode cX6_costOf 116 = .ok (.ldc 37, 2) := by decide +kernel
theorem dX6_costOf_118 : decode cX6_costOf 118 = .ok (.goto 17, 3) := by decide +kernel
theorem dX6_costOf_121 : decode cX6_costOf 121 = .ok (.aload_n 0, 1) := by decide +kernel
theorem dX6_costOf_122 : decode cX6_costOf 122 = .ok (.getfield 24, 3) := by decide +kernel
theorem dX6_costOf_125 : decode cX6_costOf 125 = .ok (.iload 4, 2) := by decide +kernel
theorem dX6_costOf_127 : decode cX6_costOf 127 = .ok (.invokevirtual 66, 3) := by decide +kernel
theorem dX6_costOf_130 : decode cX6_costOf 130 = .ok (.iload 6, 2) := by decide +kernel
theorem dX6_costOf_132 : decode cX6_costOf 132 = .ok (.iconst 4, 1) := by decide +kernel
theorem dX6_costOf_133 : decode cX6_costOf 133 = .ok (.ishr, 1) := by decide +kernel
theorem dX6_costOf_134 : decode cX6_costOf 134 = .ok (.iadd, 1) := by decide +kernel
theorem dX6_costOf_135 : decode cX6_costOf 135 = .ok (.ireturn, 1) := by decide +kernel
set_option maxRecDepth 20000 in
theorem ggX6_seedEndings_J7_fill_53178 : GoodIn wsX6_seedEndings wsJ7_fill_53178 := goodIn_r _ [15] (by decide +kernel) (by decide +kernel)
set_option maxRecDepth 20000 in
theorem gX6_seedEndings_J7_fill_53178 : GoodIn wsX6_seedEndings (va_wsS RX6 69 yJ7_fill_53178 wsJ7_fill_53178) := goodIn_app (goodIn_of _ (by decide +kernel)) ggX6_seedEndings_J7_fill_53178
set_option maxRecDepth 20000 in
theorem ggX6_seedEndings_X6_startAt : GoodIn wsX6_seedEndings wsX6_startAt := goodIn_r _ [20, 5, 6, 7, 39, 40, 41, 42, 43, 44, 45, 46] (by decide +kernel) (by decide +kernel)
set_option maxRecDepth 20000 in
theorem gX6_seedEndings_X6_startAt : GoodIn wsX6_seedEndings (wsV RX6 45 RX6 yX6_startAt wsX6_startAt) := goodIn_app (goodIn_of _ (by decide +kernel)) ggX6_seedEndings_X6_startAt
set_option maxRecDepth 20000 in
theorem ggX6_seedEndings_X6_walkBack : GoodIn wsX6_seedEndings wsX6_walkBack := goodIn_r _ [24, 5, 6, 25, 26, 27, 28, 19, 29, 30, 31, 10, 32, 33, 3, 4, 7, 34, 35, 36, 37, 38, 39, 40, 41, 42, 43, 44, 45, 46, 47, 48, 49, 50, 51, 52, 53, 54, 55, 56, 57, 58, 59, 60, 61, 62, 63, 64, 65, 66, 67, 68, 69] (by decide +kernel) (by decide +kernel)
set_option maxRecDepth 20000 in
theorem gX6_seedEndings_X6_walkBack : GoodIn wsX6_seedEndings (wsV RX6 56 RX6 yX6_walkBack wsX6_walkBack) := goodIn_app (goodIn_of _ (by decide +kernel)) ggX6_seedEndings_X6_walkBack
theorem dX6_seedEndings_0 : decode cX6_seedEndings 0 = .ok (.aload_n 0, 1) := by decide +kernel
theorem dX6_seedEndings_1 : decode cX6_seedEndings 1 = .ok (.getfield 21, 3) := by decide +kernel
theorem dX6_seedEndings_4 : decode cX6_seedEndings 4 = .ok (.iload_n 1, 1) := by decide +kernel
theorem dX6_seedEndings_5 : decode cX6_seedEndings 5 = .ok (.invokestatic 69, 3) := by decide +kernel
theorem dX6_seedEndings_8 : decode cX6_seedEndings 8 = .ok (.aload_n 0, 1) := by decide +kernel
theorem dX6_seedEndings_9 : decode cX6_seedEndings 9 = .ok (.getfield 18, 3) := by decide +kernel
theorem dX6_seedEndings_12 : decode cX6_seedEndings 12 = .ok (.ldc 37, 2) := by decide +kernel
theorem dX6_seedEndings_14 : decode cX6_seedEndings 14 = .ok (.invokestatic 69, 3) := by decide +kernel
theorem dX6_seedEndings_17 : decode cX6_seedEndings 17 = .ok (.iconst 0, 1) := by decide +kernel
theorem dX6_seedEndings_18 : decode cX6_seedEndings 18 = .ok (.istore_n 2, 1) := by decide +kernel
theorem dX6_seedEndings_19 : decode cX6_seedEndings 19 = .ok (.iload_n 2, 1) := by decide +kernel
theorem dX6_seedEndings_20 : decode cX6_seedEndings 20 = .ok (.aload_n 0, 1) := by decide +kernel
theorem dX6_seedEndings_21 : decode cX6_seedEndings 21 = .ok (.getfield 24, 3) := by decide +kernel
theorem dX6_seedEndings_24 : decode cX6_seedEndings 24 = .ok (.getfield 75, 3) := by decide +kernel
theorem dX6_seedEndings_27 : decode cX6_seedEndings 27 = .ok (.if_icmp .ge 137, 3) := by decide +kernel
theorem dX6_seedEndings_30 : decode cX6_seedEndings 30 = .ok (.aload_n 0, 1) := by decide +kernel
theorem dX6_seedEndings_31 : decode cX6_seedEndings 31 = .ok (.iload_n 1, 1) := by decide +kernel
theorem dX6_seedEndings_32 : decode cX6_seedEndings 32 = .ok (.aload_n 0, 1) := by decide +kernel
theorem dX6_seedEndings_33 : decode cX6_seedEndings 33 = .ok (.getfield 24, 3) := by decide +kernel
theorem dX6_seedEndings_36 : decode cX6_seedEndings 36 = .ok (.getfield 49, 3) := by decide +kernel
theorem dX6_seedEndings_39 : decode cX6_seedEndings 39 = .ok (.iload_n 2, 1) := by decide +kernel
theorem dX6_seedEndings_40 : decode cX6_seedEndings 40 = .ok (.iaload, 1) := by decide +kernel
theorem dX6_seedEndings_41 : decode cX6_seedEndings 41 = .ok (.iconst 4, 1) := by decide +kernel
theorem dX6_seedEndings_42 : decode cX6_seedEndings 42 = .ok (.ishl, 1) := by decide +kernel
theorem dX6_seedEndings_43 : decode cX6_seedEndings 43 = .ok (.iload_n 2, 1) := by decide +kernel
theorem dX6_seedEndings_44 : decode cX6_seedEndings 44 = .ok (.iadd, 1) := by decide +kernel
theorem dX6_seedEndings_45 : decode cX6_seedEndings 45 = .ok (.iconst 1, 1) := by decide +kernel
theorem dX6_seedEndings_46 : decode cX6_seedEndings 46 = .ok (.iadd, 1) := by decide +kernel
theorem dX6_seedEndings_47 : decode cX6_seedEndings 47 = .ok (.invokevirtual 45, 3) := by decide +kernel
theorem dX6_seedEndings_50 : decode cX6_seedEndings 50 = .ok (.aload_n 0, 1) := by decide +kernel
theorem dX6_seedEndings_51 : decode cX6_seedEndings 51 = .ok (.aload_n 0, 1) := by decide +kernel
theorem dX6_seedEndings_52 : decode cX6_seedEndings 52 = .ok (.getfield 24, 3) := by decide +kernel
theorem dX6_seedEndings_55 : decode cX6_seedEndings 55 = .ok (.getfield 52, 3) := by decide +kernel
theorem dX6_seedEndings_58 : decode cX6_seedEndings 58 = .ok (.iload_n 2, 1) := by decide +kernel
theorem dX6_seedEndings_59 : decode cX6_seedEndings 59 = .ok (.laload, 1) := by decide +kernel
theorem dX6_seedEndings_60 : decode cX6_seedEndings 60 = .ok (.iconst 3, 1) := by decide +kernel
theorem dX6_seedEndings_61 : decode cX6_seedEndings 61 = .ok (.invokevirtual 56, 3) := by decide +kernel
theorem dX6_seedEndings_64 : decode cX6_seedEndings 64 = .ok (.aload_n 0, 1) := by decide +kernel
theorem dX6_seedEndings_65 : decode cX6_seedEndings 65 = .ok (.getfield 24, 3) := by decide +kernel
theorem dX6_seedEndings_68 : decode cX6_seedEndings 68 = .ok (.getfield 79, 3) := by decide +kernel
theorem dX6_seedEndings_71 : decode cX6_seedEndings 71 = .ok (.iload_n 2, 1) := by decide +kernel
theorem dX6_seedEndings_72 : decode cX6_seedEndings 72 = .ok (.iaload, 1) := by decide +kernel
theorem dX6_seedEndings_73 : decode cX6_seedEndings 73 = .ok (.istore_n 3, 1) := by decide +kernel
theorem dX6_seedEndings_74 : decode cX6_seedEndings 74 = .ok (.aload_n 0, 1) := by decide +kernel
theorem dX6_seedEndings_75 : decode cX6_seedEndings 75 = .ok (.getfield 82, 3) := by decide +kernel
theorem dX6_seedEndings_78 : decode cX6_seedEndings 78 = .ok (.istore 4, 2) := by decide +kernel
theorem dX6_seedEndings_80 : decode cX6_seedEndings 80 = .ok (.iload 4, 2) := by decide +kernel
theorem dX6_seedEndings_82 : decode cX6_seedEndings 82 = .ok (.aload_n 0, 1) := by decide +kernel
theorem dX6_seedEndings_83 : decode cX6_seedEndings 83 = .ok (.getfield 85, 3) := by decide +kernel
theorem dX6_seedEndings_86 : decode cX6_seedEndings 86 = .ok (.if_icmp .gt 42, 3) := by decide +kernel
theorem dX6_seedEndings_89 : decode cX6_seedEndings 89 = .ok (.iload_n 3, 1) := by decide +kernel
theorem dX6_seedEndings_90 : decode cX6_seedEndings 90 = .ok (.bipush 37, 2) := by decide +kernel
theorem dX6_seedEndings_92 : decode cX6_seedEndings 92 = .ok (.imul, 1) := by decide +kernel
theorem dX6_seedEndings_93 : decode cX6_seedEndings 93 = .ok (.iload 4, 2) := by decide +kernel
theorem dX6_seedEndings_95 : decode cX6_seedEndings 95 = .ok (.iadd, 1) := by decide +kernel
theorem dX6_seedEndings_96 : decode cX6_seedEndings 96 = .ok (.istore 5, 2) := by decide +kernel
theorem dX6_seedEndings_98 : decode cX6_seedEndings 98 = .ok (.aload_n 0, 1) := by decide +kernel
theorem dX6_seedEndings_99 : decode cX6_seedEndings 99 = .ok (.getfield 18, 3) := by decide +kernel
theorem dX6_seedEndings_102 : decode cX6_seedEndings 102 = .ok (.iload 5, 2) := by decide +kernel
theorem dX6_seedEndings_104 : decode cX6_seedEndings 104 = .ok (.aload_n 0, 1) := by decide +kernel
theorem dX6_seedEndings_105 : decode cX6_seedEndings 105 = .ok (.getfield 18, 3) := by decide +kernel
theorem dX6_seedEndings_108 : decode cX6_seedEndings 108 = .ok (.iload 5, 2) := by decide +kernel
theorem dX6_seedEndings_110 : decode cX6_seedEndings 110 = .ok (.iaload, 1) := by decide +kernel
theorem dX6_seedEndings_111 : decode cX6_seedEndings 111 = .ok (.aload_n 0, 1) := by decide +kernel
theorem dX6_seedEndings_112 : decode cX6_seedEndings 112 = .ok (.getfield 11, 3) := by decide +kernel
theorem dX6_seedEndings_115 : decode cX6_seedEndings 115 = .ok (.iload 4, 2) := by decide +kernel
theorem dX6_seedEndings_117 : decode cX6_seedEndings 117 = .ok (.iaload, 1) := by decide +kernel
theorem dX6_seedEndings_118 : decode cX6_seedEndings 118 = .ok (.invokestatic 88, 3) := by decide +kernel
theorem dX6_seedEndings_121 : decode cX6_seedEndings 121 = .ok (.iastore, 1) := by decide +kernel
theorem dX6_seedEndings_122 : decode cX6_seedEndings 122 = .ok (.iinc 4 1, 3) := by decide +kernel
theorem dX6_seedEndings_125 : decode cX6_seedEndings 125 = .ok (.goto (-45), 3) := by decide +kernel
theorem dX6_seedEndings_128 : decode cX6_seedEndings 128 = .ok (.aload_n 0, 1) := by decide +kernel
theorem dX6_seedEndings_129 : decode cX6_seedEndings 129 = .ok (.getfield 82, 3) := by decide +kernel
theorem dX6_seedEndings_132 : decode cX6_seedEndings 132 = .ok (.aload_n 0, 1) := by decide +kernel
theorem dX6_seedEndings_133 : decode cX6_seedEndings 133 = .ok (.getfield 85, 3) := by decide +kernel
theorem dX6_seedEndings_136 : decode cX6_seedEndings 136 = .ok (.if_icmp .gt 22, 3) := by decide +kernel
theorem dX6_seedEndings_139 : decode cX6_seedEndings 139 = .ok (.aload_n 0, 1) := by decide +kernel
theorem dX6_seedEndings_140 : decode cX6_seedEndings 140 = .ok (.getfield 21, 3) := by decide +kernel
theorem dX6_seedEndings_143 : decode cX6_seedEndings 143 = .ok (.iload_n 3, 1) := by decide +kernel
theorem dX6_seedEndings_144 : decode cX6_seedEndings 144 = .ok (.aload_n 0, 1) := by decide +kernel
theorem dX6_seedEndings_145 : decode cX6_seedEndings 145 = .ok (.getfield 21, 3) := by decide +kernel
theorem dX6_seedEndings_148 : decode cX6_seedEndings 148 = .ok (.iload_n 3, 1) := by decide +kernel
theorem dX6_seedEndings_149 : decode cX6_seedEndings 149 = .ok (.iaload, 1) := by decide +kernel
theorem dX6_seedEndings_150 : decode cX6_seedEndings 150 = .ok (.aload_n 0, 1) := by decide +kernel
theorem dX6_seedEndings_151 : decode cX6_seedEndings 151 = .ok (.getfield 82, 3) := by decide +kernel
theorem dX6_seedEndings_154 : decode cX6_seedEndings 154 = .ok (.invokestatic 88, 3) := by decide +kernel
theorem dX6_seedEndings_157 : decode cX6_seedEndings 157 = .ok (.iastore, 1) := by decide +kernel
theorem dX6_seedEndings_158 : decode cX6_seedEndings 158 = .ok (.iinc 2 1, 3) := by decide +kernel
theorem dX6_seedEndings_161 : decode cX6_seedEndings 161 = .ok (.goto (-142), 3) := by decide +kernel
theorem dX6_seedEndings_164 : decode cX6_seedEndings 164 = .ok (.return_, 1) := by decide +kernel
set_option maxRecDepth 20000 in
theorem ggX6_walkWord_X6_startAt : GoodIn wsX6_walkWord wsX6_startAt := goodIn_r _ [14, 3, 15, 5, 36, 37, 38, 39, 40, 41, 42, 43] (by decide +kernel) (by decide +kernel)
set_option maxRecDepth 20000 in
theorem gX6_walkWord_X6_startAt : GoodIn wsX6_walkWord (wsV RX6 45 RX6 yX6_startAt wsX6_startAt) := goodIn_app (goodIn_of _ (by decide +kernel)) ggX6_walkWord_X6_startAt
set_option maxRecDepth 20000 in
theorem ggX6_walkWord_X6_walkBack : GoodIn wsX6_walkWord wsX6_walkBack := goodIn_r _ [19, 3, 15, 20, 21, 22, 23, 13, 24, 25, 26, 27, 28, 29, 30, 1, 5, 31, 32, 33, 34, 35, 36, 37, 38, 39, 40, 41, 42, 43, 44, 45, 46, 47, 48, 49, 50, 51, 52, 53, 54, 55, 56, 57, 58, 59, 60, 61, 62, 63, 64, 65, 66] (by decide +kernel) (by decide +kernel)
set_option maxRecDepth 20000 in
theorem gX6_walkWord_X6_walkBack : GoodIn wsX6_walkWord (wsV RX6 56 RX6 yX6_walkBack wsX6_walkBack) := goodIn_app (goodIn_of _ (by decide +kernel)) ggX6_walkWord_X6_walkBack
theorem dX6_walkWord_0 : decode cX6_walkWord 0 = .ok (.aload_n 0, 1) := by decide +kernel
theorem dX6_walkWord_1 : decode cX6_walkWord 1 = .ok (.iload_n 2, 1) := by decide +kernel
theorem dX6_walkWord_2 : decode cX6_walkWord 2 = .ok (.iconst 0, 1) := by decide +kernel
theorem dX6_walkWord_3 : decode cX6_walkWord 3 = .ok (.invokevirtual 45, 3) := by decide +kernel
theorem dX6_walkWord_6 : decode cX6_walkWord 6 = .ok (.aload_n 0, 1) := by decide +kernel
theorem dX6_walkWord_7 : decode cX6_walkWord 7 = .ok (.getfield 24, 3) := by decide +kernel
theorem dX6_walkWord_10 : decode cX6_walkWord 10 = .ok (.getfield 94, 3) := by decide +kernel
theorem dX6_walkWord_13 : decode cX6_walkWord 13 = .ok (.iload_n 1, 1) := by decide +kernel
theorem dX6_walkWord_14 : decode cX6_walkWord 14 = .ok (.iaload, 1) := by decide +kernel
theorem dX6_walkWord_15 : decode cX6_walkWord 15 = .ok (.istore_n 3, 1) := by decide +kernel
theorem dX6_walkWord_16 : decode cX6_walkWord 16 = .ok (.iload_n 3, 1) := by decide +kernel
theorem dX6_walkWord_17 : decode cX6_walkWord 17 = .ok (.iconst (-1), 1) := by decide +kernel
theorem dX6_walkWord_18 : decode cX6_walkWord 18 = .ok (.if_icmp .eq 43, 3) := by decide +kernel
theorem dX6_walkWord_21 : decode cX6_walkWord 21 = .ok (.aload_n 0, 1) := by decide +kernel
theorem dX6_walkWord_22 : decode cX6_walkWord 22 = .ok (.aload_n 0, 1) := by decide +kernel
theorem dX6_walkWord_23 : decode cX6_walkWord 23 = .ok (.getfield 21, 3) := by decide +kernel
theorem dX6_walkWord_26 : decode cX6_walkWord 26 = .ok (.iload_n 3, 1) := by decide +kernel
theorem dX6_walkWord_27 : decode cX6_walkWord 27 = .ok (.iaload, 1) := by decide +kernel
theorem dX6_walkWord_28 : decode cX6_walkWord 28 = .ok (.putfield 82, 3) := by decide +kernel
theorem dX6_walkWord_31 : decode cX6_walkWord 31 = .ok (.aload_n 0, 1) := by decide +kernel
theorem dX6_walkWord_32 : decode cX6_walkWord 32 = .ok (.getfield 18, 3) := by decide +kernel
theorem dX6_walkWord_35 : decode cX6_walkWord 35 = .ok (.iload_n 3, 1) := by decide +kernel
theorem dX6_walkWord_36 : decode cX6_walkWord 36 = .ok (.bipush 37, 2) := by decide +kernel
theorem dX6_walkWord_38 : decode cX6_walkWord 38 = .ok (.imul, 1) := by decide +kernel
theorem dX6_walkWord_39 : decode cX6_walkWord 39 = .ok (.aload_n 0, 1) := by decide +kernel
theorem dX6_walkWord_40 : decode cX6_walkWord 40 = .ok (.getfield 82, 3) := by decide +kernel
theorem dX6_walkWord_43 : decode cX6_walkWord 43 = .ok (.iadd, 1) := by decide +kernel
theorem dX6_walkWord_44 : decode cX6_walkWord 44 = .ok (.aload_n 0, 1) := by decide +kernel
theorem dX6_walkWord_45 : decode cX6_walkWord 45 = .ok (.getfield 11, 3) := by decide +kernel
theorem dX6_walkWord_48 : decode cX6_walkWord 48 = .ok (.aload_n 0, 1) := by decide +kernel
theorem dX6_walkWord_49 : decode cX6_walkWord 49 = .ok (.getfield 82, 3) := by decide +kernel
theorem dX6_walkWord_52 : decode cX6_walkWord 52 = .ok (.iload_n 2, 1) := by decide +kernel
theorem dX6_walkWord_53 : decode cX6_walkWord 53 = .ok (.aload_n 0, 1) := by decide +kernel
theorem dX6_walkWord_54 : decode cX6_walkWord 54 = .ok (.getfield 82, 3) := by decide +kernel
theorem dX6_walkWord_57 : decode cX6_walkWord 57 = .ok (.isub, 1) := by decide +kernel
theorem dX6_walkWord_58 : decode cX6_walkWord 58 = .ok (.invokestatic 97, 3) := by decide +kernel
theorem dX6_walkWord_61 : decode cX6_walkWord 61 = .ok (.aload_n 0, 1) := by decide +kernel
theorem dX6_walkWord_62 : decode cX6_walkWord 62 = .ok (.aload_n 0, 1) := by decide +kernel
theorem dX6_walkWord_63 : decode cX6_walkWord 63 = .ok (.getfield 24, 3) := by decide +kernel
theorem dX6_walkWord_66 : decode cX6_walkWord 66 = .ok (.getfield 60, 3) := by decide +kernel
theorem dX6_walkWord_69 : decode cX6_walkWord 69 = .ok (.iload_n 1, 1) := by decide +kernel
theorem dX6_walkWord_70 : decode cX6_walkWord 70 = .ok (.laload, 1) := by decide +kernel
theorem dX6_walkWord_71 : decode cX6_walkWord 71 = .ok (.bipush 6, 2) := by decide +kernel
theorem dX6_walkWord_73 : decode cX6_walkWord 73 = .ok (.invokevirtual 56, 3) := by decide +kernel
theorem dX6_walkWord_76 : decode cX6_walkWord 76 = .ok (.return_, 1) := by decide +kernel
theorem dX6_foundAt_0 : decode cX6_foundAt 0 = .ok (.iload_n 1, 1) := by decide +kernel
theorem dX6_foundAt_1 : decode cX6_foundAt 1 = .ok (.aload_n 0, 1) := by decide +kernel
theorem dX6_foundAt_2 : decode cX6_foundAt 2 = .ok (.getfield 82, 3) := by decide +kernel
theorem dX6_foundAt_5 : decode cX6_foundAt 5 = .ok (.if_icmp .lt 11, 3) := by decide +kernel
theorem dX6_foundAt_8 : decode cX6_foundAt 8 = .ok (.iload_n 1, 1) := by decide +kernel
theorem dX6_foundAt_9 : decode cX6_foundAt 9 = .ok (.aload_n 0, 1) := by decide +kernel
theorem dX6_foundAt_10 : decode cX6_foundAt 10 = .ok (.getfield 85, 3) := by decide +kernel
theorem dX6_foundAt_13 : decode cX6_foundAt 13 = .ok (.if_icmp .le 8, 3) := by decide +kernel
theorem dX6_foundAt_16 : decode cX6_foundAt 16 = .ok (.ldc 37, 2) := by decide +kernel
theorem dX6_foundAt_18 : decode cX6_foundAt 18 = .ok (.goto 9, 3) := by decide +kernel
theorem dX6_foundAt_21 : decode cX6_foundAt 21 = .ok (.aload_n 0, 1) := by decide +kernel
theorem dX6_foundAt_22 : decode cX6_foundAt 22 = .ok (.getfield 11, 3) := by decide +kernel
theorem dX6_foundAt_25 : decode cX6_foundAt 25 = .ok (.iload_n 1, 1) := by decide +kernel
theorem dX6_foundAt_26 : decode cX6_foundAt 26 = .ok (.iaload, 1) := by decide +kernel
theorem dX6_foundAt_27 : decode cX6_foundAt 27 = .ok (.ireturn, 1) := by decide +kernel
theorem dX6_startAt_0 : decode cX6_startAt 0 = .ok (.aload_n 0, 1) := by decide +kernel
theorem dX6_startAt_1 : decode cX6_startAt 1 = .ok (.iload_n 1, 1) := by decide +kernel
theorem dX6_startAt_2 : decode cX6_startAt 2 = .ok (.putfield 82, 3) := by decide +kernel
theorem dX6_startAt_5 : decode cX6_startAt 5 = .ok (.aload_n 0, 1) := by decide +kernel
theorem dX6_startAt_6 : decode cX6_startAt 6 = .ok (.iload_n 1, 1) := by decide +kernel
theorem dX6_startAt_7 : decode cX6_startAt 7 = .ok (.putfield 85, 3) := by decide +kernel
theorem dX6_startAt_10 : decode cX6_startAt 10 = .ok (.aload_n 0, 1) := by decide +kernel
theorem dX6_startAt_11 : decode cX6_startAt 11 = .ok (.getfield 11, 3) := by decide +kernel
theorem dX6_startAt_14 : decode cX6_startAt 14 = .ok (.iload_n 1, 1) := by decide +kernel
theorem dX6_startAt_15 : decode cX6_startAt 15 = .ok (.iload_n 2, 1) := by decide +kernel
theorem dX6_startAt_16 : decode cX6_startAt 16 = .ok (.iastore, 1) := by decide +kernel
theorem dX6_startAt_17 : decode cX6_startAt 17 = .ok (.return_, 1) := by decide +kernel
set_option maxRecDepth 20000 in
theorem ggX6_walkBack_X6_stepBack : GoodIn wsX6_walkBack wsX6_stepBack := goodIn_r _ [8, 1, 9, 10, 11, 12, 2, 13, 14, 15, 16, 17, 18, 19, 7, 20, 21, 22, 23, 24, 25, 26, 27, 28, 29, 30, 31, 32, 33, 34, 35, 36, 37, 38, 39, 40, 41, 42, 43, 44, 45, 46, 47, 48, 49, 50, 51, 52] (by decide +kernel) (by decide +kernel)
set_option maxRecDepth 20000 in
theorem gX6_walkBack_X6_stepBack : GoodIn wsX6_walkBack (wsV RX6 105 RX6 yX6_stepBack wsX6_stepBack) := goodIn_app (goodIn_of _ (by decide +kernel)) ggX6_walkBack_X6_stepBack
theorem dX6_walkBack_0 : decode cX6_walkBack 0 = .ok (.iload_n 3, 1) := by decide +kernel
theorem dX6_walkBack_1 : decode cX6_walkBack 1 = .ok (.iconst 1, 1) := by decide +kernel
theorem dX6_walkBack_2 : decode cX6_walkBack 2 = .ok (.isub, 1) := by decide +kernel
theorem dX6_walkBack_3 : decode cX6_walkBack 3 = .ok (.istore 4, 2) := by decide +kernel
theorem dX6_walkBack_5 : decode cX6_walkBack 5 = .ok (.iload 4, 2) := by decide +kernel
theorem dX6_walkBack_7 : decode cX6_walkBack 7 = .ok (.ifCond .lt 47, 3) := by decide +kernel
theorem dX6_walkBack_10 : decode cX6_walkBack 10 = .ok (.aload_n 0, 1) := by decide +kernel
theorem dX6_walkBack_11 : decode cX6_walkBack 11 = .ok (.getfield 82, 3) := by decide +kernel
theorem dX6_walkBack_14 : decode cX6_walkBack 14 = .ok (.aload_n 0, 1) := by decide +kernel
theorem dX6_walkBack_15 : decode cX6_walkBack 15 = .ok (.getfield 85, 3) := by decide +kernel
theorem dX6_walkBack_18 : decode cX6_walkBack 18 = .ok (.if_icmp .gt 36, 3) := by decide +kernel
theorem dX6_walkBack_21 : decode cX6_walkBack 21 = .ok (.lload_n 1, 1) := by decide +kernel
theorem dX6_walkBack_22 : decode cX6_walkBack 22 = .ok (.iload 4, 2) := by decide +kernel
theorem dX6_walkBack_24 : decode cX6_walkBack 24 = .ok (.bipush 6, 2) := by decide +kernel
theorem dX6_walkBack_26 : decode cX6_walkBack 26 = .ok (.imul, 1) := by decide +kernel
theorem dX6_walkBack_27 : decode cX6_walkBack 27 = .ok (.lshr, 1) := by decide +kernel
theorem dX6_walkBack_28 : decode cX6_walkBack 28 = .ok (.ldc2_w 103, 3) := by decide +kernel
theorem dX6_walkBack_31 : decode cX6_walkBack 31 = .ok (.land, 1) := by decide +kernel
theorem dX6_walkBack_32 : decode cX6_walkBack 32 = .ok (.l2i, 1) := by decide +kernel
theorem dX6_walkBack_33 : decode cX6_walkBack 33 = .ok (.iconst 1, 1) := by decide +kernel
theorem dX6_walkBack_34 : decode cX6_walkBack 34 = .ok (.isub, 1) := by decide +kernel
theorem dX6_walkBack_35 : decode cX6_walkBack 35 = .ok (.istore 5, 2) := by decide +kernel
theorem dX6_walkBack_37 : decode cX6_walkBack 37 = .ok (.iload 5, 2) := by decide +kernel
theorem dX6_walkBack_39 : decode cX6_walkBack 39 = .ok (.ifCond .lt 9, 3) := by decide +kernel
theorem dX6_walkBack_42 : decode cX6_walkBack 42 = .ok (.aload_n 0, 1) := by decide +kernel
theorem dX6_walkBack_43 : decode cX6_walkBack 43 = .ok (.iload 5, 2) := by decide +kernel
theorem dX6_walkBack_45 : decode cX6_walkBack 45 = .ok (.invokevirtual 105, 3) := by decide +kernel
theorem dX6_walkBack_48 : decode cX6_walkBack 48 = .ok (.iinc 4 (-1), 3) := by decide +kernel
theorem dX6_walkBack_51 : decode cX6_walkBack 51 = .ok (.goto (-46), 3) := by decide +kernel
theorem dX6_walkBack_54 : decode cX6_walkBack 54 = .ok (.return_, 1) := by decide +kernel
set_option maxRecDepth 20000 in
theorem ggX6_stepBack_X6_priceAt : GoodIn wsX6_stepBack wsX6_priceAt := goodIn_r _ [15, 9, 16, 8, 17, 18, 19, 20, 21, 22, 23, 24, 25, 26, 27, 28, 29, 30, 31, 32, 33, 34, 35, 36, 37, 38, 39, 40, 41, 42, 43, 44, 45, 46, 47] (by decide +kernel) (by decide +kernel)
set_option maxRecDepth 20000 in
theorem gX6_stepBack_X6_priceAt : GoodIn wsX6_stepBack (wsV RX6 118 RX6 yX6_priceAt wsX6_priceAt) := goodIn_app (goodIn_of _ (by decide +kernel)) ggX6_stepBack_X6_priceAt
theorem dX6_stepBack_0 : decode cX6_stepBack 0 = .ok (.iconst 0, 1) := by decide +kernel
theorem dX6_stepBack_1 : decode cX6_stepBack 1 = .ok (.aload_n 0, 1) := by decide +kernel
theorem dX6_stepBack_2 : decode cX6_stepBack 2 = .ok (.getfield 82, 3) := by decide +kernel
theorem dX6_stepBack_5 : decode cX6_stepBack 5 = .ok (.iconst 4, 1) := by decide +kernel
theorem dX6_stepBack_6 : decode cX6_stepBack 6 = .ok (.isub, 1) := by decide +kernel
theorem dX6_stepBack_7 : decode cX6_stepBack 7 = .ok (.invokestatic 109, 3) := by decide +kernel
theorem dX6_stepBack_10 : decode cX6_stepBack 10 = .ok (.istore_n 2, 1) := by decide +kernel
theorem dX6_stepBack_11 : decode cX6_stepBack 11 = .ok (.iload_n 2, 1) := by decide +kernel
theorem dX6_stepBack_12 : decode cX6_stepBack 12 = .ok (.aload_n 0, 1) := by decide +kernel
theorem dX6_stepBack_13 : decode cX6_stepBack 13 = .ok (.getfield 85, 3) := by decide +kernel
theorem dX6_stepBack_16 : decode cX6_stepBack 16 = .ok (.if_icmp .ge 17, 3) := by decide +kernel
theorem dX6_stepBack_19 : decode cX6_stepBack 19 = .ok (.aload_n 0, 1) := by decide +kernel
theorem dX6_stepBack_20 : decode cX6_stepBack 20 = .ok (.getfield 15, 3) := by decide +kernel
theorem dX6_stepBack_23 : decode cX6_stepBack 23 = .ok (.iload_n 2, 1) := by decide +kernel
theorem dX6_stepBack_24 : decode cX6_stepBack 24 = .ok (.ldc 37, 2) := by decide +kernel
theorem dX6_stepBack_26 : decode cX6_stepBack 26 = .ok (.iastore, 1) := by decide +kernel
theorem dX6_stepBack_27 : decode cX6_stepBack 27 = .ok (.iinc 2 1, 3) := by decide +kernel
theorem dX6_stepBack_30 : decode cX6_stepBack 30 = .ok (.goto (-19), 3) := by decide +kernel
theorem dX6_stepBack_33 : decode cX6_stepBack 33 = .ok (.aload_n 0, 1) := by decide +kernel
theorem dX6_stepBack_34 : decode cX6_stepBack 34 = .ok (.getfield 85, 3) := by decide +kernel
theorem dX6_stepBack_37 : decode cX6_stepBack 37 = .ok (.istore_n 2, 1) := by decide +kernel
theorem dX6_stepBack_38 : decode cX6_stepBack 38 = .ok (.iconst (-1), 1) := by decide +kernel
theorem dX6_stepBack_39 : decode cX6_stepBack 39 = .ok (.istore_n 3, 1) := by decide +kernel
theorem dX6_stepBack_40 : decode cX6_stepBack 40 = .ok (.iload_n 1, 1) := by decide +kernel
theorem dX6_stepBack_41 : decode cX6_stepBack 41 = .ok (.iconst 3, 1) := by decide +kernel
theorem dX6_stepBack_42 : decode cX6_stepBack 42 = .ok (.imul, 1) := by decide +kernel
theorem dX6_stepBack_43 : decode cX6_stepBack 43 = .ok (.istore 4, 2) := by decide +kernel
theorem dX6_stepBack_45 : decode cX6_stepBack 45 = .ok (.iload 4, 2) := by decide +kernel
theorem dX6_stepBack_47 : decode cX6_stepBack 47 = .ok (.aload_n 0, 1) := by decide +kernel
theorem dX6_stepBack_48 : decode cX6_stepBack 48 = .ok (.getfield 24, 3) := by decide +kernel
theorem dX6_stepBack_51 : decode cX6_stepBack 51 = .ok (.getfield 112, 3) := by decide +kernel
theorem dX6_stepBack_54 : decode cX6_stepBack 54 = .ok (.iload_n 1, 1) := by decide +kernel
theorem dX6_stepBack_55 : decode cX6_stepBack 55 = .ok (.iaload, 1) := by decide +kernel
theorem dX6_stepBack_56 : decode cX6_stepBack 56 = .ok (.iadd, 1) := by decide +kernel
theorem dX6_stepBack_57 : decode cX6_stepBack 57 = .ok (.istore 5, 2) := by decide +kernel
theorem dX6_stepBack_59 : decode cX6_stepBack 59 = .ok (.aload_n 0, 1) := by decide +kernel
theorem dX6_stepBack_60 : decode cX6_stepBack 60 = .ok (.getfield 82, 3) := by decide +kernel
theorem dX6_stepBack_63 : decode cX6_stepBack 63 = .ok (.istore 6, 2) := by decide +kernel
theorem dX6_stepBack_65 : decode cX6_stepBack 65 = .ok (.iload 6, 2) := by decide +kernel
theorem dX6_stepBack_67 : decode cX6_stepBack 67 = .ok (.aload_n 0, 1) := by decide +kernel
theorem dX6_stepBack_68 : decode cX6_stepBack 68 = .ok (.getfield 85, 3) := by decide +kernel
theorem dX6_stepBack_71 : decode cX6_stepBack 71 = .ok (.if_icmp .gt 147, 3) := by decide +kernel
theorem dX6_stepBack_74 : decode cX6_stepBack 74 = .ok (.iload 4, 2) := by decide +kernel
theorem dX6_stepBack_76 : decode cX6_stepBack 76 = .ok (.istore 7, 2) := by decide +kernel
theorem dX6_stepBack_78 : decode cX6_stepBack 78 = .ok (.iload 7, 2) := by decide +kernel
theorem dX6_stepBack_80 : decode cX6_stepBack 80 = .ok (.iload 5, 2) := by decide +kernel
theorem dX6_stepBack_82 : decode cX6_stepBack 82 = .ok (.if_icmp .ge 130, 3) := by decide +kernel
theorem dX6_stepBack_85 : decode cX6_stepBack 85 = .ok (.aload_n 0, 1) := by decide +kernel
theorem dX6_stepBack_86 : decode cX6_stepBack 86 = .ok (.getfield 11, 3) := by decide +kernel
theorem dX6_stepBack_89 : decode cX6_stepBack 89 = .ok (.iload 6, 2) := by decide +kernel
theorem dX6_stepBack_91 : decode cX6_stepBack 91 = .ok (.iaload, 1) := by decide +kernel
theorem dX6_stepBack_92 : decode cX6_stepBack 92 = .ok (.ldc 37, 2) := by decide +kernel
theorem dX6_stepBack_94 : decode cX6_stepBack 94 = .ok (.if_icmp .eq 118, 3) := by decide +kernel
theorem dX6_stepBack_97 : decode cX6_stepBack 97 = .ok (.iload 6, 2) := by decide +kernel
theorem dX6_stepBack_99 : decode cX6_stepBack 99 = .ok (.aload_n 0, 1) := by decide +kernel
theorem dX6_stepBack_100 : decode cX6_stepBack 100 = .ok (.getfield 24, 3) := by decide +kernel
theorem dX6_stepBack_103 : decode cX6_stepBack 103 = .ok (.getfield 115, 3) := by decide +kernel
theorem dX6_stepBack_106 : decode cX6_stepBack 106 = .ok (.iload 7, 2) := by decide +kernel
theorem dX6_stepBack_108 : decode cX6_stepBack 108 = .ok (.iaload, 1) := by decide +kernel
theorem dX6_stepBack_109 : decode cX6_stepBack 109 = .ok (.isub, 1) := by decide +kernel
theorem dX6_stepBack_110 : decode cX6_stepBack 110 = .ok (.istore 8, 2) := by decide +kernel
theorem dX6_stepBack_112 : decode cX6_stepBack 112 = .ok (.iload 8, 2) := by decide +kernel
theorem dX6_stepBack_114 : decode cX6_stepBack 114 = .ok (.ifCond .ge 8, 3) := by decide +kernel
theorem dX6_stepBack_117 : decode cX6_stepBack 117 = .ok (.ldc 37, 2) := by decide +kernel
theorem dX6_stepBack_119 : decode cX6_stepBack 119 = .ok (.goto 11, 3) := by decide +kernel
theorem dX6_stepBack_122 : decode cX6_stepBack 122 = .ok (.aload_n 0, 1) := by decide +kernel
theorem dX6_stepBack_123 : decode cX6_stepBack 123 = .ok (.iload 7, 2) := by decide +kernel
theorem dX6_stepBack_125 : decode cX6_stepBack 125 = .ok (.iload 8, 2) := by decide +kernel
theorem dX6_stepBack_127 : decode cX6_stepBack 127 = .ok (.invokevirtual 118, 3) := by decide +kernel
theorem dX6_stepBack_130 : decode cX6_stepBack 130 = .ok (.istore 9, 2) := by decide +kernel
theorem dX6_stepBack_132 : decode cX6_stepBack 132 = .ok (.iload 9, 2) := by decide +kernel
theorem dX6_stepBack_134 : decode cX6_stepBack 134 = .ok (.ldc 37, 2) := by decide +kernel
theorem dX6_stepBack_136 : decode cX6_stepBack 136 = .ok (.if_icmp .eq 70, 3) := by decide +kernel
theorem dX6_stepBack_139 : decode cX6_stepBack 139 = .ok (.aload_n 0, 1) := by decide +kernel
theorem dX6_stepBack_140 : decode cX6_stepBack 140 = .ok (.getfield 11, 3) := by decide +kernel
theorem dX6_stepBack_143 : decode cX6_stepBack 143 = .ok (.iload 6, 2) := by decide +kernel
theorem dX6_stepBack_145 : decode cX6_stepBack 145 = .ok (.iaload, 1) := by decide +kernel
theorem dX6_stepBack_146 : decode cX6_stepBack 146 = .ok (.iload 9, 2) := by decide +kernel
theorem dX6_stepBack_148 : decode cX6_stepBack 148 = .ok (.iconst 4, 1) := by decide +kernel
theorem dX6_stepBack_149 : decode cX6_stepBack 149 = .ok (.ishl, 1) := by decide +kernel
theorem dX6_stepBack_150 : decode cX6_stepBack 150 = .ok (.iadd, 1) := by decide +kernel
theorem dX6_stepBack_151 : decode cX6_stepBack 151 = .ok (.aload_n 0, 1) := by decide +kernel
theorem dX6_stepBack_152 : decode cX6_stepBack 152 = .ok (.getfield 15, 3) := by decide +kernel
theorem dX6_stepBack_155 : decode cX6_stepBack 155 = .ok (.iload 8, 2) := by decide +kernel
theorem dX6_stepBack_157 : decode cX6_stepBack 157 = .ok (.iaload, 1) := by decide +kernel
theorem dX6_stepBack_158 : decode cX6_stepBack 158 = .ok (.if_icmp .ge 48, 3) := by decide +kernel
theorem dX6_stepBack_161 : decode cX6_stepBack 161 = .ok (.aload_n 0, 1) := by decide +kernel
theorem dX6_stepBack_162 : decode cX6_stepBack 162 = .ok (.getfield 15, 3) := by decide +kernel
theorem dX6_stepBack_165 : decode cX6_stepBack 165 = .ok (.iload 8, 2) := by decide +kernel
theorem dX6_stepBack_167 : decode cX6_stepBack 167 = .ok (.aload_n 0, 1) := by decide +kernel
theorem dX6_stepBack_168 : decode cX6_stepBack 168 = .ok (.getfield 11, 3) := by decide +kernel
theorem dX6_stepBack_171 : decode cX6_stepBack 171 = .ok (.iload 6, 2) := by decide +kernel
theorem dX6_stepBack_173 : decode cX6_stepBack 173 = .ok (.iaload, 1) := by decide +kernel
theorem dX6_stepBack_174 : decode cX6_stepBack 174 = .ok (.iload 9, 2) := by decide +kernel
theorem dX6_stepBack_176 : decode cX6_stepBack 176 = .ok (.iconst 4, 1) := by decide +kernel
theorem dX6_stepBack_177 : decode cX6_stepBack 177 = .ok (.ishl, 1) := by decide +kernel
theorem dX6_stepBack_178 : decode cX6_stepBack 178 = .ok (.iadd, 1) := by decide +kernel
theorem dX6_stepBack_179 : decode cX6_stepBack 179 = .ok (.iastore, 1) := by decide +kernel
theorem dX6_stepBack_180 : decode cX6_stepBack 180 = .ok (.iload 8, 2) := by decide +kernel
theorem dX6_stepBack_182 : decode cX6_stepBack 182 = .ok (.iload_n 2, 1) := by decide +kernel
theorem dX6_stepBack_183 : decode cX6_stepBack 183 = .ok (.if_icmp .ge 8, 3) := by decide +kernel
theorem dX6_stepBack_186 : decode cX6_stepBack 186 = .ok (.iload 8, 2) := by decide +kernel
theorem dX6_stepBack_188 : decode cX6_stepBack 188 = .ok (.goto 4, 3) := by decide +kernel
theorem dX6_stepBack_191 : decode cX6_stepBack 191 = .ok (.iload_n 2, 1) := by decide +kernel
theorem dX6_stepBack_192 : decode cX6_stepBack 192 = .ok (.istore_n 2, 1) := by decide +kernel
theorem dX6_stepBack_193 : decode cX6_stepBack 193 = .ok (.iload 8, 2) := by decide +kernel
theorem dX6_stepBack_195 : decode cX6_stepBack 195 = .ok (.iload_n 3, 1) := by decide +kernel
theorem dX6_stepBack_196 : decode cX6_stepBack 196 = .ok (.if_icmp .le 8, 3) := by decide +kernel
theorem dX6_stepBack_199 : decode cX6_stepBack 199 = .ok (.iload 8, 2) := by decide +kernel
theorem dX6_stepBack_201 : decode cX6_stepBack 201 = .ok (.goto 4, 3) := by decide +kernel
theorem dX6_stepBack_204 : decode cX6_stepBack 204 = .ok (.iload_n 3, 1) := by decide +kernel
theorem dX6_stepBack_205 : decode cX6_stepBack 205 = .ok (.istore_n 3, 1) := by decide +kernel
theorem dX6_stepBack_206 : decode cX6_stepBack 206 = .ok (.iinc 7 1, 3) := by decide +kernel
theorem dX6_stepBack_209 : decode cX6_stepBack 209 = .ok (.goto (-131), 3) := by decide +kernel
theorem dX6_stepBack_212 : decode cX6_stepBack 212 = .ok (.iinc 6 1, 3) := by decide +kernel
theorem dX6_stepBack_215 : decode cX6_stepBack 215 = .ok (.goto (-150), 3) := by decide +kernel
theorem dX6_stepBack_218 : decode cX6_stepBack 218 = .ok (.aload_n 0, 1) := by decide +kernel
theorem dX6_stepBack_219 : decode cX6_stepBack 219 = .ok (.getfield 11, 3) := by decide +kernel
theorem dX6_stepBack_222 : decode cX6_stepBack 222 = .ok (.astore 6, 2) := by decide +kernel
theorem dX6_stepBack_224 : decode cX6_stepBack 224 = .ok (.aload_n 0, 1) := by decide +kernel
theorem dX6_stepBack_225 : decode cX6_stepBack 225 = .ok (.aload_n 0, 1) := by decide +kernel
theorem dX6_stepBack_226 : decode cX6_stepBack 226 = .ok (.getfield 15, 3) := by decide +kernel
theorem dX6_stepBack_229 : decode cX6_stepBack 229 = .ok (.putfield 11, 3) := by decide +kernel
theorem dX6_stepBack_232 : decode cX6_stepBack 232 = .ok (.aload_n 0, 1) := by decide +kernel
theorem dX6_stepBack_233 : decode cX6_stepBack 233 = .ok (.aload 6, 2) := by decide +kernel
theorem dX6_stepBack_235 : decode cX6_stepBack 235 = .ok (.putfield 15, 3) := by decide +kernel
theorem dX6_stepBack_238 : decode cX6_stepBack 238 = .ok (.aload_n 0, 1) := by decide +kernel
theorem dX6_stepBack_239 : decode cX6_stepBack 239 = .ok (.iload_n 2, 1) := by decide +kernel
theorem dX6_stepBack_240 : decode cX6_stepBack 240 = .ok (.putfield 82, 3) := by decide +kernel
theorem dX6_stepBack_243 : decode cX6_stepBack 243 = .ok (.aload_n 0, 1) := by decide +kernel
theorem dX6_stepBack_244 : decode cX6_stepBack 244 = .ok (.iload_n 3, 1) := by decide +kernel
theorem dX6_stepBack_245 : decode cX6_stepBack 245 = .ok (.putfield 85, 3) := by decide +kernel
theorem dX6_stepBack_248 : decode cX6_stepBack 248 = .ok (.return_, 1) := by decide +kernel
theorem dX6_priceAt_0 : decode cX6_priceAt 0 = .ok (.aload_n 0, 1) := by decide +kernel
theorem dX6_priceAt_1 : decode cX6_priceAt 1 = .ok (.getfield 24, 3) := by decide +kernel
theorem dX6_priceAt_4 : decode cX6_priceAt 4 = .ok (.getfield 121, 3) := by decide +kernel
theorem dX6_priceAt_7 : decode cX6_priceAt 7 = .ok (.iload_n 1, 1) := by decide +kernel
theorem dX6_priceAt_8 : decode cX6_priceAt 8 = .ok (.iaload, 1) := by decide +kernel
theorem dX6_priceAt_9 : decode cX6_priceAt 9 = .ok (.istore_n 3, 1) := by decide +kernel
theorem dX6_priceAt_10 : decode cX6_priceAt 10 = .ok (.aload_n 0, 1) := by decide +kernel
theorem dX6_priceAt_11 : decode cX6_priceAt 11 = .ok (.getfield 24, 3) := by decide +kernel
theorem dX6_priceAt_14 : decode cX6_priceAt 14 = .ok (.getfield 115, 3) := by decide +kernel
theorem dX6_priceAt_17 : decode cX6_priceAt 17 = .ok (.iload_n 1, 1) := by decide +kernel
theorem dX6_priceAt_18 : decode cX6_priceAt 18 = .ok (.iaload, 1) := by decide +kernel
theorem dX6_priceAt_19 : decode cX6_priceAt 19 = .ok (.istore 4, 2) := by decide +kernel
theorem dX6_priceAt_21 : decode cX6_priceAt 21 = .ok (.iconst 0, 1) := by decide +kernel
theorem dX6_priceAt_22 : decode cX6_priceAt 22 = .ok (.istore 5, 2) := by decide +kernel
theorem dX6_priceAt_24 : decode cX6_priceAt 24 = .ok (.iconst 0, 1) := by decide +kernel
theorem dX6_priceAt_25 : decode cX6_priceAt 25 = .ok (.istore 6, 2) := by decide +kernel
theorem dX6_priceAt_27 : decode cX6_priceAt 27 = .ok (.iload 6, 2) := by decide +kernel
theorem dX6_priceAt_29 : decode cX6_priceAt 29 = .ok (.iload 4, 2) := by decide +kernel
theorem dX6_priceAt_31 : decode cX6_priceAt 31 = .ok (.if_icmp .ge 42, 3) := by decide +kernel
theorem dX6_priceAt_34 : decode cX6_priceAt 34 = .ok (.iload 5, 2) := by decide +kernel
theorem dX6_priceAt_36 : decode cX6_priceAt 36 = .ok (.iconst 1, 1) := by decide +kernel
theorem dX6_priceAt_37 : decode cX6_priceAt 37 = .ok (.if_icmp .gt 36, 3) := by decide +kernel
theorem dX6_priceAt_40 : decode cX6_priceAt 40 = .ok (.iload_n 3, 1) := by decide +kernel
theorem dX6_priceAt_41 : decode cX6_priceAt 41 = .ok (.iload 6, 2) := by decide +kernel
theorem dX6_priceAt_43 : decode cX6_priceAt 43 = .ok (.iconst 5, 1) := by decide +kernel
theorem dX6_priceAt_44 : decode cX6_priceAt 44 = .ok (.imul, 1) := by decide +kernel
theorem dX6_priceAt_45 : decode cX6_priceAt 45 = .ok (.ishr, 1) := by decide +kernel
theorem dX6_priceAt_46 : decode cX6_priceAt 46 = .ok (.bipush 31, 2) := by decide +kernel
theorem dX6_priceAt_48 : decode cX6_priceAt 48 = .ok (.iand, 1) := by decide +kernel
theorem dX6_priceAt_49 : decode cX6_priceAt 49 = .ok (.aload_n 0, 1) := by decide +kernel
theorem dX6_priceAt_50 : decode cX6_priceAt 50 = .ok (.getfield 28, 3) := by decide +kernel
theorem dX6_priceAt_53 : decode cX6_priceAt 53 = .ok (.getfield 124, 3) := by decide +kernel
theorem dX6_priceAt_56 : decode cX6_priceAt 56 = .ok (.iload_n 2, 1) := by decide +kernel
theorem dX6_priceAt_57 : decode cX6_priceAt 57 = .ok (.iload 6, 2) := by decide +kernel
theorem dX6_priceAt_59 : decode cX6_priceAt 59 = .ok (.iadd, 1) := by decide +kernel
theorem dX6_priceAt_60 : decode cX6_priceAt 60 = .ok (.iaload, 1) := by decide +kernel
theorem dX6_priceAt_61 : decode cX6_priceAt 61 = .ok (.if_icmp .eq 6, 3) := by decide +kernel
theorem dX6_priceAt_64 : decode cX6_priceAt 64 = .ok (.iinc 5 1, 3) := by decide +kernel
theorem dX6_priceAt_67 : decode cX6_priceAt 67 = .ok (.iinc 6 1, 3) := by decide +kernel
theorem dX6_priceAt_70 : decode cX6_priceAt 70 = .ok (.goto (-43), 3) := by decide +kernel
theorem dX6_priceAt_73 : decode cX6_priceAt 73 = .ok (.iload 5, 2) := by decide +kernel
theorem dX6_priceAt_75 : decode cX6_priceAt 75 = .ok (.iconst 1, 1) := by decide +kernel
theorem dX6_priceAt_76 : decode cX6_priceAt 76 = .ok (.if_icmp .le 8, 3) := by decide +kernel
theorem dX6_priceAt_79 : decode cX6_priceAt 79 = .ok (.ldc 37, 2) := by decide +kernel
theorem dX6_priceAt_81 : decode cX6_priceAt 81 = .ok (.goto 25, 3) := by decide +kernel
theorem dX6_priceAt_84 : decode cX6_priceAt 84 = .ok (.aload_n 0, 1) := by decide +kernel
theorem dX6_priceAt_85 : decode cX6_priceAt 85 = .ok (.getfield 24, 3) := by decide +kernel
theorem dX6_priceAt_88 : decode cX6_priceAt 88 = .ok (.getfield 129, 3) := by decide +kernel
theorem dX6_priceAt_91 : decode cX6_priceAt 91 = .ok (.iload_n 1, 1) := by decide +kernel
theorem dX6_priceAt_92 : decode cX6_priceAt 92 = .ok (.iaload, 1) := by decide +kernel
theorem dX6_priceAt_93 : decode cX6_priceAt 93 = .ok (.iload 5, 2) := by decide +kernel
theorem dX6_priceAt_95 : decode cX6_priceAt 95 = .ok (.aload_n 0, 1) := by decide +kernel
theorem dX6_priceAt_96 : decode cX6_priceAt 96 = .ok (.getfield 24, 3) := by decide +kernel
theorem dX6_priceAt_99 : decode cX6_priceAt 99 = .ok (.getfield 32, 3) := by decide +kernel
theorem dX6_priceAt_102 : decode cX6_priceAt 102 = .ok (.iconst 0, 1) := by decide +kernel
theorem dX6_priceAt_103 : decode cX6_priceAt 103 = .ok (.iaload, 1) := by decide +kernel
theorem dX6_priceAt_104 : decode cX6_priceAt 104 = .ok (.imul, 1) := by decide +kernel
theorem dX6_priceAt_105 : decode cX6_priceAt 105 = .ok (.iadd, 1) := by decide +kernel
theorem dX6_priceAt_106 : decode cX6_priceAt 106 = .ok (.ireturn, 1) := by decide +kernel
theorem dX7_init_0 : decode cX7_init 0 = .ok (.aload_n 0, 1) := by decide +kernel
theorem dX7_init_1 : decode cX7_init 1 = .ok (.invokespecial 3, 3) := by decide +kernel
theorem dX7_init_4 : decode cX7_init 4 = .ok (.aload_n 0, 1) := by decide +kernel
theorem dX7_init_5 : decode cX7_init 5 = .ok (.sipush 1440, 3) := by decide +kernel
theorem dX7_init_8 : decode cX7_init 8 = .ok (.newarray .int, 2) := by decide +kernel
theorem dX7_init_10 : decode cX7_init 10 = .ok (.putfield 9, 3) := by decide +kernel
theorem dX7_init_13 : decode cX7_init 13 = .ok (.aload_n 0, 1) := by decide +kernel
theorem dX7_init_14 : decode cX7_init 14 = .ok (.bipush 40, 2) := by decide +kernel
theorem dX7_init_16 : decode cX7_init 16 = .ok (.newarray .int, 2) := by decide +kernel
theorem dX7_init_18 : decode cX7_init 18 = .ok (.putfield 15, 3) := by decide +kernel
theorem dX7_init_21 : decode cX7_init 21 = .ok (.return_, 1) := by decide +kernel
theorem dX7_keep_0 : decode cX7_keep 0 = .ok (.aload_n 1, 1) := by decide +kernel
theorem dX7_keep_1 : decode cX7_keep 1 = .ok (.iconst 0, 1) := by decide +kernel
theorem dX7_keep_2 : decode cX7_keep 2 = .ok (.aload_n 0, 1) := by decide +kernel
theorem dX7_keep_3 : decode cX7_keep 3 = .ok (.getfield 9, 3) := by decide +kernel
theorem dX7_keep_6 : decode cX7_keep 6 = .ok (.aload_n 0, 1) := by decide +kernel
theorem dX7_keep_7 : decode cX7_keep 7 = .ok (.getfield 18, 3) := by decide +kernel
theorem dX7_keep_10 : decode cX7_keep 10 = .ok (.bipush 36, 2) := by decide +kernel
theorem dX7_keep_12 : decode cX7_keep 12 = .ok (.imul, 1) := by decide +kernel
theorem dX7_keep_13 : decode cX7_keep 13 = .ok (.iload_n 2, 1) := by decide +kernel
theorem dX7_keep_14 : decode cX7_keep 14 = .ok (.invokestatic 22, 3) := by decide +kernel
theorem dX7_keep_17 : decode cX7_keep 17 = .ok (.aload_n 0, 1) := by decide +kernel
theorem dX7_keep_18 : decode cX7_keep 18 = .ok (.getfield 15, 3) := by decide +kernel
theorem dX7_keep_21 : decode cX7_keep 21 = .ok (.aload_n 0, 1) := by decide +kernel
theorem dX7_keep_22 : decode cX7_keep 22 = .ok (.getfield 18, 3) := by decide +kernel
theorem dX7_keep_25 : decode cX7_keep 25 = .ok (.iload_n 2, 1) := by decide +kernel
theorem dX7_keep_26 : decode cX7_keep 26 = .ok (.iastore, 1) := by decide +kernel
theorem dX7_keep_27 : decode cX7_keep 27 = .ok (.aload_n 0, 1) := by decide +kernel
theorem dX7_keep_28 : decode cX7_keep 28 = .ok (.dup, 1) := by decide +kernel
theorem dX7_keep_29 : decode cX7_keep 29 = .ok (.getfield 18, 3) := by decide +kernel
theorem dX7_keep_32 : decode cX7_keep 32 = .ok (.iconst 1, 1) := by decide +kernel
theorem dX7_keep_33 : decode cX7_keep 33 = .ok (.iadd, 1) := by decide +kernel
theorem dX7_keep_34 : decode cX7_keep 34 = .ok (.putfield 18, 3) := by decide +kernel
theorem dX7_keep_37 : decode cX7_keep 37 = .ok (.return_, 1) := by decide +kernel
set_option maxRecDepth 20000 in
theorem ggX8_init_X1_init : GoodIn wsX8_init wsX1_init := goodIn_r _ [37, 38, 2, 3, 39, 40, 41, 42, 43, 44, 45, 46, 47, 48, 49, 50, 51, 52, 53, 54, 55, 56, 57, 117, 118, 119, 120, 121, 122, 123, 124, 125, 126, 127, 128, 129, 130, 131, 132, 133, 134, 135] (by decide +kernel) (by decide +kernel)
set_option maxRecDepth 20000 in
theorem gX8_init_X1_init_n11 : GoodIn wsX8_init (wsX1_init) := ggX8_init_X1_init
set_option maxRecDepth 20000 in
theorem ggX8_init_X4_init : GoodIn wsX8_init wsX4_init := goodIn_r _ [59, 60, 2, 3, 39, 61, 62, 63, 144, 145, 146, 147] (by decide +kernel) (by decide +kernel)
set_option maxRecDepth 20000 in
theorem gX8_init_X4_init_n18 : GoodIn wsX8_init (wsX4_init) := ggX8_init_X4_init
set_option maxRecDepth 20000 in
theorem ggX8_init_X0_init : GoodIn wsX8_init wsX0_init := goodIn_r _ [65, 66, 2, 3, 67, 68, 148, 149, 150] (by decide +kernel) (by decide +kernel)
set_option maxRecDepth 20000 in
theorem gX8_init_X0_init_n25 : GoodIn wsX8_init (wsX0_init) := ggX8_init_X0_init
set_option maxRecDepth 20000 in
theorem ggX8_init_X7_init : GoodIn wsX8_init wsX7_init := goodIn_r _ [70, 71, 2, 3, 39, 72, 73, 151, 152, 153] (by decide +kernel) (by decide +kernel)
set_option maxRecDepth 20000 in
theorem gX8_init_X7_init_n32 : GoodIn wsX8_init (wsX7_init) := ggX8_init_X7_init
set_option maxRecDepth 20000 in
theorem ggX8_init_X6_init : GoodIn wsX8_init wsX6_init := goodIn_r _ [75, 76, 2, 3, 39, 77, 78, 79, 80, 81, 82, 154, 155, 156, 157, 158, 159, 160, 161] (by decide +kernel) (by decide +kernel)
set_option maxRecDepth 20000 in
theorem gX8_init_X6_init_n39 : GoodIn wsX8_init (wsX6_init) := ggX8_init_X6_init
set_option maxRecDepth 20000 in
theorem ggX8_init_X5_init : GoodIn wsX8_init wsX5_init := goodIn_r _ [84, 85, 2, 3, 39, 86, 87, 88, 89, 90, 162, 163, 164, 165, 166, 167] (by decide +kernel) (by decide +kernel)
set_option maxRecDepth 20000 in
theorem gX8_init_X5_init_n48 : GoodIn wsX8_init (wsX5_init) := ggX8_init_X5_init
set_option maxRecDepth 20000 in
theorem ggX8_init_X3_init : GoodIn wsX8_init wsX3_init := goodIn_r _ [92, 93, 2, 3, 39, 94, 95, 96, 97, 98, 99, 100, 101, 102, 103, 104, 168, 169, 170, 171, 172, 173, 174, 175, 176, 177, 178, 179, 180, 181] (by decide +kernel) (by decide +kernel)
set_option maxRecDepth 20000 in
theorem gX8_init_X3_init_n57 : GoodIn wsX8_init (wsX3_init) := ggX8_init_X3_init
set_option maxRecDepth 20000 in
theorem ggX8_init_X2_init : GoodIn wsX8_init wsX2_init := goodIn_r _ [106, 107, 2, 3, 39, 108, 109, 110, 111, 112, 113, 114, 115, 116, 182, 183, 184, 185, 186, 187, 188, 189, 190, 191, 192] (by decide +kernel) (by decide +kernel)
set_option maxRecDepth 20000 in
theorem gX8_init_X2_init_n66 : GoodIn wsX8_init (wsX2_init) := ggX8_init_X2_init
theorem dX8_init_0 : decode cX8_init 0 = .ok (.aload_n 0, 1) := by decide +kernel
theorem dX8_init_1 : decode cX8_init 1 = .ok (.invokespecial 3, 3) := by decide +kernel
theorem dX8_init_4 : decode cX8_init 4 = .ok (.aload_n 0, 1) := by decide +kernel
theorem dX8_init_5 : decode cX8_init 5 = .ok (.new 9, 3) := by decide +kernel
theorem dX8_init_8 : decode cX8_init 8 = .ok (.dup, 1) := by decide +kernel
theorem dX8_init_9 : decode cX8_init 9 = .ok (.invokespecial 11, 3) := by decide +kernel
theorem dX8_init_12 : decode cX8_init 12 = .ok (.putfield 12, 3) := by decide +kernel
theorem dX8_init_15 : decode cX8_init 15 = .ok (.aload_n 0, 1) := by decide +kernel
theorem dX8_init_16 : decode cX8_init 16 = .ok (.new 16, 3) := by decide +kernel
theorem dX8_init_19 : decode cX8_init 19 = .ok (.dup, 1) := by decide +kernel
theorem dX8_init_20 : decode cX8_init 20 = .ok (.invokespecial 18, 3) := by decide +kernel
theorem dX8_init_23 : decode cX8_init 23 = .ok (.putfield 19, 3) := by decide +kernel
theorem dX8_init_26 : decode cX8_init 26 = .ok (.aload_n 0, 1) := by decide +kernel
theorem dX8_init_27 : decode cX8_init 27 = .ok (.new 23, 3) := by decide +kernel
theorem dX8_init_30 : decode cX8_init 30 = .ok (.dup, 1) := by decide +kernel
theorem dX8_init_31 : decode cX8_init 31 = .ok (.invokespecial 25, 3) := by decide +kernel
theorem dX8_init_34 : decode cX8_init 34 = .ok (.putfield 26, 3) := by decide +kernel
theorem dX8_init_37 : decode cX8_init 37 = .ok (.aload_n 0, 1) := by decide +kernel
theorem dX8_init_38 : decode cX8_init 38 = .ok (.new 30, 3) := by decide +kernel
theorem dX8_init_41 : decode cX8_init 41 = .ok (.dup, 1) := by decide +kernel
theorem dX8_init_42 : decode cX8_init 42 = .ok (.invokespecial 32, 3) := by decide +kernel
theorem dX8_init_45 : decode cX8_init 45 = .ok (.putfield 33, 3) := by decide +kernel
theorem dX8_init_48 : decode cX8_init 48 = .ok (.aload_n 0, 1) := by decide +kernel
theorem dX8_init_49 : decode cX8_init 49 = .ok (.new 37, 3) := by decide +kernel
theorem dX8_init_52 : decode cX8_init 52 = .ok (.dup, 1) := by decide +kernel
theorem dX8_init_53 : decode cX8_init 53 = .ok (.aload_n 0, 1) := by decide +kernel
theorem dX8_init_54 : decode cX8_init 54 = .ok (.getfield 12, 3) := by decide +kernel
theorem dX8_init_57 : decode cX8_init 57 = .ok (.aload_n 0, 1) := by decide +kernel
theorem dX8_init_58 : decode cX8_init 58 = .ok (.getfield 19, 3) := by decide +kernel
theorem dX8_init_61 : decode cX8_init 61 = .ok (.invokespecial 39, 3) := by decide +kernel
theorem dX8_init_64 : decode cX8_init 64 = .ok (.putfield 42, 3) := by decide +kernel
theorem dX8_init_67 : decode cX8_init 67 = .ok (.aload_n 0, 1) := by decide +kernel
theorem dX8_init_68 : decode cX8_init 68 = .ok (.new 46, 3) := by decide +kernel
theorem dX8_init_71 : decode cX8_init 71 = .ok (.dup, 1) := by decide +kernel
theorem dX8_init_72 : decode cX8_init 72 = .ok (.aload_n 0, 1) := by decide +kernel
theorem dX8_init_73 : decode cX8_init 73 = .ok (.getfield 12, 3) := by decide +kernel
theorem dX8_init_76 : decode cX8_init 76 = .ok (.aload_n 0, 1) := by decide +kernel
theorem dX8_init_77 : decode cX8_init 77 = .ok (.getfield 19, 3) := by decide +kernel
theorem dX8_init_80 : decode cX8_init 80 = .ok (.aload_n 0, 1) := by decide +kernel
theorem dX8_init_81 : decode cX8_init 81 = .ok (.getfield 42, 3) := by decide +kernel
theorem dX8_init_84 : decode cX8_init 84 = .ok (.invokespecial 48, 3) := by decide +kernel
theorem dX8_init_87 : decode cX8_init 87 = .ok (.putfield 51, 3) := by decide +kernel
theorem dX8_init_90 : decode cX8_init 90 = .ok (.aload_n 0, 1) := by decide +kernel
theorem dX8_init_91 : decode cX8_init 91 = .ok (.new 55, 3) := by decide +kernel
theorem dX8_init_94 : decode cX8_init 94 = .ok (.dup, 1) := by decide +kernel
theorem dX8_init_95 : decode cX8_init 95 = .ok (.aload_n 0, 1) := by decide +kernel
theorem dX8_init_96 : decode cX8_init 96 = .ok (.getfield 12, 3) := by decide +kernel
theorem dX8_init_99 : decode cX8_init 99 = .ok (.aload_n 0, 1) := by decide +kernel
theorem dX8_init_100 : decode cX8_init 100 = .ok (.getfield 19, 3) := by decide +kernel
theorem dX8_init_103 : decode cX8_init 103 = .ok (.aload_n 0, 1) := by decide +kernel
theorem dX8_init_104 : decode cX8_init 104 = .ok (.getfield 42, 3) := by decide +kernel
theorem dX8_init_107 : decode cX8_init 107 = .ok (.aload_n 0, 1) := by decide +kernel
theorem dX8_init_108 : decode cX8_init 108 = .ok (.getfield 51, 3) := by decide +kernel
theorem dX8_init_111 : decode cX8_init 111 = .ok (.invokespecial 57, 3) := by decide +kernel
theorem dX8_init_114 : decode cX8_init 114 = .ok (.putfield 60, 3) := by decide +kernel
theorem dX8_init_117 : decode cX8_init 117 = .ok (.aload_n 0, 1) := by decide +kernel
theorem dX8_init_118 : decode cX8_init 118 = .ok (.new 64, 3) := by decide +kernel
theorem dX8_init_121 : decode cX8_init 121 = .ok (.dup, 1) := by decide +kernel
theorem dX8_init_122 : decode cX8_init 122 = .ok (.aload_n 0, 1) := by decide +kernel
theorem dX8_init_123 : decode cX8_init 123 = .ok (.getfield 12, 3) := by decide +kernel
theorem dX8_init_126 : decode cX8_init 126 = .ok (.aload_n 0, 1) := by decide +kernel
theorem dX8_init_127 : decode cX8_init 127 = .ok (.getfield 19, 3) := by decide +kernel
theorem dX8_init_130 : decode cX8_init 130 = .ok (.aload_n 0, 1) := by decide +kernel
theorem dX8_init_131 : decode cX8_init 131 = .ok (.getfield 42, 3) := by decide +kernel
theorem dX8_init_134 : decode cX8_init 134 = .ok (.aload_n 0, 1) := by decide +kernel
theorem dX8_init_135 : decode cX8_init 135 = .ok (.getfield 60, 3) := by decide +kernel
theorem dX8_init_138 : decode cX8_init 138 = .ok (.invokespecial 66, 3) := by decide +kernel
theorem dX8_init_141 : decode cX8_init 141 = .ok (.putfield 69, 3) := by decide +kernel
theorem dX8_init_144 : decode cX8_init 144 = .ok (.return_, 1) := by decide +kernel
set_option maxRecDepth 20000 in
theorem ggX8_spelling_X8_rowLength : GoodIn wsX8_spelling wsX8_rowLength := goodIn_r _ [7] (by decide +kernel) (by decide +kernel)
set_option maxRecDepth 20000 in
theorem gX8_spelling_X8_rowLength : GoodIn wsX8_spelling (va_wsS RX8 73 yX8_rowLength wsX8_rowLength) := goodIn_app (goodIn_of _ (by decide +kernel)) ggX8_spelling_X8_rowLength
set_option maxRecDepth 20000 in
theorem ggX8_spelling_X1_addSpelling : GoodIn wsX8_spelling wsX1_addSpelling := goodIn_r _ [11, 12, 13, 14, 15, 51, 52, 53, 54, 55, 56, 57, 58, 59, 60, 61, 62, 63, 64, 65, 66, 67, 68, 69] (by decide +kernel) (by decide +kernel)
set_option maxRecDepth 20000 in
theorem gX8_spelling_X1_addSpelling_n84 : GoodIn wsX8_spelling (wsX1_addSpelling) := ggX8_spelling_X1_addSpelling
set_option maxRecDepth 20000 in
theorem ggX8_spelling_X8_bookChanged : GoodIn wsX8_spelling wsX8_bookChanged := goodIn_r _ [19, 20, 21, 22, 23, 24, 25, 26, 27, 28, 6, 29, 30, 31, 32, 33, 34, 35, 36, 37, 38, 39, 40, 41, 42, 43, 44, 45, 46, 47, 48, 49, 50, 70, 71, 72, 73, 74, 75, 76, 77, 78, 79, 80, 81, 82, 83, 84, 85, 86, 87, 88, 89, 90, 91, 92, 93, 94, 95, 96, 97, 98, 99, 100] (by decide +kernel) (by decide +kernel)
set_option maxRecDepth 20000 in
theorem gX8_spelling_X8_bookChanged : GoodIn wsX8_spelling (wsV RX8 88 RX8 yX8_bookChanged wsX8_bookChanged) := goodIn_app (goodIn_of _ (by decide +kernel)) ggX8_spelling_X8_bookChanged
theorem dX8_spelling_0 : decode cX8_spelling 0 = .ok (.lload_n 2, 1) := by decide +kernel
theorem dX8_spelling_1 : decode cX8_spelling 1 = .ok (.iconst 5, 1) := by decide +kernel
theorem dX8_spelling_2 : decode cX8_spelling 2 = .ok (.bipush 26, 2) := by decide +kernel
theorem dX8_spelling_4 : decode cX8_spelling 4 = .ok (.iconst 4, 1) := by decide +kernel
theorem dX8_spelling_5 : decode cX8_spelling 5 = .ok (.invokestatic 73, 3) := by decide +kernel
theorem dX8_spelling_8 : decode cX8_spelling 8 = .ok (.istore 5, 2) := by decide +kernel
theorem dX8_spelling_10 : decode cX8_spelling 10 = .ok (.iload_n 1, 1) := by decide +kernel
theorem dX8_spelling_11 : decode cX8_spelling 11 = .ok (.ifCond .lt 26, 3) := by decide +kernel
theorem dX8_spelling_14 : decode cX8_spelling 14 = .ok (.iload_n 1, 1) := by decide +kernel
theorem dX8_spelling_15 : decode cX8_spelling 15 = .ok (.bipush 50, 2) := by decide +kernel
theorem dX8_spelling_17 : decode cX8_spelling 17 = .ok (.if_icmp .ge 20, 3) := by decide +kernel
theorem dX8_spelling_20 : decode cX8_spelling 20 = .ok (.iload 5, 2) := by decide +kernel
theorem dX8_spelling_22 : decode cX8_spelling 22 = .ok (.ifCond .eq 15, 3) := by decide +kernel
theorem dX8_spelling_25 : decode cX8_spelling 25 = .ok (.iload 4, 2) := by decide +kernel
theorem dX8_spelling_27 : decode cX8_spelling 27 = .ok (.ifCond .lt 10, 3) := by decide +kernel
theorem dX8_spelling_30 : decode cX8_spelling 30 = .ok (.iload 4, 2) := by decide +kernel
theorem dX8_spelling_32 : decode cX8_spelling 32 = .ok (.bipush 40, 2) := by decide +kernel
theorem dX8_spelling_34 : decode cX8_spelling 34 = .ok (.if_icmp .le 13, 3) := by decide +kernel
theorem dX8_spelling_37 : decode cX8_spelling 37 = .ok (.new 77, 3) := by decide +kernel
theorem dX8_spelling_40 : decode cX8_spelling 40 = .ok (.dup, 1) := by decide +kernel
theorem dX8_spelling_41 : decode cX8_spelling 41 = .ok (.ldc 79, 2) := by decide +kernel
theorem dX8_spelling_43 : decode cX8_spelling 43 = .ok (.invokespecial 81, 3) := by decide +kernel
theorem dX8_spelling_46 : decode cX8_spelling 46 = .ok (.athrow, 1) := by decide +kernel
theorem dX8_spelling_47 : decode cX8_spelling 47 = .ok (.aload_n 0, 1) := by decide +kernel
theorem dX8_spelling_48 : decode cX8_spelling 48 = .ok (.getfield 12, 3) := by decide +kernel
