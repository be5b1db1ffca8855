theorem dX9_type_104 : decode cX9_type 104 = .ok (.aload_n 0, 1) := by decide +kernel
theorem dX9_type_105 : decode cX9_type 105 = .ok (.dup, 1) := by decide +kernel
theorem dX9_type_106 : decode cX9_type 106 = .ok (.getfield 187, 3) := by decide +kernel
theorem dX9_type_109 : decode cX9_type 109 = .ok (.iconst 1, 1) := by decide +kernel
theorem dX9_type_110 : decode cX9_type 110 = .ok (.iadd, 1) := by decide +kernel
theorem dX9_type_111 : decode cX9_type 111 = .ok (.putfield 187, 3) := by decide +kernel
theorem dX9_type_114 : decode cX9_type 114 = .ok (.aload_n 0, 1) := by decide +kernel
theorem dX9_type_115 : decode cX9_type 115 = .ok (.invokevirtual 177, 3) := by decide +kernel
theorem dX9_type_118 : decode cX9_type 118 = .ok (.aload_n 0, 1) := by decide +kernel
theorem dX9_type_119 : decode cX9_type 119 = .ok (.getfield 187, 3) := by decide +kernel
theorem dX9_type_122 : decode cX9_type 122 = .ok (.ireturn, 1) := by decide +kernel
set_option maxRecDepth 20000 in
theorem ggX9_typed_X9_fail : GoodIn wsX9_typed wsX9_fail := goodIn_r _ [8, 1, 9, 10, 11, 12, 13, 14, 15, 16, 17, 18, 19, 20, 21, 22, 23, 24, 25, 26, 27, 28, 29, 30, 31, 32, 33, 34, 35, 36, 37, 38, 39, 40, 41, 42, 43, 44, 45, 46, 47, 48, 49, 50, 51, 52, 53, 54, 55, 56, 57, 58, 59, 60, 61, 62, 63, 64, 65, 66, 67, 68, 69] (by decide +kernel) (by decide +kernel)
set_option maxRecDepth 20000 in
theorem gX9_typed_X9_fail : GoodIn wsX9_typed (wsV RX9 173 RX9 yX9_fail wsX9_fail) := goodIn_app (goodIn_of _ (by decide +kernel)) ggX9_typed_X9_fail
theorem dX9_typed_0 : decode cX9_typed 0 = .ok (.aload_n 0, 1) := by decide +kernel
theorem dX9_typed_1 : decode cX9_typed 1 = .ok (.iconst 0, 1) := by decide +kernel
theorem dX9_typed_2 : decode cX9_typed 2 = .ok (.putfield 151, 3) := by decide +kernel
theorem dX9_typed_5 : decode cX9_typed 5 = .ok (.iload_n 1, 1) := by decide +kernel
theorem dX9_typed_6 : decode cX9_typed 6 = .ok (.iconst (-1), 1) := by decide +kernel
theorem dX9_typed_7 : decode cX9_typed 7 = .ok (.if_icmp .ne 10, 3) := by decide +kernel
theorem dX9_typed_10 : decode cX9_typed 10 = .ok (.aload_n 0, 1) := by decide +kernel
theorem dX9_typed_11 : decode cX9_typed 11 = .ok (.getfield 187, 3) := by decide +kernel
theorem dX9_typed_14 : decode cX9_typed 14 = .ok (.goto 28, 3) := by decide +kernel
theorem dX9_typed_17 : decode cX9_typed 17 = .ok (.iload_n 1, 1) := by decide +kernel
theorem dX9_typed_18 : decode cX9_typed 18 = .ok (.ifCond .lt 11, 3) := by decide +kernel
theorem dX9_typed_21 : decode cX9_typed 21 = .ok (.iload_n 1, 1) := by decide +kernel
theorem dX9_typed_22 : decode cX9_typed 22 = .ok (.aload_n 0, 1) := by decide +kernel
theorem dX9_typed_23 : decode cX9_typed 23 = .ok (.getfield 187, 3) := by decide +kernel
theorem dX9_typed_26 : decode cX9_typed 26 = .ok (.if_icmp .lt 10, 3) := by decide +kernel
theorem dX9_typed_29 : decode cX9_typed 29 = .ok (.aload_n 0, 1) := by decide +kernel
theorem dX9_typed_30 : decode cX9_typed 30 = .ok (.invokevirtual 173, 3) := by decide +kernel
theorem dX9_typed_33 : decode cX9_typed 33 = .ok (.goto 9, 3) := by decide +kernel
theorem dX9_typed_36 : decode cX9_typed 36 = .ok (.aload_n 0, 1) := by decide +kernel
theorem dX9_typed_37 : decode cX9_typed 37 = .ok (.getfield 63, 3) := by decide +kernel
theorem dX9_typed_40 : decode cX9_typed 40 = .ok (.iload_n 1, 1) := by decide +kernel
theorem dX9_typed_41 : decode cX9_typed 41 = .ok (.iaload, 1) := by decide +kernel
theorem dX9_typed_42 : decode cX9_typed 42 = .ok (.ireturn, 1) := by decide +kernel
set_option maxRecDepth 20000 in
theorem ggX9_cost_X9_read : GoodIn wsX9_cost wsX9_read := goodIn_r _ [9, 10, 11, 12, 13, 3, 2, 14, 15, 16, 17, 18, 19, 20, 21, 22, 8, 23, 24, 25, 26, 27, 28, 29, 30, 31, 32, 33, 34, 35, 36, 37, 38, 39, 40, 41, 42, 43, 44, 45, 46, 47, 48, 49, 50, 51, 52, 53, 54, 55, 56, 57, 58, 59, 60, 61, 62, 63, 64, 65, 66, 67, 68, 69, 70, 71, 72, 73, 74, 75, 76, 77, 78, 79, 80, 81, 82, 83, 84, 85, 86, 87, 88, 89, 90, 91, 92, 93, 94, 95, 96, 97, 98, 99, 100, 101, 102, 103, 104, 105, 106, 107, 108, 109, 110, 111, 112, 113, 114, 115, 116, 117, 118, 119, 120, 121, 122, 123, 124, 125, 126, 127, 128, 129, 130, 131, 132, 133, 134, 135, 136, 137, 138, 139, 140, 141, 142, 143, 144, 145, 146, 147, 148, 149, 150, 151, 152, 153, 154, 155, 156, 157, 158, 159, 160, 161, 162, 163, 164, 165, 166, 167, 168, 169, 170, 171, 172, 173, 174, 175, 176, 177, 178, 179, 180, 181] (by decide +kernel) (by decide +kernel)
set_option maxRecDepth 20000 in
theorem gX9_cost_X9_read : GoodIn wsX9_cost (wsV RX9 275 RX9 yX9_read wsX9_read) := goodIn_app (goodIn_of _ (by decide +kernel)) ggX9_cost_X9_read
theorem dX9_cost_0 : decode cX9_cost 0 = .ok (.aload_n 0, 1) := by decide +kernel
theorem dX9_cost_1 : decode cX9_cost 1 = .ok (.iconst 0, 1) := by decide +kernel
theorem dX9_cost_2 : decode cX9_cost 2 = .ok (.putfield 151, 3) := by decide +kernel
theorem dX9_cost_5 : decode cX9_cost 5 = .ok (.aload_n 0, 1) := by decide +kernel
theorem dX9_cost_6 : decode cX9_cost 6 = .ok (.invokevirtual 275, 3) := by decide +kernel
theorem dX9_cost_9 : decode cX9_cost 9 = .ok (.aload_n 0, 1) := by decide +kernel
theorem dX9_cost_10 : decode cX9_cost 10 = .ok (.getfield 229, 3) := by decide +kernel
theorem dX9_cost_13 : decode cX9_cost 13 = .ok (.ldc 186, 2) := by decide +kernel
theorem dX9_cost_15 : decode cX9_cost 15 = .ok (.if_icmp .lt 9, 3) := by decide +kernel
theorem dX9_cost_18 : decode cX9_cost 18 = .ok (.ldc_w 278, 3) := by decide +kernel
theorem dX9_cost_21 : decode cX9_cost 21 = .ok (.goto 7, 3) := by decide +kernel
theorem dX9_cost_24 : decode cX9_cost 24 = .ok (.aload_n 0, 1) := by decide +kernel
theorem dX9_cost_25 : decode cX9_cost 25 = .ok (.getfield 229, 3) := by decide +kernel
theorem dX9_cost_28 : decode cX9_cost 28 = .ok (.ireturn, 1) := by decide +kernel
set_option maxRecDepth 20000 in
theorem ggX9_parts_X9_read : GoodIn wsX9_parts wsX9_read := goodIn_r _ [7, 8, 9, 10, 11, 12, 13, 2, 14, 15, 16, 17, 18, 19, 20, 21, 6, 22, 23, 24, 25, 26, 27, 28, 29, 30, 31, 32, 33, 34, 35, 36, 37, 38, 39, 40, 41, 42, 43, 44, 45, 46, 47, 48, 49, 50, 51, 52, 53, 54, 55, 56, 57, 58, 59, 60, 61, 62, 63, 64, 65, 66, 67, 68, 69, 70, 71, 72, 73, 74, 75, 76, 77, 78, 79, 80, 81, 82, 83, 84, 85, 86, 87, 88, 89, 90, 91, 92, 93, 94, 95, 96, 97, 98, 99, 100, 101, 102, 103, 104, 105, 106, 107, 108, 109, 110, 111, 112, 113, 114, 115, 116, 117, 118, 119, 120, 121, 122, 123, 124, 125, 126, 127, 128, 129, 130, 131, 132, 133, 134, 135, 136, 137, 138, 139, 140, 141, 142, 143, 144, 145, 146, 147, 148, 149, 150, 151, 152, 153, 154, 155, 156, 157, 158, 159, 160, 161, 162, 163, 164, 165, 166, 167, 168, 169, 170, 171, 172, 173, 174, 175, 176, 177, 178, 179, 180] (by decide +kernel) (by decide +kernel)
set_option maxRecDepth 20000 in
theorem gX9_parts_X9_read : GoodIn wsX9_parts (wsV RX9 275 RX9 yX9_read wsX9_read) := goodIn_app (goodIn_of _ (by decide +kernel)) ggX9_parts_X9_read
theorem dX9_parts_0 : decode cX9_parts 0 = .ok (.aload_n 0, 1) := by decide +kernel
theorem dX9_parts_1 : decode cX9_parts 1 = .ok (.iconst 0, 1) := by decide +kernel
theorem dX9_parts_2 : decode cX9_parts 2 = .ok (.putfield 151, 3) := by decide +kernel
theorem dX9_parts_5 : decode cX9_parts 5 = .ok (.aload_n 0, 1) := by decide +kernel
theorem dX9_parts_6 : decode cX9_parts 6 = .ok (.invokevirtual 275, 3) := by decide +kernel
theorem dX9_parts_9 : decode cX9_parts 9 = .ok (.aload_n 0, 1) := by decide +kernel
theorem dX9_parts_10 : decode cX9_parts 10 = .ok (.getfield 232, 3) := by decide +kernel
theorem dX9_parts_13 : decode cX9_parts 13 = .ok (.ireturn, 1) := by decide +kernel
theorem dX9_isFixed_0 : decode cX9_isFixed 0 = .ok (.iconst 0, 1) := by decide +kernel
theorem dX9_isFixed_1 : decode cX9_isFixed 1 = .ok (.istore_n 2, 1) := by decide +kernel
theorem dX9_isFixed_2 : decode cX9_isFixed 2 = .ok (.iload_n 2, 1) := by decide +kernel
theorem dX9_isFixed_3 : decode cX9_isFixed 3 = .ok (.aload_n 0, 1) := by decide +kernel
theorem dX9_isFixed_4 : decode cX9_isFixed 4 = .ok (.getfield 216, 3) := by decide +kernel
theorem dX9_isFixed_7 : decode cX9_isFixed 7 = .ok (.if_icmp .ge 41, 3) := by decide +kernel
theorem dX9_isFixed_10 : decode cX9_isFixed 10 = .ok (.aload_n 0, 1) := by decide +kernel
theorem dX9_isFixed_11 : decode cX9_isFixed 11 = .ok (.getfield 69, 3) := by decide +kernel
theorem dX9_isFixed_14 : decode cX9_isFixed 14 = .ok (.iload_n 2, 1) := by decide +kernel
theorem dX9_isFixed_15 : decode cX9_isFixed 15 = .ok (.iaload, 1) := by decide +kernel
theorem dX9_isFixed_16 : decode cX9_isFixed 16 = .ok (.aload_n 0, 1) := by decide +kernel
theorem dX9_isFixed_17 : decode cX9_isFixed 17 = .ok (.getfield 130, 3) := by decide +kernel
theorem dX9_isFixed_20 : decode cX9_isFixed 20 = .ok (.iload_n 1, 1) := by decide +kernel
theorem dX9_isFixed_21 : decode cX9_isFixed 21 = .ok (.iaload, 1) := by decide +kernel
theorem dX9_isFixed_22 : decode cX9_isFixed 22 = .ok (.if_icmp .ne 20, 3) := by decide +kernel
theorem dX9_isFixed_25 : decode cX9_isFixed 25 = .ok (.aload_n 0, 1) := by decide +kernel
theorem dX9_isFixed_26 : decode cX9_isFixed 26 = .ok (.getfield 72, 3) := by decide +kernel
theorem dX9_isFixed_29 : decode cX9_isFixed 29 = .ok (.iload_n 2, 1) := by decide +kernel
theorem dX9_isFixed_30 : decode cX9_isFixed 30 = .ok (.iaload, 1) := by decide +kernel
theorem dX9_isFixed_31 : decode cX9_isFixed 31 = .ok (.aload_n 0, 1) := by decide +kernel
theorem dX9_isFixed_32 : decode cX9_isFixed 32 = .ok (.getfield 133, 3) := by decide +kernel
theorem dX9_isFixed_35 : decode cX9_isFixed 35 = .ok (.iload_n 1, 1) := by decide +kernel
theorem dX9_isFixed_36 : decode cX9_isFixed 36 = .ok (.iaload, 1) := by decide +kernel
theorem dX9_isFixed_37 : decode cX9_isFixed 37 = .ok (.if_icmp .ne 5, 3) := by decide +kernel
theorem dX9_isFixed_40 : decode cX9_isFixed 40 = .ok (.iconst 1, 1) := by decide +kernel
theorem dX9_isFixed_41 : decode cX9_isFixed 41 = .ok (.ireturn, 1) := by decide +kernel
theorem dX9_isFixed_42 : decode cX9_isFixed 42 = .ok (.iinc 2 1, 3) := by decide +kernel
theorem dX9_isFixed_45 : decode cX9_isFixed 45 = .ok (.goto (-43), 3) := by decide +kernel
theorem dX9_isFixed_48 : decode cX9_isFixed 48 = .ok (.iconst 0, 1) := by decide +kernel
theorem dX9_isFixed_49 : decode cX9_isFixed 49 = .ok (.ireturn, 1) := by decide +kernel
set_option maxRecDepth 20000 in
theorem ggX9_part_X9_read : GoodIn wsX9_part wsX9_read := goodIn_r _ [11, 12, 13, 14, 15, 16, 17, 2, 18, 19, 20, 4, 5, 21, 22, 23, 10, 24, 25, 26, 27, 28, 29, 30, 31, 32, 33, 34, 35, 36, 37, 38, 39, 40, 41, 42, 43, 44, 45, 46, 47, 48, 49, 50, 51, 52, 53, 54, 55, 56, 57, 58, 59, 60, 61, 62, 63, 64, 65, 66, 67, 68, 69, 70, 3, 6, 71, 72, 73, 74, 75, 76, 77, 78, 79, 80, 81, 82, 83, 84, 85, 86, 87, 88, 89, 90, 91, 92, 93, 94, 95, 96, 97, 98, 99, 100, 101, 102, 103, 104, 105, 106, 107, 108, 109, 110, 111, 112, 113, 114, 115, 116, 117, 118, 119, 128, 129, 130, 131, 132, 133, 134, 135, 136, 137, 138, 139, 140, 141, 142, 143, 144, 145, 146, 147, 148, 149, 150, 151, 152, 153, 154, 155, 156, 157, 158, 159, 160, 161, 162, 163, 164, 165, 166, 167, 168, 169, 170, 171, 172, 173, 174, 175, 176, 177, 178, 179, 180, 181, 182, 183, 184, 185, 186, 187, 188] (by decide +kernel) (by decide +kernel)
set_option maxRecDepth 20000 in
theorem gX9_part_X9_read : GoodIn wsX9_part (wsV RX9 275 RX9 yX9_read wsX9_read) := goodIn_app (goodIn_of _ (by decide +kernel)) ggX9_part_X9_read
set_option maxRecDepth 20000 in
theorem ggX9_part_X9_fail : GoodIn wsX9_part wsX9_fail := goodIn_r _ [123, 1, 128, 129, 130, 131, 132, 133, 134, 135, 136, 137, 138, 139, 140, 141, 142, 143, 144, 145, 146, 147, 148, 149, 150, 151, 152, 153, 154, 155, 156, 157, 158, 159, 160, 161, 162, 163, 164, 165, 166, 167, 168, 169, 170, 171, 172, 173, 174, 175, 176, 177, 178, 179, 180, 181, 182, 183, 184, 185, 186, 187, 188] (by decide +kernel) (by decide +kernel)
set_option maxRecDepth 20000 in
theorem gX9_part_X9_fail : GoodIn wsX9_part (wsV RX9 173 RX9 yX9_fail wsX9_fail) := goodIn_app (goodIn_of _ (by decide +kernel)) ggX9_part_X9_fail
set_option maxRecDepth 20000 in
theorem ggX9_part_X9_kindOf : GoodIn wsX9_part wsX9_kindOf := goodIn_r _ [85, 86, 128, 129, 130, 131, 132, 133, 134, 135, 136, 137, 138, 139, 140, 141, 142, 143, 144, 145, 146, 147, 148, 149, 150, 151, 152, 153, 154, 155, 156, 157, 158, 159, 160, 161, 162, 163, 164, 165, 166, 167, 168, 169, 170, 171, 172, 173, 174, 175, 176, 177, 178, 179, 180, 181, 182, 183, 184, 185, 186, 187, 188] (by decide +kernel) (by decide +kernel)
set_option maxRecDepth 20000 in
theorem gX9_part_X9_kindOf : GoodIn wsX9_part (wsV RX9 244 RX9 yX9_kindOf wsX9_kindOf) := goodIn_app (goodIn_of _ (by decide +kernel)) ggX9_part_X9_kindOf
set_option maxRecDepth 20000 in
theorem ggX9_part_X9_costOf : GoodIn wsX9_part wsX9_costOf := goodIn_r _ [74, 75, 16, 29, 30, 31, 76, 77, 78, 53, 54, 10, 55, 79, 80, 81, 128, 129, 130, 131, 132, 133, 134, 135, 136, 137, 138, 139, 140, 141, 142, 143, 144, 145, 146, 147, 148, 149, 150, 151, 152, 153, 154, 155, 156, 157, 158, 159, 160, 161, 162, 163, 164, 165, 166, 167, 168, 169, 170, 171, 172, 173, 174, 175, 176, 177, 178, 179, 180, 181, 182, 183, 184, 185, 186, 187, 188] (by decide +kernel) (by decide +kernel)
set_option maxRecDepth 20000 in
theorem gX9_part_X9_costOf : GoodIn wsX9_part (wsV RX9 254 RX9 yX9_costOf wsX9_costOf) := goodIn_app (goodIn_of _ (by decide +kernel)) ggX9_part_X9_costOf
set_option maxRecDepth 20000 in
theorem ggX9_part_X9_isFixed : GoodIn wsX9_part wsX9_isFixed := goodIn_r _ [127, 91, 93, 3, 92, 4, 128, 129, 130, 131, 132, 133, 134, 135, 136, 137, 138, 139, 140, 141, 142, 143, 144, 145, 146, 147, 148, 149, 150, 151, 152, 153, 154, 155, 156, 157, 158, 159, 160, 161, 162, 163, 164, 165, 166, 167, 168, 169, 170, 171, 172, 173, 174, 175, 176, 177, 178, 179, 180, 181, 182, 183, 184, 185, 186, 187, 188] (by decide +kernel) (by decide +kernel)
set_option maxRecDepth 20000 in
theorem gX9_part_X9_isFixed : GoodIn wsX9_part (wsV RX9 279 RX9 yX9_isFixed wsX9_isFixed) := goodIn_app (goodIn_of _ (by decide +kernel)) ggX9_part_X9_isFixed
theorem dX9_part_0 : decode cX9_part 0 = .ok (.aload_n 0, 1) := by decide +kernel
theorem dX9_part_1 : decode cX9_part 1 = .ok (.iconst 0, 1) := by decide +kernel
theorem dX9_part_2 : decode cX9_part 2 = .ok (.putfield 151, 3) := by decide +kernel
theorem dX9_part_5 : decode cX9_part 5 = .ok (.aload_n 0, 1) := by decide +kernel
theorem dX9_part_6 : decode cX9_part 6 = .ok (.invokevirtual 275, 3) := by decide +kernel
theorem dX9_part_9 : decode cX9_part 9 = .ok (.iload_n 1, 1) := by decide +kernel
theorem dX9_part_10 : decode cX9_part 10 = .ok (.ifCond .lt 11, 3) := by decide +kernel
theorem dX9_part_13 : decode cX9_part 13 = .ok (.iload_n 1, 1) := by decide +kernel
theorem dX9_part_14 : decode cX9_part 14 = .ok (.aload_n 0, 1) := by decide +kernel
theorem dX9_part_15 : decode cX9_part 15 = .ok (.getfield 232, 3) := by decide +kernel
theorem dX9_part_18 : decode cX9_part 18 = .ok (.if_icmp .lt 8, 3) := by decide +kernel
theorem dX9_part_21 : decode cX9_part 21 = .ok (.aload_n 0, 1) := by decide +kernel
theorem dX9_part_22 : decode cX9_part 22 = .ok (.invokevirtual 173, 3) := by decide +kernel
theorem dX9_part_25 : decode cX9_part 25 = .ok (.ireturn, 1) := by decide +kernel
theorem dX9_part_26 : decode cX9_part 26 = .ok (.iload_n 2, 1) := by decide +kernel
theorem dX9_part_27 : decode cX9_part 27 = .ok (.tableswitch 138 0 6 #[41, 48, 55, 77, 84, 95, 124], 41) := by decide +kernel
theorem dX9_part_68 : decode cX9_part 68 = .ok (.aload_n 0, 1) := by decide +kernel
theorem dX9_part_69 : decode cX9_part 69 = .ok (.getfield 130, 3) := by decide +kernel
theorem dX9_part_72 : decode cX9_part 72 = .ok (.iload_n 1, 1) := by decide +kernel
theorem dX9_part_73 : decode cX9_part 73 = .ok (.iaload, 1) := by decide +kernel
theorem dX9_part_74 : decode cX9_part 74 = .ok (.ireturn, 1) := by decide +kernel
theorem dX9_part_75 : decode cX9_part 75 = .ok (.aload_n 0, 1) := by decide +kernel
theorem dX9_part_76 : decode cX9_part 76 = .ok (.getfield 133, 3) := by decide +kernel
theorem dX9_part_79 : decode cX9_part 79 = .ok (.iload_n 1, 1) := by decide +kernel
theorem dX9_part_80 : decode cX9_part 80 = .ok (.iaload, 1) := by decide +kernel
theorem dX9_part_81 : decode cX9_part 81 = .ok (.ireturn, 1) := by decide +kernel
theorem dX9_part_82 : decode cX9_part 82 = .ok (.aload_n 0, 1) := by decide +kernel
theorem dX9_part_83 : decode cX9_part 83 = .ok (.getfield 136, 3) := by decide +kernel
theorem dX9_part_86 : decode cX9_part 86 = .ok (.iload_n 1, 1) := by decide +kernel
theorem dX9_part_87 : decode cX9_part 87 = .ok (.iaload, 1) := by decide +kernel
theorem dX9_part_88 : decode cX9_part 88 = .ok (.bipush 60, 2) := by decide +kernel
theorem dX9_part_90 : decode cX9_part 90 = .ok (.if_icmp .ne 7, 3) := by decide +kernel
theorem dX9_part_93 : decode cX9_part 93 = .ok (.iconst (-1), 1) := by decide +kernel
theorem dX9_part_94 : decode cX9_part 94 = .ok (.goto 9, 3) := by decide +kernel
theorem dX9_part_97 : decode cX9_part 97 = .ok (.aload_n 0, 1) := by decide +kernel
theorem dX9_part_98 : decode cX9_part 98 = .ok (.getfield 136, 3) := by decide +kernel
theorem dX9_part_101 : decode cX9_part 101 = .ok (.iload_n 1, 1) := by decide +kernel
theorem dX9_part_102 : decode cX9_part 102 = .ok (.iaload, 1) := by decide +kernel
theorem dX9_part_103 : decode cX9_part 103 = .ok (.ireturn, 1) := by decide +kernel
theorem dX9_part_104 : decode cX9_part 104 = .ok (.aload_n 0, 1) := by decide +kernel
theorem dX9_part_105 : decode cX9_part 105 = .ok (.getfield 139, 3) := by decide +kernel
theorem dX9_part_108 : decode cX9_part 108 = .ok (.iload_n 1, 1) := by decide +kernel
theorem dX9_part_109 : decode cX9_part 109 = .ok (.iaload, 1) := by decide +kernel
theorem dX9_part_110 : decode cX9_part 110 = .ok (.ireturn, 1) := by decide +kernel
theorem dX9_part_111 : decode cX9_part 111 = .ok (.aload_n 0, 1) := by decide +kernel
theorem dX9_part_112 : decode cX9_part 112 = .ok (.aload_n 0, 1) := by decide +kernel
theorem dX9_part_113 : decode cX9_part 113 = .ok (.getfield 136, 3) := by decide +kernel
theorem dX9_part_116 : decode cX9_part 116 = .ok (.iload_n 1, 1) := by decide +kernel
theorem dX9_part_117 : decode cX9_part 117 = .ok (.iaload, 1) := by decide +kernel
theorem dX9_part_118 : decode cX9_part 118 = .ok (.invokevirtual 244, 3) := by decide +kernel
theorem dX9_part_121 : decode cX9_part 121 = .ok (.ireturn, 1) := by decide +kernel
theorem dX9_part_122 : decode cX9_part 122 = .ok (.aload_n 0, 1) := by decide +kernel
theorem dX9_part_123 : decode cX9_part 123 = .ok (.aload_n 0, 1) := by decide +kernel
theorem dX9_part_124 : decode cX9_part 124 = .ok (.getfield 130, 3) := by decide +kernel
theorem dX9_part_127 : decode cX9_part 127 = .ok (.iload_n 1, 1) := by decide +kernel
theorem dX9_part_128 : decode cX9_part 128 = .ok (.iaload, 1) := by decide +kernel
theorem dX9_part_129 : decode cX9_part 129 = .ok (.aload_n 0, 1) := by decide +kernel
theorem dX9_part_130 : decode cX9_part 130 = .ok (.getfield 133, 3) := by decide +kernel
theorem dX9_part_133 : decode cX9_part 133 = .ok (.iload_n 1, 1) := by decide +kernel
theorem dX9_part_134 : decode cX9_part 134 = .ok (.iaload, 1) := by decide +kernel
theorem dX9_part_135 : decode cX9_part 135 = .ok (.aload_n 0, 1) := by decide +kernel
theorem dX9_part_136 : decode cX9_part 136 = .ok (.getfield 136, 3) := by decide +kernel
theorem dX9_part_139 : decode cX9_part 139 = .ok (.iload_n 1, 1) := by decide +kernel
theorem dX9_part_140 : decode cX9_part 140 = .ok (.iaload, 1) := by decide +kernel
theorem dX9_part_141 : decode cX9_part 141 = .ok (.aload_n 0, 1) := by decide +kernel
theorem dX9_part_142 : decode cX9_part 142 = .ok (.getfield 139, 3) := by decide +kernel
theorem dX9_part_145 : decode cX9_part 145 = .ok (.iload_n 1, 1) := by decide +kernel
theorem dX9_part_146 : decode cX9_part 146 = .ok (.iaload, 1) := by decide +kernel
theorem dX9_part_147 : decode cX9_part 147 = .ok (.invokevirtual 254, 3) := by decide +kernel
theorem dX9_part_150 : decode cX9_part 150 = .ok (.ireturn, 1) := by decide +kernel
theorem dX9_part_151 : decode cX9_part 151 = .ok (.aload_n 0, 1) := by decide +kernel
theorem dX9_part_152 : decode cX9_part 152 = .ok (.iload_n 1, 1) := by decide +kernel
theorem dX9_part_153 : decode cX9_part 153 = .ok (.invokevirtual 279, 3) := by decide +kernel
theorem dX9_part_156 : decode cX9_part 156 = .ok (.ifCond .eq 7, 3) := by decide +kernel
theorem dX9_part_159 : decode cX9_part 159 = .ok (.iconst 1, 1) := by decide +kernel
theorem dX9_part_160 : decode cX9_part 160 = .ok (.goto 4, 3) := by decide +kernel
theorem dX9_part_163 : decode cX9_part 163 = .ok (.iconst 0, 1) := by decide +kernel
theorem dX9_part_164 : decode cX9_part 164 = .ok (.ireturn, 1) := by decide +kernel
theorem dX9_part_165 : decode cX9_part 165 = .ok (.aload_n 0, 1) := by decide +kernel
theorem dX9_part_166 : decode cX9_part 166 = .ok (.invokevirtual 173, 3) := by decide +kernel
theorem dX9_part_169 : decode cX9_part 169 = .ok (.ireturn, 1) := by decide +kernel
set_option maxRecDepth 20000 in
theorem ggX9_sign_X9_read : GoodIn wsX9_sign wsX9_read := goodIn_r _ [13, 14, 15, 16, 17, 18, 19, 2, 20, 21, 22, 23, 3, 24, 25, 26, 12, 27, 28, 29, 30, 31, 32, 33, 34, 35, 36, 37, 38, 39, 40, 41, 42, 43, 44, 45, 46, 47, 48, 5, 49, 50, 51, 52, 53, 54, 55, 56, 57, 58, 59, 60, 61, 62, 63, 64, 65, 66, 67, 68, 69, 70, 71, 72, 6, 7, 73, 74, 75, 76, 77, 78, 79, 80, 81, 82, 83, 84, 85, 86, 87, 88, 89, 90, 91, 92, 93, 94, 95, 96, 97, 98, 99, 100, 101, 102, 103, 104, 105, 106, 107, 108, 109, 110, 111, 112, 113, 114, 115, 116, 117, 118, 119, 120, 121, 126, 127, 128, 129, 130, 131, 132, 133, 134, 135, 136, 137, 138, 139, 140, 141, 142, 143, 144, 145, 146, 147, 148, 149, 150, 151, 152, 153, 154, 155, 156, 157, 158, 159, 160, 161, 162, 163, 164, 165, 166, 167, 168, 169, 170, 171, 172, 173, 174, 175, 176, 177, 178, 179, 180, 181, 182, 183, 184, 185, 186] (by decide +kernel) (by decide +kernel)
set_option maxRecDepth 20000 in
theorem gX9_sign_X9_read : GoodIn wsX9_sign (wsV RX9 275 RX9 yX9_read wsX9_read) := goodIn_app (goodIn_of _ (by decide +kernel)) ggX9_sign_X9_read
set_option maxRecDepth 20000 in
theorem ggX9_sign_X9_sizeOf : GoodIn wsX9_sign wsX9_sizeOf := goodIn_r _ [38, 39, 40, 12, 41] (by decide +kernel) (by decide +kernel)
set_option maxRecDepth 20000 in
theorem gX9_sign_X9_sizeOf : GoodIn wsX9_sign (va_wsS RX9 165 yX9_sizeOf wsX9_sizeOf) := goodIn_app (goodIn_of _ (by decide +kernel)) ggX9_sign_X9_sizeOf
set_option maxRecDepth 20000 in
theorem ggX9_sign_X9_piece : GoodIn wsX9_sign wsX9_piece := goodIn_r _ [41] (by decide +kernel) (by decide +kernel)
set_option maxRecDepth 20000 in
theorem gX9_sign_X9_piece : GoodIn wsX9_sign (va_wsS RX9 161 yX9_piece wsX9_piece) := goodIn_app (goodIn_of _ (by decide +kernel)) ggX9_sign_X9_piece
set_option maxRecDepth 20000 in
theorem ggX9_sign_X9_fail : GoodIn wsX9_sign wsX9_fail := goodIn_r _ [125, 1, 126, 127, 128, 129, 130, 131, 132, 133, 134, 135, 136, 137, 138, 139, 140, 141, 142, 143, 144, 145, 146, 147, 148, 149, 150, 151, 152, 153, 154, 155, 156, 157, 158, 159, 160, 161, 162, 163, 164, 165, 166, 167, 168, 169, 170, 171, 172, 173, 174, 175, 176, 177, 178, 179, 180, 181, 182, 183, 184, 185, 186] (by decide +kernel) (by decide +kernel)
set_option maxRecDepth 20000 in
theorem gX9_sign_X9_fail : GoodIn wsX9_sign (wsV RX9 173 RX9 yX9_fail wsX9_fail) := goodIn_app (goodIn_of _ (by decide +kernel)) ggX9_sign_X9_fail
theorem dX9_sign_0 : decode cX9_sign 0 = .ok (.aload_n 0, 1) := by decide +kernel
theorem dX9_sign_1 : decode cX9_sign 1 = .ok (.iconst 0, 1) := by decide +kernel
theorem dX9_sign_2 : decode cX9_sign 2 = .ok (.putfield 151, 3) := by decide +kernel
theorem dX9_sign_5 : decode cX9_sign 5 = .ok (.aload_n 0, 1) := by decide +kernel
theorem dX9_sign_6 : decode cX9_sign 6 = .ok (.invokevirtual 275, 3) := by decide +kernel
theorem dX9_sign_9 : decode cX9_sign 9 = .ok (.iconst 0, 1) := by decide +kernel
theorem dX9_sign_10 : decode cX9_sign 10 = .ok (.istore_n 2, 1) := by decide +kernel
theorem dX9_sign_11 : decode cX9_sign 11 = .ok (.iconst 0, 1) := by decide +kernel
theorem dX9_sign_12 : decode cX9_sign 12 = .ok (.istore_n 3, 1) := by decide +kernel
theorem dX9_sign_13 : decode cX9_sign 13 = .ok (.iload_n 3, 1) := by decide +kernel
theorem dX9_sign_14 : decode cX9_sign 14 = .ok (.aload_n 0, 1) := by decide +kernel
theorem dX9_sign_15 : decode cX9_sign 15 = .ok (.getfield 232, 3) := by decide +kernel
theorem dX9_sign_18 : decode cX9_sign 18 = .ok (.if_icmp .ge 139, 3) := by decide +kernel
theorem dX9_sign_21 : decode cX9_sign 21 = .ok (.aload_n 0, 1) := by decide +kernel
theorem dX9_sign_22 : decode cX9_sign 22 = .ok (.getfield 136, 3) := by decide +kernel
theorem dX9_sign_25 : decode cX9_sign 25 = .ok (.iload_n 3, 1) := by decide +kernel
theorem dX9_sign_26 : decode cX9_sign 26 = .ok (.iaload, 1) := by decide +kernel
theorem dX9_sign_27 : decode cX9_sign 27 = .ok (.istore 4, 2) := by decide +kernel
theorem dX9_sign_29 : decode cX9_sign 29 = .ok (.iload 4, 2) := by decide +kernel
theorem dX9_sign_31 : decode cX9_sign 31 = .ok (.bipush 60, 2) := by decide +kernel
theorem dX9_sign_33 : decode cX9_sign 33 = .ok (.if_icmp .ne 7, 3) := by decide +kernel
theorem dX9_sign_36 : decode cX9_sign 36 = .ok (.iconst 1, 1) := by decide +kernel
theorem dX9_sign_37 : decode cX9_sign 37 = .ok (.goto 15, 3) := by decide +kernel
theorem dX9_sign_40 : decode cX9_sign 40 = .ok (.aload_n 0, 1) := by decide +kernel
theorem dX9_sign_41 : decode cX9_sign 41 = .ok (.getfield 23, 3) := by decide +kernel
theorem dX9_sign_44 : decode cX9_sign 44 = .ok (.iload 4, 2) := by decide +kernel
theorem dX9_sign_46 : decode cX9_sign 46 = .ok (.laload, 1) := by decide +kernel
theorem dX9_sign_47 : decode cX9_sign 47 = .ok (.bipush 14, 2) := by decide +kernel
theorem dX9_sign_49 : decode cX9_sign 49 = .ok (.invokestatic 165, 3) := by decide +kernel
theorem dX9_sign_52 : decode cX9_sign 52 = .ok (.istore 5, 2) := by decide +kernel
theorem dX9_sign_54 : decode cX9_sign 54 = .ok (.iconst 0, 1) := by decide +kernel
theorem dX9_sign_55 : decode cX9_sign 55 = .ok (.istore 6, 2) := by decide +kernel
theorem dX9_sign_57 : decode cX9_sign 57 = .ok (.iload 6, 2) := by decide +kernel
theorem dX9_sign_59 : decode cX9_sign 59 = .ok (.iload 5, 2) := by decide +kernel
theorem dX9_sign_61 : decode cX9_sign 61 = .ok (.if_icmp .ge 57, 3) := by decide +kernel
theorem dX9_sign_64 : decode cX9_sign 64 = .ok (.iload_n 2, 1) := by decide +kernel
theorem dX9_sign_65 : decode cX9_sign 65 = .ok (.iload_n 1, 1) := by decide +kernel
theorem dX9_sign_66 : decode cX9_sign 66 = .ok (.if_icmp .ne 43, 3) := by decide +kernel
theorem dX9_sign_69 : decode cX9_sign 69 = .ok (.iload 4, 2) := by decide +kernel
theorem dX9_sign_71 : decode cX9_sign 71 = .ok (.bipush 60, 2) := by decide +kernel
theorem dX9_sign_73 : decode cX9_sign 73 = .ok (.if_icmp .ne 21, 3) := by decide +kernel
theorem dX9_sign_76 : decode cX9_sign 76 = .ok (.sipush 20000, 3) := by decide +kernel
theorem dX9_sign_79 : decode cX9_sign 79 = .ok (.aload_n 0, 1) := by decide +kernel
theorem dX9_sign_80 : decode cX9_sign 80 = .ok (.getfield 63, 3) := by decide +kernel
theorem dX9_sign_83 : decode cX9_sign 83 = .ok (.aload_n 0, 1) := by decide +kernel
theorem dX9_sign_84 : decode cX9_sign 84 = .ok (.getfield 130, 3) := by decide +kernel
theorem dX9_sign_87 : decode cX9_sign 87 = .ok (.iload_n 3, 1) := by decide +kernel
theorem dX9_sign_88 : decode cX9_sign 88 = .ok (.iaload, 1) := by decide +kernel
theorem dX9_sign_89 : decode cX9_sign 89 = .ok (.iaload, 1) := by decide +kernel
theorem dX9_sign_90 : decode cX9_sign 90 = .ok (.iadd, 1) := by decide +kernel
theorem dX9_sign_91 : decode cX9_sign 91 = .ok (.goto 17, 3) := by decide +kernel
theorem dX9_sign_94 : decode cX9_sign 94 = .ok (.aload_n 0, 1) := by decide +kernel
theorem dX9_sign_95 : decode cX9_sign 95 = .ok (.getfield 23, 3) := by decide +kernel
theorem dX9_sign_98 : decode cX9_sign 98 = .ok (.iload 4, 2) := by decide +kernel
theorem dX9_sign_100 : decode cX9_sign 100 = .ok (.laload, 1) := by decide +kernel
theorem dX9_sign_101 : decode cX9_sign 101 = .ok (.bipush 14, 2) := by decide +kernel
theorem dX9_sign_103 : decode cX9_sign 103 = .ok (.iload 6, 2) := by decide +kernel
theorem dX9_sign_105 : decode cX9_sign 105 = .ok (.invokestatic 161, 3) := by decide +kernel
theorem dX9_sign_108 : decode cX9_sign 108 = .ok (.ireturn, 1) := by decide +kernel
theorem dX9_sign_109 : decode cX9_sign 109 = .ok (.iinc 2 1, 3) := by decide +kernel
theorem dX9_sign_112 : decode cX9_sign 112 = .ok (.iinc 6 1, 3) := by decide +kernel
theorem dX9_sign_115 : decode cX9_sign 115 = .ok (.goto (-58), 3) := by decide +kernel
theorem dX9_sign_118 : decode cX9_sign 118 = .ok (.aload_n 0, 1) := by decide +kernel
theorem dX9_sign_119 : decode cX9_sign 119 = .ok (.getfield 139, 3) := by decide +kernel
theorem dX9_sign_122 : decode cX9_sign 122 = .ok (.iload_n 3, 1) := by decide +kernel
theorem dX9_sign_123 : decode cX9_sign 123 = .ok (.iaload, 1) := by decide +kernel
theorem dX9_sign_124 : decode cX9_sign 124 = .ok (.iconst (-1), 1) := by decide +kernel
theorem dX9_sign_125 : decode cX9_sign 125 = .ok (.if_icmp .ne 6, 3) := by decide +kernel
theorem dX9_sign_128 : decode cX9_sign 128 = .ok (.goto 23, 3) := by decide +kernel
theorem dX9_sign_131 : decode cX9_sign 131 = .ok (.iload_n 2, 1) := by decide +kernel
theorem dX9_sign_132 : decode cX9_sign 132 = .ok (.iload_n 1, 1) := by decide +kernel
theorem dX9_sign_133 : decode cX9_sign 133 = .ok (.if_icmp .ne 15, 3) := by decide +kernel
theorem dX9_sign_136 : decode cX9_sign 136 = .ok (.aload_n 0, 1) := by decide +kernel
theorem dX9_sign_137 : decode cX9_sign 137 = .ok (.getfield 38, 3) := by decide +kernel
theorem dX9_sign_140 : decode cX9_sign 140 = .ok (.aload_n 0, 1) := by decide +kernel
theorem dX9_sign_141 : decode cX9_sign 141 = .ok (.getfield 139, 3) := by decide +kernel
theorem dX9_sign_144 : decode cX9_sign 144 = .ok (.iload_n 3, 1) := by decide +kernel
theorem dX9_sign_145 : decode cX9_sign 145 = .ok (.iaload, 1) := by decide +kernel
theorem dX9_sign_146 : decode cX9_sign 146 = .ok (.iaload, 1) := by decide +kernel
theorem dX9_sign_147 : decode cX9_sign 147 = .ok (.ireturn, 1) := by decide +kernel
theorem dX9_sign_148 : decode cX9_sign 148 = .ok (.iinc 2 1, 3) := by decide +kernel
theorem dX9_sign_151 : decode cX9_sign 151 = .ok (.iinc 3 1, 3) := by decide +kernel
theorem dX9_sign_154 : decode cX9_sign 154 = .ok (.goto (-141), 3) := by decide +kernel
theorem dX9_sign_157 : decode cX9_sign 157 = .ok (.iload_n 1, 1) := by decide +kernel
theorem dX9_sign_158 : decode cX9_sign 158 = .ok (.iconst (-1), 1) := by decide +kernel
theorem dX9_sign_159 : decode cX9_sign 159 = .ok (.if_icmp .ne 7, 3) := by decide +kernel
theorem dX9_sign_162 : decode cX9_sign 162 = .ok (.iload_n 2, 1) := by decide +kernel
theorem dX9_sign_163 : decode cX9_sign 163 = .ok (.goto 7, 3) := by decide +kernel
theorem dX9_sign_166 : decode cX9_sign 166 = .ok (.aload_n 0, 1) := by decide +kernel
theorem dX9_sign_167 : decode cX9_sign 167 = .ok (.invokevirtual 173, 3) := by decide +kernel
theorem dX9_sign_170 : decode cX9_sign 170 = .ok (.ireturn, 1) := by decide +kernel
set_option maxRecDepth 20000 in
theorem ggX9_choose0_X9_costOf : GoodIn wsX9_choose0 wsX9_costOf := goodIn_r _ [12, 13, 7, 14, 15, 16, 17, 18, 19, 20, 21, 11, 22, 23, 24, 25, 62, 63, 64, 65, 66, 67, 68, 69, 70, 71, 72, 73, 74, 75, 76, 77, 78, 79, 80, 81, 82, 83, 84, 85, 86, 87, 88, 89, 90, 91, 92, 93, 94, 95, 96, 97, 98, 99, 100, 101, 102, 103, 104, 105, 106, 107, 108, 109, 110, 111, 112, 113, 114, 115, 116, 117, 118, 119, 120, 121, 122] (by decide +kernel) (by decide +kernel)
set_option maxRecDepth 20000 in
theorem gX9_choose0_X9_costOf : GoodIn wsX9_choose0 (wsV RX9 254 RX9 yX9_costOf wsX9_costOf) := goodIn_app (goodIn_of _ (by decide +kernel)) ggX9_choose0_X9_costOf
set_option maxRecDepth 20000 in
theorem ggX9_choose0_X9_kindOf : GoodIn wsX9_choose0 wsX9_kindOf := goodIn_r _ [29, 30, 62, 63, 64, 65, 66, 67, 68, 69, 70, 71, 72, 73, 74, 75, 76, 77, 78, 79, 80, 81, 82, 83, 84, 85, 86, 87, 88, 89, 90, 91, 92, 93, 94, 95, 96, 97, 98, 99, 100, 101, 102, 103, 104, 105, 106, 107, 108, 109, 110, 111, 112, 113, 114, 115, 116, 117, 118, 119, 120, 121, 122] (by decide +kernel) (by decide +kernel)
set_option maxRecDepth 20000 in
theorem gX9_choose0_X9_kindOf : GoodIn wsX9_choose0 (wsV RX9 244 RX9 yX9_kindOf wsX9_kindOf) := goodIn_app (goodIn_of _ (by decide +kernel)) ggX9_choose0_X9_kindOf
set_option maxRecDepth 20000 in
theorem ggX9_choose0_X9_leastAhead : GoodIn wsX9_choose0 wsX9_leastAhead := goodIn_r _ [34, 7, 35, 36, 37, 38, 39, 40, 41, 11, 42, 43, 44, 45, 46, 47, 48, 23, 24, 25, 62, 63, 64, 65, 66, 67, 68, 69, 70, 71, 72, 73, 74, 75, 76, 77, 78, 79, 80, 81, 82, 83, 84, 85, 86, 87, 88, 89, 90, 91, 92, 93, 94, 95, 96, 97, 98, 99, 100, 101, 102, 103, 104, 105, 106, 107, 108, 109, 110, 111, 112, 113, 114, 115, 116, 117, 118, 119, 120, 121, 122] (by decide +kernel) (by decide +kernel)
set_option maxRecDepth 20000 in
theorem gX9_choose0_X9_leastAhead : GoodIn wsX9_choose0 (wsV RX9 269 RX9 yX9_leastAhead wsX9_leastAhead) := goodIn_app (goodIn_of _ (by decide +kernel)) ggX9_choose0_X9_leastAhead
set_option maxRecDepth 20000 in
theorem ggX9_choose0_X9_at : GoodIn wsX9_choose0 wsX9_at := goodIn_r _ [42] (by decide +kernel) (by decide +kernel)
set_option maxRecDepth 20000 in
theorem gX9_choose0_X9_at : GoodIn wsX9_choose0 (va_wsS RX9 222 yX9_at wsX9_at) := goodIn_app (goodIn_of _ (by decide +kernel)) ggX9_choose0_X9_at
set_option maxRecDepth 20000 in
theorem ggX9_choose0_X9_isLet : GoodIn wsX9_choose0 wsX9_isLet := goodIn_r _ [52, 53, 54, 62, 63, 64, 65, 66, 67, 68, 69, 70, 71, 72, 73, 74, 75, 76, 77, 78, 79, 80, 81, 82, 83, 84, 85, 86, 87, 88, 89, 90, 91, 92, 93, 94, 95, 96, 97, 98, 99, 100, 101, 102, 103, 104, 105, 106, 107, 108, 109, 110, 111, 112, 113, 114, 115, 116, 117, 118, 119, 120, 121, 122] (by decide +kernel) (by decide +kernel)
set_option maxRecDepth 20000 in
theorem gX9_choose0_X9_isLet : GoodIn wsX9_choose0 (wsV RX9 212 RX9 yX9_isLet wsX9_isLet) := goodIn_app (goodIn_of _ (by decide +kernel)) ggX9_choose0_X9_isLet
set_option maxRecDepth 20000 in
theorem ggX9_choose0_X9_put : GoodIn wsX9_choose0 wsX9_put := goodIn_r _ [58, 1, 59, 60, 61, 62, 63, 64, 65, 66, 67, 68, 69, 70, 71, 72, 73, 74, 75, 76, 77, 78, 79, 80, 81, 82, 83, 84, 85, 86, 87, 88, 89, 90, 91, 92, 93, 94, 95, 96, 97, 98, 99, 100, 101, 102, 103, 104, 105, 106, 107, 108, 109, 110, 111, 112, 113, 114, 115, 116, 117, 118, 119, 120, 121, 122] (by decide +kernel) (by decide +kernel)
set_option maxRecDepth 20000 in
theorem gX9_choose0_X9_put : GoodIn wsX9_choose0 (wsV RX9 286 RX9 yX9_put wsX9_put) := goodIn_app (goodIn_of _ (by decide +kernel)) ggX9_choose0_X9_put
theorem dX9_choose0_0 : decode cX9_choose0 0 = .ok (.aload_n 0, 1) := by decide +kernel
theorem dX9_choose0_1 : decode cX9_choose0 1 = .ok (.iconst 0, 1) := by decide +kernel
theorem dX9_choose0_2 : decode cX9_choose0 2 = .ok (.putfield 283, 3) := by decide +kernel
theorem dX9_choose0_5 : decode cX9_choose0 5 = .ok (.aload_n 0, 1) := by decide +kernel
theorem dX9_choose0_6 : decode cX9_choose0 6 = .ok (.getfield 130, 3) := by decide +kernel
theorem dX9_choose0_9 : decode cX9_choose0 9 = .ok (.iload_n 1, 1) := by decide +kernel
theorem dX9_choose0_10 : decode cX9_choose0 10 = .ok (.iaload, 1) := by decide +kernel
theorem dX9_choose0_11 : decode cX9_choose0 11 = .ok (.istore_n 2, 1) := by decide +kernel
theorem dX9_choose0_12 : decode cX9_choose0 12 = .ok (.aload_n 0, 1) := by decide +kernel
theorem dX9_choose0_13 : decode cX9_choose0 13 = .ok (.getfield 133, 3) := by decide +kernel
theorem dX9_choose0_16 : decode cX9_choose0 16 = .ok (.iload_n 1, 1) := by decide +kernel
theorem dX9_choose0_17 : decode cX9_choose0 17 = .ok (.iaload, 1) := by decide +kernel
theorem dX9_choose0_18 : decode cX9_choose0 18 = .ok (.istore_n 3, 1) := by decide +kernel
theorem dX9_choose0_19 : decode cX9_choose0 19 = .ok (.iconst 0, 1) := by decide +kernel
theorem dX9_choose0_20 : decode cX9_choose0 20 = .ok (.istore 4, 2) := by decide +kernel
theorem dX9_choose0_22 : decode cX9_choose0 22 = .ok (.iload 4, 2) := by decide +kernel
theorem dX9_choose0_24 : decode cX9_choose0 24 = .ok (.bipush 60, 2) := by decide +kernel
theorem dX9_choose0_26 : decode cX9_choose0 26 = .ok (.if_icmp .gt 148, 3) := by decide +kernel
theorem dX9_choose0_29 : decode cX9_choose0 29 = .ok (.iload 4, 2) := by decide +kernel
theorem dX9_choose0_31 : decode cX9_choose0 31 = .ok (.aload_n 0, 1) := by decide +kernel
theorem dX9_choose0_32 : decode cX9_choose0 32 = .ok (.getfield 180, 3) := by decide +kernel
theorem dX9_choose0_35 : decode cX9_choose0 35 = .ok (.if_icmp .lt 13, 3) := by decide +kernel
theorem dX9_choose0_38 : decode cX9_choose0 38 = .ok (.iload 4, 2) := by decide +kernel
theorem dX9_choose0_40 : decode cX9_choose0 40 = .ok (.bipush 60, 2) := by decide +kernel
theorem dX9_choose0_42 : decode cX9_choose0 42 = .ok (.if_icmp .ge 6, 3) := by decide +kernel
theorem dX9_choose0_45 : decode cX9_choose0 45 = .ok (.goto 123, 3) := by decide +kernel
theorem dX9_choose0_48 : decode cX9_choose0 48 = .ok (.iconst (-1), 1) := by decide +kernel
theorem dX9_choose0_49 : decode cX9_choose0 49 = .ok (.istore 5, 2) := by decide +kernel
theorem dX9_choose0_51 : decode cX9_choose0 51 = .ok (.iload 5, 2) := by decide +kernel
theorem dX9_choose0_53 : decode cX9_choose0 53 = .ok (.iload 4, 2) := by decide +kernel
theorem dX9_choose0_55 : decode cX9_choose0 55 = .ok (.bipush 60, 2) := by decide +kernel
theorem dX9_choose0_57 : decode cX9_choose0 57 = .ok (.if_icmp .ne 7, 3) := by decide +kernel
theorem dX9_choose0_60 : decode cX9_choose0 60 = .ok (.iconst 0, 1) := by decide +kernel
theorem dX9_choose0_61 : decode cX9_choose0 61 = .ok (.goto 7, 3) := by decide +kernel
theorem dX9_choose0_64 : decode cX9_choose0 64 = .ok (.aload_n 0, 1) := by decide +kernel
theorem dX9_choose0_65 : decode cX9_choose0 65 = .ok (.getfield 183, 3) := by decide +kernel
theorem dX9_choose0_68 : decode cX9_choose0 68 = .ok (.if_icmp .ge 100, 3) := by decide +kernel
theorem dX9_choose0_71 : decode cX9_choose0 71 = .ok (.aload_n 0, 1) := by decide +kernel
theorem dX9_choose0_72 : decode cX9_choose0 72 = .ok (.iload_n 2, 1) := by decide +kernel
theorem dX9_choose0_73 : decode cX9_choose0 73 = .ok (.iload_n 3, 1) := by decide +kernel
theorem dX9_choose0_74 : decode cX9_choose0 74 = .ok (.iload 4, 2) := by decide +kernel
theorem dX9_choose0_76 : decode cX9_choose0 76 = .ok (.iload 5, 2) := by decide +kernel
theorem dX9_choose0_78 : decode cX9_choose0 78 = .ok (.invokevirtual 254, 3) := by decide +kernel
theorem dX9_choose0_81 : decode cX9_choose0 81 = .ok (.istore 6, 2) := by decide +kernel
theorem dX9_choose0_83 : decode cX9_choose0 83 = .ok (.aload_n 0, 1) := by decide +kernel
theorem dX9_choose0_84 : decode cX9_choose0 84 = .ok (.iload_n 2, 1) := by decide +kernel
theorem dX9_choose0_85 : decode cX9_choose0 85 = .ok (.aload_n 0, 1) := by decide +kernel
theorem dX9_choose0_86 : decode cX9_choose0 86 = .ok (.iload 4, 2) := by decide +kernel
theorem dX9_choose0_88 : decode cX9_choose0 88 = .ok (.invokevirtual 244, 3) := by decide +kernel
theorem dX9_choose0_91 : decode cX9_choose0 91 = .ok (.invokevirtual 269, 3) := by decide +kernel
theorem dX9_choose0_94 : decode cX9_choose0 94 = .ok (.istore 7, 2) := by decide +kernel
theorem dX9_choose0_96 : decode cX9_choose0 96 = .ok (.aload_n 0, 1) := by decide +kernel
theorem dX9_choose0_97 : decode cX9_choose0 97 = .ok (.getfield 124, 3) := by decide +kernel
theorem dX9_choose0_100 : decode cX9_choose0 100 = .ok (.iload_n 3, 1) := by decide +kernel
theorem dX9_choose0_101 : decode cX9_choose0 101 = .ok (.aload_n 0, 1) := by decide +kernel
theorem dX9_choose0_102 : decode cX9_choose0 102 = .ok (.iload 4, 2) := by decide +kernel
theorem dX9_choose0_104 : decode cX9_choose0 104 = .ok (.invokevirtual 244, 3) := by decide +kernel
theorem dX9_choose0_107 : decode cX9_choose0 107 = .ok (.invokestatic 222, 3) := by decide +kernel
theorem dX9_choose0_110 : decode cX9_choose0 110 = .ok (.iaload, 1) := by decide +kernel
theorem dX9_choose0_111 : decode cX9_choose0 111 = .ok (.istore 8, 2) := by decide +kernel
theorem dX9_choose0_113 : decode cX9_choose0 113 = .ok (.iload 6, 2) := by decide +kernel
theorem dX9_choose0_115 : decode cX9_choose0 115 = .ok (.ldc 186, 2) := by decide +kernel
theorem dX9_choose0_117 : decode cX9_choose0 117 = .ok (.if_icmp .ge 45, 3) := by decide +kernel
theorem dX9_choose0_120 : decode cX9_choose0 120 = .ok (.iload 7, 2) := by decide +kernel
theorem dX9_choose0_122 : decode cX9_choose0 122 = .ok (.ldc 186, 2) := by decide +kernel
theorem dX9_choose0_124 : decode cX9_choose0 124 = .ok (.if_icmp .ge 38, 3) := by decide +kernel
theorem dX9_choose0_127 : decode cX9_choose0 127 = .ok (.iload 8, 2) := by decide +kernel
theorem dX9_choose0_129 : decode cX9_choose0 129 = .ok (.ldc 186, 2) := by decide +kernel
theorem dX9_choose0_131 : decode cX9_choose0 131 = .ok (.if_icmp .ge 31, 3) := by decide +kernel
theorem dX9_choose0_134 : decode cX9_choose0 134 = .ok (.aload_n 0, 1) := by decide +kernel
theorem dX9_choose0_135 : decode cX9_choose0 135 = .ok (.iload_n 2, 1) := by decide +kernel
theorem dX9_choose0_136 : decode cX9_choose0 136 = .ok (.iload_n 3, 1) := by decide +kernel
theorem dX9_choose0_137 : decode cX9_choose0 137 = .ok (.invokevirtual 212, 3) := by decide +kernel
theorem dX9_choose0_140 : decode cX9_choose0 140 = .ok (.ifCond .ne 6, 3) := by decide +kernel
theorem dX9_choose0_143 : decode cX9_choose0 143 = .ok (.goto 19, 3) := by decide +kernel
theorem dX9_choose0_146 : decode cX9_choose0 146 = .ok (.aload_n 0, 1) := by decide +kernel
theorem dX9_choose0_147 : decode cX9_choose0 147 = .ok (.iload 4, 2) := by decide +kernel
theorem dX9_choose0_149 : decode cX9_choose0 149 = .ok (.iload 5, 2) := by decide +kernel
theorem dX9_choose0_151 : decode cX9_choose0 151 = .ok (.iload 6, 2) := by decide +kernel
theorem dX9_choose0_153 : decode cX9_choose0 153 = .ok (.iload 7, 2) := by decide +kernel
theorem dX9_choose0_155 : decode cX9_choose0 155 = .ok (.iadd, 1) := by decide +kernel
theorem dX9_choose0_156 : decode cX9_choose0 156 = .ok (.iload 8, 2) := by decide +kernel
theorem dX9_choose0_158 : decode cX9_choose0 158 = .ok (.iadd, 1) := by decide +kernel
theorem dX9_choose0_159 : decode cX9_choose0 159 = .ok (.invokevirtual 286, 3) := by decide +kernel
theorem dX9_choose0_162 : decode cX9_choose0 162 = .ok (.iinc 5 1, 3) := by decide +kernel
theorem dX9_choose0_165 : decode cX9_choose0 165 = .ok (.goto (-114), 3) := by decide +kernel
theorem dX9_choose0_168 : decode cX9_choose0 168 = .ok (.iinc 4 1, 3) := by decide +kernel
theorem dX9_choose0_171 : decode cX9_choose0 171 = .ok (.goto (-149), 3) := by decide +kernel
theorem dX9_choose0_174 : decode cX9_choose0 174 = .ok (.return_, 1) := by decide +kernel
theorem dX9_put_0 : decode cX9_put 0 = .ok (.aload_n 0, 1) := by decide +kernel
theorem dX9_put_1 : decode cX9_put 1 = .ok (.getfield 283, 3) := by decide +kernel
theorem dX9_put_4 : decode cX9_put 4 = .ok (.istore 4, 2) := by decide +kernel
theorem dX9_put_6 : decode cX9_put 6 = .ok (.iload 4, 2) := by decide +kernel
theorem dX9_put_8 : decode cX9_put 8 = .ok (.ifCond .le 22, 3) := by decide +kernel
theorem dX9_put_11 : decode cX9_put 11 = .ok (.aload_n 0, 1) := by decide +kernel
theorem dX9_put_12 : decode cX9_put 12 = .ok (.getfield 148, 3) := by decide +kernel
theorem dX9_put_15 : decode cX9_put 15 = .ok (.iload 4, 2) := by decide +kernel
theorem dX9_put_17 : decode cX9_put 17 = .ok (.iconst 1, 1) := by decide +kernel
theorem dX9_put_18 : decode cX9_put 18 = .ok (.isub, 1) := by decide +kernel
theorem dX9_put_19 : decode cX9_put 19 = .ok (.iaload, 1) := by decide +kernel
theorem dX9_put_20 : decode cX9_put 20 = .ok (.iload_n 3, 1) := by decide +kernel
theorem dX9_put_21 : decode cX9_put 21 = .ok (.if_icmp .le 9, 3) := by decide +kernel
theorem dX9_put_24 : decode cX9_put 24 = .ok (.iinc 4 (-1), 3) := by decide +kernel
theorem dX9_put_27 : decode cX9_put 27 = .ok (.goto (-21), 3) := by decide +kernel
theorem dX9_put_30 : decode cX9_put 30 = .ok (.iload 4, 2) := by decide +kernel
theorem dX9_put_32 : decode cX9_put 32 = .ok (.bipush 12, 2) := by decide +kernel
theorem dX9_put_34 : decode cX9_put 34 = .ok (.if_icmp .ne 4, 3) := by decide +kernel
theorem dX9_put_37 : decode cX9_put 37 = .ok (.return_, 1) := by decide +kernel
theorem dX9_put_38 : decode cX9_put 38 = .ok (.aload_n 0, 1) := by decide +kernel
theorem dX9_put_39 : decode cX9_put 39 = .ok (.getfield 283, 3) := by decide +kernel
theorem dX9_put_42 : decode cX9_put 42 = .ok (.bipush 12, 2) := by decide +kernel
theorem dX9_put_44 : decode cX9_put 44 = .ok (.if_icmp .ge 13, 3) := by decide +kernel
theorem dX9_put_47 : decode cX9_put 47 = .ok (.aload_n 0, 1) := by decide +kernel
theorem dX9_put_48 : decode cX9_put 48 = .ok (.dup, 1) := by decide +kernel
theorem dX9_put_49 : decode cX9_put 49 = .ok (.getfield 283, 3) := by decide +kernel
theorem dX9_put_52 : decode cX9_put 52 = .ok (.iconst 1, 1) := by decide +kernel
theorem dX9_put_53 : decode cX9_put 53 = .ok (.iadd, 1) := by decide +kernel
theorem dX9_put_54 : decode cX9_put 54 = .ok (.putfield 283, 3) := by decide +kernel
theorem dX9_put_57 : decode cX9_put 57 = .ok (.aload_n 0, 1) := by decide +kernel
theorem dX9_put_58 : decode cX9_put 58 = .ok (.getfield 283, 3) := by decide +kernel
theorem dX9_put_61 : decode cX9_put 61 = .ok (.iconst 1, 1) := by decide +kernel
theorem dX9_put_62 : decode cX9_put 62 = .ok (.isub, 1) := by decide +kernel
theorem dX9_put_63 : decode cX9_put 63 = .ok (.istore 5, 2) := by decide +kernel
theorem dX9_put_65 : decode cX9_put 65 = .ok (.iload 5, 2) := by decide +kernel
theorem dX9_put_67 : decode cX9_put 67 = .ok (.iload 4, 2) := by decide +kernel
theorem dX9_put_69 : decode cX9_put 69 = .ok (.if_icmp .le 57, 3) := by decide +kernel
theorem dX9_put_72 : decode cX9_put 72 = .ok (.aload_n 0, 1) := by decide +kernel
theorem dX9_put_73 : decode cX9_put 73 = .ok (.getfield 142, 3) := by decide +kernel
theorem dX9_put_76 : decode cX9_put 76 = .ok (.iload 5, 2) := by decide +kernel
theorem dX9_put_78 : decode cX9_put 78 = .ok (.aload_n 0, 1) := by decide +kernel
theorem dX9_put_79 : decode cX9_put 79 = .ok (.getfield 142, 3) := by decide +kernel
theorem dX9_put_82 : decode cX9_put 82 = .ok (.iload 5, 2) := by decide +kernel
theorem dX9_put_84 : decode cX9_put 84 = .ok (.iconst 1, 1) := by decide +kernel
theorem dX9_put_85 : decode cX9_put 85 = .ok (.isub, 1) := by decide +kernel
theorem dX9_put_86 : decode cX9_put 86 = .ok (.iaload, 1) := by decide +kernel
theorem dX9_put_87 : decode cX9_put 87 = .ok (.iastore, 1) := by decide +kernel
theorem dX9_put_88 : decode cX9_put 88 = .ok (.aload_n 0, 1) := by decide +kernel
theorem dX9_put_89 : decode cX9_put 89 = .ok (.getfield 145, 3) := by decide +kernel
theorem dX9_put_92 : decode cX9_put 92 = .ok (.iload 5, 2) := by decide +kernel
theorem dX9_put_94 : decode cX9_put 94 = .ok (.aload_n 0, 1) := by decide +kernel
theorem dX9_put_95 : decode cX9_put 95 = .ok (.getfield 145, 3) := by decide +kernel
theorem dX9_put_98 : decode cX9_put 98 = .ok (.iload 5, 2) := by decide +kernel
theorem dX9_put_100 : decode cX9_put 100 = .ok (.iconst 1, 1) := by decide +kernel
theorem dX9_put_101 : decode cX9_put 101 = .ok (.isub, 1) := by decide +kernel
theorem dX9_put_102 : decode cX9_put 102 = .ok (.iaload, 1) := by decide +kernel
theorem dX9_put_103 : decode cX9_put 103 = .ok (.iastore, 1) := by decide +kernel
theorem dX9_put_104 : decode cX9_put 104 = .ok (.aload_n 0, 1) := by decide +kernel
theorem dX9_put_105 : decode cX9_put 105 = .ok (.getfield 148, 3) := by decide +kernel
theorem dX9_put_108 : decode cX9_put 108 = .ok (.iload 5, 2) := by decide +kernel
theorem dX9_put_110 : decode cX9_put 110 = .ok (.aload_n 0, 1) := by decide +kernel
theorem dX9_put_111 : decode cX9_put 111 = .ok (.getfield 148, 3) := by decide +kernel
theorem dX9_put_114 : decode cX9_put 114 = .ok (.iload 5, 2) := by decide +kernel
theorem dX9_put_116 : decode cX9_put 116 = .ok (.iconst 1, 1) := by decide +kernel
theorem dX9_put_117 : decode cX9_put 117 = .ok (.isub, 1) := by decide +kernel
theorem dX9_put_118 : decode cX9_put 118 = .ok (.iaload, 1) := by decide +kernel
theorem dX9_put_119 : decode cX9_put 119 = .ok (.iastore, 1) := by decide +kernel
theorem dX9_put_120 : decode cX9_put 120 = .ok (.iinc 5 (-1), 3) := by decide +kernel
theorem dX9_put_123 : decode cX9_put 123 = .ok (.goto (-58), 3) := by decide +kernel
theorem dX9_put_126 : decode cX9_put 126 = .ok (.aload_n 0, 1) := by decide +kernel
theorem dX9_put_127 : decode cX9_put 127 = .ok (.getfield 142, 3) := by decide +kernel
theorem dX9_put_130 : decode cX9_put 130 = .ok (.iload 4, 2) := by decide +kernel
theorem dX9_put_132 : decode cX9_put 132 = .ok (.iload_n 1, 1) := by decide +kernel
theorem dX9_put_133 : decode cX9_put 133 = .ok (.iastore, 1) := by decide +kernel
theorem dX9_put_134 : decode cX9_put 134 = .ok (.aload_n 0, 1) := by decide +kernel
theorem dX9_put_135 : decode cX9_put 135 = .ok (.getfield 145, 3) := by decide +kernel
theorem dX9_put_138 : decode cX9_put 138 = .ok (.iload 4, 2) := by decide +kernel
theorem dX9_put_140 : decode cX9_put 140 = .ok (.iload_n 2, 1) := by decide +kernel
theorem dX9_put_141 : decode cX9_put 141 = .ok (.iastore, 1) := by decide +kernel
theorem dX9_put_142 : decode cX9_put 142 = .ok (.aload_n 0, 1) := by decide +kernel
theorem dX9_put_143 : decode cX9_put 143 = .ok (.getfield 148, 3) := by decide +kernel
theorem dX9_put_146 : decode cX9_put 146 = .ok (.iload 4, 2) := by decide +kernel
theorem dX9_put_148 : decode cX9_put 148 = .ok (.iload_n 3, 1) := by decide +kernel
theorem dX9_put_149 : decode cX9_put 149 = .ok (.iastore, 1) := by decide +kernel
theorem dX9_put_150 : decode cX9_put 150 = .ok (.return_, 1) := by decide +kernel
set_option maxRecDepth 20000 in
theorem ggX9_choices_X9_read : GoodIn wsX9_choices wsX9_read := goodIn_r _ [8, 9, 10, 11, 12, 13, 14, 2, 15, 16, 17, 18, 19, 20, 21, 22, 7, 23, 24, 25, 26, 27, 28, 29, 30, 31, 32, 33, 34, 35, 36, 37, 38, 39, 40, 41, 42, 43, 44, 45, 46, 47, 48, 49, 50, 51, 52, 53, 54, 55, 56, 57, 58, 59, 60, 61, 62, 63, 64, 65, 66, 67, 68, 69, 70, 71, 72, 73, 74, 75, 76, 77, 78, 79, 80, 81, 82, 83, 84, 85, 86, 87, 88, 89, 90, 91, 92, 93, 94, 95, 96, 97, 98, 99, 100, 101, 102, 103, 104, 105, 106, 107, 108, 109, 110, 111, 112, 113, 114, 115, 116, 117, 118, 119, 120, 136, 137, 138, 139, 140, 141, 142, 143, 144, 145, 146, 147, 148, 149, 150, 151, 152, 153, 154, 155, 156, 157, 158, 159, 160, 161, 162, 163, 164, 165, 166, 167, 168, 169, 170, 171, 172, 173, 174, 175, 176, 177, 178, 179, 180, 181, 182, 183, 184, 185, 186, 187, 188, 189, 190, 191, 192, 193, 194, 195, 196] (by decide +kernel) (by decide +kernel)
set_option maxRecDepth 20000 in
theorem gX9_choices_X9_read : GoodIn wsX9_choices (wsV RX9 275 RX9 yX9_read wsX9_read) := goodIn_app (goodIn_of _ (by decide +kernel)) ggX9_choices_X9_read
set_option maxRecDepth 20000 in
theorem ggX9_choices_X9_fail : GoodIn wsX9_choices wsX9_fail := goodIn_r _ [124, 1, 136, 137, 138, 139, 140, 141, 142, 143, 144, 145, 146, 147, 148, 149, 150, 151, 152, 153, 154, 155, 156, 157, 158, 159, 160, 161, 162, 163, 164, 165, 166, 167, 168, 169, 170, 171, 172, 173, 174, 175, 176, 177, 178, 179, 180, 181, 182, 183, 184, 185, 186, 187, 188, 189, 190, 191, 192, 193, 194, 195, 196] (by decide +kernel) (by decide +kernel)
set_option maxRecDepth 20000 in
theorem gX9_choices_X9_fail : GoodIn wsX9_choices (wsV RX9 173 RX9 yX9_fail wsX9_fail) := goodIn_app (goodIn_of _ (by decide +kernel)) ggX9_choices_X9_fail
set_option maxRecDepth 20000 in
theorem ggX9_choices_X9_choose0 : GoodIn wsX9_choices wsX9_choose0 := goodIn_r _ [128, 3, 70, 18, 24, 27, 11, 13, 72, 73, 74, 7, 75, 76, 28, 29, 30, 77, 78, 79, 52, 53, 54, 80, 81, 82, 83, 84, 85, 86, 87, 117, 118, 119, 120, 112, 48, 49, 50, 51, 59, 60, 61, 102, 103, 104, 105, 106, 107, 97, 98, 99, 100, 101, 12, 129, 130, 131, 132, 133, 134, 135, 136, 137, 138, 139, 140, 141, 142, 143, 144, 145, 146, 147, 148, 149, 150, 151, 152, 153, 154, 155, 156, 157, 158, 159, 160, 161, 162, 163, 164, 165, 166, 167, 168, 169, 170, 171, 172, 173, 174, 175, 176, 177, 178, 179, 180, 181, 182, 183, 184, 185, 186, 187, 188, 189, 190, 191, 192, 193, 194, 195, 196] (by decide +kernel) (by decide +kernel)
set_option maxRecDepth 20000 in
theorem gX9_choices_X9_choose0 : GoodIn wsX9_choices (wsV RX9 290 RX9 yX9_choose0 wsX9_choose0) := goodIn_app (goodIn_of _ (by decide +kernel)) ggX9_choices_X9_choose0
theorem dX9_choices_0 : decode cX9_choices 0 = .ok (.aload_n 0, 1) := by decide +kernel
theorem dX9_choices_1 : decode cX9_choices 1 = .ok (.iconst 0, 1) := by decide +kernel
theorem dX9_choices_2 : decode cX9_choices 2 = .ok (.putfield 151, 3) := by decide +kernel
theorem dX9_choices_5 : decode cX9_choices 5 = .ok (.aload_n 0, 1) := by decide +kernel
theorem dX9_choices_6 : decode cX9_choices 6 = .ok (.invokevirtual 275, 3) := by decide +kernel
theorem dX9_choices_9 : decode cX9_choices 9 = .ok (.iload_n 1, 1) := by decide +kernel
theorem dX9_choices_10 : decode cX9_choices 10 = .ok (.ifCond .lt 11, 3) := by decide +kernel
theorem dX9_choices_13 : decode cX9_choices 13 = .ok (.iload_n 1, 1) := by decide +kernel
theorem dX9_choices_14 : decode cX9_choices 14 = .ok (.aload_n 0, 1) := by decide +kernel
theorem dX9_choices_15 : decode cX9_choices 15 = .ok (.getfield 232, 3) := by decide +kernel
theorem dX9_choices_18 : decode cX9_choices 18 = .ok (.if_icmp .lt 8, 3) := by decide +kernel
theorem dX9_choices_21 : decode cX9_choices 21 = .ok (.aload_n 0, 1) := by decide +kernel
theorem dX9_choices_22 : decode cX9_choices 22 = .ok (.invokevirtual 173, 3) := by decide +kernel
theorem dX9_choices_25 : decode cX9_choices 25 = .ok (.ireturn, 1) := by decide +kernel
theorem dX9_choices_26 : decode cX9_choices 26 = .ok (.aload_n 0, 1) := by decide +kernel
theorem dX9_choices_27 : decode cX9_choices 27 = .ok (.iload_n 1, 1) := by decide +kernel
theorem dX9_choices_28 : decode cX9_choices 28 = .ok (.invokevirtual 290, 3) := by decide +kernel
theorem dX9_choices_31 : decode cX9_choices 31 = .ok (.aload_n 0, 1) := by decide +kernel
theorem dX9_choices_32 : decode cX9_choices 32 = .ok (.getfield 283, 3) := by decide +kernel
theorem dX9_choices_35 : decode cX9_choices 35 = .ok (.ireturn, 1) := by decide +kernel
set_option maxRecDepth 20000 in
theorem ggX9_choice_X9_read : GoodIn wsX9_choice wsX9_read := goodIn_r _ [11, 12, 13, 14, 15, 16, 17, 2, 18, 19, 20, 21, 22, 23, 24, 25, 10, 26, 27, 28, 29, 30, 31, 32, 33, 34, 35, 36, 37, 38, 39, 40, 41, 42, 43, 44, 45, 46, 47, 48, 49, 50, 51, 52, 53, 54, 55, 56, 57, 58, 59, 60, 61, 62, 63, 64, 65, 66, 67, 68, 69, 70, 71, 72, 73, 74, 75, 76, 77, 78, 79, 80, 81, 82, 83, 84, 85, 86, 87, 88, 89, 90, 91, 92, 93, 94, 95, 96, 97, 98, 99, 100, 101, 102, 103, 104, 105, 106, 107, 108, 109, 110, 111, 112, 113, 114, 115, 116, 117, 118, 119, 120, 121, 122, 123, 136, 137, 138, 139, 140, 141, 142, 143, 144, 145, 146, 147, 148, 149, 150, 151, 152, 153, 154, 155, 156, 157, 158, 159, 160, 161, 162, 163, 164, 165, 166, 167, 168, 169, 170, 171, 172, 173, 174, 175, 176, 177, 178, 179, 180, 181, 182, 183, 184, 185, 186, 187, 188, 189, 190, 191, 192, 193, 194, 195, 196] (by decide +kernel) (by decide +kernel)
set_option maxRecDepth 20000 in
theorem gX9_choice_X9_read : GoodIn wsX9_choice (wsV RX9 275 RX9 yX9_read wsX9_read) := goodIn_app (goodIn_of _ (by decide +kernel)) ggX9_choice_X9_read
set_option maxRecDepth 20000 in
theorem ggX9_choice_X9_fail : GoodIn wsX9_choice wsX9_fail := goodIn_r _ [127, 1, 136, 137, 138, 139, 140, 141, 142, 143, 144, 145, 146, 147, 148, 149, 150, 151, 152, 153, 154, 155, 156, 157, 158, 159, 160, 161, 162, 163, 164, 165, 166, 167, 168, 169, 170, 171, 172, 173, 174, 175, 176, 177, 178, 179, 180, 181, 182, 183, 184, 185, 186, 187, 188, 189, 190, 191, 192, 193, 194, 195, 196] (by decide +kernel) (by decide +kernel)
set_option maxRecDepth 20000 in
theorem gX9_choice_X9_fail : GoodIn wsX9_choice (wsV RX9 173 RX9 yX9_fail wsX9_fail) := goodIn_app (goodIn_of _ (by decide +kernel)) ggX9_choice_X9_fail
set_option maxRecDepth 20000 in
theorem ggX9_choice_X9_choose0 : GoodIn wsX9_choice wsX9_choose0 := goodIn_r _ [131, 3, 73, 21, 27, 30, 14, 16, 75, 76, 77, 10, 78, 79, 31, 32, 33, 80, 81, 82, 55, 56, 57, 83, 84, 85, 86, 87, 88, 89, 90, 120, 121, 122, 123, 115, 51, 52, 53, 54, 62, 63, 64, 105, 106, 107, 108, 109, 110, 100, 101, 102, 103, 104, 15, 132, 133, 134, 135, 6, 4, 5, 136, 137, 138, 139, 140, 141, 142, 143, 144, 145, 146, 147, 148, 149, 150, 151, 152, 153, 154, 155, 156, 157, 158, 159, 160, 161, 162, 163, 164, 165, 166, 167, 168, 169, 170, 171, 172, 173, 174, 175, 176, 177, 178, 179, 180, 181, 182, 183, 184, 185, 186, 187, 188, 189, 190, 191, 192, 193, 194, 195, 196] (by decide +kernel) (by decide +kernel)
set_option maxRecDepth 20000 in
theorem gX9_choice_X9_choose0 : GoodIn wsX9_choice (wsV RX9 290 RX9 yX9_choose0 wsX9_choose0) := goodIn_app (goodIn_of _ (by decide +kernel)) ggX9_choice_X9_choose0
theorem dX9_choice_0 : decode cX9_choice 0 = .ok (.aload_n 0, 1) := by decide +kernel
theorem dX9_choice_1 : decode cX9_choice 1 = .ok (.iconst 0, 1) := by decide +kernel
theorem dX9_choice_2 : decode cX9_choice 2 = .ok (.putfield 151, 3) := by decide +kernel
theorem dX9_choice_5 : decode cX9_choice 5 = .ok (.aload_n 0, 1) := by decide +kernel
theorem dX9_choice_6 : decode cX9_choice 6 = .ok (.invokevirtual 275, 3) := by decide +kernel
theorem dX9_choice_9 : decode cX9_choice 9 = .ok (.iload_n 1, 1) := by decide +kernel
theorem dX9_choice_10 : decode cX9_choice 10 = .ok (.ifCond .lt 20, 3) := by decide +kernel
theorem dX9_choice_13 : decode cX9_choice 13 = .ok (.iload_n 1, 1) := by decide +kernel
theorem dX9_choice_14 : decode cX9_choice 14 = .ok (.aload_n 0, 1) := by decide +kernel
theorem dX9_choice_15 : decode cX9_choice 15 = .ok (.getfield 232, 3) := by decide +kernel
theorem dX9_choice_18 : decode cX9_choice 18 = .ok (.if_icmp .ge 12, 3) := by decide +kernel
theorem dX9_choice_21 : decode cX9_choice 21 = .ok (.iload_n 3, 1) := by decide +kernel
theorem dX9_choice_22 : decode cX9_choice 22 = .ok (.ifCond .lt 8, 3) := by decide +kernel
theorem dX9_choice_25 : decode cX9_choice 25 = .ok (.iload_n 3, 1) := by decide +kernel
theorem dX9_choice_26 : decode cX9_choice 26 = .ok (.iconst 2, 1) := by decide +kernel
theorem dX9_choice_27 : decode cX9_choice 27 = .ok (.if_icmp .le 8, 3) := by decide +kernel
theorem dX9_choice_30 : decode cX9_choice 30 = .ok (.aload_n 0, 1) := by decide +kernel
theorem dX9_choice_31 : decode cX9_choice 31 = .ok (.invokevirtual 173, 3) := by decide +kernel
theorem dX9_choice_34 : decode cX9_choice 34 = .ok (.ireturn, 1) := by decide +kernel
theorem dX9_choice_35 : decode cX9_choice 35 = .ok (.aload_n 0, 1) := by decide +kernel
theorem dX9_choice_36 : decode cX9_choice 36 = .ok (.iload_n 1, 1) := by decide +kernel
theorem dX9_choice_37 : decode cX9_choice 37 = .ok (.invokevirtual 290, 3) := by decide +kernel
theorem dX9_choice_40 : decode cX9_choice 40 = .ok (.iload_n 2, 1) := by decide +kernel
theorem dX9_choice_41 : decode cX9_choice 41 = .ok (.ifCond .lt 11, 3) := by decide +kernel
theorem dX9_choice_44 : decode cX9_choice 44 = .ok (.iload_n 2, 1) := by decide +kernel
theorem dX9_choice_45 : decode cX9_choice 45 = .ok (.aload_n 0, 1) := by decide +kernel
theorem dX9_choice_46 : decode cX9_choice 46 = .ok (.getfield 283, 3) := by decide +kernel
theorem dX9_choice_49 : decode cX9_choice 49 = .ok (.if_icmp .lt 8, 3) := by decide +kernel
theorem dX9_choice_52 : decode cX9_choice 52 = .ok (.aload_n 0, 1) := by decide +kernel
theorem dX9_choice_53 : decode cX9_choice 53 = .ok (.invokevirtual 173, 3) := by decide +kernel
theorem dX9_choice_56 : decode cX9_choice 56 = .ok (.ireturn, 1) := by decide +kernel
theorem dX9_choice_57 : decode cX9_choice 57 = .ok (.iload_n 3, 1) := by decide +kernel
theorem dX9_choice_58 : decode cX9_choice 58 = .ok (.ifCond .ne 27, 3) := by decide +kernel
theorem dX9_choice_61 : decode cX9_choice 61 = .ok (.aload_n 0, 1) := by decide +kernel
theorem dX9_choice_62 : decode cX9_choice 62 = .ok (.getfield 142, 3) := by decide +kernel
theorem dX9_choice_65 : decode cX9_choice 65 = .ok (.iload_n 2, 1) := by decide +kernel
theorem dX9_choice_66 : decode cX9_choice 66 = .ok (.iaload, 1) := by decide +kernel
theorem dX9_choice_67 : decode cX9_choice 67 = .ok (.bipush 60, 2) := by decide +kernel
theorem dX9_choice_69 : decode cX9_choice 69 = .ok (.if_icmp .ne 7, 3) := by decide +kernel
theorem dX9_choice_72 : decode cX9_choice 72 = .ok (.iconst (-1), 1) := by decide +kernel
theorem dX9_choice_73 : decode cX9_choice 73 = .ok (.goto 32, 3) := by decide +kernel
theorem dX9_choice_76 : decode cX9_choice 76 = .ok (.aload_n 0, 1) := by decide +kernel
theorem dX9_choice_77 : decode cX9_choice 77 = .ok (.getfield 142, 3) := by decide +kernel
theorem dX9_choice_80 : decode cX9_choice 80 = .ok (.iload_n 2, 1) := by decide +kernel
theorem dX9_choice_81 : decode cX9_choice 81 = .ok (.iaload, 1) := by decide +kernel
theorem dX9_choice_82 : decode cX9_choice 82 = .ok (.goto 23, 3) := by decide +kernel
theorem dX9_choice_85 : decode cX9_choice 85 = .ok (.iload_n 3, 1) := by decide +kernel
theorem dX9_choice_86 : decode cX9_choice 86 = .ok (.iconst 1, 1) := by decide +kernel
theorem dX9_choice_87 : decode cX9_choice 87 = .ok (.if_icmp .ne 12, 3) := by decide +kernel
theorem dX9_choice_90 : decode cX9_choice 90 = .ok (.aload_n 0, 1) := by decide +kernel
theorem dX9_choice_91 : decode cX9_choice 91 = .ok (.getfield 145, 3) := by decide +kernel
theorem dX9_choice_94 : decode cX9_choice 94 = .ok (.iload_n 2, 1) := by decide +kernel
theorem dX9_choice_95 : decode cX9_choice 95 = .ok (.iaload, 1) := by decide +kernel
theorem dX9_choice_96 : decode cX9_choice 96 = .ok (.goto 9, 3) := by decide +kernel
theorem dX9_choice_99 : decode cX9_choice 99 = .ok (.aload_n 0, 1) := by decide +kernel
theorem dX9_choice_100 : decode cX9_choice 100 = .ok (.getfield 148, 3) := by decide +kernel
theorem dX9_choice_103 : decode cX9_choice 103 = .ok (.iload_n 2, 1) := by decide +kernel
theorem dX9_choice_104 : decode cX9_choice 104 = .ok (.iaload, 1) := by decide +kernel
theorem dX9_choice_105 : decode cX9_choice 105 = .ok (.ireturn, 1) := by decide +kernel
set_option maxRecDepth 20000 in
theorem ggX9_unfix_X9_keepFixed : GoodIn wsX9_unfix wsX9_keepFixed := goodIn_r _ [8, 2, 3, 9, 10, 11, 12, 13, 14, 15, 16, 17, 18, 19, 20, 21, 22, 23, 24, 25, 26, 27, 28, 29, 30, 31, 32, 33, 34, 35, 36, 37, 38, 39, 40, 41, 42, 43, 44, 45, 46, 47, 48, 49, 50, 51, 52, 53, 54, 55, 56, 57, 58, 59, 60, 61, 62, 63, 64, 65, 66, 67, 68, 69, 70, 71] (by decide +kernel) (by decide +kernel)
set_option maxRecDepth 20000 in
theorem gX9_unfix_X9_keepFixed : GoodIn wsX9_unfix (wsV RX9 293 RX9 yX9_keepFixed wsX9_keepFixed) := goodIn_app (goodIn_of _ (by decide +kernel)) ggX9_unfix_X9_keepFixed
theorem dX9_unfix_0 : decode cX9_unfix 0 = .ok (.iconst 0, 1) := by decide +kernel
theorem dX9_unfix_1 : decode cX9_unfix 1 = .ok (.istore_n 3, 1) := by decide +kernel
theorem dX9_unfix_2 : decode cX9_unfix 2 = .ok (.iconst 0, 1) := by decide +kernel
theorem dX9_unfix_3 : decode cX9_unfix 3 = .ok (.istore 4, 2) := by decide +kernel
theorem dX9_unfix_5 : decode cX9_unfix 5 = .ok (.iload 4, 2) := by decide +kernel
theorem dX9_unfix_7 : decode cX9_unfix 7 = .ok (.aload_n 0, 1) := by decide +kernel
theorem dX9_unfix_8 : decode cX9_unfix 8 = .ok (.getfield 216, 3) := by decide +kernel
theorem dX9_unfix_11 : decode cX9_unfix 11 = .ok (.if_icmp .ge 44, 3) := by decide +kernel
theorem dX9_unfix_14 : decode cX9_unfix 14 = .ok (.aload_n 0, 1) := by decide +kernel
theorem dX9_unfix_15 : decode cX9_unfix 15 = .ok (.getfield 69, 3) := by decide +kernel
theorem dX9_unfix_18 : decode cX9_unfix 18 = .ok (.iload 4, 2) := by decide +kernel
theorem dX9_unfix_20 : decode cX9_unfix 20 = .ok (.iaload, 1) := by decide +kernel
theorem dX9_unfix_21 : decode cX9_unfix 21 = .ok (.iload_n 2, 1) := by decide +kernel
theorem dX9_unfix_22 : decode cX9_unfix 22 = .ok (.if_icmp .ge 17, 3) := by decide +kernel
theorem dX9_unfix_25 : decode cX9_unfix 25 = .ok (.aload_n 0, 1) := by decide +kernel
theorem dX9_unfix_26 : decode cX9_unfix 26 = .ok (.getfield 72, 3) := by decide +kernel
theorem dX9_unfix_29 : decode cX9_unfix 29 = .ok (.iload 4, 2) := by decide +kernel
theorem dX9_unfix_31 : decode cX9_unfix 31 = .ok (.iaload, 1) := by decide +kernel
theorem dX9_unfix_32 : decode cX9_unfix 32 = .ok (.iload_n 1, 1) := by decide +kernel
theorem dX9_unfix_33 : decode cX9_unfix 33 = .ok (.if_icmp .le 6, 3) := by decide +kernel
theorem dX9_unfix_36 : decode cX9_unfix 36 = .ok (.goto 13, 3) := by decide +kernel
theorem dX9_unfix_39 : decode cX9_unfix 39 = .ok (.aload_n 0, 1) := by decide +kernel
theorem dX9_unfix_40 : decode cX9_unfix 40 = .ok (.iload 4, 2) := by decide +kernel
theorem dX9_unfix_42 : decode cX9_unfix 42 = .ok (.iload_n 3, 1) := by decide +kernel
theorem dX9_unfix_43 : decode cX9_unfix 43 = .ok (.invokevirtual 293, 3) := by decide +kernel
theorem dX9_unfix_46 : decode cX9_unfix 46 = .ok (.iinc 3 1, 3) := by decide +kernel
theorem dX9_unfix_49 : decode cX9_unfix 49 = .ok (.iinc 4 1, 3) := by decide +kernel
theorem dX9_unfix_52 : decode cX9_unfix 52 = .ok (.goto (-47), 3) := by decide +kernel
theorem dX9_unfix_55 : decode cX9_unfix 55 = .ok (.aload_n 0, 1) := by decide +kernel
theorem dX9_unfix_56 : decode cX9_unfix 56 = .ok (.iload_n 3, 1) := by decide +kernel
theorem dX9_unfix_57 : decode cX9_unfix 57 = .ok (.putfield 216, 3) := by decide +kernel
theorem dX9_unfix_60 : decode cX9_unfix 60 = .ok (.return_, 1) := by decide +kernel
set_option maxRecDepth 20000 in
theorem ggX9_unfixEnds_X9_keepFixed : GoodIn wsX9_unfixEnds wsX9_keepFixed := goodIn_r _ [8, 2, 3, 9, 10, 11, 12, 13, 14, 15, 16, 17, 18, 19, 20, 21, 22, 23, 24, 25, 26, 27, 28, 29, 30, 31, 32, 33, 34, 35, 36, 37, 38, 39, 40, 41, 42, 43, 44, 45, 46, 47, 48, 49, 50, 51, 52, 53, 54, 55, 56, 57, 58, 59, 60, 61, 62, 63, 64, 65, 66, 67, 68, 69, 70, 71] (by decide +kernel) (by decide +kernel)
set_option maxRecDepth 20000 in
theorem gX9_unfixEnds_X9_keepFixed : GoodIn wsX9_unfixEnds (wsV RX9 293 RX9 yX9_keepFixed wsX9_keepFixed) := goodIn_app (goodIn_of _ (by decide +kernel)) ggX9_unfixEnds_X9_keepFixed
theorem dX9_unfixEnds_0 : decode cX9_unfixEnds 0 = .ok (.iconst 0, 1) := by decide +kernel
theorem dX9_unfixEnds_1 : decode cX9_unfixEnds 1 = .ok (.istore_n 2, 1) := by decide +kernel
theorem dX9_unfixEnds_2 : decode cX9_unfixEnds 2 = .ok (.iconst 0, 1) := by decide +kernel
theorem dX9_unfixEnds_3 : decode cX9_unfixEnds 3 = .ok (.istore_n 3, 1) := by decide +kernel
theorem dX9_unfixEnds_4 : decode cX9_unfixEnds 4 = .ok (.iload_n 3, 1) := by decide +kernel
theorem dX9_unfixEnds_5 : decode cX9_unfixEnds 5 = .ok (.aload_n 0, 1) := by decide +kernel
theorem dX9_unfixEnds_6 : decode cX9_unfixEnds 6 = .ok (.getfield 216, 3) := by decide +kernel
theorem dX9_unfixEnds_9 : decode cX9_unfixEnds 9 = .ok (.if_icmp .ge 41, 3) := by decide +kernel
theorem dX9_unfixEnds_12 : decode cX9_unfixEnds 12 = .ok (.aload_n 0, 1) := by decide +kernel
theorem dX9_unfixEnds_13 : decode cX9_unfixEnds 13 = .ok (.getfield 69, 3) := by decide +kernel
theorem dX9_unfixEnds_16 : decode cX9_unfixEnds 16 = .ok (.iload_n 3, 1) := by decide +kernel
theorem dX9_unfixEnds_17 : decode cX9_unfixEnds 17 = .ok (.iaload, 1) := by decide +kernel
theorem dX9_unfixEnds_18 : decode cX9_unfixEnds 18 = .ok (.iload_n 1, 1) := by decide +kernel
theorem dX9_unfixEnds_19 : decode cX9_unfixEnds 19 = .ok (.if_icmp .eq 25, 3) := by decide +kernel
theorem dX9_unfixEnds_22 : decode cX9_unfixEnds 22 = .ok (.aload_n 0, 1) := by decide +kernel
theorem dX9_unfixEnds_23 : decode cX9_unfixEnds 23 = .ok (.getfield 72, 3) := by decide +kernel
theorem dX9_unfixEnds_26 : decode cX9_unfixEnds 26 = .ok (.iload_n 3, 1) := by decide +kernel
theorem dX9_unfixEnds_27 : decode cX9_unfixEnds 27 = .ok (.iaload, 1) := by decide +kernel
theorem dX9_unfixEnds_28 : decode cX9_unfixEnds 28 = .ok (.iload_n 1, 1) := by decide +kernel
theorem dX9_unfixEnds_29 : decode cX9_unfixEnds 29 = .ok (.if_icmp .ne 6, 3) := by decide +kernel
theorem dX9_unfixEnds_32 : decode cX9_unfixEnds 32 = .ok (.goto 12, 3) := by decide +kernel
theorem dX9_unfixEnds_35 : decode cX9_unfixEnds 35 = .ok (.aload_n 0, 1) := by decide +kernel
theorem dX9_unfixEnds_36 : decode cX9_unfixEnds 36 = .ok (.iload_n 3, 1) := by decide +kernel
theorem dX9_unfixEnds_37 : decode cX9_unfixEnds 37 = .ok (.iload_n 2, 1) := by decide +kernel
theorem dX9_unfixEnds_38 : decode cX9_unfixEnds 38 = .ok (.invokevirtual 293, 3) := by decide +kernel
theorem dX9_unfixEnds_41 : decode cX9_unfixEnds 41 = .ok (.iinc 2 1, 3) := by decide +kernel
theorem dX9_unfixEnds_44 : decode cX9_unfixEnds 44 = .ok (.iinc 3 1, 3) := by decide +kernel
theorem dX9_unfixEnds_47 : decode cX9_unfixEnds 47 = .ok (.goto (-43), 3) := by decide +kernel
theorem dX9_unfixEnds_50 : decode cX9_unfixEnds 50 = .ok (.aload_n 0, 1) := by decide +kernel
theorem dX9_unfixEnds_51 : decode cX9_unfixEnds 51 = .ok (.iload_n 2, 1) := by decide +kernel
theorem dX9_unfixEnds_52 : decode cX9_unfixEnds 52 = .ok (.putfield 216, 3) := by decide +kernel
theorem dX9_unfixEnds_55 : decode cX9_unfixEnds 55 = .ok (.return_, 1) := by decide +kernel
set_option maxRecDepth 20000 in
theorem ggX9_unfixOver_X9_keepFixed : GoodIn wsX9_unfixOver wsX9_keepFixed := goodIn_r _ [8, 2, 3, 9, 10, 11, 12, 13, 14, 15, 16, 17, 18, 19, 20, 21, 22, 23, 24, 25, 26, 27, 28, 29, 30, 31, 32, 33, 34, 35, 36, 37, 38, 39, 40, 41, 42, 43, 44, 45, 46, 47, 48, 49, 50, 51, 52, 53, 54, 55, 56, 57, 58, 59, 60, 61, 62, 63, 64, 65, 66, 67, 68, 69, 70, 71] (by decide +kernel) (by decide +kernel)
set_option maxRecDepth 20000 in
theorem gX9_unfixOver_X9_keepFixed : GoodIn wsX9_unfixOver (wsV RX9 293 RX9 yX9_keepFixed wsX9_keepFixed) := goodIn_app (goodIn_of _ (by decide +kernel)) ggX9_unfixOver_X9_keepFixed
theorem dX9_unfixOver_0 : decode cX9_unfixOver 0 = .ok (.iconst 0, 1) := by decide +kernel
theorem dX9_unfixOver_1 : decode cX9_unfixOver 1 = .ok (.istore_n 2, 1) := by decide +kernel
theorem dX9_unfixOver_2 : decode cX9_unfixOver 2 = .ok (.iconst 0, 1) := by decide +kernel
theorem dX9_unfixOver_3 : decode cX9_unfixOver 3 = .ok (.istore_n 3, 1) := by decide +kernel
theorem dX9_unfixOver_4 : decode cX9_unfixOver 4 = .ok (.iload_n 3, 1) := by decide +kernel
theorem dX9_unfixOver_5 : decode cX9_unfixOver 5 = .ok (.aload_n 0, 1) := by decide +kernel
theorem dX9_unfixOver_6 : decode cX9_unfixOver 6 = .ok (.getfield 216, 3) := by decide +kernel
theorem dX9_unfixOver_9 : decode cX9_unfixOver 9 = .ok (.if_icmp .ge 41, 3) := by decide +kernel
theorem dX9_unfixOver_12 : decode cX9_unfixOver 12 = .ok (.aload_n 0, 1) := by decide +kernel
theorem dX9_unfixOver_13 : decode cX9_unfixOver 13 = .ok (.getfield 69, 3) := by decide +kernel
theorem dX9_unfixOver_16 : decode cX9_unfixOver 16 = .ok (.iload_n 3, 1) := by decide +kernel
theorem dX9_unfixOver_17 : decode cX9_unfixOver 17 = .ok (.iaload, 1) := by decide +kernel
theorem dX9_unfixOver_18 : decode cX9_unfixOver 18 = .ok (.iload_n 1, 1) := by decide +kernel
theorem dX9_unfixOver_19 : decode cX9_unfixOver 19 = .ok (.if_icmp .ge 16, 3) := by decide +kernel
theorem dX9_unfixOver_22 : decode cX9_unfixOver 22 = .ok (.aload_n 0, 1) := by decide +kernel
theorem dX9_unfixOver_23 : decode cX9_unfixOver 23 = .ok (.getfield 72, 3) := by decide +kernel
theorem dX9_unfixOver_26 : decode cX9_unfixOver 26 = .ok (.iload_n 3, 1) := by decide +kernel
theorem dX9_unfixOver_27 : decode cX9_unfixOver 27 = .ok (.iaload, 1) := by decide +kernel
theorem dX9_unfixOver_28 : decode cX9_unfixOver 28 = .ok (.iload_n 1, 1) := by decide +kernel
theorem dX9_unfixOver_29 : decode cX9_unfixOver 29 = .ok (.if_icmp .le 6, 3) := by decide +kernel
theorem dX9_unfixOver_32 : decode cX9_unfixOver 32 = .ok (.goto 12, 3) := by decide +kernel
theorem dX9_unfixOver_35 : decode cX9_unfixOver 35 = .ok (.aload_n 0, 1) := by decide +kernel
theorem dX9_unfixOver_36 : decode cX9_unfixOver 36 = .ok (.iload_n 3, 1) := by decide +kernel
theorem dX9_unfixOver_37 : decode cX9_unfixOver 37 = .ok (.iload_n 2, 1) := by decide +kernel
theorem dX9_unfixOver_38 : decode cX9_unfixOver 38 = .ok (.invokevirtual 293, 3) := by decide +kernel
theorem dX9_unfixOver_41 : decode cX9_unfixOver 41 = .ok (.iinc 2 1, 3) := by decide +kernel
theorem dX9_unfixOver_44 : decode cX9_unfixOver 44 = .ok (.iinc 3 1, 3) := by decide +kernel
theorem dX9_unfixOver_47 : decode cX9_unfixOver 47 = .ok (.goto (-43), 3) := by decide +kernel
theorem dX9_unfixOver_50 : decode cX9_unfixOver 50 = .ok (.aload_n 0, 1) := by decide +kernel
theorem dX9_unfixOver_51 : decode cX9_unfixOver 51 = .ok (.iload_n 2, 1) := by decide +kernel
theorem dX9_unfixOver_52 : decode cX9_unfixOver 52 = .ok (.putfield 216, 3) := by decide +kernel
theorem dX9_unfixOver_55 : decode cX9_unfixOver 55 = .ok (.return_, 1) := by decide +kernel
theorem dX9_keepFixed_0 : decode cX9_keepFixed 0 = .ok (.aload_n 0, 1) := by decide +kernel
theorem dX9_keepFixed_1 : decode cX9_keepFixed 1 = .ok (.getfield 69, 3) := by decide +kernel
theorem dX9_keepFixed_4 : decode cX9_keepFixed 4 = .ok (.iload_n 2, 1) := by decide +kernel
theorem dX9_keepFixed_5 : decode cX9_keepFixed 5 = .ok (.aload_n 0, 1) := by decide +kernel
theorem dX9_keepFixed_6 : decode cX9_keepFixed 6 = .ok (.getfield 69, 3) := by decide +kernel
theorem dX9_keepFixed_9 : decode cX9_keepFixed 9 = .ok (.iload_n 1, 1) := by decide +kernel
theorem dX9_keepFixed_10 : decode cX9_keepFixed 10 = .ok (.iaload, 1) := by decide +kernel
theorem dX9_keepFixed_11 : decode cX9_keepFixed 11 = .ok (.iastore, 1) := by decide +kernel
theorem dX9_keepFixed_12 : decode cX9_keepFixed 12 = .ok (.aload_n 0, 1) := by decide +kernel
theorem dX9_keepFixed_13 : decode cX9_keepFixed 13 = .ok (.getfield 72, 3) := by decide +kernel
theorem dX9_keepFixed_16 : decode cX9_keepFixed 16 = .ok (.iload_n 2, 1) := by decide +kernel
theorem dX9_keepFixed_17 : decode cX9_keepFixed 17 = .ok (.aload_n 0, 1) := by decide +kernel
theorem dX9_keepFixed_18 : decode cX9_keepFixed 18 = .ok (.getfield 72, 3) := by decide +kernel
theorem dX9_keepFixed_21 : decode cX9_keepFixed 21 = .ok (.iload_n 1, 1) := by decide +kernel
theorem dX9_keepFixed_22 : decode cX9_keepFixed 22 = .ok (.iaload, 1) := by decide +kernel
theorem dX9_keepFixed_23 : decode cX9_keepFixed 23 = .ok (.iastore, 1) := by decide +kernel
theorem dX9_keepFixed_24 : decode cX9_keepFixed 24 = .ok (.aload_n 0, 1) := by decide +kernel
theorem dX9_keepFixed_25 : decode cX9_keepFixed 25 = .ok (.getfield 75, 3) := by decide +kernel
theorem dX9_keepFixed_28 : decode cX9_keepFixed 28 = .ok (.iload_n 2, 1) := by decide +kernel
theorem dX9_keepFixed_29 : decode cX9_keepFixed 29 = .ok (.aload_n 0, 1) := by decide +kernel
theorem dX9_keepFixed_30 : decode cX9_keepFixed 30 = .ok (.getfield 75, 3) := by decide +kernel
theorem dX9_keepFixed_33 : decode cX9_keepFixed 33 = .ok (.iload_n 1, 1) := by decide +kernel
theorem dX9_keepFixed_34 : decode cX9_keepFixed 34 = .ok (.iaload, 1) := by decide +kernel
theorem dX9_keepFixed_35 : decode cX9_keepFixed 35 = .ok (.iastore, 1) := by decide +kernel
theorem dX9_keepFixed_36 : decode cX9_keepFixed 36 = .ok (.aload_n 0, 1) := by decide +kernel
theorem dX9_keepFixed_37 : decode cX9_keepFixed 37 = .ok (.getfield 78, 3) := by decide +kernel
theorem dX9_keepFixed_40 : decode cX9_keepFixed 40 = .ok (.iload_n 2, 1) := by decide +kernel
theorem dX9_keepFixed_41 : decode cX9_keepFixed 41 = .ok (.aload_n 0, 1) := by decide +kernel
theorem dX9_keepFixed_42 : decode cX9_keepFixed 42 = .ok (.getfield 78, 3) := by decide +kernel
theorem dX9_keepFixed_45 : decode cX9_keepFixed 45 = .ok (.iload_n 1, 1) := by decide +kernel
theorem dX9_keepFixed_46 : decode cX9_keepFixed 46 = .ok (.iaload, 1) := by decide +kernel
theorem dX9_keepFixed_47 : decode cX9_keepFixed 47 = .ok (.iastore, 1) := by decide +kernel
theorem dX9_keepFixed_48 : decode cX9_keepFixed 48 = .ok (.return_, 1) := by decide +kernel
set_option maxRecDepth 20000 in
theorem ggX9_choose_X9_read : GoodIn wsX9_choose wsX9_read := goodIn_r _ [19, 20, 21, 22, 14, 23, 24, 2, 25, 26, 27, 5, 28, 29, 30, 31, 18, 32, 33, 34, 35, 36, 37, 38, 39, 40, 41, 42, 43, 44, 45, 46, 47, 48, 49, 50, 51, 52, 53, 54, 55, 56, 57, 58, 59, 60, 61, 62, 63, 64, 65, 66, 67, 68, 69, 70, 71, 72, 73, 74, 75, 76, 77, 78, 4, 79, 80, 81, 82, 83, 84, 85, 86, 87, 88, 89, 90, 91, 92, 93, 94, 95, 96, 97, 98, 99, 7, 8, 6, 9, 11, 100, 101, 102, 103, 13, 104, 105, 106, 107, 108, 109, 110, 111, 112, 113, 114, 115, 116, 117, 118, 119, 120, 121, 122, 157, 158, 159, 160, 161, 162, 163, 164, 165, 166, 167, 168, 169, 170, 171, 172, 173, 174, 175, 176, 177, 178, 179, 180, 181, 182, 183, 184, 185, 186, 187, 188, 189, 190, 191, 192, 193, 194, 195, 196, 197, 198, 199, 200, 201, 202, 203, 204, 205, 206, 207, 208, 209, 210, 211, 212, 213, 214, 215, 216, 217] (by decide +kernel) (by decide +kernel)
set_option maxRecDepth 20000 in
theorem gX9_choose_X9_read : GoodIn wsX9_choose (wsV RX9 275 RX9 yX9_read wsX9_read) := goodIn_app (goodIn_of _ (by decide +kernel)) ggX9_choose_X9_read
set_option maxRecDepth 20000 in
theorem ggX9_choose_X9_choose0 : GoodIn wsX9_choose wsX9_choose0 := goodIn_r _ [126, 3, 4, 5, 33, 36, 22, 23, 80, 81, 82, 18, 83, 84, 37, 38, 39, 85, 86, 87, 61, 62, 63, 88, 89, 90, 91, 92, 93, 94, 95, 119, 120, 121, 122, 114, 57, 58, 59, 60, 68, 69, 70, 104, 105, 106, 107, 108, 109, 100, 101, 102, 103, 13, 14, 127, 128, 129, 130, 131, 10, 12, 157, 158, 159, 160, 161, 162, 163, 164, 165, 166, 167, 168, 169, 170, 171, 172, 173, 174, 175, 176, 177, 178, 179, 180, 181, 182, 183, 184, 185, 186, 187, 188, 189, 190, 191, 192, 193, 194, 195, 196, 197, 198, 199, 200, 201, 202, 203, 204, 205, 206, 207, 208, 209, 210, 211, 212, 213, 214, 215, 216, 217] (by decide +kernel) (by decide +kernel)
set_option maxRecDepth 20000 in
theorem gX9_choose_X9_choose0 : GoodIn wsX9_choose (wsV RX9 290 RX9 yX9_choose0 wsX9_choose0) := goodIn_app (goodIn_of _ (by decide +kernel)) ggX9_choose_X9_choose0
set_option maxRecDepth 20000 in
theorem ggX9_choose_X9_act : GoodIn wsX9_choose wsX9_act := goodIn_r _ [135, 20, 136, 137, 14, 138, 7, 139, 54, 140, 6, 141, 8, 142, 9, 143, 11, 144, 13, 145, 146, 147, 18, 148, 157, 158, 159, 160, 161, 162, 163, 164, 165, 166, 167, 168, 169, 170, 171, 172, 173, 174, 175, 176, 177, 178, 179, 180, 181, 182, 183, 184, 185, 186, 187, 188, 189, 190, 191, 192, 193, 194, 195, 196, 197, 198, 199, 200, 201, 202, 203, 204, 205, 206, 207, 208, 209, 210, 211, 212, 213, 214, 215, 216, 217] (by decide +kernel) (by decide +kernel)
set_option maxRecDepth 20000 in
theorem gX9_choose_X9_act : GoodIn wsX9_choose (wsV RX9 272 RX9 yX9_act wsX9_act) := goodIn_app (goodIn_of _ (by decide +kernel)) ggX9_choose_X9_act
set_option maxRecDepth 20000 in
theorem ggX9_choose_X9_unfix : GoodIn wsX9_choose wsX9_unfix := goodIn_r _ [152, 7, 6, 8, 153, 154, 155, 18, 156, 9, 11, 157, 158, 159, 160, 161, 162, 163, 164, 165, 166, 167, 168, 169, 170, 171, 172, 173, 174, 175, 176, 177, 178, 179, 180, 181, 182, 183, 184, 185, 186, 187, 188, 189, 190, 191, 192, 193, 194, 195, 196, 197, 198, 199, 200, 201, 202, 203, 204, 205, 206, 207, 208, 209, 210, 211, 212, 213, 214, 215, 216, 217] (by decide +kernel) (by decide +kernel)
set_option maxRecDepth 20000 in
theorem gX9_choose_X9_unfix : GoodIn wsX9_choose (wsV RX9 296 RX9 yX9_unfix wsX9_unfix) := goodIn_app (goodIn_of _ (by decide +kernel)) ggX9_choose_X9_unfix
theorem dX9_choose_0 : decode cX9_choose 0 = .ok (.aload_n 0, 1) := by decide +kernel
theorem dX9_choose_1 : decode cX9_choose 1 = .ok (.iconst 0, 1) := by decide +kernel
theorem dX9_choose_2 : decode cX9_choose 2 = .ok (.putfield 151, 3) := by decide +kernel
theorem dX9_choose_5 : decode cX9_choose 5 = .ok (.aload_n 0, 1) := by decide +kernel
theorem dX9_choose_6 : decode cX9_choose 6 = .ok (.invokevirtual 275, 3) := by decide +kernel
theorem dX9_choose_9 : decode cX9_choose 9 = .ok (.iload_n 1, 1) := by decide +kernel
theorem dX9_choose_10 : decode cX9_choose 10 = .ok (.ifCond .lt 11, 3) := by decide +kernel
theorem dX9_choose_13 : decode cX9_choose 13 = .ok (.iload_n 1, 1) := by decide +kernel
theorem dX9_choose_14 : decode cX9_choose 14 = .ok (.aload_n 0, 1) := by decide +kernel
theorem dX9_choose_15 : decode cX9_choose 15 = .ok (.getfield 232, 3) := by decide +kernel
theorem dX9_choose_18 : decode cX9_choose 18 = .ok (.if_icmp .lt 9, 3) := by decide +kernel
theorem dX9_choose_21 : decode cX9_choose 21 = .ok (.aload_n 0, 1) := by decide +kernel
theorem dX9_choose_22 : decode cX9_choose 22 = .ok (.iconst 1, 1) := by decide +kernel
theorem dX9_choose_23 : decode cX9_choose 23 = .ok (.putfield 151, 3) := by decide +kernel
theorem dX9_choose_26 : decode cX9_choose 26 = .ok (.return_, 1) := by decide +kernel
theorem dX9_choose_27 : decode cX9_choose 27 = .ok (.aload_n 0, 1) := by decide +kernel
theorem dX9_choose_28 : decode cX9_choose 28 = .ok (.iload_n 1, 1) := by decide +kernel
theorem dX9_choose_29 : decode cX9_choose 29 = .ok (.invokevirtual 290, 3) := by decide +kernel
theorem dX9_choose_32 : decode cX9_choose 32 = .ok (.iload_n 2, 1) := by decide +kernel
theorem dX9_choose_33 : decode cX9_choose 33 = .ok (.ifCond .lt 11, 3) := by decide +kernel
theorem dX9_choose_36 : decode cX9_choose 36 = .ok (.iload_n 2, 1) := by decide +kernel
theorem dX9_choose_37 : decode cX9_choose 37 = .ok (.aload_n 0, 1) := by decide +kernel
theorem dX9_choose_38 : decode cX9_choose 38 = .ok (.getfield 283, 3) := by decide +kernel
theorem dX9_choose_41 : decode cX9_choose 41 = .ok (.if_icmp .lt 9, 3) := by decide +kernel
theorem dX9_choose_44 : decode cX9_choose 44 = .ok (.aload_n 0, 1) := by decide +kernel
theorem dX9_choose_45 : decode cX9_choose 45 = .ok (.iconst 1, 1) := by decide +kernel
theorem dX9_choose_46 : decode cX9_choose 46 = .ok (.putfield 151, 3) := by decide +kernel
theorem dX9_choose_49 : decode cX9_choose 49 = .ok (.return_, 1) := by decide +kernel
theorem dX9_choose_50 : decode cX9_choose 50 = .ok (.aload_n 0, 1) := by decide +kernel
theorem dX9_choose_51 : decode cX9_choose 51 = .ok (.invokevirtual 272, 3) := by decide +kernel
theorem dX9_choose_54 : decode cX9_choose 54 = .ok (.aload_n 0, 1) := by decide +kernel
theorem dX9_choose_55 : decode cX9_choose 55 = .ok (.getfield 130, 3) := by decide +kernel
theorem dX9_choose_58 : decode cX9_choose 58 = .ok (.iload_n 1, 1) := by decide +kernel
theorem dX9_choose_59 : decode cX9_choose 59 = .ok (.iaload, 1) := by decide +kernel
theorem dX9_choose_60 : decode cX9_choose 60 = .ok (.istore_n 3, 1) := by decide +kernel
theorem dX9_choose_61 : decode cX9_choose 61 = .ok (.aload_n 0, 1) := by decide +kernel
theorem dX9_choose_62 : decode cX9_choose 62 = .ok (.getfield 133, 3) := by decide +kernel
theorem dX9_choose_65 : decode cX9_choose 65 = .ok (.iload_n 1, 1) := by decide +kernel
theorem dX9_choose_66 : decode cX9_choose 66 = .ok (.iaload, 1) := by decide +kernel
theorem dX9_choose_67 : decode cX9_choose 67 = .ok (.istore 4, 2) := by decide +kernel
theorem dX9_choose_69 : decode cX9_choose 69 = .ok (.aload_n 0, 1) := by decide +kernel
theorem dX9_choose_70 : decode cX9_choose 70 = .ok (.iload_n 3, 1) := by decide +kernel
theorem dX9_choose_71 : decode cX9_choose 71 = .ok (.iload 4, 2) := by decide +kernel
theorem dX9_choose_73 : decode cX9_choose 73 = .ok (.invokevirtual 296, 3) := by decide +kernel
theorem dX9_choose_76 : decode cX9_choose 76 = .ok (.aload_n 0, 1) := by decide +kernel
theorem dX9_choose_77 : decode cX9_choose 77 = .ok (.getfield 69, 3) := by decide +kernel
theorem dX9_choose_80 : decode cX9_choose 80 = .ok (.aload_n 0, 1) := by decide +kernel
theorem dX9_choose_81 : decode cX9_choose 81 = .ok (.getfield 216, 3) := by decide +kernel
theorem dX9_choose_84 : decode cX9_choose 84 = .ok (.iload_n 3, 1) := by decide +kernel
theorem dX9_choose_85 : decode cX9_choose 85 = .ok (.iastore, 1) := by decide +kernel
theorem dX9_choose_86 : decode cX9_choose 86 = .ok (.aload_n 0, 1) := by decide +kernel
theorem dX9_choose_87 : decode cX9_choose 87 = .ok (.getfield 72, 3) := by decide +kernel
theorem dX9_choose_90 : decode cX9_choose 90 = .ok (.aload_n 0, 1) := by decide +kernel
theorem dX9_choose_91 : decode cX9_choose 91 = .ok (.getfield 216, 3) := by decide +kernel
theorem dX9_choose_94 : decode cX9_choose 94 = .ok (.iload 4, 2) := by decide +kernel
theorem dX9_choose_96 : decode cX9_choose 96 = .ok (.iastore, 1) := by decide +kernel
theorem dX9_choose_97 : decode cX9_choose 97 = .ok (.aload_n 0, 1) := by decide +kernel
theorem dX9_choose_98 : decode cX9_choose 98 = .ok (.getfield 75, 3) := by decide +kernel
theorem dX9_choose_101 : decode cX9_choose 101 = .ok (.aload_n 0, 1) := by decide +kernel
theorem dX9_choose_102 : decode cX9_choose 102 = .ok (.getfield 216, 3) := by decide +kernel
theorem dX9_choose_105 : decode cX9_choose 105 = .ok (.aload_n 0, 1) := by decide +kernel
theorem dX9_choose_106 : decode cX9_choose 106 = .ok (.getfield 142, 3) := by decide +kernel
theorem dX9_choose_109 : decode cX9_choose 109 = .ok (.iload_n 2, 1) := by decide +kernel
theorem dX9_choose_110 : decode cX9_choose 110 = .ok (.iaload, 1) := by decide +kernel
theorem dX9_choose_111 : decode cX9_choose 111 = .ok (.iastore, 1) := by decide +kernel
theorem dX9_choose_112 : decode cX9_choose 112 = .ok (.aload_n 0, 1) := by decide +kernel
theorem dX9_choose_113 : decode cX9_choose 113 = .ok (.getfield 78, 3) := by decide +kernel
theorem dX9_choose_116 : decode cX9_choose 116 = .ok (.aload_n 0, 1) := by decide +kernel
theorem dX9_choose_117 : decode cX9_choose 117 = .ok (.getfield 216, 3) := by decide +kernel
theorem dX9_choose_120 : decode cX9_choose 120 = .ok (.aload_n 0, 1) := by decide +kernel
theorem dX9_choose_121 : decode cX9_choose 121 = .ok (.getfield 145, 3) := by decide +kernel
theorem dX9_choose_124 : decode cX9_choose 124 = .ok (.iload_n 2, 1) := by decide +kernel
theorem dX9_choose_125 : decode cX9_choose 125 = .ok (.iaload, 1) := by decide +kernel
theorem dX9_choose_126 : decode cX9_choose 126 = .ok (.iastore, 1) := by decide +kernel
theorem dX9_choose_127 : decode cX9_choose 127 = .ok (.aload_n 0, 1) := by decide +kernel
theorem dX9_choose_128 : decode cX9_choose 128 = .ok (.dup, 1) := by decide +kernel
theorem dX9_choose_129 : decode cX9_choose 129 = .ok (.getfield 216, 3) := by decide +kernel
theorem dX9_choose_132 : decode cX9_choose 132 = .ok (.iconst 1, 1) := by decide +kernel
theorem dX9_choose_133 : decode cX9_choose 133 = .ok (.iadd, 1) := by decide +kernel
theorem dX9_choose_134 : decode cX9_choose 134 = .ok (.putfield 216, 3) := by decide +kernel
theorem dX9_choose_137 : decode cX9_choose 137 = .ok (.iload_n 3, 1) := by decide +kernel
theorem dX9_choose_138 : decode cX9_choose 138 = .ok (.ifCond .le 10, 3) := by decide +kernel
theorem dX9_choose_141 : decode cX9_choose 141 = .ok (.aload_n 0, 1) := by decide +kernel
theorem dX9_choose_142 : decode cX9_choose 142 = .ok (.getfield 66, 3) := by decide +kernel
theorem dX9_choose_145 : decode cX9_choose 145 = .ok (.iload_n 3, 1) := by decide +kernel
theorem dX9_choose_146 : decode cX9_choose 146 = .ok (.iconst 1, 1) := by decide +kernel
theorem dX9_choose_147 : decode cX9_choose 147 = .ok (.iastore, 1) := by decide +kernel
theorem dX9_choose_148 : decode cX9_choose 148 = .ok (.iload 4, 2) := by decide +kernel
theorem dX9_choose_150 : decode cX9_choose 150 = .ok (.aload_n 0, 1) := by decide +kernel
theorem dX9_choose_151 : decode cX9_choose 151 = .ok (.getfield 187, 3) := by decide +kernel
theorem dX9_choose_154 : decode cX9_choose 154 = .ok (.if_icmp .ge 11, 3) := by decide +kernel
theorem dX9_choose_157 : decode cX9_choose 157 = .ok (.aload_n 0, 1) := by decide +kernel
theorem dX9_choose_158 : decode cX9_choose 158 = .ok (.getfield 66, 3) := by decide +kernel
theorem dX9_choose_161 : decode cX9_choose 161 = .ok (.iload 4, 2) := by decide +kernel
theorem dX9_choose_163 : decode cX9_choose 163 = .ok (.iconst 1, 1) := by decide +kernel
theorem dX9_choose_164 : decode cX9_choose 164 = .ok (.iastore, 1) := by decide +kernel
theorem dX9_choose_165 : decode cX9_choose 165 = .ok (.iload_n 3, 1) := by decide +kernel
theorem dX9_choose_166 : decode cX9_choose 166 = .ok (.iconst 1, 1) := by decide +kernel
theorem dX9_choose_167 : decode cX9_choose 167 = .ok (.iadd, 1) := by decide +kernel
theorem dX9_choose_168 : decode cX9_choose 168 = .ok (.istore 5, 2) := by decide +kernel
theorem dX9_choose_170 : decode cX9_choose 170 = .ok (.iload 5, 2) := by decide +kernel
theorem dX9_choose_172 : decode cX9_choose 172 = .ok (.iload 4, 2) := by decide +kernel
theorem dX9_choose_174 : decode cX9_choose 174 = .ok (.if_icmp .ge 17, 3) := by decide +kernel
theorem dX9_choose_177 : decode cX9_choose 177 = .ok (.aload_n 0, 1) := by decide +kernel
theorem dX9_choose_178 : decode cX9_choose 178 = .ok (.getfield 66, 3) := by decide +kernel
theorem dX9_choose_181 : decode cX9_choose 181 = .ok (.iload 5, 2) := by decide +kernel
theorem dX9_choose_183 : decode cX9_choose 183 = .ok (.iconst 2, 1) := by decide +kernel
theorem dX9_choose_184 : decode cX9_choose 184 = .ok (.iastore, 1) := by decide +kernel
theorem dX9_choose_185 : decode cX9_choose 185 = .ok (.iinc 5 1, 3) := by decide +kernel
theorem dX9_choose_188 : decode cX9_choose 188 = .ok (.goto (-18), 3) := by decide +kernel
theorem dX9_choose_191 : decode cX9_choose 191 = .ok (.return_, 1) := by decide +kernel
set_option maxRecDepth 20000 in
theorem ggX9_setBreak_X9_fail : GoodIn wsX9_setBreak wsX9_fail := goodIn_r _ [8, 1, 45, 46, 47, 48, 49, 50, 51, 52, 53, 54, 55, 56, 57, 58, 59, 60, 61, 62, 63, 64, 65, 66, 67, 68, 69, 70, 71, 72, 73, 74, 75, 76, 77, 78, 79, 80, 81, 82, 83, 84, 85, 86, 87, 88, 89, 90, 91, 92, 93, 94, 95, 96, 97, 98, 99, 100, 101, 102, 103, 104, 105] (by decide +kernel) (by decide +kernel)
set_option maxRecDepth 20000 in
theorem gX9_setBreak_X9_fail : GoodIn wsX9_setBreak (wsV RX9 173 RX9 yX9_fail wsX9_fail) := goodIn_app (goodIn_of _ (by decide +kernel)) ggX9_setBreak_X9_fail
set_option maxRecDepth 20000 in
theorem ggX9_setBreak_X9_act : GoodIn wsX9_setBreak wsX9_act := goodIn_r _ [12, 13, 14, 15, 2, 16, 17, 18, 19, 20, 21, 22, 23, 24, 25, 26, 27, 28, 3, 29, 30, 31, 7, 32, 45, 46, 47, 48, 49, 50, 51, 52, 53, 54, 55, 56, 57, 58, 59, 60, 61, 62, 63, 64, 65, 66, 67, 68, 69, 70, 71, 72, 73, 74, 75, 76, 77, 78, 79, 80, 81, 82, 83, 84, 85, 86, 87, 88, 89, 90, 91, 92, 93, 94, 95, 96, 97, 98, 99, 100, 101, 102, 103, 104, 105] (by decide +kernel) (by decide +kernel)
set_option maxRecDepth 20000 in
theorem gX9_setBreak_X9_act : GoodIn wsX9_setBreak (wsV RX9 272 RX9 yX9_act wsX9_act) := goodIn_app (goodIn_of _ (by decide +kernel)) ggX9_setBreak_X9_act
set_option maxRecDepth 20000 in
theorem ggX9_setBreak_X9_unfixOver : GoodIn wsX9_setBreak wsX9_unfixOver := goodIn_r _ [36, 17, 21, 23, 37, 38, 39, 7, 40, 25, 27, 45, 46, 47, 48, 49, 50, 51, 52, 53, 54, 55, 56, 57, 58, 59, 60, 61, 62, 63, 64, 65, 66, 67, 68, 69, 70, 71, 72, 73, 74, 75, 76, 77, 78, 79, 80, 81, 82, 83, 84, 85, 86, 87, 88, 89, 90, 91, 92, 93, 94, 95, 96, 97, 98, 99, 100, 101, 102, 103, 104, 105] (by decide +kernel) (by decide +kernel)
set_option maxRecDepth 20000 in
theorem gX9_setBreak_X9_unfixOver : GoodIn wsX9_setBreak (wsV RX9 299 RX9 yX9_unfixOver wsX9_unfixOver) := goodIn_app (goodIn_of _ (by decide +kernel)) ggX9_setBreak_X9_unfixOver
set_option maxRecDepth 20000 in
theorem ggX9_setBreak_X9_unfixEnds : GoodIn wsX9_setBreak wsX9_unfixEnds := goodIn_r _ [44, 17, 21, 23, 37, 38, 39, 7, 40, 25, 27, 45, 46, 47, 48, 49, 50, 51, 52, 53, 54, 55, 56, 57, 58, 59, 60, 61, 62, 63, 64, 65, 66, 67, 68, 69, 70, 71, 72, 73, 74, 75, 76, 77, 78, 79, 80, 81, 82, 83, 84, 85, 86, 87, 88, 89, 90, 91, 92, 93, 94, 95, 96, 97, 98, 99, 100, 101, 102, 103, 104, 105] (by decide +kernel) (by decide +kernel)
set_option maxRecDepth 20000 in
theorem gX9_setBreak_X9_unfixEnds : GoodIn wsX9_setBreak (wsV RX9 302 RX9 yX9_unfixEnds wsX9_unfixEnds) := goodIn_app (goodIn_of _ (by decide +kernel)) ggX9_setBreak_X9_unfixEnds
theorem dX9_setBreak_0 : decode cX9_setBreak 0 = .ok (.aload_n 0, 1) := by decide +kernel
theorem dX9_setBreak_1 : decode cX9_setBreak 1 = .ok (.iconst 0, 1) := by decide +kernel
theorem dX9_setBreak_2 : decode cX9_setBreak 2 = .ok (.putfield 151, 3) := by decide +kernel
theorem dX9_setBreak_5 : decode cX9_setBreak 5 = .ok (.iload_n 1, 1) := by decide +kernel
theorem dX9_setBreak_6 : decode cX9_setBreak 6 = .ok (.iconst 1, 1) := by decide +kernel
theorem dX9_setBreak_7 : decode cX9_setBreak 7 = .ok (.if_icmp .lt 20, 3) := by decide +kernel
theorem dX9_setBreak_10 : decode cX9_setBreak 10 = .ok (.iload_n 1, 1) := by decide +kernel
theorem dX9_setBreak_11 : decode cX9_setBreak 11 = .ok (.aload_n 0, 1) := by decide +kernel
theorem dX9_setBreak_12 : decode cX9_setBreak 12 = .ok (.getfield 187, 3) := by decide +kernel
theorem dX9_setBreak_15 : decode cX9_setBreak 15 = .ok (.if_icmp .ge 12, 3) := by decide +kernel
theorem dX9_setBreak_18 : decode cX9_setBreak 18 = .ok (.iload_n 2, 1) := by decide +kernel
theorem dX9_setBreak_19 : decode cX9_setBreak 19 = .ok (.ifCond .lt 8, 3) := by decide +kernel
theorem dX9_setBreak_22 : decode cX9_setBreak 22 = .ok (.iload_n 2, 1) := by decide +kernel
theorem dX9_setBreak_23 : decode cX9_setBreak 23 = .ok (.iconst 2, 1) := by decide +kernel
theorem dX9_setBreak_24 : decode cX9_setBreak 24 = .ok (.if_icmp .le 8, 3) := by decide +kernel
theorem dX9_setBreak_27 : decode cX9_setBreak 27 = .ok (.aload_n 0, 1) := by decide +kernel
theorem dX9_setBreak_28 : decode cX9_setBreak 28 = .ok (.invokevirtual 173, 3) := by decide +kernel
theorem dX9_setBreak_31 : decode cX9_setBreak 31 = .ok (.ireturn, 1) := by decide +kernel
theorem dX9_setBreak_32 : decode cX9_setBreak 32 = .ok (.aload_n 0, 1) := by decide +kernel
theorem dX9_setBreak_33 : decode cX9_setBreak 33 = .ok (.invokevirtual 272, 3) := by decide +kernel
theorem dX9_setBreak_36 : decode cX9_setBreak 36 = .ok (.aload_n 0, 1) := by decide +kernel
theorem dX9_setBreak_37 : decode cX9_setBreak 37 = .ok (.getfield 66, 3) := by decide +kernel
theorem dX9_setBreak_40 : decode cX9_setBreak 40 = .ok (.iload_n 1, 1) := by decide +kernel
theorem dX9_setBreak_41 : decode cX9_setBreak 41 = .ok (.iaload, 1) := by decide +kernel
theorem dX9_setBreak_42 : decode cX9_setBreak 42 = .ok (.istore_n 3, 1) := by decide +kernel
theorem dX9_setBreak_43 : decode cX9_setBreak 43 = .ok (.aload_n 0, 1) := by decide +kernel
theorem dX9_setBreak_44 : decode cX9_setBreak 44 = .ok (.getfield 66, 3) := by decide +kernel
theorem dX9_setBreak_47 : decode cX9_setBreak 47 = .ok (.iload_n 1, 1) := by decide +kernel
theorem dX9_setBreak_48 : decode cX9_setBreak 48 = .ok (.iload_n 2, 1) := by decide +kernel
theorem dX9_setBreak_49 : decode cX9_setBreak 49 = .ok (.iastore, 1) := by decide +kernel
theorem dX9_setBreak_50 : decode cX9_setBreak 50 = .ok (.iload_n 2, 1) := by decide +kernel
theorem dX9_setBreak_51 : decode cX9_setBreak 51 = .ok (.iconst 2, 1) := by decide +kernel
theorem dX9_setBreak_52 : decode cX9_setBreak 52 = .ok (.if_icmp .eq 8, 3) := by decide +kernel
theorem dX9_setBreak_55 : decode cX9_setBreak 55 = .ok (.aload_n 0, 1) := by decide +kernel
theorem dX9_setBreak_56 : decode cX9_setBreak 56 = .ok (.iload_n 1, 1) := by decide +kernel
theorem dX9_setBreak_57 : decode cX9_setBreak 57 = .ok (.invokevirtual 299, 3) := by decide +kernel
theorem dX9_setBreak_60 : decode cX9_setBreak 60 = .ok (.iload_n 2, 1) := by decide +kernel
theorem dX9_setBreak_61 : decode cX9_setBreak 61 = .ok (.iconst 1, 1) := by decide +kernel
theorem dX9_setBreak_62 : decode cX9_setBreak 62 = .ok (.if_icmp .eq 8, 3) := by decide +kernel
theorem dX9_setBreak_65 : decode cX9_setBreak 65 = .ok (.aload_n 0, 1) := by decide +kernel
theorem dX9_setBreak_66 : decode cX9_setBreak 66 = .ok (.iload_n 1, 1) := by decide +kernel
theorem dX9_setBreak_67 : decode cX9_setBreak 67 = .ok (.invokevirtual 302, 3) := by decide +kernel
theorem dX9_setBreak_70 : decode cX9_setBreak 70 = .ok (.iload_n 3, 1) := by decide +kernel
theorem dX9_setBreak_71 : decode cX9_setBreak 71 = .ok (.ireturn, 1) := by decide +kernel
theorem dX9_freeHand_0 : decode cX9_freeHand 0 = .ok (.aload_n 0, 1) := by decide +kernel
theorem dX9_freeHand_1 : decode cX9_freeHand 1 = .ok (.iconst 0, 1) := by decide +kernel
theorem dX9_freeHand_2 : decode cX9_freeHand 2 = .ok (.putfield 216, 3) := by decide +kernel
theorem dX9_freeHand_5 : decode cX9_freeHand 5 = .ok (.iconst 0, 1) := by decide +kernel
theorem dX9_freeHand_6 : decode cX9_freeHand 6 = .ok (.istore_n 1, 1) := by decide +kernel
theorem dX9_freeHand_7 : decode cX9_freeHand 7 = .ok (.iload_n 1, 1) := by decide +kernel
theorem dX9_freeHand_8 : decode cX9_freeHand 8 = .ok (.bipush 36, 2) := by decide +kernel
theorem dX9_freeHand_10 : decode cX9_freeHand 10 = .ok (.if_icmp .gt 16, 3) := by decide +kernel
theorem dX9_freeHand_13 : decode cX9_freeHand 13 = .ok (.aload_n 0, 1) := by decide +kernel
theorem dX9_freeHand_14 : decode cX9_freeHand 14 = .ok (.getfield 66, 3) := by decide +kernel
theorem dX9_freeHand_17 : decode cX9_freeHand 17 = .ok (.iload_n 1, 1) := by decide +kernel
theorem dX9_freeHand_18 : decode cX9_freeHand 18 = .ok (.iconst 0, 1) := by decide +kernel
theorem dX9_freeHand_19 : decode cX9_freeHand 19 = .ok (.iastore, 1) := by decide +kernel
theorem dX9_freeHand_20 : decode cX9_freeHand 20 = .ok (.iinc 1 1, 3) := by decide +kernel
theorem dX9_freeHand_23 : decode cX9_freeHand 23 = .ok (.goto (-16), 3) := by decide +kernel
theorem dX9_freeHand_26 : decode cX9_freeHand 26 = .ok (.return_, 1) := by decide +kernel
set_option maxRecDepth 20000 in
theorem ggX9_free_X9_act : GoodIn wsX9_free wsX9_act := goodIn_r _ [7, 8, 9, 10, 11, 12, 2, 13, 14, 15, 16, 17, 18, 19, 20, 21, 22, 23, 24, 25, 26, 27, 6, 28, 33, 34, 35, 36, 37, 38, 39, 40, 41, 42, 43, 44, 45, 46, 47, 48, 49, 50, 51, 52, 53, 54, 55, 56, 57, 58, 59, 60, 61, 62, 63, 64, 65, 66, 67, 68, 69, 70, 71, 72, 73, 74, 75, 76, 77, 78, 79, 80, 81, 82, 83, 84, 85, 86, 87, 88, 89, 90, 91, 92, 93] (by decide +kernel) (by decide +kernel)
set_option maxRecDepth 20000 in
theorem gX9_free_X9_act : GoodIn wsX9_free (wsV RX9 272 RX9 yX9_act wsX9_act) := goodIn_app (goodIn_of _ (by decide +kernel)) ggX9_free_X9_act
set_option maxRecDepth 20000 in
theorem ggX9_free_X9_freeHand : GoodIn wsX9_free wsX9_freeHand := goodIn_r _ [32, 2, 24, 33, 34, 35, 36, 37, 38, 39, 40, 41, 42, 43, 44, 45, 46, 47, 48, 49, 50, 51, 52, 53, 54, 55, 56, 57, 58, 59, 60, 61, 62, 63, 64, 65, 66, 67, 68, 69, 70, 71, 72, 73, 74, 75, 76, 77, 78, 79, 80, 81, 82, 83, 84, 85, 86, 87, 88, 89, 90, 91, 92, 93] (by decide +kernel) (by decide +kernel)
set_option maxRecDepth 20000 in
theorem gX9_free_X9_freeHand : GoodIn wsX9_free (wsV RX9 305 RX9 yX9_freeHand wsX9_freeHand) := goodIn_app (goodIn_of _ (by decide +kernel)) ggX9_free_X9_freeHand
theorem dX9_free_0 : decode cX9_free 0 = .ok (.aload_n 0, 1) := by decide +kernel
theorem dX9_free_1 : decode cX9_free 1 = .ok (.iconst 0, 1) := by decide +kernel
theorem dX9_free_2 : decode cX9_free 2 = .ok (.putfield 151, 3) := by decide +kernel
theorem dX9_free_5 : decode cX9_free 5 = .ok (.aload_n 0, 1) := by decide +kernel
theorem dX9_free_6 : decode cX9_free 6 = .ok (.invokevirtual 272, 3) := by decide +kernel
theorem dX9_free_9 : decode cX9_free 9 = .ok (.aload_n 0, 1) := by decide +kernel
theorem dX9_free_10 : decode cX9_free 10 = .ok (.getfield 216, 3) := by decide +kernel
theorem dX9_free_13 : decode cX9_free 13 = .ok (.istore_n 1, 1) := by decide +kernel
theorem dX9_free_14 : decode cX9_free 14 = .ok (.aload_n 0, 1) := by decide +kernel
theorem dX9_free_15 : decode cX9_free 15 = .ok (.invokevirtual 305, 3) := by decide +kernel
theorem dX9_free_18 : decode cX9_free 18 = .ok (.iload_n 1, 1) := by decide +kernel
theorem dX9_free_19 : decode cX9_free 19 = .ok (.ireturn, 1) := by decide +kernel
set_option maxRecDepth 20000 in
theorem ggX9_empty_X9_act : GoodIn wsX9_empty wsX9_act := goodIn_r _ [7, 8, 9, 10, 2, 11, 12, 13, 14, 15, 16, 17, 18, 19, 20, 21, 22, 23, 24, 25, 26, 27, 6, 28, 38, 39, 40, 41, 42, 43, 44, 45, 46, 47, 48, 49, 50, 51, 52, 53, 54, 55, 56, 57, 58, 59, 60, 61, 62, 63, 64, 65, 66, 67, 68, 69, 70, 71, 72, 73, 74, 75, 76, 77, 78, 79, 80, 81, 82, 83, 84, 85, 86, 87, 88, 89, 90, 91, 92, 93, 94, 95, 96, 97, 98] (by decide +kernel) (by decide +kernel)
set_option maxRecDepth 20000 in
theorem gX9_empty_X9_act : GoodIn wsX9_empty (wsV RX9 272 RX9 yX9_act wsX9_act) := goodIn_app (goodIn_of _ (by decide +kernel)) ggX9_empty_X9_act
set_option maxRecDepth 20000 in
theorem ggX9_empty_X9_freeHand : GoodIn wsX9_empty wsX9_freeHand := goodIn_r _ [32, 12, 24, 38, 39, 40, 41, 42, 43, 44, 45, 46, 47, 48, 49, 50, 51, 52, 53, 54, 55, 56, 57, 58, 59, 60, 61, 62, 63, 64, 65, 66, 67, 68, 69, 70, 71, 72, 73, 74, 75, 76, 77, 78, 79, 80, 81, 82, 83, 84, 85, 86, 87, 88, 89, 90, 91, 92, 93, 94, 95, 96, 97, 98] (by decide +kernel) (by decide +kernel)
set_option maxRecDepth 20000 in
theorem gX9_empty_X9_freeHand : GoodIn wsX9_empty (wsV RX9 305 RX9 yX9_freeHand wsX9_freeHand) := goodIn_app (goodIn_of _ (by decide +kernel)) ggX9_empty_X9_freeHand
set_option maxRecDepth 20000 in
theorem ggX9_empty_X9_changed : GoodIn wsX9_empty wsX9_changed := goodIn_r _ [36, 8, 37, 38, 39, 40, 41, 42, 43, 44, 45, 46, 47, 48, 49, 50, 51, 52, 53, 54, 55, 56, 57, 58, 59, 60, 61, 62, 63, 64, 65, 66, 67, 68, 69, 70, 71, 72, 73, 74, 75, 76, 77, 78, 79, 80, 81, 82, 83, 84, 85, 86, 87, 88, 89, 90, 91, 92, 93, 94, 95, 96, 97, 98] (by decide +kernel) (by decide +kernel)
set_option maxRecDepth 20000 in
theorem gX9_empty_X9_changed : GoodIn wsX9_empty (wsV RX9 177 RX9 yX9_changed wsX9_changed) := goodIn_app (goodIn_of _ (by decide +kernel)) ggX9_empty_X9_changed
theorem dX9_empty_0 : decode cX9_empty 0 = .ok (.aload_n 0, 1) := by decide +kernel
theorem dX9_empty_1 : decode cX9_empty 1 = .ok (.iconst 0, 1) := by decide +kernel
theorem dX9_empty_2 : decode cX9_empty 2 = .ok (.putfield 151, 3) := by decide +kernel
theorem dX9_empty_5 : decode cX9_empty 5 = .ok (.aload_n 0, 1) := by decide +kernel
theorem dX9_empty_6 : decode cX9_empty 6 = .ok (.invokevirtual 272, 3) := by decide +kernel
theorem dX9_empty_9 : decode cX9_empty 9 = .ok (.aload_n 0, 1) := by decide +kernel
theorem dX9_empty_10 : decode cX9_empty 10 = .ok (.getfield 187, 3) := by decide +kernel
theorem dX9_empty_13 : decode cX9_empty 13 = .ok (.istore_n 1, 1) := by decide +kernel
theorem dX9_empty_14 : decode cX9_empty 14 = .ok (.aload_n 0, 1) := by decide +kernel
theorem dX9_empty_15 : decode cX9_empty 15 = .ok (.iconst 0, 1) := by decide +kernel
theorem dX9_empty_16 : decode cX9_empty 16 = .ok (.putfield 187, 3) := by decide +kernel
theorem dX9_empty_19 : decode cX9_empty 19 = .ok (.aload_n 0, 1) := by decide +kernel
theorem dX9_empty_20 : decode cX9_empty 20 = .ok (.invokevirtual 305, 3) := by decide +kernel
theorem dX9_empty_23 : decode cX9_empty 23 = .ok (.aload_n 0, 1) := by decide +kernel
theorem dX9_empty_24 : decode cX9_empty 24 = .ok (.invokevirtual 177, 3) := by decide +kernel
theorem dX9_empty_27 : decode cX9_empty 27 = .ok (.iload_n 1, 1) := by decide +kernel
theorem dX9_empty_28 : decode cX9_empty 28 = .ok (.ireturn, 1) := by decide +kernel
set_option maxRecDepth 20000 in
theorem ggX9_act_X9_copyAct : GoodIn wsX9_act wsX9_copyAct := goodIn_r _ [23, 3, 5, 7, 9, 11, 13, 15, 17, 24, 25, 26, 27, 28, 29, 30, 31, 32, 33, 34, 35, 36, 37, 38, 39, 40, 41, 42, 43, 44, 45, 46, 47, 48, 49, 50, 51, 52, 53, 54, 55, 56, 57, 58, 59, 60, 61, 62, 63, 64, 65, 66, 67, 68, 69, 70, 71, 72, 73, 74, 75, 76, 77, 78, 79, 80, 81, 82, 83, 84] (by decide +kernel) (by decide +kernel)
set_option maxRecDepth 20000 in
theorem gX9_act_X9_copyAct : GoodIn wsX9_act (wsV RX9 311 RX9 yX9_copyAct wsX9_copyAct) := goodIn_app (goodIn_of _ (by decide +kernel)) ggX9_act_X9_copyAct
theorem dX9_act_0 : decode cX9_act 0 = .ok (.aload_n 0, 1) := by decide +kernel
theorem dX9_act_1 : decode cX9_act 1 = .ok (.iconst 0, 1) := by decide +kernel
theorem dX9_act_2 : decode cX9_act 2 = .ok (.putfield 154, 3) := by decide +kernel
theorem dX9_act_5 : decode cX9_act 5 = .ok (.aload_n 0, 1) := by decide +kernel
theorem dX9_act_6 : decode cX9_act 6 = .ok (.getfield 308, 3) := by decide +kernel
theorem dX9_act_9 : decode cX9_act 9 = .ok (.bipush 80, 2) := by decide +kernel
theorem dX9_act_11 : decode cX9_act 11 = .ok (.if_icmp .ne 37, 3) := by decide +kernel
theorem dX9_act_14 : decode cX9_act 14 = .ok (.iconst 0, 1) := by decide +kernel
theorem dX9_act_15 : decode cX9_act 15 = .ok (.istore_n 1, 1) := by decide +kernel
theorem dX9_act_16 : decode cX9_act 16 = .ok (.iload_n 1, 1) := by decide +kernel
theorem dX9_act_17 : decode cX9_act 17 = .ok (.iconst 1, 1) := by decide +kernel
theorem dX9_act_18 : decode cX9_act 18 = .ok (.iadd, 1) := by decide +kernel
theorem dX9_act_19 : decode cX9_act 19 = .ok (.bipush 80, 2) := by decide +kernel
theorem dX9_act_21 : decode cX9_act 21 = .ok (.if_icmp .ge 17, 3) := by decide +kernel
theorem dX9_act_24 : decode cX9_act 24 = .ok (.aload_n 0, 1) := by decide +kernel
theorem dX9_act_25 : decode cX9_act 25 = .ok (.iload_n 1, 1) := by decide +kernel
theorem dX9_act_26 : decode cX9_act 26 = .ok (.iconst 1, 1) := by decide +kernel
theorem dX9_act_27 : decode cX9_act 27 = .ok (.iadd, 1) := by decide +kernel
theorem dX9_act_28 : decode cX9_act 28 = .ok (.iload_n 1, 1) := by decide +kernel
theorem dX9_act_29 : decode cX9_act 29 = .ok (.invokevirtual 311, 3) := by decide +kernel
theorem dX9_act_32 : decode cX9_act 32 = .ok (.iinc 1 1, 3) := by decide +kernel
theorem dX9_act_35 : decode cX9_act 35 = .ok (.goto (-19), 3) := by decide +kernel
theorem dX9_act_38 : decode cX9_act 38 = .ok (.aload_n 0, 1) := by decide +kernel
theorem dX9_act_39 : decode cX9_act 39 = .ok (.dup, 1) := by decide +kernel
theorem dX9_act_40 : decode cX9_act 40 = .ok (.getfield 308, 3) := by decide +kernel
theorem dX9_act_43 : decode cX9_act 43 = .ok (.iconst 1, 1) := by decide +kernel
theorem dX9_act_44 : decode cX9_act 44 = .ok (.isub, 1) := by decide +kernel
theorem dX9_act_45 : decode cX9_act 45 = .ok (.putfield 308, 3) := by decide +kernel
theorem dX9_act_48 : decode cX9_act 48 = .ok (.aload_n 0, 1) := by decide +kernel
theorem dX9_act_49 : decode cX9_act 49 = .ok (.getfield 81, 3) := by decide +kernel
theorem dX9_act_52 : decode cX9_act 52 = .ok (.aload_n 0, 1) := by decide +kernel
theorem dX9_act_53 : decode cX9_act 53 = .ok (.getfield 308, 3) := by decide +kernel
theorem dX9_act_56 : decode cX9_act 56 = .ok (.aload_n 0, 1) := by decide +kernel
theorem dX9_act_57 : decode cX9_act 57 = .ok (.getfield 187, 3) := by decide +kernel
theorem dX9_act_60 : decode cX9_act 60 = .ok (.iastore, 1) := by decide +kernel
theorem dX9_act_61 : decode cX9_act 61 = .ok (.aload_n 0, 1) := by decide +kernel
theorem dX9_act_62 : decode cX9_act 62 = .ok (.getfield 84, 3) := by decide +kernel
theorem dX9_act_65 : decode cX9_act 65 = .ok (.aload_n 0, 1) := by decide +kernel
theorem dX9_act_66 : decode cX9_act 66 = .ok (.getfield 308, 3) := by decide +kernel
theorem dX9_act_69 : decode cX9_act 69 = .ok (.aload_n 0, 1) := by decide +kernel
theorem dX9_act_70 : decode cX9_act 70 = .ok (.getfield 216, 3) := by decide +kernel
theorem dX9_act_73 : decode cX9_act 73 = .ok (.iastore, 1) := by decide +kernel
theorem dX9_act_74 : decode cX9_act 74 = .ok (.iconst 0, 1) := by decide +kernel
theorem dX9_act_75 : decode cX9_act 75 = .ok (.istore_n 1, 1) := by decide +kernel
theorem dX9_act_76 : decode cX9_act 76 = .ok (.iload_n 1, 1) := by decide +kernel
theorem dX9_act_77 : decode cX9_act 77 = .ok (.bipush 36, 2) := by decide +kernel
theorem dX9_act_79 : decode cX9_act 79 = .ok (.if_icmp .ge 109, 3) := by decide +kernel
theorem dX9_act_82 : decode cX9_act 82 = .ok (.aload_n 0, 1) := by decide +kernel
theorem dX9_act_83 : decode cX9_act 83 = .ok (.getfield 87, 3) := by decide +kernel
theorem dX9_act_86 : decode cX9_act 86 = .ok (.bipush 36, 2) := by decide +kernel
theorem dX9_act_88 : decode cX9_act 88 = .ok (.aload_n 0, 1) := by decide +kernel
theorem dX9_act_89 : decode cX9_act 89 = .ok (.getfield 308, 3) := by decide +kernel
theorem dX9_act_92 : decode cX9_act 92 = .ok (.imul, 1) := by decide +kernel
theorem dX9_act_93 : decode cX9_act 93 = .ok (.iload_n 1, 1) := by decide +kernel
theorem dX9_act_94 : decode cX9_act 94 = .ok (.iadd, 1) := by decide +kernel
theorem dX9_act_95 : decode cX9_act 95 = .ok (.aload_n 0, 1) := by decide +kernel
theorem dX9_act_96 : decode cX9_act 96 = .ok (.getfield 63, 3) := by decide +kernel
theorem dX9_act_99 : decode cX9_act 99 = .ok (.iload_n 1, 1) := by decide +kernel
theorem dX9_act_100 : decode cX9_act 100 = .ok (.iaload, 1) := by decide +kernel
theorem dX9_act_101 : decode cX9_act 101 = .ok (.iastore, 1) := by decide +kernel
theorem dX9_act_102 : decode cX9_act 102 = .ok (.aload_n 0, 1) := by decide +kernel
theorem dX9_act_103 : decode cX9_act 103 = .ok (.getfield 93, 3) := by decide +kernel
theorem dX9_act_106 : decode cX9_act 106 = .ok (.bipush 36, 2) := by decide +kernel
theorem dX9_act_108 : decode cX9_act 108 = .ok (.aload_n 0, 1) := by decide +kernel
theorem dX9_act_109 : decode cX9_act 109 = .ok (.getfield 308, 3) := by decide +kernel
theorem dX9_act_112 : decode cX9_act 112 = .ok (.imul, 1) := by decide +kernel
theorem dX9_act_113 : decode cX9_act 113 = .ok (.iload_n 1, 1) := by decide +kernel
theorem dX9_act_114 : decode cX9_act 114 = .ok (.iadd, 1) := by decide +kernel
theorem dX9_act_115 : decode cX9_act 115 = .ok (.aload_n 0, 1) := by decide +kernel
theorem dX9_act_116 : decode cX9_act 116 = .ok (.getfield 69, 3) := by decide +kernel
theorem dX9_act_119 : decode cX9_act 119 = .ok (.iload_n 1, 1) := by decide +kernel
theorem dX9_act_120 : decode cX9_act 120 = .ok (.iaload, 1) := by decide +kernel
theorem dX9_act_121 : decode cX9_act 121 = .ok (.iastore, 1) := by decide +kernel
theorem dX9_act_122 : decode cX9_act 122 = .ok (.aload_n 0, 1) := by decide +kernel
theorem dX9_act_123 : decode cX9_act 123 = .ok (.getfield 96, 3) := by decide +kernel
theorem dX9_act_126 : decode cX9_act 126 = .ok (.bipush 36, 2) := by decide +kernel
theorem dX9_act_128 : decode cX9_act 128 = .ok (.aload_n 0, 1) := by decide +kernel
theorem dX9_act_129 : decode cX9_act 129 = .ok (.getfield 308, 3) := by decide +kernel
theorem dX9_act_132 : decode cX9_act 132 = .ok (.imul, 1) := by decide +kernel
theorem dX9_act_133 : decode cX9_act 133 = .ok (.iload_n 1, 1) := by decide +kernel
theorem dX9_act_134 : decode cX9_act 134 = .ok (.iadd, 1) := by decide +kernel
theorem dX9_act_135 : decode cX9_act 135 = .ok (.aload_n 0, 1) := by decide +kernel
theorem dX9_act_136 : decode cX9_act 136 = .ok (.getfield 72, 3) := by decide +kernel
theorem dX9_act_139 : decode cX9_act 139 = .ok (.iload_n 1, 1) := by decide +kernel
theorem dX9_act_140 : decode cX9_act 140 = .ok (.iaload, 1) := by decide +kernel
theorem dX9_act_141 : decode cX9_act 141 = .ok (.iastore, 1) := by decide +kernel
theorem dX9_act_142 : decode cX9_act 142 = .ok (.aload_n 0, 1) := by decide +kernel
theorem dX9_act_143 : decode cX9_act 143 = .ok (.getfield 99, 3) := by decide +kernel
theorem dX9_act_146 : decode cX9_act 146 = .ok (.bipush 36, 2) := by decide +kernel
theorem dX9_act_148 : decode cX9_act 148 = .ok (.aload_n 0, 1) := by decide +kernel
theorem dX9_act_149 : decode cX9_act 149 = .ok (.getfield 308, 3) := by decide +kernel
theorem dX9_act_152 : decode cX9_act 152 = .ok (.imul, 1) := by decide +kernel
theorem dX9_act_153 : decode cX9_act 153 = .ok (.iload_n 1, 1) := by decide +kernel
theorem dX9_act_154 : decode cX9_act 154 = .ok (.iadd, 1) := by decide +kernel
theorem dX9_act_155 : decode cX9_act 155 = .ok (.aload_n 0, 1) := by decide +kernel
theorem dX9_act_156 : decode cX9_act 156 = .ok (.getfield 75, 3) := by decide +kernel
theorem dX9_act_159 : decode cX9_act 159 = .ok (.iload_n 1, 1) := by decide +kernel
theorem dX9_act_160 : decode cX9_act 160 = .ok (.iaload, 1) := by decide +kernel
theorem dX9_act_161 : decode cX9_act 161 = .ok (.iastore, 1) := by decide +kernel
theorem dX9_act_162 : decode cX9_act 162 = .ok (.aload_n 0, 1) := by decide +kernel
theorem dX9_act_163 : decode cX9_act 163 = .ok (.getfield 102, 3) := by decide +kernel
theorem dX9_act_166 : decode cX9_act 166 = .ok (.bipush 36, 2) := by decide +kernel
theorem dX9_act_168 : decode cX9_act 168 = .ok (.aload_n 0, 1) := by decide +kernel
theorem dX9_act_169 : decode cX9_act 169 = .ok (.getfield 308, 3) := by decide +kernel
theorem dX9_act_172 : decode cX9_act 172 = .ok (.imul, 1) := by decide +kernel
theorem dX9_act_173 : decode cX9_act 173 = .ok (.iload_n 1, 1) := by decide +kernel
theorem dX9_act_174 : decode cX9_act 174 = .ok (.iadd, 1) := by decide +kernel
theorem dX9_act_175 : decode cX9_act 175 = .ok (.aload_n 0, 1) := by decide +kernel
theorem dX9_act_176 : decode cX9_act 176 = .ok (.getfield 78, 3) := by decide +kernel
theorem dX9_act_179 : decode cX9_act 179 = .ok (.iload_n 1, 1) := by decide +kernel
theorem dX9_act_180 : decode cX9_act 180 = .ok (.iaload, 1) := by decide +kernel
theorem dX9_act_181 : decode cX9_act 181 = .ok (.iastore, 1) := by decide +kernel
theorem dX9_act_182 : decode cX9_act 182 = .ok (.iinc 1 1, 3) := by decide +kernel
theorem dX9_act_185 : decode cX9_act 185 = .ok (.goto (-109), 3) := by decide +kernel
theorem dX9_act_188 : decode cX9_act 188 = .ok (.iconst 0, 1) := by decide +kernel
theorem dX9_act_189 : decode cX9_act 189 = .ok (.istore_n 1, 1) := by decide +kernel
theorem dX9_act_190 : decode cX9_act 190 = .ok (.iload_n 1, 1) := by decide +kernel
theorem dX9_act_191 : decode cX9_act 191 = .ok (.bipush 36, 2) := by decide +kernel
theorem dX9_act_193 : decode cX9_act 193 = .ok (.if_icmp .gt 29, 3) := by decide +kernel
theorem dX9_act_196 : decode cX9_act 196 = .ok (.aload_n 0, 1) := by decide +kernel
theorem dX9_act_197 : decode cX9_act 197 = .ok (.getfield 90, 3) := by decide +kernel
theorem dX9_act_200 : decode cX9_act 200 = .ok (.bipush 37, 2) := by decide +kernel
theorem dX9_act_202 : decode cX9_act 202 = .ok (.aload_n 0, 1) := by decide +kernel
theorem dX9_act_203 : decode cX9_act 203 = .ok (.getfield 308, 3) := by decide +kernel
theorem dX9_act_206 : decode cX9_act 206 = .ok (.imul, 1) := by decide +kernel
theorem dX9_act_207 : decode cX9_act 207 = .ok (.iload_n 1, 1) := by decide +kernel
theorem dX9_act_208 : decode cX9_act 208 = .ok (.iadd, 1) := by decide +kernel
theorem dX9_act_209 : decode cX9_act 209 = .ok (.aload_n 0, 1) := by decide +kernel
theorem dX9_act_210 : decode cX9_act 210 = .ok (.getfield 66, 3) := by decide +kernel
theorem dX9_act_213 : decode cX9_act 213 = .ok (.iload_n 1, 1) := by decide +kernel
theorem dX9_act_214 : decode cX9_act 214 = .ok (.iaload, 1) := by decide +kernel
theorem dX9_act_215 : decode cX9_act 215 = .ok (.iastore, 1) := by decide +kernel
theorem dX9_act_216 : decode cX9_act 216 = .ok (.iinc 1 1, 3) := by decide +kernel
theorem dX9_act_219 : decode cX9_act 219 = .ok (.goto (-29), 3) := by decide +kernel
theorem dX9_act_222 : decode cX9_act 222 = .ok (.aload_n 0, 1) := by decide +kernel
theorem dX9_act_223 : decode cX9_act 223 = .ok (.dup, 1) := by decide +kernel
theorem dX9_act_224 : decode cX9_act 224 = .ok (.getfield 308, 3) := by decide +kernel
theorem dX9_act_227 : decode cX9_act 227 = .ok (.iconst 1, 1) := by decide +kernel
theorem dX9_act_228 : decode cX9_act 228 = .ok (.iadd, 1) := by decide +kernel
theorem dX9_act_229 : decode cX9_act 229 = .ok (.putfield 308, 3) := by decide +kernel
theorem dX9_act_232 : decode cX9_act 232 = .ok (.return_, 1) := by decide +kernel
theorem dX9_copyAct_0 : decode cX9_copyAct 0 = .ok (.aload_n 0, 1) := by decide +kernel
theorem dX9_copyAct_1 : decode cX9_copyAct 1 = .ok (.getfield 81, 3) := by decide +kernel
theorem dX9_copyAct_4 : decode cX9_copyAct 4 = .ok (.iload_n 2, 1) := by decide +kernel
theorem dX9_copyAct_5 : decode cX9_copyAct 5 = .ok (.aload_n 0, 1) := by decide +kernel
theorem dX9_copyAct_6 : decode cX9_copyAct 6 = .ok (.getfield 81, 3) := by decide +kernel
theorem dX9_copyAct_9 : decode cX9_copyAct 9 = .ok (.iload_n 1, 1) := by decide +kernel
theorem dX9_copyAct_10 : decode cX9_copyAct 10 = .ok (.iaload, 1) := by decide +kernel
theorem dX9_copyAct_11 : decode cX9_copyAct 11 = .ok (.iastore, 1) := by decide +kernel
theorem dX9_copyAct_12 : decode cX9_copyAct 12 = .ok (.aload_n 0, 1) := by decide +kernel
theorem dX9_copyAct_13 : decode cX9_copyAct 13 = .ok (.getfield 84, 3) := by decide +kernel
theorem dX9_copyAct_16 : decode cX9_copyAct 16 = .ok (.iload_n 2, 1) := by decide +kernel
theorem dX9_copyAct_17 : decode cX9_copyAct 17 = .ok (.aload_n 0, 1) := by decide +kernel
theorem dX9_copyAct_18 : decode cX9_copyAct 18 = .ok (.getfield 84, 3) := by decide +kernel
theorem dX9_copyAct_21 : decode cX9_copyAct 21 = .ok (.iload_n 1, 1) := by decide +kernel
theorem dX9_copyAct_22 : decode cX9_copyAct 22 = .ok (.iaload, 1) := by decide +kernel
theorem dX9_copyAct_23 : decode cX9_copyAct 23 = .ok (.iastore, 1) := by decide +kernel
theorem dX9_copyAct_24 : decode cX9_copyAct 24 = .ok (.iconst 0, 1) := by decide +kernel
theorem dX9_copyAct_25 : decode cX9_copyAct 25 = .ok (.istore_n 3, 1) := by decide +kernel
theorem dX9_copyAct_26 : decode cX9_copyAct 26 = .ok (.iload_n 3, 1) := by decide +kernel
theorem dX9_copyAct_27 : decode cX9_copyAct 27 = .ok (.bipush 36, 2) := by decide +kernel
theorem dX9_copyAct_29 : decode cX9_copyAct 29 = .ok (.if_icmp .ge 119, 3) := by decide +kernel
theorem dX9_copyAct_32 : decode cX9_copyAct 32 = .ok (.aload_n 0, 1) := by decide +kernel
theorem dX9_copyAct_33 : decode cX9_copyAct 33 = .ok (.getfield 87, 3) := by decide +kernel
theorem dX9_copyAct_36 : decode cX9_copyAct 36 = .ok (.bipush 36, 2) := by decide +kernel
theorem dX9_copyAct_38 : decode cX9_copyAct 38 = .ok (.iload_n 2, 1) := by decide +kernel
theorem dX9_copyAct_39 : decode cX9_copyAct 39 = .ok (.imul, 1) := by decide +kernel
theorem dX9_copyAct_40 : decode cX9_copyAct 40 = .ok (.iload_n 3, 1) := by decide +kernel
theorem dX9_copyAct_41 : decode cX9_copyAct 41 = .ok (.iadd, 1) := by decide +kernel
theorem dX9_copyAct_42 : decode cX9_copyAct 42 = .ok (.aload_n 0, 1) := by decide +kernel
theorem dX9_copyAct_43 : decode cX9_copyAct 43 = .ok (.getfield 87, 3) := by decide +kernel
theorem dX9_copyAct_46 : decode cX9_copyAct 46 = .ok (.bipush 36, 2) := by decide +kernel
theorem dX9_copyAct_48 : decode cX9_copyAct 48 = .ok (.iload_n 1, 1) := by decide +kernel
theorem dX9_copyAct_49 : decode cX9_copyAct 49 = .ok (.imul, 1) := by decide +kernel
theorem dX9_copyAct_50 : decode cX9_copyAct 50 = .ok (.iload_n 3, 1) := by decide +kernel
theorem dX9_copyAct_51 : decode cX9_copyAct 51 = .ok (.iadd, 1) := by decide +kernel
theorem dX9_copyAct_52 : decode cX9_copyAct 52 = .ok (.iaload, 1) := by decide +kernel
theorem dX9_copyAct_53 : decode cX9_copyAct 53 = .ok (.iastore, 1) := by decide +kernel
theorem dX9_copyAct_54 : decode cX9_copyAct 54 = .ok (.aload_n 0, 1) := by decide +kernel
theorem dX9_copyAct_55 : decode cX9_copyAct 55 = .ok (.getfield 93, 3) := by decide +kernel
theorem dX9_copyAct_58 : decode cX9_copyAct 58 = .ok (.bipush 36, 2) := by decide +kernel
theorem dX9_copyAct_60 : decode cX9_copyAct 60 = .ok (.iload_n 2, 1) := by decide +kernel
theorem dX9_copyAct_61 : decode cX9_copyAct 61 = .ok (.imul, 1) := by decide +kernel
theorem dX9_copyAct_62 : decode cX9_copyAct 62 = .ok (.iload_n 3, 1) := by decide +kernel
theorem dX9_copyAct_63 : decode cX9_copyAct 63 = .ok (.iadd, 1) := by decide +kernel
theorem dX9_copyAct_64 : decode cX9_copyAct 64 = .ok (.aload_n 0, 1) := by decide +kernel
theorem dX9_copyAct_65 : decode cX9_copyAct 65 = .ok (.getfield 93, 3) := by decide +kernel
theorem dX9_copyAct_68 : decode cX9_copyAct 68 = .ok (.bipush 36, 2) := by decide +kernel
theorem dX9_copyAct_70 : decode cX9_copyAct 70 = .ok (.iload_n 1, 1) := by decide +kernel
theorem dX9_copyAct_71 : decode cX9_copyAct 71 = .ok (.imul, 1) := by decide +kernel
theorem dX9_copyAct_72 : decode cX9_copyAct 72 = .ok (.iload_n 3, 1) := by decide +kernel
theorem dX9_copyAct_73 : decode cX9_copyAct 73 = .ok (.iadd, 1) := by decide +kernel
theorem dX9_copyAct_74 : decode cX9_copyAct 74 = .ok (.iaload, 1) := by decide +kernel
theorem dX9_copyAct_75 : decode cX9_copyAct 75 = .ok (.iastore, 1) := by decide +kernel
theorem dX9_copyAct_76 : decode cX9_copyAct 76 = .ok (.aload_n 0, 1) := by decide +kernel
theorem dX9_copyAct_77 : decode cX9_copyAct 77 = .ok (.getfield 96, 3) := by decide +kernel
theorem dX9_copyAct_80 : decode cX9_copyAct 80 = .ok (.bipush 36, 2) := by decide +kernel
theorem dX9_copyAct_82 : decode cX9_copyAct 82 = .ok (.iload_n 2, 1) := by decide +kernel
theorem dX9_copyAct_83 : decode cX9_copyAct 83 = .ok (.imul, 1) := by decide +kernel
theorem dX9_copyAct_84 : decode cX9_copyAct 84 = .ok (.iload_n 3, 1) := by decide +kernel
theorem dX9_copyAct_85 : decode cX9_copyAct 85 = .ok (.iadd, 1) := by decide +kernel
theorem dX9_copyAct_86 : decode cX9_copyAct 86 = .ok (.aload_n 0, 1) := by decide +kernel
theorem dX9_copyAct_87 : decode cX9_copyAct 87 = .ok (.getfield 96, 3) := by decide +kernel
theorem dX9_copyAct_90 : decode cX9_copyAct 90 = .ok (.bipush 36, 2) := by decide +kernel
theorem dX9_copyAct_92 : decode cX9_copyAct 92 = .ok (.iload_n 1, 1) := by decide +kernel
theorem dX9_copyAct_93 : decode cX9_copyAct 93 = .ok (.imul, 1) := by decide +kernel
theorem dX9_copyAct_94 : decode cX9_copyAct 94 = .ok (.iload_n 3, 1) := by decide +kernel
theorem dX9_copyAct_95 : decode cX9_copyAct 95 = .ok (.iadd, 1) := by decide +kernel
theorem dX9_copyAct_96 : decode cX9_copyAct 96 = .ok (.iaload, 1) := by decide +kernel
theorem dX9_copyAct_97 : decode cX9_copyAct 97 = .ok (.iastore, 1) := by decide +kernel
theorem dX9_copyAct_98 : decode cX9_copyAct 98 = .ok (.aload_n 0, 1) := by decide +kernel
theorem dX9_copyAct_99 : decode cX9_copyAct 99 = .ok (.getfield 99, 3) := by decide +kernel
theorem dX9_copyAct_102 : decode cX9_copyAct 102 = .ok (.bipush 36, 2) := by decide +kernel
theorem dX9_copyAct_104 : decode cX9_copyAct 104 = .ok (.iload_n 2, 1) := by decide +kernel
theorem dX9_copyAct_105 : decode cX9_copyAct 105 = .ok (.imul, 1) := by decide +kernel
theorem dX9_copyAct_106 : decode cX9_copyAct 106 = .ok (.iload_n 3, 1) := by decide +kernel
theorem dX9_copyAct_107 : decode cX9_copyAct 107 = .ok (.iadd, 1) := by decide +kernel
theorem dX9_copyAct_108 : decode cX9_copyAct 108 = .ok (.aload_n 0, 1) := by decide +kernel
theorem dX9_copyAct_109 : decode cX9_copyAct 109 = .ok (.getfield 99, 3) := by decide +kernel
theorem dX9_copyAct_112 : decode cX9_copyAct 112 = .ok (.bipush 36, 2) := by decide +kernel
theorem dX9_copyAct_114 : decode cX9_copyAct 114 = .ok (.iload_n 1, 1) := by decide +kernel
theorem dX9_copyAct_115 : decode cX9_copyAct 115 = .ok (.imul, 1) := by decide +kernel
theorem dX9_copyAct_116 : decode cX9_copyAct 116 = .ok (.iload_n 3, 1) := by decide +kernel
theorem dX9_copyAct_117 : decode cX9_copyAct 117 = .ok (.iadd, 1) := by decide +kernel
theorem dX9_copyAct_118 : decode cX9_copyAct 118 = .ok (.iaload, 1) := by decide +kernel
theorem dX9_copyAct_119 : decode cX9_copyAct 119 = .ok (.iastore, 1) := by decide +kernel
theorem dX9_copyAct_120 : decode cX9_copyAct 120 = .ok (.aload_n 0, 1) := by decide +kernel
theorem dX9_copyAct_121 : decode cX9_copyAct 121 = .ok (.getfield 102, 3) := by decide +kernel
theorem dX9_copyAct_124 : decode cX9_copyAct 124 = .ok (.bipush 36, 2) := by decide +kernel
theorem dX9_copyAct_126 : decode cX9_copyAct 126 = .ok (.iload_n 2, 1) := by decide +kernel
theorem dX9_copyAct_127 : decode cX9_copyAct 127 = .ok (.imul, 1) := by decide +kernel
theorem dX9_copyAct_128 : decode cX9_copyAct 128 = .ok (.iload_n 3, 1) := by decide +kernel
theorem dX9_copyAct_129 : decode cX9_copyAct 129 = .ok (.iadd, 1) := by decide +kernel
theorem dX9_copyAct_130 : decode cX9_copyAct 130 = .ok (.aload_n 0, 1) := by decide +kernel
theorem dX9_copyAct_131 : decode cX9_copyAct 131 = .ok (.getfield 102, 3) := by decide +kernel
theorem dX9_copyAct_134 : decode cX9_copyAct 134 = .ok (.bipush 36, 2) := by decide +kernel
theorem dX9_copyAct_136 : decode cX9_copyAct 136 = .ok (.iload_n 1, 1) := by decide +kernel
theorem dX9_copyAct_137 : decode cX9_copyAct 137 = .ok (.imul, 1) := by decide +kernel
theorem dX9_copyAct_138 : decode cX9_copyAct 138 = .ok (.iload_n 3, 1) := by decide +kernel
theorem dX9_copyAct_139 : decode cX9_copyAct 139 = .ok (.iadd, 1) := by decide +kernel
theorem dX9_copyAct_140 : decode cX9_copyAct 140 = .ok (.iaload, 1) := by decide +kernel
theorem dX9_copyAct_141 : decode cX9_copyAct 141 = .ok (.iastore, 1) := by decide +kernel
theorem dX9_copyAct_142 : decode cX9_copyAct 142 = .ok (.iinc 3 1, 3) := by decide +kernel
theorem dX9_copyAct_145 : decode cX9_copyAct 145 = .ok (.goto (-119), 3) := by decide +kernel
theorem dX9_copyAct_148 : decode cX9_copyAct 148 = .ok (.iconst 0, 1) := by decide +kernel
theorem dX9_copyAct_149 : decode cX9_copyAct 149 = .ok (.istore_n 3, 1) := by decide +kernel
theorem dX9_copyAct_150 : decode cX9_copyAct 150 = .ok (.iload_n 3, 1) := by decide +kernel
theorem dX9_copyAct_151 : decode cX9_copyAct 151 = .ok (.bipush 36, 2) := by decide +kernel
theorem dX9_copyAct_153 : decode cX9_copyAct 153 = .ok (.if_icmp .gt 31, 3) := by decide +kernel
theorem dX9_copyAct_156 : decode cX9_copyAct 156 = .ok (.aload_n 0, 1) := by decide +kernel
theorem dX9_copyAct_157 : decode cX9_copyAct 157 = .ok (.getfield 90, 3) := by decide +kernel
theorem dX9_copyAct_160 : decode cX9_copyAct 160 = .ok (.bipush 37, 2) := by decide +kernel
theorem dX9_copyAct_162 : decode cX9_copyAct 162 = .ok (.iload_n 2, 1) := by decide +kernel
theorem dX9_copyAct_163 : decode cX9_copyAct 163 = .ok (.imul, 1) := by decide +kernel
theorem dX9_copyAct_164 : decode cX9_copyAct 164 = .ok (.iload_n 3, 1) := by decide +kernel
theorem dX9_copyAct_165 : decode cX9_copyAct 165 = .ok (.iadd, 1) := by decide +kernel
theorem dX9_copyAct_166 : decode cX9_copyAct 166 = .ok (.aload_n 0, 1) := by decide +kernel
theorem dX9_copyAct_167 : decode cX9_copyAct 167 = .ok (.getfield 90, 3) := by decide +kernel
theorem dX9_copyAct_170 : decode cX9_copyAct 170 = .ok (.bipush 37, 2) := by decide +kernel
theorem dX9_copyAct_172 : decode cX9_copyAct 172 = .ok (.iload_n 1, 1) := by decide +kernel
theorem dX9_copyAct_173 : decode cX9_copyAct 173 = .ok (.imul, 1) := by decide +kernel
theorem dX9_copyAct_174 : decode cX9_copyAct 174 = .ok (.iload_n 3, 1) := by decide +kernel
theorem dX9_copyAct_175 : decode cX9_copyAct 175 = .ok (.iadd, 1) := by decide +kernel
theorem dX9_copyAct_176 : decode cX9_copyAct 176 = .ok (.iaload, 1) := by decide +kernel
theorem dX9_copyAct_177 : decode cX9_copyAct 177 = .ok (.iastore, 1) := by decide +kernel
theorem dX9_copyAct_178 : decode cX9_copyAct 178 = .ok (.iinc 3 1, 3) := by decide +kernel
theorem dX9_copyAct_181 : decode cX9_copyAct 181 = .ok (.goto (-31), 3) := by decide +kernel
theorem dX9_copyAct_184 : decode cX9_copyAct 184 = .ok (.return_, 1) := by decide +kernel
set_option maxRecDepth 20000 in
theorem ggX9_back_X9_changed : GoodIn wsX9_back wsX9_changed := goodIn_r _ [23, 24, 25, 26, 27, 28, 29, 30, 31, 32, 33, 34, 35, 36, 37, 38, 39, 40, 41, 42, 43, 44, 45, 46, 47, 48, 49, 50, 51, 52, 53, 54, 55, 56, 57, 58, 59, 60, 61, 62, 63, 64, 65, 66, 67, 68, 69, 70, 71, 72, 73, 74, 75, 76, 77, 78, 79, 80, 81, 82, 83, 84, 85, 86] (by decide +kernel) (by decide +kernel)
set_option maxRecDepth 20000 in
theorem gX9_back_X9_changed : GoodIn wsX9_back (wsV RX9 177 RX9 yX9_changed wsX9_changed) := goodIn_app (goodIn_of _ (by decide +kernel)) ggX9_back_X9_changed
theorem dX9_back_0 : decode cX9_back 0 = .ok (.aload_n 0, 1) := by decide +kernel
theorem dX9_back_1 : decode cX9_back 1 = .ok (.iconst 0, 1) := by decide +kernel
theorem dX9_back_2 : decode cX9_back 2 = .ok (.putfield 151, 3) := by decide +kernel
theorem dX9_back_5 : decode cX9_back 5 = .ok (.aload_n 0, 1) := by decide +kernel
theorem dX9_back_6 : decode cX9_back 6 = .ok (.getfield 308, 3) := by decide +kernel
theorem dX9_back_9 : decode cX9_back 9 = .ok (.ifCond .ne 5, 3) := by decide +kernel
theorem dX9_back_12 : decode cX9_back 12 = .ok (.iconst 0, 1) := by decide +kernel
theorem dX9_back_13 : decode cX9_back 13 = .ok (.ireturn, 1) := by decide +kernel
theorem dX9_back_14 : decode cX9_back 14 = .ok (.aload_n 0, 1) := by decide +kernel
theorem dX9_back_15 : decode cX9_back 15 = .ok (.dup, 1) := by decide +kernel
theorem dX9_back_16 : decode cX9_back 16 = .ok (.getfield 308, 3) := by decide +kernel
theorem dX9_back_19 : decode cX9_back 19 = .ok (.iconst 1, 1) := by decide +kernel
theorem dX9_back_20 : decode cX9_back 20 = .ok (.isub, 1) := by decide +kernel
theorem dX9_back_21 : decode cX9_back 21 = .ok (.putfield 308, 3) := by decide +kernel
theorem dX9_back_24 : decode cX9_back 24 = .ok (.aload_n 0, 1) := by decide +kernel
theorem dX9_back_25 : decode cX9_back 25 = .ok (.invokevirtual 177, 3) := by decide +kernel
theorem dX9_back_28 : decode cX9_back 28 = .ok (.aload_n 0, 1) := by decide +kernel
theorem dX9_back_29 : decode cX9_back 29 = .ok (.aload_n 0, 1) := by decide +kernel
theorem dX9_back_30 : decode cX9_back 30 = .ok (.getfield 81, 3) := by decide +kernel
theorem dX9_back_33 : decode cX9_back 33 = .ok (.aload_n 0, 1) := by decide +kernel
theorem dX9_back_34 : decode cX9_back 34 = .ok (.getfield 308, 3) := by decide +kernel
theorem dX9_back_37 : decode cX9_back 37 = .ok (.iaload, 1) := by decide +kernel
theorem dX9_back_38 : decode cX9_back 38 = .ok (.putfield 187, 3) := by decide +kernel
theorem dX9_back_41 : decode cX9_back 41 = .ok (.aload_n 0, 1) := by decide +kernel
theorem dX9_back_42 : decode cX9_back 42 = .ok (.aload_n 0, 1) := by decide +kernel
theorem dX9_back_43 : decode cX9_back 43 = .ok (.getfield 84, 3) := by decide +kernel
theorem dX9_back_46 : decode cX9_back 46 = .ok (.aload_n 0, 1) := by decide +kernel
theorem dX9_back_47 : decode cX9_back 47 = .ok (.getfield 308, 3) := by decide +kernel
theorem dX9_back_50 : decode cX9_back 50 = .ok (.iaload, 1) := by decide +kernel
theorem dX9_back_51 : decode cX9_back 51 = .ok (.putfield 216, 3) := by decide +kernel
theorem dX9_back_54 : decode cX9_back 54 = .ok (.iconst 0, 1) := by decide +kernel
theorem dX9_back_55 : decode cX9_back 55 = .ok (.istore_n 1, 1) := by decide +kernel
theorem dX9_back_56 : decode cX9_back 56 = .ok (.iload_n 1, 1) := by decide +kernel
theorem dX9_back_57 : decode cX9_back 57 = .ok (.bipush 36, 2) := by decide +kernel
theorem dX9_back_59 : decode cX9_back 59 = .ok (.if_icmp .ge 109, 3) := by decide +kernel
theorem dX9_back_62 : decode cX9_back 62 = .ok (.aload_n 0, 1) := by decide +kernel
theorem dX9_back_63 : decode cX9_back 63 = .ok (.getfield 63, 3) := by decide +kernel
theorem dX9_back_66 : decode cX9_back 66 = .ok (.iload_n 1, 1) := by decide +kernel
theorem dX9_back_67 : decode cX9_back 67 = .ok (.aload_n 0, 1) := by decide +kernel
theorem dX9_back_68 : decode cX9_back 68 = .ok (.getfield 87, 3) := by decide +kernel
theorem dX9_back_71 : decode cX9_back 71 = .ok (.bipush 36, 2) := by decide +kernel
theorem dX9_back_73 : decode cX9_back 73 = .ok (.aload_n 0, 1) := by decide +kernel
theorem dX9_back_74 : decode cX9_back 74 = .ok (.getfield 308, 3) := by decide +kernel
theorem dX9_back_77 : decode cX9_back 77 = .ok (.imul, 1) := by decide +kernel
theorem dX9_back_78 : decode cX9_back 78 = .ok (.iload_n 1, 1) := by decide +kernel
theorem dX9_back_79 : decode cX9_back 79 = .ok (.iadd, 1) := by decide +kernel
theorem dX9_back_80 : decode cX9_back 80 = .ok (.iaload, 1) := by decide +kernel
theorem dX9_back_81 : decode cX9_back 81 = .ok (.iastore, 1) := by decide +kernel
theorem dX9_back_82 : decode cX9_back 82 = .ok (.aload_n 0, 1) := by decide +kernel
theorem dX9_back_83 : decode cX9_back 83 = .ok (.getfield 69, 3) := by decide +kernel
theorem dX9_back_86 : decode cX9_back 86 = .ok (.iload_n 1, 1) := by decide +kernel
theorem dX9_back_87 : decode cX9_back 87 = .ok (.aload_n 0, 1) := by decide +kernel
theorem dX9_back_88 : decode cX9_back 88 = .ok (.getfield 93, 3) := by decide +kernel
theorem dX9_back_91 : decode cX9_back 91 = .ok (.bipush 36, 2) := by decide +kernel
theorem dX9_back_93 : decode cX9_back 93 = .ok (.aload_n 0, 1) := by decide +kernel
theorem dX9_back_94 : decode cX9_back 94 = .ok (.getfield 308, 3) := by decide +kernel
theorem dX9_back_97 : decode cX9_back 97 = .ok (.imul, 1) := by decide +kernel
theorem dX9_back_98 : decode cX9_back 98 = .ok (.iload_n 1, 1) := by decide +kernel
theorem dX9_back_99 : decode cX9_back 99 = .ok (.iadd, 1) := by decide +kernel
theorem dX9_back_100 : decode cX9_back 100 = .ok (.iaload, 1) := by decide +kernel
theorem dX9_back_101 : decode cX9_back 101 = .ok (.iastore, 1) := by decide +kernel
theorem dX9_back_102 : decode cX9_back 102 = .ok (.aload_n 0, 1) := by decide +kernel
theorem dX9_back_103 : decode cX9_back 103 = .ok (.getfield 72, 3) := by decide +kernel
theorem dX9_back_106 : decode cX9_back 106 = .ok (.iload_n 1, 1) := by decide +kernel
theorem dX9_back_107 : decode cX9_back 107 = .ok (.aload_n 0, 1) := by decide +kernel
theorem dX9_back_108 : decode cX9_back 108 = .ok (.getfield 96, 3) := by decide +kernel
theorem dX9_back_111 : decode cX9_back 111 = .ok (.bipush 36, 2) := by decide +kernel
theorem dX9_back_113 : decode cX9_back 113 = .ok (.aload_n 0, 1) := by decide +kernel
theorem dX9_back_114 : decode cX9_back 114 = .ok (.getfield 308, 3) := by decide +kernel
theorem dX9_back_117 : decode cX9_back 117 = .ok (.imul, 1) := by decide +kernel
theorem dX9_back_118 : decode cX9_back 118 = .ok (.iload_n 1, 1) := by decide +kernel
theorem dX9_back_119 : decode cX9_back 119 = .ok (.iadd, 1) := by decide +kernel
theorem dX9_back_120 : decode cX9_back 120 = .ok (.iaload, 1) := by decide +kernel
theorem dX9_back_121 : decode cX9_back 121 = .ok (.iastore, 1) := by decide +kernel
theorem dX9_back_122 : decode cX9_back 122 = .ok (.aload_n 0, 1) := by decide +kernel
theorem dX9_back_123 : decode cX9_back 123 = .ok (.getfield 75, 3) := by decide +kernel
theorem dX9_back_126 : decode cX9_back 126 = .ok (.iload_n 1, 1) := by decide +kernel
theorem dX9_back_127 : decode cX9_back 127 = .ok (.aload_n 0, 1) := by decide +kernel
theorem dX9_back_128 : decode cX9_back 128 = .ok (.getfield 99, 3) := by decide +kernel
theorem dX9_back_131 : decode cX9_back 131 = .ok (.bipush 36, 2) := by decide +kernel
theorem dX9_back_133 : decode cX9_back 133 = .ok (.aload_n 0, 1) := by decide +kernel
theorem dX9_back_134 : decode cX9_back 134 = .ok (.getfield 308, 3) := by decide +kernel
theorem dX9_back_137 : decode cX9_back 137 = .ok (.imul, 1) := by decide +kernel
theorem dX9_back_138 : decode cX9_back 138 = .ok (.iload_n 1, 1) := by decide +kernel
theorem dX9_back_139 : decode cX9_back 139 = .ok (.iadd, 1) := by decide +kernel
theorem dX9_back_140 : decode cX9_back 140 = .ok (.iaload, 1) := by decide +kernel
theorem dX9_back_141 : decode cX9_back 141 = .ok (.iastore, 1) := by decide +kernel
theorem dX9_back_142 : decode cX9_back 142 = .ok (.aload_n 0, 1) := by decide +kernel
theorem dX9_back_143 : decode cX9_back 143 = .ok (.getfield 78, 3) := by decide +kernel
theorem dX9_back_146 : decode cX9_back 146 = .ok (.iload_n 1, 1) := by decide +kernel
theorem dX9_back_147 : decode cX9_back 147 = .ok (.aload_n 0, 1) := by decide +kernel
theorem dX9_back_148 : decode cX9_back 148 = .ok (.getfield 102, 3) := by decide +kernel
theorem dX9_back_151 : decode cX9_back 151 = .ok (.bipush 36, 2) := by decide +kernel
theorem dX9_back_153 : decode cX9_back 153 = .ok (.aload_n 0, 1) := by decide +kernel
theorem dX9_back_154 : decode cX9_back 154 = .ok (.getfield 308, 3) := by decide +kernel
theorem dX9_back_157 : decode cX9_back 157 = .ok (.imul, 1) := by decide +kernel
theorem dX9_back_158 : decode cX9_back 158 = .ok (.iload_n 1, 1) := by decide +kernel
theorem dX9_back_159 : decode cX9_back 159 = .ok (.iadd, 1) := by decide +kernel
theorem dX9_back_160 : decode cX9_back 160 = .ok (.iaload, 1) := by decide +kernel
theorem dX9_back_161 : decode cX9_back 161 = .ok (.iastore, 1) := by decide +kernel
theorem dX9_back_162 : decode cX9_back 162 = .ok (.iinc 1 1, 3) := by decide +kernel
theorem dX9_back_165 : decode cX9_back 165 = .ok (.goto (-109), 3) := by decide +kernel
theorem dX9_back_168 : decode cX9_back 168 = .ok (.iconst 0, 1) := by decide +kernel
theorem dX9_back_169 : decode cX9_back 169 = .ok (.istore_n 1, 1) := by decide +kernel
theorem dX9_back_170 : decode cX9_back 170 = .ok (.iload_n 1, 1) := by decide +kernel
theorem dX9_back_171 : decode cX9_back 171 = .ok (.bipush 36, 2) := by decide +kernel
theorem dX9_back_173 : decode cX9_back 173 = .ok (.if_icmp .gt 29, 3) := by decide +kernel
theorem dX9_back_176 : decode cX9_back 176 = .ok (.aload_n 0, 1) := by decide +kernel
theorem dX9_back_177 : decode cX9_back 177 = .ok (.getfield 66, 3) := by decide +kernel
theorem dX9_back_180 : decode cX9_back 180 = .ok (.iload_n 1, 1) := by decide +kernel
theorem dX9_back_181 : decode cX9_back 181 = .ok (.aload_n 0, 1) := by decide +kernel
theorem dX9_back_182 : decode cX9_back 182 = .ok (.getfield 90, 3) := by decide +kernel
theorem dX9_back_185 : decode cX9_back 185 = .ok (.bipush 37, 2) := by decide +kernel
theorem dX9_back_187 : decode cX9_back 187 = .ok (.aload_n 0, 1) := by decide +kernel
theorem dX9_back_188 : decode cX9_back 188 = .ok (.getfield 308, 3) := by decide +kernel
theorem dX9_back_191 : decode cX9_back 191 = .ok (.imul, 1) := by decide +kernel
theorem dX9_back_192 : decode cX9_back 192 = .ok (.iload_n 1, 1) := by decide +kernel
theorem dX9_back_193 : decode cX9_back 193 = .ok (.iadd, 1) := by decide +kernel
theorem dX9_back_194 : decode cX9_back 194 = .ok (.iaload, 1) := by decide +kernel
theorem dX9_back_195 : decode cX9_back 195 = .ok (.iastore, 1) := by decide +kernel
theorem dX9_back_196 : decode cX9_back 196 = .ok (.iinc 1 1, 3) := by decide +kernel
theorem dX9_back_199 : decode cX9_back 199 = .ok (.goto (-29), 3) := by decide +kernel
theorem dX9_back_202 : decode cX9_back 202 = .ok (.iconst 1, 1) := by decide +kernel
theorem dX9_back_203 : decode cX9_back 203 = .ok (.ireturn, 1) := by decide +kernel
set_option maxRecDepth 20000 in
theorem ggX9_take_X9_read : GoodIn wsX9_take wsX9_read := goodIn_r _ [16, 17, 18, 19, 2, 4, 3, 7, 20, 21, 22, 23, 9, 24, 25, 26, 15, 27, 28, 29, 30, 31, 32, 33, 34, 35, 36, 37, 38, 39, 40, 41, 42, 43, 44, 45, 46, 47, 48, 49, 50, 51, 52, 53, 54, 55, 56, 57, 58, 59, 60, 61, 62, 63, 64, 65, 66, 67, 68, 69, 70, 71, 72, 73, 74, 75, 76, 77, 78, 79, 80, 81, 82, 83, 84, 85, 86, 87, 88, 89, 90, 91, 92, 93, 94, 95, 96, 97, 98, 99, 100, 101, 102, 103, 104, 105, 106, 107, 108, 109, 110, 111, 112, 113, 114, 115, 116, 117, 118, 119, 120, 121, 122, 123, 124, 137, 138, 139, 140, 141, 142, 143, 144, 145, 146, 147, 148, 149, 150, 151, 152, 153, 154, 155, 156, 157, 158, 159, 160, 161, 162, 163, 164, 165, 166, 167, 168, 169, 170, 171, 172, 173, 174, 175, 176, 177, 178, 179, 180, 181, 182, 183, 184, 185, 186, 187, 188, 189, 190, 191, 192, 193, 194, 195, 196, 197] (by decide +kernel) (by decide +kernel)
set_option maxRecDepth 20000 in
theorem gX9_take_X9_read : GoodIn wsX9_take (wsV RX9 275 RX9 yX9_read wsX9_read) := goodIn_app (goodIn_of _ (by decide +kernel)) ggX9_take_X9_read
set_option maxRecDepth 20000 in
theorem ggX9_take_X9_kindOf : GoodIn wsX9_take wsX9_kindOf := goodIn_r _ [90, 91, 137, 138, 139, 140, 141, 142, 143, 144, 145, 146, 147, 148, 149, 150, 151, 152, 153, 154, 155, 156, 157, 158, 159, 160, 161, 162, 163, 164, 165, 166, 167, 168, 169, 170, 171, 172, 173, 174, 175, 176, 177, 178, 179, 180, 181, 182, 183, 184, 185, 186, 187, 188, 189, 190, 191, 192, 193, 194, 195, 196, 197] (by decide +kernel) (by decide +kernel)
set_option maxRecDepth 20000 in
theorem gX9_take_X9_kindOf : GoodIn wsX9_take (wsV RX9 244 RX9 yX9_kindOf wsX9_kindOf) := goodIn_app (goodIn_of _ (by decide +kernel)) ggX9_take_X9_kindOf
set_option maxRecDepth 20000 in
theorem ggX9_take_X9_learn : GoodIn wsX9_take wsX9_learn := goodIn_r _ [128, 6, 8, 82, 111, 10, 137, 138, 139, 140, 141, 142, 143, 144, 145, 146, 147, 148, 149, 150, 151, 152, 153, 154, 155, 156, 157, 158, 159, 160, 161, 162, 163, 164, 165, 166, 167, 168, 169, 170, 171, 172, 173, 174, 175, 176, 177, 178, 179, 180, 181, 182, 183, 184, 185, 186, 187, 188, 189, 190, 191, 192, 193, 194, 195, 196, 197] (by decide +kernel) (by decide +kernel)
set_option maxRecDepth 20000 in
theorem gX9_take_X9_learn : GoodIn wsX9_take (wsV RX9 317 RX9 yX9_learn wsX9_learn) := goodIn_app (goodIn_of _ (by decide +kernel)) ggX9_take_X9_learn
set_option maxRecDepth 20000 in
theorem ggX9_take_X9_freeHand : GoodIn wsX9_take wsX9_freeHand := goodIn_r _ [132, 96, 105, 137, 138, 139, 140, 141, 142, 143, 144, 145, 146, 147, 148, 149, 150, 151, 152, 153, 154, 155, 156, 157, 158, 159, 160, 161, 162, 163, 164, 165, 166, 167, 168, 169, 170, 171, 172, 173, 174, 175, 176, 177, 178, 179, 180, 181, 182, 183, 184, 185, 186, 187, 188, 189, 190, 191, 192, 193, 194, 195, 196, 197] (by decide +kernel) (by decide +kernel)
set_option maxRecDepth 20000 in
theorem gX9_take_X9_freeHand : GoodIn wsX9_take (wsV RX9 305 RX9 yX9_freeHand wsX9_freeHand) := goodIn_app (goodIn_of _ (by decide +kernel)) ggX9_take_X9_freeHand
set_option maxRecDepth 20000 in
theorem ggX9_take_X9_changed : GoodIn wsX9_take wsX9_changed := goodIn_r _ [136, 17, 18, 137, 138, 139, 140, 141, 142, 143, 144, 145, 146, 147, 148, 149, 150, 151, 152, 153, 154, 155, 156, 157, 158, 159, 160, 161, 162, 163, 164, 165, 166, 167, 168, 169, 170, 171, 172, 173, 174, 175, 176, 177, 178, 179, 180, 181, 182, 183, 184, 185, 186, 187, 188, 189, 190, 191, 192, 193, 194, 195, 196, 197] (by decide +kernel) (by decide +kernel)
set_option maxRecDepth 20000 in
theorem gX9_take_X9_changed : GoodIn wsX9_take (wsV RX9 177 RX9 yX9_changed wsX9_changed) := goodIn_app (goodIn_of _ (by decide +kernel)) ggX9_take_X9_changed
theorem dX9_take_0 : decode cX9_take 0 = .ok (.aload_n 0, 1) := by decide +kernel
theorem dX9_take_1 : decode cX9_take 1 = .ok (.iconst 0, 1) := by decide +kernel
theorem dX9_take_2 : decode cX9_take 2 = .ok (.putfield 151, 3) := by decide +kernel
theorem dX9_take_5 : decode cX9_take 5 = .ok (.aload_n 0, 1) := by decide +kernel
theorem dX9_take_6 : decode cX9_take 6 = .ok (.invokevirtual 275, 3) := by decide +kernel
theorem dX9_take_9 : decode cX9_take 9 = .ok (.aload_n 0, 1) := by decide +kernel
theorem dX9_take_10 : decode cX9_take 10 = .ok (.getfield 187, 3) := by decide +kernel
theorem dX9_take_13 : decode cX9_take 13 = .ok (.ifCond .eq 21, 3) := by decide +kernel
theorem dX9_take_16 : decode cX9_take 16 = .ok (.aload_n 0, 1) := by decide +kernel
theorem dX9_take_17 : decode cX9_take 17 = .ok (.getfield 229, 3) := by decide +kernel
theorem dX9_take_20 : decode cX9_take 20 = .ok (.ldc 186, 2) := by decide +kernel
theorem dX9_take_22 : decode cX9_take 22 = .ok (.if_icmp .ge 12, 3) := by decide +kernel
theorem dX9_take_25 : decode cX9_take 25 = .ok (.aload_n 0, 1) := by decide +kernel
theorem dX9_take_26 : decode cX9_take 26 = .ok (.getfield 314, 3) := by decide +kernel
theorem dX9_take_29 : decode cX9_take 29 = .ok (.bipush 40, 2) := by decide +kernel
theorem dX9_take_31 : decode cX9_take 31 = .ok (.if_icmp .ne 5, 3) := by decide +kernel
theorem dX9_take_34 : decode cX9_take 34 = .ok (.iconst (-1), 1) := by decide +kernel
theorem dX9_take_35 : decode cX9_take 35 = .ok (.ireturn, 1) := by decide +kernel
theorem dX9_take_36 : decode cX9_take 36 = .ok (.aload_n 0, 1) := by decide +kernel
theorem dX9_take_37 : decode cX9_take 37 = .ok (.getfield 105, 3) := by decide +kernel
theorem dX9_take_40 : decode cX9_take 40 = .ok (.aload_n 0, 1) := by decide +kernel
theorem dX9_take_41 : decode cX9_take 41 = .ok (.getfield 314, 3) := by decide +kernel
theorem dX9_take_44 : decode cX9_take 44 = .ok (.aload_n 0, 1) := by decide +kernel
theorem dX9_take_45 : decode cX9_take 45 = .ok (.getfield 232, 3) := by decide +kernel
theorem dX9_take_48 : decode cX9_take 48 = .ok (.iastore, 1) := by decide +kernel
theorem dX9_take_49 : decode cX9_take 49 = .ok (.iconst 0, 1) := by decide +kernel
theorem dX9_take_50 : decode cX9_take 50 = .ok (.istore_n 1, 1) := by decide +kernel
theorem dX9_take_51 : decode cX9_take 51 = .ok (.iload_n 1, 1) := by decide +kernel
theorem dX9_take_52 : decode cX9_take 52 = .ok (.aload_n 0, 1) := by decide +kernel
theorem dX9_take_53 : decode cX9_take 53 = .ok (.getfield 232, 3) := by decide +kernel
