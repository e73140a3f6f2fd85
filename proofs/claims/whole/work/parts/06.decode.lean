theorem dX10_refusal_0 : decode cX10_refusal 0 = .ok (.aload_n 0, 1) := by decide +kernel
theorem dX10_refusal_1 : decode cX10_refusal 1 = .ok (.getfield 19, 3) := by decide +kernel
theorem dX10_refusal_4 : decode cX10_refusal 4 = .ok (.iload_n 1, 1) := by decide +kernel
theorem dX10_refusal_5 : decode cX10_refusal 5 = .ok (.invokevirtual 148, 3) := by decide +kernel
theorem dX10_refusal_8 : decode cX10_refusal 8 = .ok (.ifCond .eq 21, 3) := by decide +kernel
theorem dX10_refusal_11 : decode cX10_refusal 11 = .ok (.aload_n 0, 1) := by decide +kernel
theorem dX10_refusal_12 : decode cX10_refusal 12 = .ok (.invokevirtual 180, 3) := by decide +kernel
theorem dX10_refusal_15 : decode cX10_refusal 15 = .ok (.aload_n 0, 1) := by decide +kernel
theorem dX10_refusal_16 : decode cX10_refusal 16 = .ok (.getfield 19, 3) := by decide +kernel
theorem dX10_refusal_19 : decode cX10_refusal 19 = .ok (.iload_n 1, 1) := by decide +kernel
theorem dX10_refusal_20 : decode cX10_refusal 20 = .ok (.invokevirtual 205, 3) := by decide +kernel
theorem dX10_refusal_23 : decode cX10_refusal 23 = .ok (.invokevirtual 184, 3) := by decide +kernel
theorem dX10_refusal_26 : decode cX10_refusal 26 = .ok (.goto 4, 3) := by decide +kernel
theorem dX10_refusal_29 : decode cX10_refusal 29 = .ok (.iconst (-1), 1) := by decide +kernel
theorem dX10_refusal_30 : decode cX10_refusal 30 = .ok (.ireturn, 1) := by decide +kernel
set_option maxRecDepth 20000 in
theorem ggX10_worst_X8_choices : GoodIn wsX10_worst wsX8_choices := goodIn_r _ [7, 8, 135, 136, 137, 138] (by decide +kernel) (by decide +kernel)
set_option maxRecDepth 20000 in
theorem gX10_worst_X8_choices : GoodIn wsX10_worst (wsV RX10 126 RX8 yX8_choices wsX8_choices) := goodIn_app (goodIn_of _ (by decide +kernel)) ggX10_worst_X8_choices
set_option maxRecDepth 20000 in
theorem ggX10_worst_X10_lengthsNow : GoodIn wsX10_worst wsX10_lengthsNow := goodIn_r _ [13, 14, 15, 16, 17, 18, 19, 20, 21, 22, 23, 24, 25, 26, 27, 28, 29, 30, 31, 32, 33, 6, 34, 35, 36, 37, 38, 39, 40, 41, 42, 43, 44, 45, 46, 47, 48, 49, 50, 51, 52, 53, 54, 55, 56, 57, 58, 59, 60, 61, 62, 63, 8, 64, 65, 66, 67, 68, 69, 70, 71, 72, 73, 74, 75, 76, 77, 78, 79, 80, 81, 82, 83, 84, 85, 86, 87, 88, 89, 90, 91, 123, 124, 125, 126, 127, 128, 129, 130, 131, 132, 133, 134, 139, 140, 141, 142, 143, 144, 145, 135, 136, 137, 138, 146, 147, 148, 149, 150, 151] (by decide +kernel) (by decide +kernel)
set_option maxRecDepth 20000 in
theorem gX10_worst_X10_lengthsNow : GoodIn wsX10_worst (wsV RX10 180 RX10 yX10_lengthsNow wsX10_lengthsNow) := goodIn_app (goodIn_of _ (by decide +kernel)) ggX10_worst_X10_lengthsNow
set_option maxRecDepth 20000 in
theorem ggX10_worst_X3_longestSign : GoodIn wsX10_worst wsX3_longestSign := goodIn_r _ [96, 97, 98, 4, 5, 6, 7, 8, 99, 100, 101, 95, 102, 103, 56, 57, 58, 59, 60, 61, 62, 63, 64, 65, 38, 66, 104, 105, 106, 107, 108, 109, 110, 111, 112, 78, 79, 80, 81, 113, 114, 115, 116, 117, 32, 33, 34, 35, 118, 119, 120, 19, 121, 22, 87, 152, 153, 154, 155, 156, 135, 136, 137, 138, 139, 140, 141, 142, 143] (by decide +kernel) (by decide +kernel)
set_option maxRecDepth 20000 in
theorem gX10_worst_X3_longestSign : GoodIn wsX10_worst (wsV RX10 208 RX3 yX3_longestSign wsX3_longestSign) := goodIn_app (goodIn_of _ (by decide +kernel)) ggX10_worst_X3_longestSign
set_option maxRecDepth 20000 in
theorem ggX10_worst_X3_lengthFor : GoodIn wsX10_worst wsX3_lengthFor := goodIn_r _ [107, 108, 109, 110, 95, 111, 97, 112, 78, 79, 6, 80, 81, 64, 65, 38, 66, 113, 114, 115, 116, 117, 32, 33, 34, 35, 118, 119, 120, 19, 121, 22, 87, 152, 153, 154, 155, 156, 135, 136, 137, 138, 139, 140, 141, 142, 143] (by decide +kernel) (by decide +kernel)
set_option maxRecDepth 20000 in
theorem gX10_worst_X3_lengthFor : GoodIn wsX10_worst (wsV RX10 212 RX3 yX3_lengthFor wsX3_lengthFor) := goodIn_app (goodIn_of _ (by decide +kernel)) ggX10_worst_X3_lengthFor
theorem dX10_worst_0 : decode cX10_worst 0 = .ok (.iload_n 1, 1) := by decide +kernel
theorem dX10_worst_1 : decode cX10_worst 1 = .ok (.ifCond .lt 8, 3) := by decide +kernel
theorem dX10_worst_4 : decode cX10_worst 4 = .ok (.iload_n 1, 1) := by decide +kernel
theorem dX10_worst_5 : decode cX10_worst 5 = .ok (.iconst 1, 1) := by decide +kernel
theorem dX10_worst_6 : decode cX10_worst 6 = .ok (.if_icmp .le 5, 3) := by decide +kernel
theorem dX10_worst_9 : decode cX10_worst 9 = .ok (.iconst (-1), 1) := by decide +kernel
theorem dX10_worst_10 : decode cX10_worst 10 = .ok (.ireturn, 1) := by decide +kernel
theorem dX10_worst_11 : decode cX10_worst 11 = .ok (.aload_n 0, 1) := by decide +kernel
theorem dX10_worst_12 : decode cX10_worst 12 = .ok (.getfield 19, 3) := by decide +kernel
theorem dX10_worst_15 : decode cX10_worst 15 = .ok (.invokevirtual 126, 3) := by decide +kernel
theorem dX10_worst_18 : decode cX10_worst 18 = .ok (.ifCond .ne 6, 3) := by decide +kernel
theorem dX10_worst_21 : decode cX10_worst 21 = .ok (.bipush (-9), 2) := by decide +kernel
theorem dX10_worst_23 : decode cX10_worst 23 = .ok (.ireturn, 1) := by decide +kernel
theorem dX10_worst_24 : decode cX10_worst 24 = .ok (.aload_n 0, 1) := by decide +kernel
theorem dX10_worst_25 : decode cX10_worst 25 = .ok (.getfield 68, 3) := by decide +kernel
theorem dX10_worst_28 : decode cX10_worst 28 = .ok (.aload_n 0, 1) := by decide +kernel
theorem dX10_worst_29 : decode cX10_worst 29 = .ok (.invokevirtual 180, 3) := by decide +kernel
theorem dX10_worst_32 : decode cX10_worst 32 = .ok (.invokevirtual 208, 3) := by decide +kernel
theorem dX10_worst_35 : decode cX10_worst 35 = .ok (.istore_n 2, 1) := by decide +kernel
theorem dX10_worst_36 : decode cX10_worst 36 = .ok (.iload_n 1, 1) := by decide +kernel
theorem dX10_worst_37 : decode cX10_worst 37 = .ok (.ifCond .ne 7, 3) := by decide +kernel
theorem dX10_worst_40 : decode cX10_worst 40 = .ok (.iload_n 2, 1) := by decide +kernel
theorem dX10_worst_41 : decode cX10_worst 41 = .ok (.goto 15, 3) := by decide +kernel
theorem dX10_worst_44 : decode cX10_worst 44 = .ok (.aload_n 0, 1) := by decide +kernel
theorem dX10_worst_45 : decode cX10_worst 45 = .ok (.getfield 68, 3) := by decide +kernel
theorem dX10_worst_48 : decode cX10_worst 48 = .ok (.iload_n 2, 1) := by decide +kernel
theorem dX10_worst_49 : decode cX10_worst 49 = .ok (.aload_n 0, 1) := by decide +kernel
theorem dX10_worst_50 : decode cX10_worst 50 = .ok (.invokevirtual 180, 3) := by decide +kernel
theorem dX10_worst_53 : decode cX10_worst 53 = .ok (.invokevirtual 212, 3) := by decide +kernel
theorem dX10_worst_56 : decode cX10_worst 56 = .ok (.ireturn, 1) := by decide +kernel
set_option maxRecDepth 20000 in
theorem ggX10_saves_X0_words : GoodIn wsX10_saves wsX0_words := goodIn_r _ [8, 9, 141, 142, 143, 144, 145, 146] (by decide +kernel) (by decide +kernel)
set_option maxRecDepth 20000 in
theorem gX10_saves_X0_words : GoodIn wsX10_saves (wsV RX10 152 RX0 yX0_words wsX0_words) := goodIn_app (goodIn_of _ (by decide +kernel)) ggX10_saves_X0_words
set_option maxRecDepth 20000 in
theorem ggX10_saves_X8_choices : GoodIn wsX10_saves wsX8_choices := goodIn_r _ [14, 15, 147, 148, 149, 150] (by decide +kernel) (by decide +kernel)
set_option maxRecDepth 20000 in
theorem gX10_saves_X8_choices : GoodIn wsX10_saves (wsV RX10 126 RX8 yX8_choices wsX8_choices) := goodIn_app (goodIn_of _ (by decide +kernel)) ggX10_saves_X8_choices
set_option maxRecDepth 20000 in
theorem ggX10_saves_X3_findBest : GoodIn wsX10_saves wsX3_findBest := goodIn_r _ [20, 21, 22, 23, 24, 25, 26, 11, 12, 13, 14, 15, 27, 28, 29, 19, 30, 31, 32, 33, 34, 35, 36, 37, 38, 39, 40, 41, 42, 43, 44, 45, 46, 47, 48, 49, 50, 51, 52, 53, 54, 55, 56, 57, 58, 59, 60, 61, 62, 63, 64, 65, 66, 67, 68, 69, 70, 71, 72, 73, 74, 75, 76, 77, 78, 79, 80, 81, 82, 83, 84, 85, 86, 87, 88, 89, 90, 5, 6, 7, 8, 9, 91, 92, 93, 94, 95, 96, 97, 98, 99, 100, 101, 102, 103, 104, 105, 106, 107, 108, 109, 110, 111, 112, 113, 114, 115, 116, 117, 118, 119, 120, 151, 152, 153, 154, 155, 147, 148, 149, 150, 156, 157, 158, 159, 160, 161, 162, 141, 142, 143, 144, 145, 146] (by decide +kernel) (by decide +kernel)
set_option maxRecDepth 20000 in
theorem gX10_saves_X3_findBest : GoodIn wsX10_saves (wsV RX10 216 RX3 yX3_findBest wsX3_findBest) := goodIn_app (goodIn_of _ (by decide +kernel)) ggX10_saves_X3_findBest
set_option maxRecDepth 20000 in
theorem ggX10_saves_X3_bestSign : GoodIn wsX10_saves wsX3_bestSign := goodIn_r _ [124, 25, 151, 152, 153, 154, 155] (by decide +kernel) (by decide +kernel)
set_option maxRecDepth 20000 in
theorem gX10_saves_X3_bestSign : GoodIn wsX10_saves (wsV RX10 219 RX3 yX3_bestSign wsX3_bestSign) := goodIn_app (goodIn_of _ (by decide +kernel)) ggX10_saves_X3_bestSign
set_option maxRecDepth 20000 in
theorem ggX10_saves_X3_bestSum : GoodIn wsX10_saves wsX3_bestSum := goodIn_r _ [128, 24, 151, 152, 153, 154, 155] (by decide +kernel) (by decide +kernel)
set_option maxRecDepth 20000 in
theorem gX10_saves_X3_bestSum : GoodIn wsX10_saves (wsV RX10 222 RX3 yX3_bestSum wsX3_bestSum) := goodIn_app (goodIn_of _ (by decide +kernel)) ggX10_saves_X3_bestSum
theorem dX10_saves_0 : decode cX10_saves 0 = .ok (.iload_n 1, 1) := by decide +kernel
theorem dX10_saves_1 : decode cX10_saves 1 = .ok (.ifCond .lt 8, 3) := by decide +kernel
theorem dX10_saves_4 : decode cX10_saves 4 = .ok (.iload_n 1, 1) := by decide +kernel
theorem dX10_saves_5 : decode cX10_saves 5 = .ok (.iconst 1, 1) := by decide +kernel
theorem dX10_saves_6 : decode cX10_saves 6 = .ok (.if_icmp .le 5, 3) := by decide +kernel
theorem dX10_saves_9 : decode cX10_saves 9 = .ok (.iconst (-1), 1) := by decide +kernel
theorem dX10_saves_10 : decode cX10_saves 10 = .ok (.ireturn, 1) := by decide +kernel
theorem dX10_saves_11 : decode cX10_saves 11 = .ok (.aload_n 0, 1) := by decide +kernel
theorem dX10_saves_12 : decode cX10_saves 12 = .ok (.getfield 26, 3) := by decide +kernel
theorem dX10_saves_15 : decode cX10_saves 15 = .ok (.invokevirtual 152, 3) := by decide +kernel
theorem dX10_saves_18 : decode cX10_saves 18 = .ok (.iconst 3, 1) := by decide +kernel
theorem dX10_saves_19 : decode cX10_saves 19 = .ok (.if_icmp .lt 6, 3) := by decide +kernel
theorem dX10_saves_22 : decode cX10_saves 22 = .ok (.bipush (-3), 2) := by decide +kernel
theorem dX10_saves_24 : decode cX10_saves 24 = .ok (.ireturn, 1) := by decide +kernel
theorem dX10_saves_25 : decode cX10_saves 25 = .ok (.aload_n 0, 1) := by decide +kernel
theorem dX10_saves_26 : decode cX10_saves 26 = .ok (.getfield 19, 3) := by decide +kernel
theorem dX10_saves_29 : decode cX10_saves 29 = .ok (.invokevirtual 126, 3) := by decide +kernel
theorem dX10_saves_32 : decode cX10_saves 32 = .ok (.ifCond .ne 6, 3) := by decide +kernel
theorem dX10_saves_35 : decode cX10_saves 35 = .ok (.bipush (-9), 2) := by decide +kernel
theorem dX10_saves_37 : decode cX10_saves 37 = .ok (.ireturn, 1) := by decide +kernel
theorem dX10_saves_38 : decode cX10_saves 38 = .ok (.aload_n 0, 1) := by decide +kernel
theorem dX10_saves_39 : decode cX10_saves 39 = .ok (.getfield 68, 3) := by decide +kernel
theorem dX10_saves_42 : decode cX10_saves 42 = .ok (.invokevirtual 216, 3) := by decide +kernel
theorem dX10_saves_45 : decode cX10_saves 45 = .ok (.iload_n 1, 1) := by decide +kernel
theorem dX10_saves_46 : decode cX10_saves 46 = .ok (.ifCond .ne 13, 3) := by decide +kernel
theorem dX10_saves_49 : decode cX10_saves 49 = .ok (.aload_n 0, 1) := by decide +kernel
theorem dX10_saves_50 : decode cX10_saves 50 = .ok (.getfield 68, 3) := by decide +kernel
theorem dX10_saves_53 : decode cX10_saves 53 = .ok (.invokevirtual 219, 3) := by decide +kernel
theorem dX10_saves_56 : decode cX10_saves 56 = .ok (.goto 10, 3) := by decide +kernel
theorem dX10_saves_59 : decode cX10_saves 59 = .ok (.aload_n 0, 1) := by decide +kernel
theorem dX10_saves_60 : decode cX10_saves 60 = .ok (.getfield 68, 3) := by decide +kernel
theorem dX10_saves_63 : decode cX10_saves 63 = .ok (.invokevirtual 222, 3) := by decide +kernel
theorem dX10_saves_66 : decode cX10_saves 66 = .ok (.ireturn, 1) := by decide +kernel
set_option maxRecDepth 20000 in
theorem ggX10_contract_X10_contractWithout : GoodIn wsX10_contract wsX10_contractWithout := goodIn_r _ [5, 6, 7, 8, 9, 10, 11, 12, 13, 14, 15, 16, 17, 18, 19, 20, 21, 22, 23, 24, 25, 26, 27, 28, 29, 30, 31, 32, 33, 34, 35, 36, 37, 38, 39, 40, 41, 42, 43, 44, 45, 46, 47, 48, 49, 50] (by decide +kernel) (by decide +kernel)
set_option maxRecDepth 20000 in
theorem gX10_contract_X10_contractWithout : GoodIn wsX10_contract (wsV RX10 225 RX10 yX10_contractWithout wsX10_contractWithout) := goodIn_app (goodIn_of _ (by decide +kernel)) ggX10_contract_X10_contractWithout
theorem dX10_contract_0 : decode cX10_contract 0 = .ok (.aload_n 0, 1) := by decide +kernel
theorem dX10_contract_1 : decode cX10_contract 1 = .ok (.iconst (-1), 1) := by decide +kernel
theorem dX10_contract_2 : decode cX10_contract 2 = .ok (.invokevirtual 225, 3) := by decide +kernel
theorem dX10_contract_5 : decode cX10_contract 5 = .ok (.ireturn, 1) := by decide +kernel
set_option maxRecDepth 20000 in
theorem ggX10_gap_X8_isSet : GoodIn wsX10_gap wsX8_isSet := goodIn_r _ [6, 7, 8, 9, 5, 10, 11, 54, 55, 56, 57] (by decide +kernel) (by decide +kernel)
set_option maxRecDepth 20000 in
theorem gX10_gap_X8_isSet : GoodIn wsX10_gap (wsV RX10 148 RX8 yX8_isSet wsX8_isSet) := goodIn_app (goodIn_of _ (by decide +kernel)) ggX10_gap_X8_isSet
set_option maxRecDepth 20000 in
theorem ggX10_gap_X10_contract : GoodIn wsX10_gap wsX10_contract := goodIn_r _ [16, 17, 18, 19, 15, 20, 1, 21, 22, 8, 9, 5, 10, 11, 23, 24, 25, 26, 27, 28, 29, 30, 31, 32, 33, 34, 35, 36, 37, 42, 43, 44, 45, 46, 47, 48, 49, 50, 51, 52, 53, 54, 55, 56, 57, 58, 59, 60, 61, 62, 63] (by decide +kernel) (by decide +kernel)
set_option maxRecDepth 20000 in
theorem gX10_gap_X10_contract : GoodIn wsX10_gap (wsV RX10 228 RX10 yX10_contract wsX10_contract) := goodIn_app (goodIn_of _ (by decide +kernel)) ggX10_gap_X10_contract
set_option maxRecDepth 20000 in
theorem ggX10_gap_X8_others : GoodIn wsX10_gap wsX8_others := goodIn_r _ [41, 7, 8, 9, 5, 10, 11, 54, 55, 56, 57] (by decide +kernel) (by decide +kernel)
set_option maxRecDepth 20000 in
theorem gX10_gap_X8_others : GoodIn wsX10_gap (wsV RX10 205 RX8 yX8_others wsX8_others) := goodIn_app (goodIn_of _ (by decide +kernel)) ggX10_gap_X8_others
theorem dX10_gap_0 : decode cX10_gap 0 = .ok (.aload_n 0, 1) := by decide +kernel
theorem dX10_gap_1 : decode cX10_gap 1 = .ok (.getfield 19, 3) := by decide +kernel
theorem dX10_gap_4 : decode cX10_gap 4 = .ok (.iload_n 1, 1) := by decide +kernel
theorem dX10_gap_5 : decode cX10_gap 5 = .ok (.invokevirtual 148, 3) := by decide +kernel
theorem dX10_gap_8 : decode cX10_gap 8 = .ok (.ifCond .eq 19, 3) := by decide +kernel
theorem dX10_gap_11 : decode cX10_gap 11 = .ok (.aload_n 0, 1) := by decide +kernel
theorem dX10_gap_12 : decode cX10_gap 12 = .ok (.invokevirtual 228, 3) := by decide +kernel
theorem dX10_gap_15 : decode cX10_gap 15 = .ok (.aload_n 0, 1) := by decide +kernel
theorem dX10_gap_16 : decode cX10_gap 16 = .ok (.getfield 19, 3) := by decide +kernel
theorem dX10_gap_19 : decode cX10_gap 19 = .ok (.iload_n 1, 1) := by decide +kernel
theorem dX10_gap_20 : decode cX10_gap 20 = .ok (.invokevirtual 205, 3) := by decide +kernel
theorem dX10_gap_23 : decode cX10_gap 23 = .ok (.iand, 1) := by decide +kernel
theorem dX10_gap_24 : decode cX10_gap 24 = .ok (.goto 4, 3) := by decide +kernel
theorem dX10_gap_27 : decode cX10_gap 27 = .ok (.iconst (-1), 1) := by decide +kernel
theorem dX10_gap_28 : decode cX10_gap 28 = .ok (.ireturn, 1) := by decide +kernel
set_option maxRecDepth 20000 in
theorem ggX10_clause_X8_isSet : GoodIn wsX10_clause wsX8_isSet := goodIn_r _ [6, 7, 8, 9, 5, 10, 11, 132, 133, 134, 135] (by decide +kernel) (by decide +kernel)
set_option maxRecDepth 20000 in
theorem gX10_clause_X8_isSet : GoodIn wsX10_clause (wsV RX10 148 RX8 yX8_isSet wsX8_isSet) := goodIn_app (goodIn_of _ (by decide +kernel)) ggX10_clause_X8_isSet
set_option maxRecDepth 20000 in
theorem ggX10_clause_X10_contract : GoodIn wsX10_clause wsX10_contract := goodIn_r _ [16, 17, 18, 19, 15, 20, 1, 21, 22, 8, 9, 5, 10, 11, 23, 24, 25, 26, 27, 28, 29, 30, 31, 32, 33, 34, 35, 36, 37, 120, 121, 122, 123, 124, 125, 126, 127, 128, 129, 130, 131, 132, 133, 134, 135, 136, 137, 138, 139, 140, 141] (by decide +kernel) (by decide +kernel)
set_option maxRecDepth 20000 in
theorem gX10_clause_X10_contract : GoodIn wsX10_clause (wsV RX10 228 RX10 yX10_contract wsX10_contract) := goodIn_app (goodIn_of _ (by decide +kernel)) ggX10_clause_X10_contract
set_option maxRecDepth 20000 in
theorem ggX10_clause_X10_shortestWithin : GoodIn wsX10_clause wsX10_shortestWithin := goodIn_r _ [41, 1, 42, 43, 44, 15, 45, 46, 47, 48, 49, 50, 51, 52, 53, 54, 55, 56, 57, 58, 59, 60, 61, 62, 63, 8, 9, 5, 10, 11, 64, 65, 36, 66, 67, 68, 69, 70, 71, 72, 73, 74, 75, 76, 77, 78, 26, 79, 80, 81, 82, 83, 84, 85, 86, 87, 88, 89, 90, 91, 35, 37, 92, 93, 94, 95, 96, 97, 98, 99, 100, 34, 101, 102, 103, 104, 105, 106, 107, 108, 109, 110, 111, 112, 113, 114, 115, 22, 116, 117, 118, 119, 120, 121, 122, 123, 124, 125, 126, 127, 128, 129, 130, 131, 142, 143, 144, 145, 146, 147, 148, 132, 133, 134, 135, 136, 137, 138, 139, 140, 141] (by decide +kernel) (by decide +kernel)
set_option maxRecDepth 20000 in
theorem gX10_clause_X10_shortestWithin : GoodIn wsX10_clause (wsV RX10 231 RX10 yX10_shortestWithin wsX10_shortestWithin) := goodIn_app (goodIn_of _ (by decide +kernel)) ggX10_clause_X10_shortestWithin
set_option maxRecDepth 20000 in
theorem ggX10_clause_X10_lengthsNow : GoodIn wsX10_clause wsX10_lengthsNow := goodIn_r _ [45, 46, 47, 48, 49, 50, 51, 52, 53, 54, 55, 56, 57, 58, 59, 60, 61, 62, 63, 8, 9, 5, 10, 11, 64, 65, 36, 66, 67, 68, 69, 70, 71, 72, 73, 74, 75, 76, 77, 78, 26, 79, 80, 81, 82, 83, 84, 85, 86, 87, 88, 89, 90, 91, 35, 37, 92, 93, 94, 95, 96, 97, 98, 99, 100, 34, 101, 102, 103, 104, 105, 106, 107, 108, 109, 110, 111, 112, 113, 114, 115, 120, 121, 122, 123, 124, 125, 126, 127, 128, 129, 130, 131, 142, 143, 144, 145, 146, 147, 148, 132, 133, 134, 135, 136, 137, 138, 139, 140, 141] (by decide +kernel) (by decide +kernel)
set_option maxRecDepth 20000 in
theorem gX10_clause_X10_lengthsNow : GoodIn wsX10_clause (wsV RX10 180 RX10 yX10_lengthsNow wsX10_lengthsNow) := goodIn_app (goodIn_of _ (by decide +kernel)) ggX10_clause_X10_lengthsNow
set_option maxRecDepth 20000 in
theorem ggX10_clause_X1_of : GoodIn wsX10_clause wsX1_of := goodIn_r _ [119, 54, 111, 35, 36, 37, 142, 143, 144, 145, 146] (by decide +kernel) (by decide +kernel)
set_option maxRecDepth 20000 in
theorem gX10_clause_X1_of : GoodIn wsX10_clause (wsV RX10 184 RX1 yX1_of wsX1_of) := goodIn_app (goodIn_of _ (by decide +kernel)) ggX10_clause_X1_of
theorem dX10_clause_0 : decode cX10_clause 0 = .ok (.aload_n 0, 1) := by decide +kernel
theorem dX10_clause_1 : decode cX10_clause 1 = .ok (.getfield 19, 3) := by decide +kernel
theorem dX10_clause_4 : decode cX10_clause 4 = .ok (.iload_n 1, 1) := by decide +kernel
theorem dX10_clause_5 : decode cX10_clause 5 = .ok (.invokevirtual 148, 3) := by decide +kernel
theorem dX10_clause_8 : decode cX10_clause 8 = .ok (.ifCond .eq 12, 3) := by decide +kernel
theorem dX10_clause_11 : decode cX10_clause 11 = .ok (.iload_n 2, 1) := by decide +kernel
theorem dX10_clause_12 : decode cX10_clause 12 = .ok (.ifCond .lt 8, 3) := by decide +kernel
theorem dX10_clause_15 : decode cX10_clause 15 = .ok (.iload_n 2, 1) := by decide +kernel
theorem dX10_clause_16 : decode cX10_clause 16 = .ok (.iconst 1, 1) := by decide +kernel
theorem dX10_clause_17 : decode cX10_clause 17 = .ok (.if_icmp .le 5, 3) := by decide +kernel
theorem dX10_clause_20 : decode cX10_clause 20 = .ok (.iconst (-1), 1) := by decide +kernel
theorem dX10_clause_21 : decode cX10_clause 21 = .ok (.ireturn, 1) := by decide +kernel
theorem dX10_clause_22 : decode cX10_clause 22 = .ok (.aload_n 0, 1) := by decide +kernel
theorem dX10_clause_23 : decode cX10_clause 23 = .ok (.aload_n 0, 1) := by decide +kernel
theorem dX10_clause_24 : decode cX10_clause 24 = .ok (.invokevirtual 228, 3) := by decide +kernel
theorem dX10_clause_27 : decode cX10_clause 27 = .ok (.iload_n 1, 1) := by decide +kernel
theorem dX10_clause_28 : decode cX10_clause 28 = .ok (.invokevirtual 231, 3) := by decide +kernel
theorem dX10_clause_31 : decode cX10_clause 31 = .ok (.istore_n 3, 1) := by decide +kernel
theorem dX10_clause_32 : decode cX10_clause 32 = .ok (.iload_n 3, 1) := by decide +kernel
theorem dX10_clause_33 : decode cX10_clause 33 = .ok (.bipush (-9), 2) := by decide +kernel
theorem dX10_clause_35 : decode cX10_clause 35 = .ok (.if_icmp .ne 6, 3) := by decide +kernel
theorem dX10_clause_38 : decode cX10_clause 38 = .ok (.bipush (-9), 2) := by decide +kernel
theorem dX10_clause_40 : decode cX10_clause 40 = .ok (.ireturn, 1) := by decide +kernel
theorem dX10_clause_41 : decode cX10_clause 41 = .ok (.iload_n 2, 1) := by decide +kernel
theorem dX10_clause_42 : decode cX10_clause 42 = .ok (.ifCond .ne 7, 3) := by decide +kernel
theorem dX10_clause_45 : decode cX10_clause 45 = .ok (.iload_n 3, 1) := by decide +kernel
theorem dX10_clause_46 : decode cX10_clause 46 = .ok (.goto 11, 3) := by decide +kernel
theorem dX10_clause_49 : decode cX10_clause 49 = .ok (.aload_n 0, 1) := by decide +kernel
theorem dX10_clause_50 : decode cX10_clause 50 = .ok (.invokevirtual 180, 3) := by decide +kernel
theorem dX10_clause_53 : decode cX10_clause 53 = .ok (.iload_n 3, 1) := by decide +kernel
theorem dX10_clause_54 : decode cX10_clause 54 = .ok (.invokevirtual 184, 3) := by decide +kernel
theorem dX10_clause_57 : decode cX10_clause 57 = .ok (.ireturn, 1) := by decide +kernel
set_option maxRecDepth 20000 in
theorem ggX10_lost_X0_isSaying : GoodIn wsX10_lost wsX0_isSaying := goodIn_r _ [6, 7, 60, 61, 62, 63, 64, 65] (by decide +kernel) (by decide +kernel)
set_option maxRecDepth 20000 in
theorem gX10_lost_X0_isSaying : GoodIn wsX10_lost (wsV RX10 171 RX0 yX0_isSaying wsX0_isSaying) := goodIn_app (goodIn_of _ (by decide +kernel)) ggX10_lost_X0_isSaying
set_option maxRecDepth 20000 in
theorem ggX10_lost_X10_lostWithout : GoodIn wsX10_lost wsX10_lostWithout := goodIn_r _ [12, 13, 14, 15, 11, 16, 17, 1, 18, 19, 20, 21, 22, 23, 24, 25, 26, 5, 27, 7, 28, 29, 30, 31, 32, 33, 34, 35, 36, 37, 38, 39, 40, 41, 42, 43, 44, 45, 46, 47, 48, 49, 50, 51, 52, 53, 54, 55, 56, 57, 58, 59, 66, 67, 68, 69, 60, 61, 62, 63, 64, 65] (by decide +kernel) (by decide +kernel)
set_option maxRecDepth 20000 in
theorem gX10_lost_X10_lostWithout : GoodIn wsX10_lost (wsV RX10 234 RX10 yX10_lostWithout wsX10_lostWithout) := goodIn_app (goodIn_of _ (by decide +kernel)) ggX10_lost_X10_lostWithout
theorem dX10_lost_0 : decode cX10_lost 0 = .ok (.aload_n 0, 1) := by decide +kernel
theorem dX10_lost_1 : decode cX10_lost 1 = .ok (.getfield 26, 3) := by decide +kernel
theorem dX10_lost_4 : decode cX10_lost 4 = .ok (.iload_n 1, 1) := by decide +kernel
theorem dX10_lost_5 : decode cX10_lost 5 = .ok (.invokevirtual 171, 3) := by decide +kernel
theorem dX10_lost_8 : decode cX10_lost 8 = .ok (.ifCond .eq 11, 3) := by decide +kernel
theorem dX10_lost_11 : decode cX10_lost 11 = .ok (.aload_n 0, 1) := by decide +kernel
theorem dX10_lost_12 : decode cX10_lost 12 = .ok (.iload_n 1, 1) := by decide +kernel
theorem dX10_lost_13 : decode cX10_lost 13 = .ok (.invokevirtual 234, 3) := by decide +kernel
theorem dX10_lost_16 : decode cX10_lost 16 = .ok (.goto 4, 3) := by decide +kernel
theorem dX10_lost_19 : decode cX10_lost 19 = .ok (.iconst (-1), 1) := by decide +kernel
theorem dX10_lost_20 : decode cX10_lost 20 = .ok (.ireturn, 1) := by decide +kernel
set_option maxRecDepth 20000 in
theorem ggX10_common_X10_isSeen : GoodIn wsX10_common wsX10_isSeen := goodIn_r _ [6] (by decide +kernel) (by decide +kernel)
set_option maxRecDepth 20000 in
theorem gX10_common_X10_isSeen : GoodIn wsX10_common (va_wsS RX10 237 yX10_isSeen wsX10_isSeen) := goodIn_app (goodIn_of _ (by decide +kernel)) ggX10_common_X10_isSeen
set_option maxRecDepth 20000 in
theorem ggX10_common_X8_isWorld : GoodIn wsX10_common wsX8_isWorld := goodIn_r _ [11, 12, 91, 92, 93, 94] (by decide +kernel) (by decide +kernel)
set_option maxRecDepth 20000 in
theorem gX10_common_X8_isWorld : GoodIn wsX10_common (wsV RX10 161 RX8 yX8_isWorld wsX8_isWorld) := goodIn_app (goodIn_of _ (by decide +kernel)) ggX10_common_X8_isWorld
set_option maxRecDepth 20000 in
theorem ggX10_common_X10_contract : GoodIn wsX10_common wsX10_contract := goodIn_r _ [16, 17, 18, 19, 5, 20, 1, 21, 22, 23, 24, 10, 25, 12, 26, 27, 28, 29, 30, 31, 32, 33, 34, 35, 36, 37, 38, 39, 40, 79, 80, 81, 82, 83, 84, 85, 86, 87, 88, 89, 90, 91, 92, 93, 94, 95, 96, 97, 98, 99, 100] (by decide +kernel) (by decide +kernel)
set_option maxRecDepth 20000 in
theorem gX10_common_X10_contract : GoodIn wsX10_common (wsV RX10 228 RX10 yX10_contract wsX10_contract) := goodIn_app (goodIn_of _ (by decide +kernel)) ggX10_common_X10_contract
set_option maxRecDepth 20000 in
theorem ggX10_common_X9_inCommon : GoodIn wsX10_common wsX9_inCommon := goodIn_r _ [45, 46, 47, 48, 49, 10, 50, 12, 51, 52, 39, 53, 54, 55, 56, 57, 58, 59, 23, 24, 25, 60, 61, 62, 63, 64, 65, 66, 67, 68, 69, 70, 71, 72, 73, 38, 40, 74, 75, 76, 77, 78, 101, 91, 92, 93, 94] (by decide +kernel) (by decide +kernel)
set_option maxRecDepth 20000 in
theorem gX10_common_X9_inCommon : GoodIn wsX10_common (wsV RX10 240 RX9 yX9_inCommon wsX9_inCommon) := goodIn_app (goodIn_of _ (by decide +kernel)) ggX10_common_X9_inCommon
theorem dX10_common_0 : decode cX10_common 0 = .ok (.iload_n 1, 1) := by decide +kernel
theorem dX10_common_1 : decode cX10_common 1 = .ok (.invokestatic 237, 3) := by decide +kernel
theorem dX10_common_4 : decode cX10_common 4 = .ok (.ifCond .eq 21, 3) := by decide +kernel
theorem dX10_common_7 : decode cX10_common 7 = .ok (.iload_n 2, 1) := by decide +kernel
theorem dX10_common_8 : decode cX10_common 8 = .ok (.invokestatic 237, 3) := by decide +kernel
theorem dX10_common_11 : decode cX10_common 11 = .ok (.ifCond .eq 14, 3) := by decide +kernel
theorem dX10_common_14 : decode cX10_common 14 = .ok (.aload_n 0, 1) := by decide +kernel
theorem dX10_common_15 : decode cX10_common 15 = .ok (.getfield 19, 3) := by decide +kernel
theorem dX10_common_18 : decode cX10_common 18 = .ok (.iload_n 3, 1) := by decide +kernel
theorem dX10_common_19 : decode cX10_common 19 = .ok (.invokevirtual 161, 3) := by decide +kernel
theorem dX10_common_22 : decode cX10_common 22 = .ok (.ifCond .ne 5, 3) := by decide +kernel
theorem dX10_common_25 : decode cX10_common 25 = .ok (.iconst (-1), 1) := by decide +kernel
theorem dX10_common_26 : decode cX10_common 26 = .ok (.ireturn, 1) := by decide +kernel
theorem dX10_common_27 : decode cX10_common 27 = .ok (.aload_n 0, 1) := by decide +kernel
theorem dX10_common_28 : decode cX10_common 28 = .ok (.getfield 77, 3) := by decide +kernel
theorem dX10_common_31 : decode cX10_common 31 = .ok (.iload_n 1, 1) := by decide +kernel
theorem dX10_common_32 : decode cX10_common 32 = .ok (.iload_n 2, 1) := by decide +kernel
theorem dX10_common_33 : decode cX10_common 33 = .ok (.iload_n 3, 1) := by decide +kernel
theorem dX10_common_34 : decode cX10_common 34 = .ok (.aload_n 0, 1) := by decide +kernel
theorem dX10_common_35 : decode cX10_common 35 = .ok (.invokevirtual 228, 3) := by decide +kernel
theorem dX10_common_38 : decode cX10_common 38 = .ok (.invokevirtual 240, 3) := by decide +kernel
theorem dX10_common_41 : decode cX10_common 41 = .ok (.ireturn, 1) := by decide +kernel
set_option maxRecDepth 20000 in
theorem ggX10_talk_X10_isSeen : GoodIn wsX10_talk wsX10_isSeen := goodIn_r _ [6] (by decide +kernel) (by decide +kernel)
set_option maxRecDepth 20000 in
theorem gX10_talk_X10_isSeen : GoodIn wsX10_talk (va_wsS RX10 237 yX10_isSeen wsX10_isSeen) := goodIn_app (goodIn_of _ (by decide +kernel)) ggX10_talk_X10_isSeen
set_option maxRecDepth 20000 in
theorem ggX10_talk_X8_isWorld : GoodIn wsX10_talk wsX8_isWorld := goodIn_r _ [11, 12, 104, 105, 106, 107] (by decide +kernel) (by decide +kernel)
set_option maxRecDepth 20000 in
theorem gX10_talk_X8_isWorld : GoodIn wsX10_talk (wsV RX10 161 RX8 yX8_isWorld wsX8_isWorld) := goodIn_app (goodIn_of _ (by decide +kernel)) ggX10_talk_X8_isWorld
set_option maxRecDepth 20000 in
theorem ggX10_talk_X10_contract : GoodIn wsX10_talk wsX10_contract := goodIn_r _ [16, 17, 18, 19, 5, 20, 1, 21, 22, 23, 24, 10, 25, 12, 26, 27, 28, 29, 30, 31, 32, 33, 34, 35, 36, 37, 38, 39, 40, 92, 93, 94, 95, 96, 97, 98, 99, 100, 101, 102, 103, 104, 105, 106, 107, 108, 109, 110, 111, 112, 113] (by decide +kernel) (by decide +kernel)
set_option maxRecDepth 20000 in
theorem gX10_talk_X10_contract : GoodIn wsX10_talk (wsV RX10 228 RX10 yX10_contract wsX10_contract) := goodIn_app (goodIn_of _ (by decide +kernel)) ggX10_talk_X10_contract
set_option maxRecDepth 20000 in
theorem ggX10_talk_X4_has : GoodIn wsX10_talk wsX4_has := goodIn_r _ [43] (by decide +kernel) (by decide +kernel)
set_option maxRecDepth 20000 in
theorem gX10_talk_X4_has : GoodIn wsX10_talk (va_wsS RX10 244 yX4_has wsX4_has) := goodIn_app (goodIn_of _ (by decide +kernel)) ggX10_talk_X4_has
set_option maxRecDepth 20000 in
theorem ggX10_talk_X9_knows : GoodIn wsX10_talk wsX9_knows := goodIn_r _ [48, 49, 50, 51, 52, 10, 53, 54, 55, 23, 24, 25, 12, 56, 57, 58, 59, 60, 61, 62, 63, 64, 65, 66, 67, 68, 69, 38, 39, 40, 70, 71, 72, 73, 74, 75, 76, 77, 78, 79, 80, 81, 114, 104, 105, 106, 107] (by decide +kernel) (by decide +kernel)
set_option maxRecDepth 20000 in
theorem gX10_talk_X9_knows : GoodIn wsX10_talk (wsV RX10 249 RX9 yX9_knows wsX9_knows) := goodIn_app (goodIn_of _ (by decide +kernel)) ggX10_talk_X9_knows
set_option maxRecDepth 20000 in
theorem ggX10_talk_X9_unknownTo : GoodIn wsX10_talk wsX9_unknownTo := goodIn_r _ [85, 49, 86, 87, 88, 10, 89, 12, 90, 42, 39, 43, 91, 45, 46, 47, 48, 50, 51, 52, 53, 54, 55, 23, 24, 25, 56, 57, 58, 59, 60, 61, 62, 63, 64, 65, 66, 67, 68, 69, 38, 40, 70, 71, 72, 73, 74, 75, 76, 77, 78, 79, 80, 81, 114, 104, 105, 106, 107] (by decide +kernel) (by decide +kernel)
set_option maxRecDepth 20000 in
theorem gX10_talk_X9_unknownTo : GoodIn wsX10_talk (wsV RX10 253 RX9 yX9_unknownTo wsX9_unknownTo) := goodIn_app (goodIn_of _ (by decide +kernel)) ggX10_talk_X9_unknownTo
theorem dX10_talk_0 : decode cX10_talk 0 = .ok (.iload_n 1, 1) := by decide +kernel
theorem dX10_talk_1 : decode cX10_talk 1 = .ok (.invokestatic 237, 3) := by decide +kernel
theorem dX10_talk_4 : decode cX10_talk 4 = .ok (.ifCond .eq 21, 3) := by decide +kernel
theorem dX10_talk_7 : decode cX10_talk 7 = .ok (.iload_n 2, 1) := by decide +kernel
theorem dX10_talk_8 : decode cX10_talk 8 = .ok (.invokestatic 237, 3) := by decide +kernel
theorem dX10_talk_11 : decode cX10_talk 11 = .ok (.ifCond .eq 14, 3) := by decide +kernel
theorem dX10_talk_14 : decode cX10_talk 14 = .ok (.aload_n 0, 1) := by decide +kernel
theorem dX10_talk_15 : decode cX10_talk 15 = .ok (.getfield 19, 3) := by decide +kernel
theorem dX10_talk_18 : decode cX10_talk 18 = .ok (.iload_n 3, 1) := by decide +kernel
theorem dX10_talk_19 : decode cX10_talk 19 = .ok (.invokevirtual 161, 3) := by decide +kernel
theorem dX10_talk_22 : decode cX10_talk 22 = .ok (.ifCond .ne 5, 3) := by decide +kernel
theorem dX10_talk_25 : decode cX10_talk 25 = .ok (.iconst (-1), 1) := by decide +kernel
theorem dX10_talk_26 : decode cX10_talk 26 = .ok (.ireturn, 1) := by decide +kernel
theorem dX10_talk_27 : decode cX10_talk 27 = .ok (.aload_n 0, 1) := by decide +kernel
theorem dX10_talk_28 : decode cX10_talk 28 = .ok (.invokevirtual 228, 3) := by decide +kernel
theorem dX10_talk_31 : decode cX10_talk 31 = .ok (.istore 4, 2) := by decide +kernel
theorem dX10_talk_33 : decode cX10_talk 33 = .ok (.iload 4, 2) := by decide +kernel
theorem dX10_talk_35 : decode cX10_talk 35 = .ok (.iload_n 3, 1) := by decide +kernel
theorem dX10_talk_36 : decode cX10_talk 36 = .ok (.invokestatic 244, 3) := by decide +kernel
theorem dX10_talk_39 : decode cX10_talk 39 = .ok (.ifCond .ne 6, 3) := by decide +kernel
theorem dX10_talk_42 : decode cX10_talk 42 = .ok (.bipush (-2), 2) := by decide +kernel
theorem dX10_talk_44 : decode cX10_talk 44 = .ok (.ireturn, 1) := by decide +kernel
theorem dX10_talk_45 : decode cX10_talk 45 = .ok (.iconst 1, 1) := by decide +kernel
theorem dX10_talk_46 : decode cX10_talk 46 = .ok (.istore 5, 2) := by decide +kernel
theorem dX10_talk_48 : decode cX10_talk 48 = .ok (.iload 5, 2) := by decide +kernel
theorem dX10_talk_50 : decode cX10_talk 50 = .ok (.bipush 30, 2) := by decide +kernel
theorem dX10_talk_52 : decode cX10_talk 52 = .ok (.if_icmp .gt 55, 3) := by decide +kernel
theorem dX10_talk_55 : decode cX10_talk 55 = .ok (.iload 5, 2) := by decide +kernel
theorem dX10_talk_57 : decode cX10_talk 57 = .ok (.iconst 2, 1) := by decide +kernel
theorem dX10_talk_58 : decode cX10_talk 58 = .ok (.irem, 1) := by decide +kernel
theorem dX10_talk_59 : decode cX10_talk 59 = .ok (.iconst 1, 1) := by decide +kernel
theorem dX10_talk_60 : decode cX10_talk 60 = .ok (.if_icmp .ne 7, 3) := by decide +kernel
theorem dX10_talk_63 : decode cX10_talk 63 = .ok (.iload_n 1, 1) := by decide +kernel
theorem dX10_talk_64 : decode cX10_talk 64 = .ok (.goto 4, 3) := by decide +kernel
theorem dX10_talk_67 : decode cX10_talk 67 = .ok (.iload_n 2, 1) := by decide +kernel
theorem dX10_talk_68 : decode cX10_talk 68 = .ok (.istore 6, 2) := by decide +kernel
theorem dX10_talk_70 : decode cX10_talk 70 = .ok (.aload_n 0, 1) := by decide +kernel
theorem dX10_talk_71 : decode cX10_talk 71 = .ok (.getfield 77, 3) := by decide +kernel
theorem dX10_talk_74 : decode cX10_talk 74 = .ok (.iload 6, 2) := by decide +kernel
theorem dX10_talk_76 : decode cX10_talk 76 = .ok (.iload_n 3, 1) := by decide +kernel
theorem dX10_talk_77 : decode cX10_talk 77 = .ok (.iload 4, 2) := by decide +kernel
theorem dX10_talk_79 : decode cX10_talk 79 = .ok (.invokevirtual 249, 3) := by decide +kernel
theorem dX10_talk_82 : decode cX10_talk 82 = .ok (.ifCond .eq 6, 3) := by decide +kernel
theorem dX10_talk_85 : decode cX10_talk 85 = .ok (.iload 5, 2) := by decide +kernel
theorem dX10_talk_87 : decode cX10_talk 87 = .ok (.ireturn, 1) := by decide +kernel
theorem dX10_talk_88 : decode cX10_talk 88 = .ok (.aload_n 0, 1) := by decide +kernel
theorem dX10_talk_89 : decode cX10_talk 89 = .ok (.getfield 77, 3) := by decide +kernel
theorem dX10_talk_92 : decode cX10_talk 92 = .ok (.iload 6, 2) := by decide +kernel
theorem dX10_talk_94 : decode cX10_talk 94 = .ok (.iload 4, 2) := by decide +kernel
theorem dX10_talk_96 : decode cX10_talk 96 = .ok (.invokevirtual 253, 3) := by decide +kernel
theorem dX10_talk_99 : decode cX10_talk 99 = .ok (.istore 4, 2) := by decide +kernel
theorem dX10_talk_101 : decode cX10_talk 101 = .ok (.iinc 5 1, 3) := by decide +kernel
theorem dX10_talk_104 : decode cX10_talk 104 = .ok (.goto (-56), 3) := by decide +kernel
theorem dX10_talk_107 : decode cX10_talk 107 = .ok (.bipush (-9), 2) := by decide +kernel
theorem dX10_talk_109 : decode cX10_talk 109 = .ok (.ireturn, 1) := by decide +kernel
set_option maxRecDepth 20000 in
theorem ggX10_silence_X10_isSeen : GoodIn wsX10_silence wsX10_isSeen := goodIn_r _ [5] (by decide +kernel) (by decide +kernel)
set_option maxRecDepth 20000 in
theorem gX10_silence_X10_isSeen : GoodIn wsX10_silence (va_wsS RX10 237 yX10_isSeen wsX10_isSeen) := goodIn_app (goodIn_of _ (by decide +kernel)) ggX10_silence_X10_isSeen
set_option maxRecDepth 20000 in
theorem ggX10_silence_X10_contract : GoodIn wsX10_silence wsX10_contract := goodIn_r _ [9, 10, 11, 12, 4, 13, 14, 15, 16, 17, 18, 19, 20, 21, 22, 23, 24, 25, 26, 27, 28, 29, 30, 31, 32, 33, 34, 35, 36, 86, 87, 88, 89, 90, 91, 92, 93, 94, 95, 96, 97, 98, 99, 100, 101, 102, 103, 104, 105, 106, 107] (by decide +kernel) (by decide +kernel)
set_option maxRecDepth 20000 in
theorem gX10_silence_X10_contract : GoodIn wsX10_silence (wsV RX10 228 RX10 yX10_contract wsX10_contract) := goodIn_app (goodIn_of _ (by decide +kernel)) ggX10_silence_X10_contract
set_option maxRecDepth 20000 in
theorem ggX10_silence_X9_unknownTo : GoodIn wsX10_silence wsX9_unknownTo := goodIn_r _ [41, 42, 43, 44, 45, 19, 46, 21, 47, 48, 35, 49, 50, 51, 52, 40, 53, 54, 55, 56, 57, 58, 59, 17, 18, 20, 60, 61, 62, 63, 64, 65, 66, 67, 68, 69, 70, 71, 72, 73, 34, 36, 74, 75, 76, 77, 78, 79, 80, 81, 82, 83, 84, 85, 108, 98, 99, 100, 101] (by decide +kernel) (by decide +kernel)
set_option maxRecDepth 20000 in
theorem gX10_silence_X9_unknownTo : GoodIn wsX10_silence (wsV RX10 253 RX9 yX9_unknownTo wsX9_unknownTo) := goodIn_app (goodIn_of _ (by decide +kernel)) ggX10_silence_X9_unknownTo
theorem dX10_silence_0 : decode cX10_silence 0 = .ok (.iload_n 1, 1) := by decide +kernel
theorem dX10_silence_1 : decode cX10_silence 1 = .ok (.invokestatic 237, 3) := by decide +kernel
theorem dX10_silence_4 : decode cX10_silence 4 = .ok (.ifCond .eq 20, 3) := by decide +kernel
theorem dX10_silence_7 : decode cX10_silence 7 = .ok (.iload_n 2, 1) := by decide +kernel
theorem dX10_silence_8 : decode cX10_silence 8 = .ok (.invokestatic 237, 3) := by decide +kernel
theorem dX10_silence_11 : decode cX10_silence 11 = .ok (.ifCond .eq 13, 3) := by decide +kernel
theorem dX10_silence_14 : decode cX10_silence 14 = .ok (.iload_n 3, 1) := by decide +kernel
theorem dX10_silence_15 : decode cX10_silence 15 = .ok (.ifCond .lt 9, 3) := by decide +kernel
theorem dX10_silence_18 : decode cX10_silence 18 = .ok (.iload_n 3, 1) := by decide +kernel
theorem dX10_silence_19 : decode cX10_silence 19 = .ok (.bipush 30, 2) := by decide +kernel
theorem dX10_silence_21 : decode cX10_silence 21 = .ok (.if_icmp .le 5, 3) := by decide +kernel
theorem dX10_silence_24 : decode cX10_silence 24 = .ok (.iconst (-1), 1) := by decide +kernel
theorem dX10_silence_25 : decode cX10_silence 25 = .ok (.ireturn, 1) := by decide +kernel
theorem dX10_silence_26 : decode cX10_silence 26 = .ok (.aload_n 0, 1) := by decide +kernel
theorem dX10_silence_27 : decode cX10_silence 27 = .ok (.invokevirtual 228, 3) := by decide +kernel
theorem dX10_silence_30 : decode cX10_silence 30 = .ok (.istore 4, 2) := by decide +kernel
theorem dX10_silence_32 : decode cX10_silence 32 = .ok (.iconst 1, 1) := by decide +kernel
theorem dX10_silence_33 : decode cX10_silence 33 = .ok (.istore 5, 2) := by decide +kernel
theorem dX10_silence_35 : decode cX10_silence 35 = .ok (.iload 5, 2) := by decide +kernel
theorem dX10_silence_37 : decode cX10_silence 37 = .ok (.iload_n 3, 1) := by decide +kernel
theorem dX10_silence_38 : decode cX10_silence 38 = .ok (.if_icmp .gt 33, 3) := by decide +kernel
theorem dX10_silence_41 : decode cX10_silence 41 = .ok (.aload_n 0, 1) := by decide +kernel
theorem dX10_silence_42 : decode cX10_silence 42 = .ok (.getfield 77, 3) := by decide +kernel
theorem dX10_silence_45 : decode cX10_silence 45 = .ok (.iload 5, 2) := by decide +kernel
theorem dX10_silence_47 : decode cX10_silence 47 = .ok (.iconst 2, 1) := by decide +kernel
theorem dX10_silence_48 : decode cX10_silence 48 = .ok (.irem, 1) := by decide +kernel
theorem dX10_silence_49 : decode cX10_silence 49 = .ok (.iconst 1, 1) := by decide +kernel
theorem dX10_silence_50 : decode cX10_silence 50 = .ok (.if_icmp .ne 7, 3) := by decide +kernel
theorem dX10_silence_53 : decode cX10_silence 53 = .ok (.iload_n 1, 1) := by decide +kernel
theorem dX10_silence_54 : decode cX10_silence 54 = .ok (.goto 4, 3) := by decide +kernel
theorem dX10_silence_57 : decode cX10_silence 57 = .ok (.iload_n 2, 1) := by decide +kernel
theorem dX10_silence_58 : decode cX10_silence 58 = .ok (.iload 4, 2) := by decide +kernel
theorem dX10_silence_60 : decode cX10_silence 60 = .ok (.invokevirtual 253, 3) := by decide +kernel
theorem dX10_silence_63 : decode cX10_silence 63 = .ok (.istore 4, 2) := by decide +kernel
theorem dX10_silence_65 : decode cX10_silence 65 = .ok (.iinc 5 1, 3) := by decide +kernel
theorem dX10_silence_68 : decode cX10_silence 68 = .ok (.goto (-33), 3) := by decide +kernel
theorem dX10_silence_71 : decode cX10_silence 71 = .ok (.iload 4, 2) := by decide +kernel
theorem dX10_silence_73 : decode cX10_silence 73 = .ok (.ireturn, 1) := by decide +kernel
set_option maxRecDepth 20000 in
theorem ggX10_mark_X0_isSaying : GoodIn wsX10_mark wsX0_isSaying := goodIn_r _ [7, 8, 178, 179, 180, 181, 182, 183] (by decide +kernel) (by decide +kernel)
set_option maxRecDepth 20000 in
theorem gX10_mark_X0_isSaying : GoodIn wsX10_mark (wsV RX10 171 RX0 yX0_isSaying wsX0_isSaying) := goodIn_app (goodIn_of _ (by decide +kernel)) ggX10_mark_X0_isSaying
set_option maxRecDepth 20000 in
theorem ggX10_mark_X10_plainMark : GoodIn wsX10_mark wsX10_plainMark := goodIn_r _ [13, 14, 1, 15, 16, 17, 6, 18, 19, 20, 21, 22, 23, 166, 167, 168, 169, 170, 171, 172, 173, 174, 175, 176, 177, 178, 179, 180, 181, 182, 183] (by decide +kernel) (by decide +kernel)
set_option maxRecDepth 20000 in
theorem gX10_mark_X10_plainMark : GoodIn wsX10_mark (wsV RX10 257 RX10 yX10_plainMark wsX10_plainMark) := goodIn_app (goodIn_of _ (by decide +kernel)) ggX10_mark_X10_plainMark
set_option maxRecDepth 20000 in
theorem ggX10_mark_X10_offerMark : GoodIn wsX10_mark wsX10_offerMark := goodIn_r _ [27, 14, 28, 1, 9, 10, 11, 12, 13, 15, 16, 17, 6, 18, 19, 20, 21, 22, 23, 29, 30, 31, 32, 33, 34, 35, 36, 37, 38, 39, 40, 166, 167, 168, 169, 170, 171, 172, 173, 174, 175, 176, 177, 178, 179, 180, 181, 182, 183] (by decide +kernel) (by decide +kernel)
set_option maxRecDepth 20000 in
theorem gX10_mark_X10_offerMark : GoodIn wsX10_mark (wsV RX10 260 RX10 yX10_offerMark wsX10_offerMark) := goodIn_app (goodIn_of _ (by decide +kernel)) ggX10_mark_X10_offerMark
set_option maxRecDepth 20000 in
theorem ggX10_mark_X10_clauseMark : GoodIn wsX10_mark wsX10_clauseMark := goodIn_r _ [44, 14, 45, 9, 10, 11, 12, 13, 1, 15, 16, 17, 6, 18, 19, 20, 21, 22, 23, 166, 167, 168, 169, 170, 171, 172, 173, 174, 175, 176, 177, 178, 179, 180, 181, 182, 183] (by decide +kernel) (by decide +kernel)
set_option maxRecDepth 20000 in
theorem gX10_mark_X10_clauseMark : GoodIn wsX10_mark (wsV RX10 263 RX10 yX10_clauseMark wsX10_clauseMark) := goodIn_app (goodIn_of _ (by decide +kernel)) ggX10_mark_X10_clauseMark
set_option maxRecDepth 20000 in
theorem ggX10_mark_X10_vowMark : GoodIn wsX10_mark wsX10_vowMark := goodIn_r _ [49, 14, 50, 41, 42, 43, 12, 44, 45, 9, 10, 11, 13, 1, 15, 16, 17, 6, 18, 19, 20, 21, 22, 23, 51, 52, 53, 54, 55, 56, 57, 58, 59, 60, 61, 62, 63, 64, 65, 66, 67, 68, 69, 8, 29, 30, 31, 32, 33, 34, 35, 36, 37, 38, 39, 40, 70, 71, 72, 73, 166, 167, 168, 169, 170, 171, 172, 173, 174, 175, 176, 177, 178, 179, 180, 181, 182, 183, 184, 185, 186, 187] (by decide +kernel) (by decide +kernel)
set_option maxRecDepth 20000 in
theorem gX10_mark_X10_vowMark : GoodIn wsX10_mark (wsV RX10 266 RX10 yX10_vowMark wsX10_vowMark) := goodIn_app (goodIn_of _ (by decide +kernel)) ggX10_mark_X10_vowMark
set_option maxRecDepth 20000 in
theorem ggX10_mark_X10_questionMark : GoodIn wsX10_mark wsX10_questionMark := goodIn_r _ [77, 14, 78, 24, 25, 26, 12, 27, 28, 1, 9, 10, 11, 13, 15, 16, 17, 6, 18, 19, 20, 21, 22, 23, 29, 30, 31, 32, 33, 34, 35, 36, 37, 38, 39, 40, 166, 167, 168, 169, 170, 171, 172, 173, 174, 175, 176, 177, 178, 179, 180, 181, 182, 183] (by decide +kernel) (by decide +kernel)
set_option maxRecDepth 20000 in
theorem gX10_mark_X10_questionMark : GoodIn wsX10_mark (wsV RX10 269 RX10 yX10_questionMark wsX10_questionMark) := goodIn_app (goodIn_of _ (by decide +kernel)) ggX10_mark_X10_questionMark
set_option maxRecDepth 20000 in
theorem ggX10_mark_X10_shrugMark : GoodIn wsX10_mark wsX10_shrugMark := goodIn_r _ [82, 14, 83, 1, 84, 85, 86, 87, 9, 10, 11, 12, 13, 15, 16, 17, 6, 18, 19, 20, 21, 22, 23, 88, 89, 90, 91, 92, 93, 94, 95, 96, 97, 98, 99, 100, 101, 102, 103, 104, 105, 106, 107, 108, 109, 61, 62, 63, 64, 65, 110, 111, 112, 113, 114, 115, 116, 117, 118, 119, 120, 121, 122, 123, 124, 125, 126, 127, 128, 129, 130, 131, 132, 133, 134, 135, 136, 137, 138, 139, 140, 141, 142, 143, 144, 145, 146, 147, 148, 149, 150, 151, 152, 153, 154, 155, 156, 157, 158, 159, 160, 161, 29, 30, 31, 32, 33, 162, 163, 164, 165, 166, 167, 168, 169, 170, 171, 172, 173, 174, 175, 176, 177, 178, 179, 180, 181, 182, 183, 188, 189, 190, 191, 192, 193, 194, 184, 185, 186, 187] (by decide +kernel) (by decide +kernel)
set_option maxRecDepth 20000 in
theorem gX10_mark_X10_shrugMark : GoodIn wsX10_mark (wsV RX10 272 RX10 yX10_shrugMark wsX10_shrugMark) := goodIn_app (goodIn_of _ (by decide +kernel)) ggX10_mark_X10_shrugMark
theorem dX10_mark_0 : decode cX10_mark 0 = .ok (.aload_n 0, 1) := by decide +kernel
theorem dX10_mark_1 : decode cX10_mark 1 = .ok (.getfield 26, 3) := by decide +kernel
theorem dX10_mark_4 : decode cX10_mark 4 = .ok (.iload_n 2, 1) := by decide +kernel
theorem dX10_mark_5 : decode cX10_mark 5 = .ok (.invokevirtual 171, 3) := by decide +kernel
theorem dX10_mark_8 : decode cX10_mark 8 = .ok (.ifCond .ne 7, 3) := by decide +kernel
theorem dX10_mark_11 : decode cX10_mark 11 = .ok (.ldc_w 256, 3) := by decide +kernel
theorem dX10_mark_14 : decode cX10_mark 14 = .ok (.ireturn, 1) := by decide +kernel
theorem dX10_mark_15 : decode cX10_mark 15 = .ok (.iload_n 1, 1) := by decide +kernel
theorem dX10_mark_16 : decode cX10_mark 16 = .ok (.tableswitch 76 0 5 #[40, 46, 52, 58, 64, 70], 40) := by decide +kernel
theorem dX10_mark_56 : decode cX10_mark 56 = .ok (.aload_n 0, 1) := by decide +kernel
theorem dX10_mark_57 : decode cX10_mark 57 = .ok (.iload_n 2, 1) := by decide +kernel
theorem dX10_mark_58 : decode cX10_mark 58 = .ok (.invokevirtual 257, 3) := by decide +kernel
theorem dX10_mark_61 : decode cX10_mark 61 = .ok (.ireturn, 1) := by decide +kernel
theorem dX10_mark_62 : decode cX10_mark 62 = .ok (.aload_n 0, 1) := by decide +kernel
theorem dX10_mark_63 : decode cX10_mark 63 = .ok (.iload_n 2, 1) := by decide +kernel
theorem dX10_mark_64 : decode cX10_mark 64 = .ok (.invokevirtual 260, 3) := by decide +kernel
theorem dX10_mark_67 : decode cX10_mark 67 = .ok (.ireturn, 1) := by decide +kernel
theorem dX10_mark_68 : decode cX10_mark 68 = .ok (.aload_n 0, 1) := by decide +kernel
theorem dX10_mark_69 : decode cX10_mark 69 = .ok (.iload_n 2, 1) := by decide +kernel
theorem dX10_mark_70 : decode cX10_mark 70 = .ok (.invokevirtual 263, 3) := by decide +kernel
theorem dX10_mark_73 : decode cX10_mark 73 = .ok (.ireturn, 1) := by decide +kernel
theorem dX10_mark_74 : decode cX10_mark 74 = .ok (.aload_n 0, 1) := by decide +kernel
theorem dX10_mark_75 : decode cX10_mark 75 = .ok (.iload_n 2, 1) := by decide +kernel
theorem dX10_mark_76 : decode cX10_mark 76 = .ok (.invokevirtual 266, 3) := by decide +kernel
theorem dX10_mark_79 : decode cX10_mark 79 = .ok (.ireturn, 1) := by decide +kernel
theorem dX10_mark_80 : decode cX10_mark 80 = .ok (.aload_n 0, 1) := by decide +kernel
theorem dX10_mark_81 : decode cX10_mark 81 = .ok (.iload_n 2, 1) := by decide +kernel
theorem dX10_mark_82 : decode cX10_mark 82 = .ok (.invokevirtual 269, 3) := by decide +kernel
theorem dX10_mark_85 : decode cX10_mark 85 = .ok (.ireturn, 1) := by decide +kernel
theorem dX10_mark_86 : decode cX10_mark 86 = .ok (.aload_n 0, 1) := by decide +kernel
theorem dX10_mark_87 : decode cX10_mark 87 = .ok (.iload_n 2, 1) := by decide +kernel
theorem dX10_mark_88 : decode cX10_mark 88 = .ok (.invokevirtual 272, 3) := by decide +kernel
theorem dX10_mark_91 : decode cX10_mark 91 = .ok (.ireturn, 1) := by decide +kernel
theorem dX10_mark_92 : decode cX10_mark 92 = .ok (.ldc_w 256, 3) := by decide +kernel
theorem dX10_mark_95 : decode cX10_mark 95 = .ok (.ireturn, 1) := by decide +kernel
set_option maxRecDepth 20000 in
theorem ggX10_keep_X10_imageOf : GoodIn wsX10_keep wsX10_imageOf := goodIn_r _ [6, 7, 8, 31, 32, 33, 34, 35, 36, 37, 38, 39, 40, 41, 42] (by decide +kernel) (by decide +kernel)
set_option maxRecDepth 20000 in
theorem gX10_keep_X10_imageOf : GoodIn wsX10_keep (wsV RX10 275 RX10 yX10_imageOf wsX10_imageOf) := goodIn_app (goodIn_of _ (by decide +kernel)) ggX10_keep_X10_imageOf
set_option maxRecDepth 20000 in
theorem ggX10_keep_X0_copy : GoodIn wsX10_keep wsX0_copy := goodIn_r _ [13, 14, 15, 16, 17, 18, 19, 20, 21, 22, 23, 24, 25, 26, 43, 44, 45, 46, 47, 48] (by decide +kernel) (by decide +kernel)
set_option maxRecDepth 20000 in
theorem gX10_keep_X0_copy : GoodIn wsX10_keep (wsV RX10 279 RX0 yX0_copy wsX0_copy) := goodIn_app (goodIn_of _ (by decide +kernel)) ggX10_keep_X0_copy
set_option maxRecDepth 20000 in
theorem ggX10_keep_X0_sayings : GoodIn wsX10_keep wsX0_sayings := goodIn_r _ [30, 17, 43, 44, 45, 46, 47, 48] (by decide +kernel) (by decide +kernel)
set_option maxRecDepth 20000 in
theorem gX10_keep_X0_sayings : GoodIn wsX10_keep (wsV RX10 129 RX0 yX0_sayings wsX0_sayings) := goodIn_app (goodIn_of _ (by decide +kernel)) ggX10_keep_X0_sayings
theorem dX10_keep_0 : decode cX10_keep 0 = .ok (.iload_n 1, 1) := by decide +kernel
theorem dX10_keep_1 : decode cX10_keep 1 = .ok (.ifCond .lt 8, 3) := by decide +kernel
theorem dX10_keep_4 : decode cX10_keep 4 = .ok (.iload_n 1, 1) := by decide +kernel
theorem dX10_keep_5 : decode cX10_keep 5 = .ok (.iconst 1, 1) := by decide +kernel
theorem dX10_keep_6 : decode cX10_keep 6 = .ok (.if_icmp .le 5, 3) := by decide +kernel
theorem dX10_keep_9 : decode cX10_keep 9 = .ok (.iconst (-1), 1) := by decide +kernel
theorem dX10_keep_10 : decode cX10_keep 10 = .ok (.ireturn, 1) := by decide +kernel
theorem dX10_keep_11 : decode cX10_keep 11 = .ok (.aload_n 0, 1) := by decide +kernel
theorem dX10_keep_12 : decode cX10_keep 12 = .ok (.iload_n 1, 1) := by decide +kernel
theorem dX10_keep_13 : decode cX10_keep 13 = .ok (.invokevirtual 275, 3) := by decide +kernel
theorem dX10_keep_16 : decode cX10_keep 16 = .ok (.aload_n 0, 1) := by decide +kernel
theorem dX10_keep_17 : decode cX10_keep 17 = .ok (.getfield 26, 3) := by decide +kernel
theorem dX10_keep_20 : decode cX10_keep 20 = .ok (.invokevirtual 279, 3) := by decide +kernel
theorem dX10_keep_23 : decode cX10_keep 23 = .ok (.aload_n 0, 1) := by decide +kernel
theorem dX10_keep_24 : decode cX10_keep 24 = .ok (.getfield 26, 3) := by decide +kernel
theorem dX10_keep_27 : decode cX10_keep 27 = .ok (.invokevirtual 129, 3) := by decide +kernel
theorem dX10_keep_30 : decode cX10_keep 30 = .ok (.ireturn, 1) := by decide +kernel
set_option maxRecDepth 20000 in
theorem ggX10_back_X10_imageOf : GoodIn wsX10_back wsX10_imageOf := goodIn_r _ [6, 7, 8, 47, 48, 49, 50, 51, 52, 53, 54, 55, 56, 57, 58] (by decide +kernel) (by decide +kernel)
set_option maxRecDepth 20000 in
theorem gX10_back_X10_imageOf : GoodIn wsX10_back (wsV RX10 275 RX10 yX10_imageOf wsX10_imageOf) := goodIn_app (goodIn_of _ (by decide +kernel)) ggX10_back_X10_imageOf
set_option maxRecDepth 20000 in
theorem ggX10_back_X0_isFilled : GoodIn wsX10_back wsX0_isFilled := goodIn_r _ [13, 14, 59, 60, 61, 62, 63, 64] (by decide +kernel) (by decide +kernel)
set_option maxRecDepth 20000 in
theorem gX10_back_X0_isFilled : GoodIn wsX10_back (wsV RX10 283 RX0 yX0_isFilled wsX0_isFilled) := goodIn_app (goodIn_of _ (by decide +kernel)) ggX10_back_X0_isFilled
set_option maxRecDepth 20000 in
theorem ggX10_back_X0_copy : GoodIn wsX10_back wsX0_copy := goodIn_r _ [18, 19, 20, 21, 22, 23, 14, 24, 25, 26, 27, 28, 29, 30, 59, 60, 61, 62, 63, 64] (by decide +kernel) (by decide +kernel)
set_option maxRecDepth 20000 in
theorem gX10_back_X0_copy : GoodIn wsX10_back (wsV RX10 279 RX0 yX0_copy wsX0_copy) := goodIn_app (goodIn_of _ (by decide +kernel)) ggX10_back_X0_copy
set_option maxRecDepth 20000 in
theorem ggX10_back_X10_signsChanged : GoodIn wsX10_back wsX10_signsChanged := goodIn_r _ [34, 35, 36, 37, 38, 39, 40, 41, 42, 47, 48, 49, 50, 51, 52, 53, 54, 55, 56, 57, 58, 65, 66, 67, 68, 69] (by decide +kernel) (by decide +kernel)
set_option maxRecDepth 20000 in
theorem gX10_back_X10_signsChanged : GoodIn wsX10_back (wsV RX10 123 RX10 yX10_signsChanged wsX10_signsChanged) := goodIn_app (goodIn_of _ (by decide +kernel)) ggX10_back_X10_signsChanged
set_option maxRecDepth 20000 in
theorem ggX10_back_X0_sayings : GoodIn wsX10_back wsX0_sayings := goodIn_r _ [46, 22, 59, 60, 61, 62, 63, 64] (by decide +kernel) (by decide +kernel)
set_option maxRecDepth 20000 in
theorem gX10_back_X0_sayings : GoodIn wsX10_back (wsV RX10 129 RX0 yX0_sayings wsX0_sayings) := goodIn_app (goodIn_of _ (by decide +kernel)) ggX10_back_X0_sayings
theorem dX10_back_0 : decode cX10_back 0 = .ok (.iload_n 1, 1) := by decide +kernel
theorem dX10_back_1 : decode cX10_back 1 = .ok (.ifCond .lt 8, 3) := by decide +kernel
theorem dX10_back_4 : decode cX10_back 4 = .ok (.iload_n 1, 1) := by decide +kernel
theorem dX10_back_5 : decode cX10_back 5 = .ok (.iconst 1, 1) := by decide +kernel
theorem dX10_back_6 : decode cX10_back 6 = .ok (.if_icmp .le 5, 3) := by decide +kernel
theorem dX10_back_9 : decode cX10_back 9 = .ok (.iconst (-1), 1) := by decide +kernel
theorem dX10_back_10 : decode cX10_back 10 = .ok (.ireturn, 1) := by decide +kernel
theorem dX10_back_11 : decode cX10_back 11 = .ok (.aload_n 0, 1) := by decide +kernel
theorem dX10_back_12 : decode cX10_back 12 = .ok (.iload_n 1, 1) := by decide +kernel
theorem dX10_back_13 : decode cX10_back 13 = .ok (.invokevirtual 275, 3) := by decide +kernel
theorem dX10_back_16 : decode cX10_back 16 = .ok (.astore_n 2, 1) := by decide +kernel
theorem dX10_back_17 : decode cX10_back 17 = .ok (.aload_n 2, 1) := by decide +kernel
theorem dX10_back_18 : decode cX10_back 18 = .ok (.invokevirtual 283, 3) := by decide +kernel
theorem dX10_back_21 : decode cX10_back 21 = .ok (.ifCond .ne 6, 3) := by decide +kernel
theorem dX10_back_24 : decode cX10_back 24 = .ok (.bipush (-2), 2) := by decide +kernel
theorem dX10_back_26 : decode cX10_back 26 = .ok (.ireturn, 1) := by decide +kernel
theorem dX10_back_27 : decode cX10_back 27 = .ok (.aload_n 0, 1) := by decide +kernel
theorem dX10_back_28 : decode cX10_back 28 = .ok (.getfield 26, 3) := by decide +kernel
theorem dX10_back_31 : decode cX10_back 31 = .ok (.aload_n 2, 1) := by decide +kernel
theorem dX10_back_32 : decode cX10_back 32 = .ok (.invokevirtual 279, 3) := by decide +kernel
theorem dX10_back_35 : decode cX10_back 35 = .ok (.aload_n 0, 1) := by decide +kernel
theorem dX10_back_36 : decode cX10_back 36 = .ok (.invokevirtual 123, 3) := by decide +kernel
theorem dX10_back_39 : decode cX10_back 39 = .ok (.aload_n 0, 1) := by decide +kernel
theorem dX10_back_40 : decode cX10_back 40 = .ok (.getfield 26, 3) := by decide +kernel
theorem dX10_back_43 : decode cX10_back 43 = .ok (.invokevirtual 129, 3) := by decide +kernel
theorem dX10_back_46 : decode cX10_back 46 = .ok (.ireturn, 1) := by decide +kernel
set_option maxRecDepth 20000 in
theorem ggX10_count_X8_choices : GoodIn wsX10_count wsX8_choices := goodIn_r _ [8, 9, 44, 45, 46, 47] (by decide +kernel) (by decide +kernel)
set_option maxRecDepth 20000 in
theorem gX10_count_X8_choices : GoodIn wsX10_count (wsV RX10 126 RX8 yX8_choices wsX8_choices) := goodIn_app (goodIn_of _ (by decide +kernel)) ggX10_count_X8_choices
set_option maxRecDepth 20000 in
theorem ggX10_count_X8_worlds : GoodIn wsX10_count wsX8_worlds := goodIn_r _ [13, 14, 44, 45, 46, 47] (by decide +kernel) (by decide +kernel)
set_option maxRecDepth 20000 in
theorem gX10_count_X8_worlds : GoodIn wsX10_count (wsV RX10 287 RX8 yX8_worlds wsX8_worlds) := goodIn_app (goodIn_of _ (by decide +kernel)) ggX10_count_X8_worlds
set_option maxRecDepth 20000 in
theorem ggX10_count_X0_sayings : GoodIn wsX10_count wsX0_sayings := goodIn_r _ [19, 20, 48, 49, 50, 51, 52, 53] (by decide +kernel) (by decide +kernel)
set_option maxRecDepth 20000 in
theorem gX10_count_X0_sayings : GoodIn wsX10_count (wsV RX10 129 RX0 yX0_sayings wsX0_sayings) := goodIn_app (goodIn_of _ (by decide +kernel)) ggX10_count_X0_sayings
set_option maxRecDepth 20000 in
theorem ggX10_count_X0_words : GoodIn wsX10_count wsX0_words := goodIn_r _ [24, 25, 48, 49, 50, 51, 52, 53] (by decide +kernel) (by decide +kernel)
set_option maxRecDepth 20000 in
theorem gX10_count_X0_words : GoodIn wsX10_count (wsV RX10 152 RX0 yX0_words wsX0_words) := goodIn_app (goodIn_of _ (by decide +kernel)) ggX10_count_X0_words
set_option maxRecDepth 20000 in
theorem ggX10_count_X6_size : GoodIn wsX10_count wsX6_size := goodIn_r _ [30, 31, 54, 55] (by decide +kernel) (by decide +kernel)
set_option maxRecDepth 20000 in
theorem gX10_count_X6_size : GoodIn wsX10_count (wsV RX10 93 RX6 yX6_size wsX6_size) := goodIn_app (goodIn_of _ (by decide +kernel)) ggX10_count_X6_size
theorem dX10_count_0 : decode cX10_count 0 = .ok (.iload_n 1, 1) := by decide +kernel
theorem dX10_count_1 : decode cX10_count 1 = .ok (.tableswitch 75 0 4 #[35, 43, 51, 59, 67], 35) := by decide +kernel
theorem dX10_count_36 : decode cX10_count 36 = .ok (.aload_n 0, 1) := by decide +kernel
theorem dX10_count_37 : decode cX10_count 37 = .ok (.getfield 19, 3) := by decide +kernel
theorem dX10_count_40 : decode cX10_count 40 = .ok (.invokevirtual 126, 3) := by decide +kernel
theorem dX10_count_43 : decode cX10_count 43 = .ok (.ireturn, 1) := by decide +kernel
theorem dX10_count_44 : decode cX10_count 44 = .ok (.aload_n 0, 1) := by decide +kernel
theorem dX10_count_45 : decode cX10_count 45 = .ok (.getfield 19, 3) := by decide +kernel
theorem dX10_count_48 : decode cX10_count 48 = .ok (.invokevirtual 287, 3) := by decide +kernel
theorem dX10_count_51 : decode cX10_count 51 = .ok (.ireturn, 1) := by decide +kernel
theorem dX10_count_52 : decode cX10_count 52 = .ok (.aload_n 0, 1) := by decide +kernel
theorem dX10_count_53 : decode cX10_count 53 = .ok (.getfield 26, 3) := by decide +kernel
theorem dX10_count_56 : decode cX10_count 56 = .ok (.invokevirtual 129, 3) := by decide +kernel
theorem dX10_count_59 : decode cX10_count 59 = .ok (.ireturn, 1) := by decide +kernel
theorem dX10_count_60 : decode cX10_count 60 = .ok (.aload_n 0, 1) := by decide +kernel
theorem dX10_count_61 : decode cX10_count 61 = .ok (.getfield 26, 3) := by decide +kernel
theorem dX10_count_64 : decode cX10_count 64 = .ok (.invokevirtual 152, 3) := by decide +kernel
theorem dX10_count_67 : decode cX10_count 67 = .ok (.ireturn, 1) := by decide +kernel
theorem dX10_count_68 : decode cX10_count 68 = .ok (.aload_n 0, 1) := by decide +kernel
theorem dX10_count_69 : decode cX10_count 69 = .ok (.getfield 10, 3) := by decide +kernel
theorem dX10_count_72 : decode cX10_count 72 = .ok (.invokevirtual 93, 3) := by decide +kernel
theorem dX10_count_75 : decode cX10_count 75 = .ok (.ireturn, 1) := by decide +kernel
theorem dX10_count_76 : decode cX10_count 76 = .ok (.iconst (-1), 1) := by decide +kernel
theorem dX10_count_77 : decode cX10_count 77 = .ok (.ireturn, 1) := by decide +kernel
theorem dX10_trace_0 : decode cX10_trace 0 = .ok (.aload_n 0, 1) := by decide +kernel
theorem dX10_trace_1 : decode cX10_trace 1 = .ok (.getfield 85, 3) := by decide +kernel
theorem dX10_trace_4 : decode cX10_trace 4 = .ok (.lreturn, 1) := by decide +kernel
set_option maxRecDepth 20000 in
theorem ggX10_signsChanged_X3_forget : GoodIn wsX10_signsChanged wsX3_forget := goodIn_r _ [7, 8, 21, 22, 23, 24, 25] (by decide +kernel) (by decide +kernel)
set_option maxRecDepth 20000 in
theorem gX10_signsChanged_X3_forget : GoodIn wsX10_signsChanged (wsV RX10 290 RX3 yX3_forget wsX3_forget) := goodIn_app (goodIn_of _ (by decide +kernel)) ggX10_signsChanged_X3_forget
theorem dX10_signsChanged_0 : decode cX10_signsChanged 0 = .ok (.aload_n 0, 1) := by decide +kernel
theorem dX10_signsChanged_1 : decode cX10_signsChanged 1 = .ok (.iconst 0, 1) := by decide +kernel
theorem dX10_signsChanged_2 : decode cX10_signsChanged 2 = .ok (.putfield 81, 3) := by decide +kernel
theorem dX10_signsChanged_5 : decode cX10_signsChanged 5 = .ok (.aload_n 0, 1) := by decide +kernel
theorem dX10_signsChanged_6 : decode cX10_signsChanged 6 = .ok (.getfield 68, 3) := by decide +kernel
theorem dX10_signsChanged_9 : decode cX10_signsChanged 9 = .ok (.invokevirtual 290, 3) := by decide +kernel
theorem dX10_signsChanged_12 : decode cX10_signsChanged 12 = .ok (.return_, 1) := by decide +kernel
set_option maxRecDepth 20000 in
theorem ggX10_lengthsNow_X1_measure : GoodIn wsX10_lengthsNow wsX1_measure := goodIn_r _ [7, 8, 9, 10, 11, 12, 13, 14, 15, 16, 17, 18, 19, 20, 21, 22, 23, 24, 25, 26, 27, 28, 29, 30, 6, 31, 32, 33, 34, 35, 36, 37, 38, 39, 40, 41, 42, 43, 44, 45, 46, 47, 48, 49, 50, 51, 52, 53, 54, 55, 56, 57, 58, 59, 60, 61, 62, 63, 64, 65, 66, 67, 68, 69, 70, 71, 72, 73, 74, 75, 76, 77, 78, 79, 80, 93, 94, 95, 96, 97, 98, 99, 100, 101, 102, 103, 104, 105, 106, 107, 108, 109] (by decide +kernel) (by decide +kernel)
set_option maxRecDepth 20000 in
theorem gX10_lengthsNow_X1_measure : GoodIn wsX10_lengthsNow (wsV RX10 291 RX1 yX1_measure wsX1_measure) := goodIn_app (goodIn_of _ (by decide +kernel)) ggX10_lengthsNow_X1_measure
theorem dX10_lengthsNow_0 : decode cX10_lengthsNow 0 = .ok (.aload_n 0, 1) := by decide +kernel
theorem dX10_lengthsNow_1 : decode cX10_lengthsNow 1 = .ok (.getfield 81, 3) := by decide +kernel
theorem dX10_lengthsNow_4 : decode cX10_lengthsNow 4 = .ok (.ifCond .ne 16, 3) := by decide +kernel
theorem dX10_lengthsNow_7 : decode cX10_lengthsNow 7 = .ok (.aload_n 0, 1) := by decide +kernel
theorem dX10_lengthsNow_8 : decode cX10_lengthsNow 8 = .ok (.getfield 59, 3) := by decide +kernel
theorem dX10_lengthsNow_11 : decode cX10_lengthsNow 11 = .ok (.iconst (-1), 1) := by decide +kernel
theorem dX10_lengthsNow_12 : decode cX10_lengthsNow 12 = .ok (.invokevirtual 291, 3) := by decide +kernel
theorem dX10_lengthsNow_15 : decode cX10_lengthsNow 15 = .ok (.aload_n 0, 1) := by decide +kernel
theorem dX10_lengthsNow_16 : decode cX10_lengthsNow 16 = .ok (.iconst 1, 1) := by decide +kernel
theorem dX10_lengthsNow_17 : decode cX10_lengthsNow 17 = .ok (.putfield 81, 3) := by decide +kernel
theorem dX10_lengthsNow_20 : decode cX10_lengthsNow 20 = .ok (.aload_n 0, 1) := by decide +kernel
theorem dX10_lengthsNow_21 : decode cX10_lengthsNow 21 = .ok (.getfield 59, 3) := by decide +kernel
theorem dX10_lengthsNow_24 : decode cX10_lengthsNow 24 = .ok (.areturn, 1) := by decide +kernel
theorem dX10_imageOf_0 : decode cX10_imageOf 0 = .ok (.iload_n 1, 1) := by decide +kernel
theorem dX10_imageOf_1 : decode cX10_imageOf 1 = .ok (.ifCond .ne 10, 3) := by decide +kernel
theorem dX10_imageOf_4 : decode cX10_imageOf 4 = .ok (.aload_n 0, 1) := by decide +kernel
theorem dX10_imageOf_5 : decode cX10_imageOf 5 = .ok (.getfield 30, 3) := by decide +kernel
theorem dX10_imageOf_8 : decode cX10_imageOf 8 = .ok (.goto 7, 3) := by decide +kernel
theorem dX10_imageOf_11 : decode cX10_imageOf 11 = .ok (.aload_n 0, 1) := by decide +kernel
theorem dX10_imageOf_12 : decode cX10_imageOf 12 = .ok (.getfield 33, 3) := by decide +kernel
theorem dX10_imageOf_15 : decode cX10_imageOf 15 = .ok (.areturn, 1) := by decide +kernel
theorem dX10_isSeen_0 : decode cX10_isSeen 0 = .ok (.iload_n 0, 1) := by decide +kernel
theorem dX10_isSeen_1 : decode cX10_isSeen 1 = .ok (.ifCond .lt 13, 3) := by decide +kernel
theorem dX10_isSeen_4 : decode cX10_isSeen 4 = .ok (.iload_n 0, 1) := by decide +kernel
theorem dX10_isSeen_5 : decode cX10_isSeen 5 = .ok (.bipush 7, 2) := by decide +kernel
theorem dX10_isSeen_7 : decode cX10_isSeen 7 = .ok (.if_icmp .gt 7, 3) := by decide +kernel
theorem dX10_isSeen_10 : decode cX10_isSeen 10 = .ok (.iconst 1, 1) := by decide +kernel
theorem dX10_isSeen_11 : decode cX10_isSeen 11 = .ok (.goto 4, 3) := by decide +kernel
theorem dX10_isSeen_14 : decode cX10_isSeen 14 = .ok (.iconst 0, 1) := by decide +kernel
theorem dX10_isSeen_15 : decode cX10_isSeen 15 = .ok (.ireturn, 1) := by decide +kernel
set_option maxRecDepth 20000 in
theorem ggX10_pairPart_X1_firstOf : GoodIn wsX10_pairPart wsX1_firstOf := goodIn_r _ [4] (by decide +kernel) (by decide +kernel)
set_option maxRecDepth 20000 in
theorem gX10_pairPart_X1_firstOf : GoodIn wsX10_pairPart (va_wsS RX10 294 yX1_firstOf wsX1_firstOf) := goodIn_app (goodIn_of _ (by decide +kernel)) ggX10_pairPart_X1_firstOf
set_option maxRecDepth 20000 in
theorem ggX10_pairPart_X1_secondOf : GoodIn wsX10_pairPart wsX1_secondOf := goodIn_r _ [7] (by decide +kernel) (by decide +kernel)
set_option maxRecDepth 20000 in
theorem gX10_pairPart_X1_secondOf : GoodIn wsX10_pairPart (va_wsS RX10 297 yX1_secondOf wsX1_secondOf) := goodIn_app (goodIn_of _ (by decide +kernel)) ggX10_pairPart_X1_secondOf
theorem dX10_pairPart_0 : decode cX10_pairPart 0 = .ok (.iload_n 2, 1) := by decide +kernel
theorem dX10_pairPart_1 : decode cX10_pairPart 1 = .ok (.ifCond .ne 5, 3) := by decide +kernel
theorem dX10_pairPart_4 : decode cX10_pairPart 4 = .ok (.iload_n 0, 1) := by decide +kernel
theorem dX10_pairPart_5 : decode cX10_pairPart 5 = .ok (.ireturn, 1) := by decide +kernel
theorem dX10_pairPart_6 : decode cX10_pairPart 6 = .ok (.iload_n 2, 1) := by decide +kernel
theorem dX10_pairPart_7 : decode cX10_pairPart 7 = .ok (.iconst 1, 1) := by decide +kernel
theorem dX10_pairPart_8 : decode cX10_pairPart 8 = .ok (.if_icmp .ne 10, 3) := by decide +kernel
theorem dX10_pairPart_11 : decode cX10_pairPart 11 = .ok (.iload_n 1, 1) := by decide +kernel
theorem dX10_pairPart_12 : decode cX10_pairPart 12 = .ok (.invokestatic 294, 3) := by decide +kernel
theorem dX10_pairPart_15 : decode cX10_pairPart 15 = .ok (.goto 7, 3) := by decide +kernel
theorem dX10_pairPart_18 : decode cX10_pairPart 18 = .ok (.iload_n 1, 1) := by decide +kernel
theorem dX10_pairPart_19 : decode cX10_pairPart 19 = .ok (.invokestatic 297, 3) := by decide +kernel
theorem dX10_pairPart_22 : decode cX10_pairPart 22 = .ok (.ireturn, 1) := by decide +kernel
set_option maxRecDepth 20000 in
theorem ggX10_contractWithout_X8_all : GoodIn wsX10_contractWithout wsX8_all := goodIn_r _ [7, 8, 36, 37, 38, 39] (by decide +kernel) (by decide +kernel)
set_option maxRecDepth 20000 in
theorem gX10_contractWithout_X8_all : GoodIn wsX10_contractWithout (wsV RX10 198 RX8 yX8_all wsX8_all) := goodIn_app (goodIn_of _ (by decide +kernel)) ggX10_contractWithout_X8_all
set_option maxRecDepth 20000 in
theorem ggX10_contractWithout_X0_sayings : GoodIn wsX10_contractWithout wsX0_sayings := goodIn_r _ [13, 14, 40, 41, 42, 43, 44, 45] (by decide +kernel) (by decide +kernel)
set_option maxRecDepth 20000 in
theorem gX10_contractWithout_X0_sayings : GoodIn wsX10_contractWithout (wsV RX10 129 RX0 yX0_sayings wsX0_sayings) := goodIn_app (goodIn_of _ (by decide +kernel)) ggX10_contractWithout_X0_sayings
set_option maxRecDepth 20000 in
theorem ggX10_contractWithout_X0_leftBy : GoodIn wsX10_contractWithout wsX0_leftBy := goodIn_r _ [18, 19, 20, 21, 22, 23, 40, 41, 42, 43, 44, 45] (by decide +kernel) (by decide +kernel)
set_option maxRecDepth 20000 in
theorem gX10_contractWithout_X0_leftBy : GoodIn wsX10_contractWithout (wsV RX10 174 RX0 yX0_leftBy wsX0_leftBy) := goodIn_app (goodIn_of _ (by decide +kernel)) ggX10_contractWithout_X0_leftBy
theorem dX10_contractWithout_0 : decode cX10_contractWithout 0 = .ok (.aload_n 0, 1) := by decide +kernel
theorem dX10_contractWithout_1 : decode cX10_contractWithout 1 = .ok (.getfield 19, 3) := by decide +kernel
theorem dX10_contractWithout_4 : decode cX10_contractWithout 4 = .ok (.invokevirtual 198, 3) := by decide +kernel
theorem dX10_contractWithout_7 : decode cX10_contractWithout 7 = .ok (.istore_n 2, 1) := by decide +kernel
theorem dX10_contractWithout_8 : decode cX10_contractWithout 8 = .ok (.iconst 0, 1) := by decide +kernel
theorem dX10_contractWithout_9 : decode cX10_contractWithout 9 = .ok (.istore_n 3, 1) := by decide +kernel
theorem dX10_contractWithout_10 : decode cX10_contractWithout 10 = .ok (.iload_n 3, 1) := by decide +kernel
theorem dX10_contractWithout_11 : decode cX10_contractWithout 11 = .ok (.aload_n 0, 1) := by decide +kernel
theorem dX10_contractWithout_12 : decode cX10_contractWithout 12 = .ok (.getfield 26, 3) := by decide +kernel
theorem dX10_contractWithout_15 : decode cX10_contractWithout 15 = .ok (.invokevirtual 129, 3) := by decide +kernel
theorem dX10_contractWithout_18 : decode cX10_contractWithout 18 = .ok (.if_icmp .ge 25, 3) := by decide +kernel
theorem dX10_contractWithout_21 : decode cX10_contractWithout 21 = .ok (.iload_n 3, 1) := by decide +kernel
theorem dX10_contractWithout_22 : decode cX10_contractWithout 22 = .ok (.iload_n 1, 1) := by decide +kernel
theorem dX10_contractWithout_23 : decode cX10_contractWithout 23 = .ok (.if_icmp .eq 14, 3) := by decide +kernel
theorem dX10_contractWithout_26 : decode cX10_contractWithout 26 = .ok (.iload_n 2, 1) := by decide +kernel
theorem dX10_contractWithout_27 : decode cX10_contractWithout 27 = .ok (.aload_n 0, 1) := by decide +kernel
theorem dX10_contractWithout_28 : decode cX10_contractWithout 28 = .ok (.getfield 26, 3) := by decide +kernel
theorem dX10_contractWithout_31 : decode cX10_contractWithout 31 = .ok (.iload_n 3, 1) := by decide +kernel
theorem dX10_contractWithout_32 : decode cX10_contractWithout 32 = .ok (.invokevirtual 174, 3) := by decide +kernel
theorem dX10_contractWithout_35 : decode cX10_contractWithout 35 = .ok (.iand, 1) := by decide +kernel
theorem dX10_contractWithout_36 : decode cX10_contractWithout 36 = .ok (.istore_n 2, 1) := by decide +kernel
theorem dX10_contractWithout_37 : decode cX10_contractWithout 37 = .ok (.iinc 3 1, 3) := by decide +kernel
theorem dX10_contractWithout_40 : decode cX10_contractWithout 40 = .ok (.goto (-30), 3) := by decide +kernel
theorem dX10_contractWithout_43 : decode cX10_contractWithout 43 = .ok (.iload_n 2, 1) := by decide +kernel
theorem dX10_contractWithout_44 : decode cX10_contractWithout 44 = .ok (.ireturn, 1) := by decide +kernel
set_option maxRecDepth 20000 in
theorem ggX10_lostWithout_X10_contractWithout : GoodIn wsX10_lostWithout wsX10_contractWithout := goodIn_r _ [5, 6, 7, 8, 9, 10, 11, 12, 13, 14, 15, 16, 17, 18, 19, 20, 21, 22, 23, 24, 25, 26, 27, 28, 40, 41, 42, 43, 44, 45, 46, 47, 48, 49, 50, 51, 52, 53, 54, 55, 56, 57, 58, 59, 60, 61] (by decide +kernel) (by decide +kernel)
set_option maxRecDepth 20000 in
theorem gX10_lostWithout_X10_contractWithout : GoodIn wsX10_lostWithout (wsV RX10 225 RX10 yX10_contractWithout wsX10_contractWithout) := goodIn_app (goodIn_of _ (by decide +kernel)) ggX10_lostWithout_X10_contractWithout
set_option maxRecDepth 20000 in
theorem ggX10_lostWithout_J6_bitCount_0f7a4 : GoodIn wsX10_lostWithout wsJ6_bitCount_0f7a4 := goodIn_r _ [32, 33, 34, 35] (by decide +kernel) (by decide +kernel)
set_option maxRecDepth 20000 in
theorem gX10_lostWithout_J6_bitCount_0f7a4 : GoodIn wsX10_lostWithout (va_wsS RX10 300 yJ6_bitCount_0f7a4 wsJ6_bitCount_0f7a4) := goodIn_app (goodIn_of _ (by decide +kernel)) ggX10_lostWithout_J6_bitCount_0f7a4
set_option maxRecDepth 20000 in
theorem ggX10_lostWithout_X10_contract : GoodIn wsX10_lostWithout wsX10_contract := goodIn_r _ [39, 1, 2, 3, 4, 5, 6, 7, 8, 9, 10, 11, 12, 13, 14, 15, 16, 17, 18, 19, 20, 21, 22, 23, 24, 25, 26, 27, 28, 40, 41, 42, 43, 44, 45, 46, 47, 48, 49, 50, 51, 52, 53, 54, 55, 56, 57, 58, 59, 60, 61] (by decide +kernel) (by decide +kernel)
set_option maxRecDepth 20000 in
theorem gX10_lostWithout_X10_contract : GoodIn wsX10_lostWithout (wsV RX10 228 RX10 yX10_contract wsX10_contract) := goodIn_app (goodIn_of _ (by decide +kernel)) ggX10_lostWithout_X10_contract
theorem dX10_lostWithout_0 : decode cX10_lostWithout 0 = .ok (.aload_n 0, 1) := by decide +kernel
theorem dX10_lostWithout_1 : decode cX10_lostWithout 1 = .ok (.iload_n 1, 1) := by decide +kernel
theorem dX10_lostWithout_2 : decode cX10_lostWithout 2 = .ok (.invokevirtual 225, 3) := by decide +kernel
theorem dX10_lostWithout_5 : decode cX10_lostWithout 5 = .ok (.invokestatic 300, 3) := by decide +kernel
theorem dX10_lostWithout_8 : decode cX10_lostWithout 8 = .ok (.aload_n 0, 1) := by decide +kernel
theorem dX10_lostWithout_9 : decode cX10_lostWithout 9 = .ok (.invokevirtual 228, 3) := by decide +kernel
theorem dX10_lostWithout_12 : decode cX10_lostWithout 12 = .ok (.invokestatic 300, 3) := by decide +kernel
theorem dX10_lostWithout_15 : decode cX10_lostWithout 15 = .ok (.isub, 1) := by decide +kernel
theorem dX10_lostWithout_16 : decode cX10_lostWithout 16 = .ok (.ireturn, 1) := by decide +kernel
set_option maxRecDepth 20000 in
theorem ggX10_shortestWithin_X10_lengthsNow : GoodIn wsX10_shortestWithin wsX10_lengthsNow := goodIn_r _ [6, 7, 8, 9, 10, 11, 12, 13, 14, 15, 16, 17, 18, 19, 20, 21, 22, 23, 24, 25, 26, 27, 28, 29, 30, 31, 32, 33, 34, 35, 36, 37, 38, 39, 40, 41, 42, 43, 44, 45, 46, 47, 48, 49, 50, 51, 52, 53, 54, 55, 56, 57, 58, 59, 60, 61, 62, 63, 64, 65, 66, 67, 68, 69, 70, 71, 72, 73, 74, 75, 76, 77, 78, 79, 80, 81, 82, 83, 84, 85, 86, 92, 93, 94, 95, 96, 97, 98, 99, 100, 101, 102, 103, 104, 105, 106, 107, 108, 109, 110, 111, 112, 113, 114, 115, 116, 117, 118, 119, 120] (by decide +kernel) (by decide +kernel)
set_option maxRecDepth 20000 in
theorem gX10_shortestWithin_X10_lengthsNow : GoodIn wsX10_shortestWithin (wsV RX10 180 RX10 yX10_lengthsNow wsX10_lengthsNow) := goodIn_app (goodIn_of _ (by decide +kernel)) ggX10_shortestWithin_X10_lengthsNow
set_option maxRecDepth 20000 in
theorem ggX10_shortestWithin_X8_all : GoodIn wsX10_shortestWithin wsX8_all := goodIn_r _ [28, 29, 111, 112, 113, 114] (by decide +kernel) (by decide +kernel)
set_option maxRecDepth 20000 in
theorem gX10_shortestWithin_X8_all : GoodIn wsX10_shortestWithin (wsV RX10 198 RX8 yX8_all wsX8_all) := goodIn_app (goodIn_of _ (by decide +kernel)) ggX10_shortestWithin_X8_all
set_option maxRecDepth 20000 in
theorem ggX10_shortestWithin_X1_of : GoodIn wsX10_shortestWithin wsX1_of := goodIn_r _ [91, 15, 82, 60, 32, 61, 104, 105, 106, 107, 108] (by decide +kernel) (by decide +kernel)
set_option maxRecDepth 20000 in
theorem gX10_shortestWithin_X1_of : GoodIn wsX10_shortestWithin (wsV RX10 184 RX1 yX1_of wsX1_of) := goodIn_app (goodIn_of _ (by decide +kernel)) ggX10_shortestWithin_X1_of
theorem dX10_shortestWithin_0 : decode cX10_shortestWithin 0 = .ok (.aload_n 0, 1) := by decide +kernel
theorem dX10_shortestWithin_1 : decode cX10_shortestWithin 1 = .ok (.invokevirtual 180, 3) := by decide +kernel
theorem dX10_shortestWithin_4 : decode cX10_shortestWithin 4 = .ok (.astore_n 3, 1) := by decide +kernel
theorem dX10_shortestWithin_5 : decode cX10_shortestWithin 5 = .ok (.bipush (-9), 2) := by decide +kernel
theorem dX10_shortestWithin_7 : decode cX10_shortestWithin 7 = .ok (.istore 4, 2) := by decide +kernel
theorem dX10_shortestWithin_9 : decode cX10_shortestWithin 9 = .ok (.iconst 0, 1) := by decide +kernel
theorem dX10_shortestWithin_10 : decode cX10_shortestWithin 10 = .ok (.istore 5, 2) := by decide +kernel
theorem dX10_shortestWithin_12 : decode cX10_shortestWithin 12 = .ok (.iconst 0, 1) := by decide +kernel
theorem dX10_shortestWithin_13 : decode cX10_shortestWithin 13 = .ok (.istore 6, 2) := by decide +kernel
theorem dX10_shortestWithin_15 : decode cX10_shortestWithin 15 = .ok (.iload 6, 2) := by decide +kernel
theorem dX10_shortestWithin_17 : decode cX10_shortestWithin 17 = .ok (.aload_n 0, 1) := by decide +kernel
theorem dX10_shortestWithin_18 : decode cX10_shortestWithin 18 = .ok (.getfield 19, 3) := by decide +kernel
theorem dX10_shortestWithin_21 : decode cX10_shortestWithin 21 = .ok (.invokevirtual 198, 3) := by decide +kernel
theorem dX10_shortestWithin_24 : decode cX10_shortestWithin 24 = .ok (.if_icmp .gt 61, 3) := by decide +kernel
theorem dX10_shortestWithin_27 : decode cX10_shortestWithin 27 = .ok (.iload 6, 2) := by decide +kernel
theorem dX10_shortestWithin_29 : decode cX10_shortestWithin 29 = .ok (.iload_n 1, 1) := by decide +kernel
theorem dX10_shortestWithin_30 : decode cX10_shortestWithin 30 = .ok (.iand, 1) := by decide +kernel
theorem dX10_shortestWithin_31 : decode cX10_shortestWithin 31 = .ok (.iload_n 2, 1) := by decide +kernel
theorem dX10_shortestWithin_32 : decode cX10_shortestWithin 32 = .ok (.iload_n 1, 1) := by decide +kernel
theorem dX10_shortestWithin_33 : decode cX10_shortestWithin 33 = .ok (.iand, 1) := by decide +kernel
theorem dX10_shortestWithin_34 : decode cX10_shortestWithin 34 = .ok (.if_icmp .ne 12, 3) := by decide +kernel
theorem dX10_shortestWithin_37 : decode cX10_shortestWithin 37 = .ok (.aload_n 3, 1) := by decide +kernel
theorem dX10_shortestWithin_38 : decode cX10_shortestWithin 38 = .ok (.iload 6, 2) := by decide +kernel
theorem dX10_shortestWithin_40 : decode cX10_shortestWithin 40 = .ok (.invokevirtual 184, 3) := by decide +kernel
theorem dX10_shortestWithin_43 : decode cX10_shortestWithin 43 = .ok (.goto 5, 3) := by decide +kernel
theorem dX10_shortestWithin_46 : decode cX10_shortestWithin 46 = .ok (.bipush (-9), 2) := by decide +kernel
theorem dX10_shortestWithin_48 : decode cX10_shortestWithin 48 = .ok (.istore 7, 2) := by decide +kernel
theorem dX10_shortestWithin_50 : decode cX10_shortestWithin 50 = .ok (.iload 7, 2) := by decide +kernel
theorem dX10_shortestWithin_52 : decode cX10_shortestWithin 52 = .ok (.bipush (-9), 2) := by decide +kernel
theorem dX10_shortestWithin_54 : decode cX10_shortestWithin 54 = .ok (.if_icmp .eq 25, 3) := by decide +kernel
theorem dX10_shortestWithin_57 : decode cX10_shortestWithin 57 = .ok (.iload 4, 2) := by decide +kernel
theorem dX10_shortestWithin_59 : decode cX10_shortestWithin 59 = .ok (.bipush (-9), 2) := by decide +kernel
theorem dX10_shortestWithin_61 : decode cX10_shortestWithin 61 = .ok (.if_icmp .eq 10, 3) := by decide +kernel
theorem dX10_shortestWithin_64 : decode cX10_shortestWithin 64 = .ok (.iload 7, 2) := by decide +kernel
theorem dX10_shortestWithin_66 : decode cX10_shortestWithin 66 = .ok (.iload 5, 2) := by decide +kernel
theorem dX10_shortestWithin_68 : decode cX10_shortestWithin 68 = .ok (.if_icmp .ge 11, 3) := by decide +kernel
theorem dX10_shortestWithin_71 : decode cX10_shortestWithin 71 = .ok (.iload 6, 2) := by decide +kernel
theorem dX10_shortestWithin_73 : decode cX10_shortestWithin 73 = .ok (.istore 4, 2) := by decide +kernel
theorem dX10_shortestWithin_75 : decode cX10_shortestWithin 75 = .ok (.iload 7, 2) := by decide +kernel
theorem dX10_shortestWithin_77 : decode cX10_shortestWithin 77 = .ok (.istore 5, 2) := by decide +kernel
theorem dX10_shortestWithin_79 : decode cX10_shortestWithin 79 = .ok (.iinc 6 1, 3) := by decide +kernel
theorem dX10_shortestWithin_82 : decode cX10_shortestWithin 82 = .ok (.goto (-67), 3) := by decide +kernel
theorem dX10_shortestWithin_85 : decode cX10_shortestWithin 85 = .ok (.iload 4, 2) := by decide +kernel
theorem dX10_shortestWithin_87 : decode cX10_shortestWithin 87 = .ok (.ireturn, 1) := by decide +kernel
set_option maxRecDepth 20000 in
theorem ggX10_plainMark_X0_signsOf : GoodIn wsX10_plainMark wsX0_signsOf := goodIn_r _ [7, 8, 9, 10, 11, 12, 25, 26, 27, 28, 29, 30] (by decide +kernel) (by decide +kernel)
set_option maxRecDepth 20000 in
theorem gX10_plainMark_X0_signsOf : GoodIn wsX10_plainMark (wsV RX10 177 RX0 yX0_signsOf wsX0_signsOf) := goodIn_app (goodIn_of _ (by decide +kernel)) ggX10_plainMark_X0_signsOf
theorem dX10_plainMark_0 : decode cX10_plainMark 0 = .ok (.aload_n 0, 1) := by decide +kernel
theorem dX10_plainMark_1 : decode cX10_plainMark 1 = .ok (.dup, 1) := by decide +kernel
theorem dX10_plainMark_2 : decode cX10_plainMark 2 = .ok (.getfield 85, 3) := by decide +kernel
theorem dX10_plainMark_5 : decode cX10_plainMark 5 = .ok (.lconst 1, 1) := by decide +kernel
theorem dX10_plainMark_6 : decode cX10_plainMark 6 = .ok (.ladd, 1) := by decide +kernel
theorem dX10_plainMark_7 : decode cX10_plainMark 7 = .ok (.putfield 85, 3) := by decide +kernel
theorem dX10_plainMark_10 : decode cX10_plainMark 10 = .ok (.aload_n 0, 1) := by decide +kernel
theorem dX10_plainMark_11 : decode cX10_plainMark 11 = .ok (.getfield 26, 3) := by decide +kernel
theorem dX10_plainMark_14 : decode cX10_plainMark 14 = .ok (.iload_n 1, 1) := by decide +kernel
theorem dX10_plainMark_15 : decode cX10_plainMark 15 = .ok (.invokevirtual 177, 3) := by decide +kernel
theorem dX10_plainMark_18 : decode cX10_plainMark 18 = .ok (.ireturn, 1) := by decide +kernel
set_option maxRecDepth 20000 in
theorem ggX10_offerMark_X10_plainMark : GoodIn wsX10_offerMark wsX10_plainMark := goodIn_r _ [8, 1, 3, 9, 10, 11, 12, 13, 14, 15, 16, 17, 18, 31, 32, 33, 34, 35, 36, 37, 38, 39, 40, 41, 42, 43, 44, 45, 46, 47, 48] (by decide +kernel) (by decide +kernel)
set_option maxRecDepth 20000 in
theorem gX10_offerMark_X10_plainMark : GoodIn wsX10_offerMark (wsV RX10 257 RX10 yX10_plainMark wsX10_plainMark) := goodIn_app (goodIn_of _ (by decide +kernel)) ggX10_offerMark_X10_plainMark
set_option maxRecDepth 20000 in
theorem ggX10_offerMark_X0_leftBy : GoodIn wsX10_offerMark wsX0_leftBy := goodIn_r _ [22, 23, 15, 16, 17, 18, 43, 44, 45, 46, 47, 48] (by decide +kernel) (by decide +kernel)
set_option maxRecDepth 20000 in
theorem gX10_offerMark_X0_leftBy : GoodIn wsX10_offerMark (wsV RX10 174 RX0 yX0_leftBy wsX0_leftBy) := goodIn_app (goodIn_of _ (by decide +kernel)) ggX10_offerMark_X0_leftBy
set_option maxRecDepth 20000 in
theorem ggX10_offerMark_J6_bitCount_0f7a4 : GoodIn wsX10_offerMark wsJ6_bitCount_0f7a4 := goodIn_r _ [27, 28, 29, 30] (by decide +kernel) (by decide +kernel)
set_option maxRecDepth 20000 in
theorem gX10_offerMark_J6_bitCount_0f7a4 : GoodIn wsX10_offerMark (va_wsS RX10 300 yJ6_bitCount_0f7a4 wsJ6_bitCount_0f7a4) := goodIn_app (goodIn_of _ (by decide +kernel)) ggX10_offerMark_J6_bitCount_0f7a4
theorem dX10_offerMark_0 : decode cX10_offerMark 0 = .ok (.aload_n 0, 1) := by decide +kernel
theorem dX10_offerMark_1 : decode cX10_offerMark 1 = .ok (.dup, 1) := by decide +kernel
theorem dX10_offerMark_2 : decode cX10_offerMark 2 = .ok (.getfield 85, 3) := by decide +kernel
theorem dX10_offerMark_5 : decode cX10_offerMark 5 = .ok (.ldc2_w 305, 3) := by decide +kernel
theorem dX10_offerMark_8 : decode cX10_offerMark 8 = .ok (.ladd, 1) := by decide +kernel
theorem dX10_offerMark_9 : decode cX10_offerMark 9 = .ok (.putfield 85, 3) := by decide +kernel
theorem dX10_offerMark_12 : decode cX10_offerMark 12 = .ok (.aload_n 0, 1) := by decide +kernel
theorem dX10_offerMark_13 : decode cX10_offerMark 13 = .ok (.iload_n 1, 1) := by decide +kernel
theorem dX10_offerMark_14 : decode cX10_offerMark 14 = .ok (.invokevirtual 257, 3) := by decide +kernel
theorem dX10_offerMark_17 : decode cX10_offerMark 17 = .ok (.aload_n 0, 1) := by decide +kernel
theorem dX10_offerMark_18 : decode cX10_offerMark 18 = .ok (.getfield 26, 3) := by decide +kernel
theorem dX10_offerMark_21 : decode cX10_offerMark 21 = .ok (.iload_n 1, 1) := by decide +kernel
theorem dX10_offerMark_22 : decode cX10_offerMark 22 = .ok (.invokevirtual 174, 3) := by decide +kernel
theorem dX10_offerMark_25 : decode cX10_offerMark 25 = .ok (.invokestatic 300, 3) := by decide +kernel
theorem dX10_offerMark_28 : decode cX10_offerMark 28 = .ok (.iadd, 1) := by decide +kernel
theorem dX10_offerMark_29 : decode cX10_offerMark 29 = .ok (.ireturn, 1) := by decide +kernel
set_option maxRecDepth 20000 in
theorem ggX10_clauseMark_X10_plainMark : GoodIn wsX10_clauseMark wsX10_plainMark := goodIn_r _ [7, 1, 8, 9, 10, 11, 12, 13, 14, 15, 16, 17, 18, 19, 20, 21, 22, 23, 24, 25, 26, 27, 28, 29, 30, 31, 32, 33, 34, 35, 36] (by decide +kernel) (by decide +kernel)
set_option maxRecDepth 20000 in
theorem gX10_clauseMark_X10_plainMark : GoodIn wsX10_clauseMark (wsV RX10 257 RX10 yX10_plainMark wsX10_plainMark) := goodIn_app (goodIn_of _ (by decide +kernel)) ggX10_clauseMark_X10_plainMark
theorem dX10_clauseMark_0 : decode cX10_clauseMark 0 = .ok (.aload_n 0, 1) := by decide +kernel
theorem dX10_clauseMark_1 : decode cX10_clauseMark 1 = .ok (.dup, 1) := by decide +kernel
theorem dX10_clauseMark_2 : decode cX10_clauseMark 2 = .ok (.getfield 85, 3) := by decide +kernel
theorem dX10_clauseMark_5 : decode cX10_clauseMark 5 = .ok (.ldc2_w 307, 3) := by decide +kernel
theorem dX10_clauseMark_8 : decode cX10_clauseMark 8 = .ok (.ladd, 1) := by decide +kernel
theorem dX10_clauseMark_9 : decode cX10_clauseMark 9 = .ok (.putfield 85, 3) := by decide +kernel
theorem dX10_clauseMark_12 : decode cX10_clauseMark 12 = .ok (.aload_n 0, 1) := by decide +kernel
theorem dX10_clauseMark_13 : decode cX10_clauseMark 13 = .ok (.iload_n 1, 1) := by decide +kernel
theorem dX10_clauseMark_14 : decode cX10_clauseMark 14 = .ok (.invokevirtual 257, 3) := by decide +kernel
theorem dX10_clauseMark_17 : decode cX10_clauseMark 17 = .ok (.iconst 2, 1) := by decide +kernel
theorem dX10_clauseMark_18 : decode cX10_clauseMark 18 = .ok (.imul, 1) := by decide +kernel
theorem dX10_clauseMark_19 : decode cX10_clauseMark 19 = .ok (.ireturn, 1) := by decide +kernel
set_option maxRecDepth 20000 in
theorem ggX10_vowMark_X10_clauseMark : GoodIn wsX10_vowMark wsX10_clauseMark := goodIn_r _ [7, 1, 8, 9, 10, 11, 6, 12, 13, 14, 15, 16, 17, 18, 19, 20, 21, 22, 23, 60, 61, 62, 63, 64, 65, 66, 67, 68, 69, 70, 71, 72, 73, 74, 75, 76, 77] (by decide +kernel) (by decide +kernel)
set_option maxRecDepth 20000 in
theorem gX10_vowMark_X10_clauseMark : GoodIn wsX10_vowMark (wsV RX10 263 RX10 yX10_clauseMark wsX10_clauseMark) := goodIn_app (goodIn_of _ (by decide +kernel)) ggX10_vowMark_X10_clauseMark
set_option maxRecDepth 20000 in
theorem ggX10_vowMark_X10_lostWithout : GoodIn wsX10_vowMark wsX10_lostWithout := goodIn_r _ [27, 28, 29, 30, 6, 31, 32, 13, 33, 34, 35, 36, 37, 38, 39, 40, 41, 17, 42, 43, 44, 45, 46, 47, 48, 20, 21, 22, 23, 49, 50, 51, 52, 53, 54, 55, 56, 57, 58, 59, 60, 61, 62, 63, 64, 65, 66, 67, 68, 69, 70, 71, 78, 79, 80, 81, 72, 73, 74, 75, 76, 77] (by decide +kernel) (by decide +kernel)
set_option maxRecDepth 20000 in
theorem gX10_vowMark_X10_lostWithout : GoodIn wsX10_vowMark (wsV RX10 234 RX10 yX10_lostWithout wsX10_lostWithout) := goodIn_app (goodIn_of _ (by decide +kernel)) ggX10_vowMark_X10_lostWithout
theorem dX10_vowMark_0 : decode cX10_vowMark 0 = .ok (.aload_n 0, 1) := by decide +kernel
theorem dX10_vowMark_1 : decode cX10_vowMark 1 = .ok (.dup, 1) := by decide +kernel
theorem dX10_vowMark_2 : decode cX10_vowMark 2 = .ok (.getfield 85, 3) := by decide +kernel
theorem dX10_vowMark_5 : decode cX10_vowMark 5 = .ok (.ldc2_w 309, 3) := by decide +kernel
theorem dX10_vowMark_8 : decode cX10_vowMark 8 = .ok (.ladd, 1) := by decide +kernel
theorem dX10_vowMark_9 : decode cX10_vowMark 9 = .ok (.putfield 85, 3) := by decide +kernel
theorem dX10_vowMark_12 : decode cX10_vowMark 12 = .ok (.aload_n 0, 1) := by decide +kernel
theorem dX10_vowMark_13 : decode cX10_vowMark 13 = .ok (.iload_n 1, 1) := by decide +kernel
theorem dX10_vowMark_14 : decode cX10_vowMark 14 = .ok (.invokevirtual 263, 3) := by decide +kernel
theorem dX10_vowMark_17 : decode cX10_vowMark 17 = .ok (.aload_n 0, 1) := by decide +kernel
theorem dX10_vowMark_18 : decode cX10_vowMark 18 = .ok (.iload_n 1, 1) := by decide +kernel
theorem dX10_vowMark_19 : decode cX10_vowMark 19 = .ok (.invokevirtual 234, 3) := by decide +kernel
theorem dX10_vowMark_22 : decode cX10_vowMark 22 = .ok (.iadd, 1) := by decide +kernel
theorem dX10_vowMark_23 : decode cX10_vowMark 23 = .ok (.ireturn, 1) := by decide +kernel
set_option maxRecDepth 20000 in
theorem ggX10_questionMark_X10_offerMark : GoodIn wsX10_questionMark wsX10_offerMark := goodIn_r _ [7, 1, 8, 9, 10, 11, 12, 6, 13, 14, 15, 16, 17, 18, 19, 20, 21, 22, 23, 24, 25, 26, 27, 28, 29, 30, 31, 32, 33, 34, 35, 36, 37, 38, 39, 40, 41, 42, 43, 44, 45, 46, 47, 48, 49, 50, 51, 52, 53] (by decide +kernel) (by decide +kernel)
set_option maxRecDepth 20000 in
theorem gX10_questionMark_X10_offerMark : GoodIn wsX10_questionMark (wsV RX10 260 RX10 yX10_offerMark wsX10_offerMark) := goodIn_app (goodIn_of _ (by decide +kernel)) ggX10_questionMark_X10_offerMark
theorem dX10_questionMark_0 : decode cX10_questionMark 0 = .ok (.aload_n 0, 1) := by decide +kernel
theorem dX10_questionMark_1 : decode cX10_questionMark 1 = .ok (.dup, 1) := by decide +kernel
theorem dX10_questionMark_2 : decode cX10_questionMark 2 = .ok (.getfield 85, 3) := by decide +kernel
theorem dX10_questionMark_5 : decode cX10_questionMark 5 = .ok (.ldc2_w 311, 3) := by decide +kernel
theorem dX10_questionMark_8 : decode cX10_questionMark 8 = .ok (.ladd, 1) := by decide +kernel
theorem dX10_questionMark_9 : decode cX10_questionMark 9 = .ok (.putfield 85, 3) := by decide +kernel
theorem dX10_questionMark_12 : decode cX10_questionMark 12 = .ok (.aload_n 0, 1) := by decide +kernel
theorem dX10_questionMark_13 : decode cX10_questionMark 13 = .ok (.iload_n 1, 1) := by decide +kernel
theorem dX10_questionMark_14 : decode cX10_questionMark 14 = .ok (.invokevirtual 260, 3) := by decide +kernel
theorem dX10_questionMark_17 : decode cX10_questionMark 17 = .ok (.iload_n 1, 1) := by decide +kernel
theorem dX10_questionMark_18 : decode cX10_questionMark 18 = .ok (.isub, 1) := by decide +kernel
theorem dX10_questionMark_19 : decode cX10_questionMark 19 = .ok (.ireturn, 1) := by decide +kernel
set_option maxRecDepth 20000 in
theorem ggX10_shrugMark_X10_plainMark : GoodIn wsX10_shrugMark wsX10_plainMark := goodIn_r _ [12, 1, 3, 13, 14, 15, 16, 17, 18, 19, 20, 21, 22, 111, 112, 113, 114, 115, 116, 117, 118, 119, 120, 121, 122, 123, 124, 125, 126, 127, 128] (by decide +kernel) (by decide +kernel)
set_option maxRecDepth 20000 in
theorem gX10_shrugMark_X10_plainMark : GoodIn wsX10_shrugMark (wsV RX10 257 RX10 yX10_plainMark wsX10_plainMark) := goodIn_app (goodIn_of _ (by decide +kernel)) ggX10_shrugMark_X10_plainMark
set_option maxRecDepth 20000 in
theorem ggX10_shrugMark_X10_lengthsNow : GoodIn wsX10_shrugMark wsX10_lengthsNow := goodIn_r _ [26, 27, 28, 29, 30, 31, 32, 33, 34, 35, 36, 37, 38, 39, 40, 41, 42, 43, 44, 45, 46, 47, 48, 49, 50, 51, 21, 52, 53, 54, 55, 56, 57, 58, 59, 60, 61, 62, 63, 64, 16, 65, 66, 67, 68, 69, 70, 71, 72, 73, 74, 75, 76, 77, 20, 22, 78, 79, 80, 81, 82, 83, 84, 85, 86, 19, 87, 88, 89, 90, 91, 92, 93, 94, 95, 96, 97, 98, 99, 100, 101, 111, 112, 113, 114, 115, 116, 117, 118, 119, 120, 121, 122, 129, 130, 131, 132, 133, 134, 135, 136, 137, 138, 139, 123, 124, 125, 126, 127, 128] (by decide +kernel) (by decide +kernel)
set_option maxRecDepth 20000 in
theorem gX10_shrugMark_X10_lengthsNow : GoodIn wsX10_shrugMark (wsV RX10 180 RX10 yX10_lengthsNow wsX10_lengthsNow) := goodIn_app (goodIn_of _ (by decide +kernel)) ggX10_shrugMark_X10_lengthsNow
set_option maxRecDepth 20000 in
theorem ggX10_shrugMark_X0_leftBy : GoodIn wsX10_shrugMark wsX0_leftBy := goodIn_r _ [105, 106, 19, 20, 21, 22, 123, 124, 125, 126, 127, 128] (by decide +kernel) (by decide +kernel)
set_option maxRecDepth 20000 in
theorem gX10_shrugMark_X0_leftBy : GoodIn wsX10_shrugMark (wsV RX10 174 RX0 yX0_leftBy wsX0_leftBy) := goodIn_app (goodIn_of _ (by decide +kernel)) ggX10_shrugMark_X0_leftBy
set_option maxRecDepth 20000 in
theorem ggX10_shrugMark_X1_of : GoodIn wsX10_shrugMark wsX1_of := goodIn_r _ [110, 35, 97, 20, 21, 22, 129, 130, 131, 132, 133] (by decide +kernel) (by decide +kernel)
set_option maxRecDepth 20000 in
theorem gX10_shrugMark_X1_of : GoodIn wsX10_shrugMark (wsV RX10 184 RX1 yX1_of wsX1_of) := goodIn_app (goodIn_of _ (by decide +kernel)) ggX10_shrugMark_X1_of
theorem dX10_shrugMark_0 : decode cX10_shrugMark 0 = .ok (.aload_n 0, 1) := by decide +kernel
theorem dX10_shrugMark_1 : decode cX10_shrugMark 1 = .ok (.dup, 1) := by decide +kernel
theorem dX10_shrugMark_2 : decode cX10_shrugMark 2 = .ok (.getfield 85, 3) := by decide +kernel
theorem dX10_shrugMark_5 : decode cX10_shrugMark 5 = .ok (.ldc2_w 313, 3) := by decide +kernel
theorem dX10_shrugMark_8 : decode cX10_shrugMark 8 = .ok (.ladd, 1) := by decide +kernel
theorem dX10_shrugMark_9 : decode cX10_shrugMark 9 = .ok (.putfield 85, 3) := by decide +kernel
theorem dX10_shrugMark_12 : decode cX10_shrugMark 12 = .ok (.aload_n 0, 1) := by decide +kernel
theorem dX10_shrugMark_13 : decode cX10_shrugMark 13 = .ok (.iload_n 1, 1) := by decide +kernel
theorem dX10_shrugMark_14 : decode cX10_shrugMark 14 = .ok (.invokevirtual 257, 3) := by decide +kernel
theorem dX10_shrugMark_17 : decode cX10_shrugMark 17 = .ok (.iconst 0, 1) := by decide +kernel
theorem dX10_shrugMark_18 : decode cX10_shrugMark 18 = .ok (.aload_n 0, 1) := by decide +kernel
theorem dX10_shrugMark_19 : decode cX10_shrugMark 19 = .ok (.invokevirtual 180, 3) := by decide +kernel
theorem dX10_shrugMark_22 : decode cX10_shrugMark 22 = .ok (.aload_n 0, 1) := by decide +kernel
theorem dX10_shrugMark_23 : decode cX10_shrugMark 23 = .ok (.getfield 26, 3) := by decide +kernel
theorem dX10_shrugMark_26 : decode cX10_shrugMark 26 = .ok (.iload_n 1, 1) := by decide +kernel
theorem dX10_shrugMark_27 : decode cX10_shrugMark 27 = .ok (.invokevirtual 174, 3) := by decide +kernel
theorem dX10_shrugMark_30 : decode cX10_shrugMark 30 = .ok (.invokevirtual 184, 3) := by decide +kernel
theorem dX10_shrugMark_33 : decode cX10_shrugMark 33 = .ok (.invokestatic 315, 3) := by decide +kernel
theorem dX10_shrugMark_36 : decode cX10_shrugMark 36 = .ok (.iadd, 1) := by decide +kernel
theorem dX10_shrugMark_37 : decode cX10_shrugMark 37 = .ok (.ireturn, 1) := by decide +kernel
theorem dX11_init_0 : decode cX11_init 0 = .ok (.aload_n 0, 1) := by decide +kernel
theorem dX11_init_1 : decode cX11_init 1 = .ok (.invokespecial 1, 3) := by decide +kernel
theorem dX11_init_4 : decode cX11_init 4 = .ok (.aload_n 0, 1) := by decide +kernel
theorem dX11_init_5 : decode cX11_init 5 = .ok (.sipush 200, 3) := by decide +kernel
theorem dX11_init_8 : decode cX11_init 8 = .ok (.newarray .byte, 2) := by decide +kernel
theorem dX11_init_10 : decode cX11_init 10 = .ok (.putfield 7, 3) := by decide +kernel
theorem dX11_init_13 : decode cX11_init 13 = .ok (.aload_n 0, 1) := by decide +kernel
theorem dX11_init_14 : decode cX11_init 14 = .ok (.iconst 3, 1) := by decide +kernel
theorem dX11_init_15 : decode cX11_init 15 = .ok (.newarray .int, 2) := by decide +kernel
theorem dX11_init_17 : decode cX11_init 17 = .ok (.putfield 13, 3) := by decide +kernel
theorem dX11_init_20 : decode cX11_init 20 = .ok (.aload_n 0, 1) := by decide +kernel
theorem dX11_init_21 : decode cX11_init 21 = .ok (.iconst 3, 1) := by decide +kernel
theorem dX11_init_22 : decode cX11_init 22 = .ok (.newarray .int, 2) := by decide +kernel
theorem dX11_init_24 : decode cX11_init 24 = .ok (.putfield 17, 3) := by decide +kernel
theorem dX11_init_27 : decode cX11_init 27 = .ok (.aload_n 0, 1) := by decide +kernel
theorem dX11_init_28 : decode cX11_init 28 = .ok (.iconst 3, 1) := by decide +kernel
theorem dX11_init_29 : decode cX11_init 29 = .ok (.newarray .int, 2) := by decide +kernel
theorem dX11_init_31 : decode cX11_init 31 = .ok (.putfield 20, 3) := by decide +kernel
theorem dX11_init_34 : decode cX11_init 34 = .ok (.aload_n 0, 1) := by decide +kernel
theorem dX11_init_35 : decode cX11_init 35 = .ok (.bipush 24, 2) := by decide +kernel
theorem dX11_init_37 : decode cX11_init 37 = .ok (.newarray .int, 2) := by decide +kernel
theorem dX11_init_39 : decode cX11_init 39 = .ok (.putfield 23, 3) := by decide +kernel
theorem dX11_init_42 : decode cX11_init 42 = .ok (.aload_n 0, 1) := by decide +kernel
theorem dX11_init_43 : decode cX11_init 43 = .ok (.bipush 24, 2) := by decide +kernel
theorem dX11_init_45 : decode cX11_init 45 = .ok (.newarray .int, 2) := by decide +kernel
theorem dX11_init_47 : decode cX11_init 47 = .ok (.putfield 26, 3) := by decide +kernel
theorem dX11_init_50 : decode cX11_init 50 = .ok (.aload_n 0, 1) := by decide +kernel
theorem dX11_init_51 : decode cX11_init 51 = .ok (.iconst 3, 1) := by decide +kernel
theorem dX11_init_52 : decode cX11_init 52 = .ok (.newarray .int, 2) := by decide +kernel
theorem dX11_init_54 : decode cX11_init 54 = .ok (.putfield 29, 3) := by decide +kernel
theorem dX11_init_57 : decode cX11_init 57 = .ok (.aload_n 0, 1) := by decide +kernel
theorem dX11_init_58 : decode cX11_init 58 = .ok (.bipush 9, 2) := by decide +kernel
theorem dX11_init_60 : decode cX11_init 60 = .ok (.newarray .int, 2) := by decide +kernel
theorem dX11_init_62 : decode cX11_init 62 = .ok (.putfield 32, 3) := by decide +kernel
theorem dX11_init_65 : decode cX11_init 65 = .ok (.aload_n 0, 1) := by decide +kernel
theorem dX11_init_66 : decode cX11_init 66 = .ok (.iconst 2, 1) := by decide +kernel
theorem dX11_init_67 : decode cX11_init 67 = .ok (.newarray .boolean, 2) := by decide +kernel
theorem dX11_init_69 : decode cX11_init 69 = .ok (.putfield 35, 3) := by decide +kernel
theorem dX11_init_72 : decode cX11_init 72 = .ok (.aload_n 0, 1) := by decide +kernel
theorem dX11_init_73 : decode cX11_init 73 = .ok (.bipush 10, 2) := by decide +kernel
theorem dX11_init_75 : decode cX11_init 75 = .ok (.newarray .int, 2) := by decide +kernel
theorem dX11_init_77 : decode cX11_init 77 = .ok (.putfield 39, 3) := by decide +kernel
theorem dX11_init_80 : decode cX11_init 80 = .ok (.aload_n 0, 1) := by decide +kernel
theorem dX11_init_81 : decode cX11_init 81 = .ok (.bipush 10, 2) := by decide +kernel
theorem dX11_init_83 : decode cX11_init 83 = .ok (.newarray .int, 2) := by decide +kernel
theorem dX11_init_85 : decode cX11_init 85 = .ok (.putfield 42, 3) := by decide +kernel
theorem dX11_init_88 : decode cX11_init 88 = .ok (.aload_n 0, 1) := by decide +kernel
theorem dX11_init_89 : decode cX11_init 89 = .ok (.sipush 512, 3) := by decide +kernel
theorem dX11_init_92 : decode cX11_init 92 = .ok (.newarray .int, 2) := by decide +kernel
theorem dX11_init_94 : decode cX11_init 94 = .ok (.putfield 45, 3) := by decide +kernel
theorem dX11_init_97 : decode cX11_init 97 = .ok (.aload_n 0, 1) := by decide +kernel
theorem dX11_init_98 : decode cX11_init 98 = .ok (.sipush 512, 3) := by decide +kernel
theorem dX11_init_101 : decode cX11_init 101 = .ok (.newarray .int, 2) := by decide +kernel
theorem dX11_init_103 : decode cX11_init 103 = .ok (.putfield 48, 3) := by decide +kernel
theorem dX11_init_106 : decode cX11_init 106 = .ok (.aload_n 0, 1) := by decide +kernel
theorem dX11_init_107 : decode cX11_init 107 = .ok (.iconst 1, 1) := by decide +kernel
theorem dX11_init_108 : decode cX11_init 108 = .ok (.putfield 51, 3) := by decide +kernel
theorem dX11_init_111 : decode cX11_init 111 = .ok (.return_, 1) := by decide +kernel
theorem dX11_in_0 : decode cX11_in 0 = .ok (.iload_n 0, 1) := by decide +kernel
theorem dX11_in_1 : decode cX11_in 1 = .ok (.iload_n 1, 1) := by decide +kernel
theorem dX11_in_2 : decode cX11_in 2 = .ok (.if_icmp .lt 12, 3) := by decide +kernel
theorem dX11_in_5 : decode cX11_in 5 = .ok (.iload_n 0, 1) := by decide +kernel
theorem dX11_in_6 : decode cX11_in 6 = .ok (.iload_n 2, 1) := by decide +kernel
theorem dX11_in_7 : decode cX11_in 7 = .ok (.if_icmp .gt 7, 3) := by decide +kernel
theorem dX11_in_10 : decode cX11_in 10 = .ok (.iconst 1, 1) := by decide +kernel
theorem dX11_in_11 : decode cX11_in 11 = .ok (.goto 4, 3) := by decide +kernel
theorem dX11_in_14 : decode cX11_in 14 = .ok (.iconst 0, 1) := by decide +kernel
theorem dX11_in_15 : decode cX11_in 15 = .ok (.ireturn, 1) := by decide +kernel
set_option maxRecDepth 20000 in
theorem ggX11_type_X11_in : GoodIn wsX11_type wsX11_in := goodIn_r _ [7] (by decide +kernel) (by decide +kernel)
set_option maxRecDepth 20000 in
theorem gX11_type_X11_in : GoodIn wsX11_type (va_wsS RX11 55 yX11_in wsX11_in) := goodIn_app (goodIn_of _ (by decide +kernel)) ggX11_type_X11_in
theorem dX11_type_0 : decode cX11_type 0 = .ok (.iload_n 3, 1) := by decide +kernel
theorem dX11_type_1 : decode cX11_type 1 = .ok (.iconst 1, 1) := by decide +kernel
theorem dX11_type_2 : decode cX11_type 2 = .ok (.bipush 8, 2) := by decide +kernel
theorem dX11_type_4 : decode cX11_type 4 = .ok (.invokestatic 55, 3) := by decide +kernel
theorem dX11_type_7 : decode cX11_type 7 = .ok (.ifCond .ne 5, 3) := by decide +kernel
theorem dX11_type_10 : decode cX11_type 10 = .ok (.iconst (-1), 1) := by decide +kernel
theorem dX11_type_11 : decode cX11_type 11 = .ok (.ireturn, 1) := by decide +kernel
theorem dX11_type_12 : decode cX11_type 12 = .ok (.aload_n 0, 1) := by decide +kernel
theorem dX11_type_13 : decode cX11_type 13 = .ok (.getfield 59, 3) := by decide +kernel
theorem dX11_type_16 : decode cX11_type 16 = .ok (.iload_n 3, 1) := by decide +kernel
theorem dX11_type_17 : decode cX11_type 17 = .ok (.iadd, 1) := by decide +kernel
theorem dX11_type_18 : decode cX11_type 18 = .ok (.sipush 200, 3) := by decide +kernel
theorem dX11_type_21 : decode cX11_type 21 = .ok (.if_icmp .le 6, 3) := by decide +kernel
theorem dX11_type_24 : decode cX11_type 24 = .ok (.bipush (-3), 2) := by decide +kernel
theorem dX11_type_26 : decode cX11_type 26 = .ok (.ireturn, 1) := by decide +kernel
theorem dX11_type_27 : decode cX11_type 27 = .ok (.iload_n 3, 1) := by decide +kernel
theorem dX11_type_28 : decode cX11_type 28 = .ok (.iconst 1, 1) := by decide +kernel
theorem dX11_type_29 : decode cX11_type 29 = .ok (.isub, 1) := by decide +kernel
theorem dX11_type_30 : decode cX11_type 30 = .ok (.istore 4, 2) := by decide +kernel
theorem dX11_type_32 : decode cX11_type 32 = .ok (.iload 4, 2) := by decide +kernel
theorem dX11_type_34 : decode cX11_type 34 = .ok (.ifCond .lt 41, 3) := by decide +kernel
theorem dX11_type_37 : decode cX11_type 37 = .ok (.aload_n 0, 1) := by decide +kernel
theorem dX11_type_38 : decode cX11_type 38 = .ok (.getfield 7, 3) := by decide +kernel
theorem dX11_type_41 : decode cX11_type 41 = .ok (.aload_n 0, 1) := by decide +kernel
theorem dX11_type_42 : decode cX11_type 42 = .ok (.getfield 59, 3) := by decide +kernel
theorem dX11_type_45 : decode cX11_type 45 = .ok (.lload_n 1, 1) := by decide +kernel
theorem dX11_type_46 : decode cX11_type 46 = .ok (.bipush 8, 2) := by decide +kernel
theorem dX11_type_48 : decode cX11_type 48 = .ok (.iload 4, 2) := by decide +kernel
theorem dX11_type_50 : decode cX11_type 50 = .ok (.imul, 1) := by decide +kernel
theorem dX11_type_51 : decode cX11_type 51 = .ok (.lshr, 1) := by decide +kernel
theorem dX11_type_52 : decode cX11_type 52 = .ok (.ldc2_w 62, 3) := by decide +kernel
theorem dX11_type_55 : decode cX11_type 55 = .ok (.land, 1) := by decide +kernel
theorem dX11_type_56 : decode cX11_type 56 = .ok (.l2i, 1) := by decide +kernel
theorem dX11_type_57 : decode cX11_type 57 = .ok (.i2b, 1) := by decide +kernel
theorem dX11_type_58 : decode cX11_type 58 = .ok (.bastore, 1) := by decide +kernel
theorem dX11_type_59 : decode cX11_type 59 = .ok (.aload_n 0, 1) := by decide +kernel
theorem dX11_type_60 : decode cX11_type 60 = .ok (.dup, 1) := by decide +kernel
theorem dX11_type_61 : decode cX11_type 61 = .ok (.getfield 59, 3) := by decide +kernel
theorem dX11_type_64 : decode cX11_type 64 = .ok (.iconst 1, 1) := by decide +kernel
theorem dX11_type_65 : decode cX11_type 65 = .ok (.iadd, 1) := by decide +kernel
theorem dX11_type_66 : decode cX11_type 66 = .ok (.putfield 59, 3) := by decide +kernel
theorem dX11_type_69 : decode cX11_type 69 = .ok (.iinc 4 (-1), 3) := by decide +kernel
theorem dX11_type_72 : decode cX11_type 72 = .ok (.goto (-40), 3) := by decide +kernel
theorem dX11_type_75 : decode cX11_type 75 = .ok (.aload_n 0, 1) := by decide +kernel
theorem dX11_type_76 : decode cX11_type 76 = .ok (.getfield 59, 3) := by decide +kernel
theorem dX11_type_79 : decode cX11_type 79 = .ok (.ireturn, 1) := by decide +kernel
