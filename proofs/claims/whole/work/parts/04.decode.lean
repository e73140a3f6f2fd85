theorem dX2_openLevel_0 : decode cX2_openLevel 0 = .ok (.aload_n 0, 1) := by decide +kernel
theorem dX2_openLevel_1 : decode cX2_openLevel 1 = .ok (.getfield 19, 3) := by decide +kernel
theorem dX2_openLevel_4 : decode cX2_openLevel 4 = .ok (.aload_n 0, 1) := by decide +kernel
theorem dX2_openLevel_5 : decode cX2_openLevel 5 = .ok (.getfield 25, 3) := by decide +kernel
theorem dX2_openLevel_8 : decode cX2_openLevel 8 = .ok (.iconst 0, 1) := by decide +kernel
theorem dX2_openLevel_9 : decode cX2_openLevel 9 = .ok (.invokestatic 78, 3) := by decide +kernel
theorem dX2_openLevel_12 : decode cX2_openLevel 12 = .ok (.aload_n 0, 1) := by decide +kernel
theorem dX2_openLevel_13 : decode cX2_openLevel 13 = .ok (.getfield 22, 3) := by decide +kernel
theorem dX2_openLevel_16 : decode cX2_openLevel 16 = .ok (.aload_n 0, 1) := by decide +kernel
theorem dX2_openLevel_17 : decode cX2_openLevel 17 = .ok (.getfield 25, 3) := by decide +kernel
theorem dX2_openLevel_20 : decode cX2_openLevel 20 = .ok (.aload_n 0, 1) := by decide +kernel
theorem dX2_openLevel_21 : decode cX2_openLevel 21 = .ok (.getfield 44, 3) := by decide +kernel
theorem dX2_openLevel_24 : decode cX2_openLevel 24 = .ok (.invokevirtual 112, 3) := by decide +kernel
theorem dX2_openLevel_27 : decode cX2_openLevel 27 = .ok (.invokevirtual 116, 3) := by decide +kernel
theorem dX2_openLevel_30 : decode cX2_openLevel 30 = .ok (.invokestatic 78, 3) := by decide +kernel
theorem dX2_openLevel_33 : decode cX2_openLevel 33 = .ok (.aload_n 0, 1) := by decide +kernel
theorem dX2_openLevel_34 : decode cX2_openLevel 34 = .ok (.iconst 1, 1) := by decide +kernel
theorem dX2_openLevel_35 : decode cX2_openLevel 35 = .ok (.putfield 31, 3) := by decide +kernel
theorem dX2_openLevel_38 : decode cX2_openLevel 38 = .ok (.return_, 1) := by decide +kernel
set_option maxRecDepth 20000 in
theorem ggX2_addFactor_X4_at : GoodIn wsX2_addFactor wsX4_at := goodIn_r _ [7] (by decide +kernel) (by decide +kernel)
set_option maxRecDepth 20000 in
theorem gX2_addFactor_X4_at : GoodIn wsX2_addFactor (va_wsS RX2 48 yX4_at wsX4_at) := goodIn_app (goodIn_of _ (by decide +kernel)) ggX2_addFactor_X4_at
set_option maxRecDepth 20000 in
theorem ggX2_addFactor_X4_put : GoodIn wsX2_addFactor wsX4_put := goodIn_r _ [10] (by decide +kernel) (by decide +kernel)
set_option maxRecDepth 20000 in
theorem gX2_addFactor_X4_put : GoodIn wsX2_addFactor (va_wsS RX2 78 yX4_put wsX4_put) := goodIn_app (goodIn_of _ (by decide +kernel)) ggX2_addFactor_X4_put
theorem dX2_addFactor_0 : decode cX2_addFactor 0 = .ok (.aload_n 0, 1) := by decide +kernel
theorem dX2_addFactor_1 : decode cX2_addFactor 1 = .ok (.getfield 22, 3) := by decide +kernel
theorem dX2_addFactor_4 : decode cX2_addFactor 4 = .ok (.aload_n 0, 1) := by decide +kernel
theorem dX2_addFactor_5 : decode cX2_addFactor 5 = .ok (.getfield 25, 3) := by decide +kernel
theorem dX2_addFactor_8 : decode cX2_addFactor 8 = .ok (.aload_n 0, 1) := by decide +kernel
theorem dX2_addFactor_9 : decode cX2_addFactor 9 = .ok (.getfield 22, 3) := by decide +kernel
theorem dX2_addFactor_12 : decode cX2_addFactor 12 = .ok (.aload_n 0, 1) := by decide +kernel
theorem dX2_addFactor_13 : decode cX2_addFactor 13 = .ok (.getfield 25, 3) := by decide +kernel
theorem dX2_addFactor_16 : decode cX2_addFactor 16 = .ok (.invokestatic 48, 3) := by decide +kernel
theorem dX2_addFactor_19 : decode cX2_addFactor 19 = .ok (.iload_n 1, 1) := by decide +kernel
theorem dX2_addFactor_20 : decode cX2_addFactor 20 = .ok (.iand, 1) := by decide +kernel
theorem dX2_addFactor_21 : decode cX2_addFactor 21 = .ok (.invokestatic 78, 3) := by decide +kernel
theorem dX2_addFactor_24 : decode cX2_addFactor 24 = .ok (.aload_n 0, 1) := by decide +kernel
theorem dX2_addFactor_25 : decode cX2_addFactor 25 = .ok (.iconst 0, 1) := by decide +kernel
theorem dX2_addFactor_26 : decode cX2_addFactor 26 = .ok (.putfield 31, 3) := by decide +kernel
theorem dX2_addFactor_29 : decode cX2_addFactor 29 = .ok (.return_, 1) := by decide +kernel
set_option maxRecDepth 20000 in
theorem ggX2_levelLeft_X4_at : GoodIn wsX2_levelLeft wsX4_at := goodIn_r _ [7] (by decide +kernel) (by decide +kernel)
set_option maxRecDepth 20000 in
theorem gX2_levelLeft_X4_at : GoodIn wsX2_levelLeft (va_wsS RX2 48 yX4_at wsX4_at) := goodIn_app (goodIn_of _ (by decide +kernel)) ggX2_levelLeft_X4_at
theorem dX2_levelLeft_0 : decode cX2_levelLeft 0 = .ok (.aload_n 0, 1) := by decide +kernel
theorem dX2_levelLeft_1 : decode cX2_levelLeft 1 = .ok (.getfield 19, 3) := by decide +kernel
theorem dX2_levelLeft_4 : decode cX2_levelLeft 4 = .ok (.aload_n 0, 1) := by decide +kernel
theorem dX2_levelLeft_5 : decode cX2_levelLeft 5 = .ok (.getfield 25, 3) := by decide +kernel
theorem dX2_levelLeft_8 : decode cX2_levelLeft 8 = .ok (.invokestatic 48, 3) := by decide +kernel
theorem dX2_levelLeft_11 : decode cX2_levelLeft 11 = .ok (.aload_n 0, 1) := by decide +kernel
theorem dX2_levelLeft_12 : decode cX2_levelLeft 12 = .ok (.getfield 22, 3) := by decide +kernel
theorem dX2_levelLeft_15 : decode cX2_levelLeft 15 = .ok (.aload_n 0, 1) := by decide +kernel
theorem dX2_levelLeft_16 : decode cX2_levelLeft 16 = .ok (.getfield 25, 3) := by decide +kernel
theorem dX2_levelLeft_19 : decode cX2_levelLeft 19 = .ok (.invokestatic 48, 3) := by decide +kernel
theorem dX2_levelLeft_22 : decode cX2_levelLeft 22 = .ok (.ior, 1) := by decide +kernel
theorem dX2_levelLeft_23 : decode cX2_levelLeft 23 = .ok (.ireturn, 1) := by decide +kernel
theorem dX3_init_0 : decode cX3_init 0 = .ok (.aload_n 0, 1) := by decide +kernel
theorem dX3_init_1 : decode cX3_init 1 = .ok (.invokespecial 1, 3) := by decide +kernel
theorem dX3_init_4 : decode cX3_init 4 = .ok (.aload_n 0, 1) := by decide +kernel
theorem dX3_init_5 : decode cX3_init 5 = .ok (.iconst 0, 1) := by decide +kernel
theorem dX3_init_6 : decode cX3_init 6 = .ok (.putfield 7, 3) := by decide +kernel
theorem dX3_init_9 : decode cX3_init 9 = .ok (.aload_n 0, 1) := by decide +kernel
theorem dX3_init_10 : decode cX3_init 10 = .ok (.iconst 0, 1) := by decide +kernel
theorem dX3_init_11 : decode cX3_init 11 = .ok (.putfield 13, 3) := by decide +kernel
theorem dX3_init_14 : decode cX3_init 14 = .ok (.aload_n 0, 1) := by decide +kernel
theorem dX3_init_15 : decode cX3_init 15 = .ok (.iconst 0, 1) := by decide +kernel
theorem dX3_init_16 : decode cX3_init 16 = .ok (.putfield 16, 3) := by decide +kernel
theorem dX3_init_19 : decode cX3_init 19 = .ok (.aload_n 0, 1) := by decide +kernel
theorem dX3_init_20 : decode cX3_init 20 = .ok (.aload_n 1, 1) := by decide +kernel
theorem dX3_init_21 : decode cX3_init 21 = .ok (.putfield 20, 3) := by decide +kernel
theorem dX3_init_24 : decode cX3_init 24 = .ok (.aload_n 0, 1) := by decide +kernel
theorem dX3_init_25 : decode cX3_init 25 = .ok (.aload_n 2, 1) := by decide +kernel
theorem dX3_init_26 : decode cX3_init 26 = .ok (.putfield 24, 3) := by decide +kernel
theorem dX3_init_29 : decode cX3_init 29 = .ok (.return_, 1) := by decide +kernel
theorem dX3_forget_0 : decode cX3_forget 0 = .ok (.aload_n 0, 1) := by decide +kernel
theorem dX3_forget_1 : decode cX3_forget 1 = .ok (.iconst 0, 1) := by decide +kernel
theorem dX3_forget_2 : decode cX3_forget 2 = .ok (.putfield 16, 3) := by decide +kernel
theorem dX3_forget_5 : decode cX3_forget 5 = .ok (.return_, 1) := by decide +kernel
set_option maxRecDepth 20000 in
theorem ggX3_lengthFor_X3_allBut : GoodIn wsX3_lengthFor wsX3_allBut := goodIn_r _ [5, 6, 7, 8, 9, 10, 11, 12, 13, 14, 15, 16, 17, 18, 19, 20, 21, 22, 23, 24, 25, 33, 34, 35, 36, 37, 38, 39, 40, 41] (by decide +kernel) (by decide +kernel)
set_option maxRecDepth 20000 in
theorem gX3_lengthFor_X3_allBut : GoodIn wsX3_lengthFor (wsV RX3 28 RX3 yX3_allBut wsX3_allBut) := goodIn_app (goodIn_of _ (by decide +kernel)) ggX3_lengthFor_X3_allBut
set_option maxRecDepth 20000 in
theorem ggX3_lengthFor_X1_of : GoodIn wsX3_lengthFor wsX1_of := goodIn_r _ [30, 31, 32, 14, 15, 16, 42, 43, 44, 45, 46] (by decide +kernel) (by decide +kernel)
set_option maxRecDepth 20000 in
theorem gX3_lengthFor_X1_of : GoodIn wsX3_lengthFor (wsV RX3 32 RX1 yX1_of wsX1_of) := goodIn_app (goodIn_of _ (by decide +kernel)) ggX3_lengthFor_X1_of
theorem dX3_lengthFor_0 : decode cX3_lengthFor 0 = .ok (.aload_n 2, 1) := by decide +kernel
theorem dX3_lengthFor_1 : decode cX3_lengthFor 1 = .ok (.aload_n 0, 1) := by decide +kernel
theorem dX3_lengthFor_2 : decode cX3_lengthFor 2 = .ok (.iload_n 1, 1) := by decide +kernel
theorem dX3_lengthFor_3 : decode cX3_lengthFor 3 = .ok (.invokevirtual 28, 3) := by decide +kernel
theorem dX3_lengthFor_6 : decode cX3_lengthFor 6 = .ok (.invokevirtual 32, 3) := by decide +kernel
theorem dX3_lengthFor_9 : decode cX3_lengthFor 9 = .ok (.ireturn, 1) := by decide +kernel
set_option maxRecDepth 20000 in
theorem ggX3_longestSign_X8_choices : GoodIn wsX3_longestSign wsX8_choices := goodIn_r _ [6, 7, 60, 61, 62, 63] (by decide +kernel) (by decide +kernel)
set_option maxRecDepth 20000 in
theorem gX3_longestSign_X8_choices : GoodIn wsX3_longestSign (wsV RX3 37 RX8 yX8_choices wsX8_choices) := goodIn_app (goodIn_of _ (by decide +kernel)) ggX3_longestSign_X8_choices
set_option maxRecDepth 20000 in
theorem ggX3_longestSign_X3_isSign : GoodIn wsX3_longestSign wsX3_isSign := goodIn_r _ [12, 1, 13, 14, 15, 5, 16, 17, 18, 19, 20, 21, 7, 22, 23, 24, 25, 55, 56, 57, 58, 59, 60, 61, 62, 63] (by decide +kernel) (by decide +kernel)
set_option maxRecDepth 20000 in
theorem gX3_longestSign_X3_isSign : GoodIn wsX3_longestSign (wsV RX3 43 RX3 yX3_isSign wsX3_isSign) := goodIn_app (goodIn_of _ (by decide +kernel)) ggX3_longestSign_X3_isSign
set_option maxRecDepth 20000 in
theorem ggX3_longestSign_X3_lengthFor : GoodIn wsX3_longestSign wsX3_lengthFor := goodIn_r _ [29, 30, 31, 32, 11, 33, 1, 34, 35, 36, 5, 37, 38, 22, 23, 24, 25, 39, 40, 41, 42, 43, 44, 45, 46, 47, 48, 49, 50, 51, 52, 53, 54, 55, 56, 57, 58, 59, 60, 61, 62, 63, 64, 65, 66, 67, 68] (by decide +kernel) (by decide +kernel)
set_option maxRecDepth 20000 in
theorem gX3_longestSign_X3_lengthFor : GoodIn wsX3_longestSign (wsV RX3 47 RX3 yX3_lengthFor wsX3_lengthFor) := goodIn_app (goodIn_of _ (by decide +kernel)) ggX3_longestSign_X3_lengthFor
theorem dX3_longestSign_0 : decode cX3_longestSign 0 = .ok (.iconst 0, 1) := by decide +kernel
theorem dX3_longestSign_1 : decode cX3_longestSign 1 = .ok (.istore_n 2, 1) := by decide +kernel
theorem dX3_longestSign_2 : decode cX3_longestSign 2 = .ok (.iconst 0, 1) := by decide +kernel
theorem dX3_longestSign_3 : decode cX3_longestSign 3 = .ok (.istore_n 3, 1) := by decide +kernel
theorem dX3_longestSign_4 : decode cX3_longestSign 4 = .ok (.iload_n 3, 1) := by decide +kernel
theorem dX3_longestSign_5 : decode cX3_longestSign 5 = .ok (.bipush 10, 2) := by decide +kernel
theorem dX3_longestSign_7 : decode cX3_longestSign 7 = .ok (.aload_n 0, 1) := by decide +kernel
theorem dX3_longestSign_8 : decode cX3_longestSign 8 = .ok (.getfield 20, 3) := by decide +kernel
theorem dX3_longestSign_11 : decode cX3_longestSign 11 = .ok (.invokevirtual 37, 3) := by decide +kernel
theorem dX3_longestSign_14 : decode cX3_longestSign 14 = .ok (.imul, 1) := by decide +kernel
theorem dX3_longestSign_15 : decode cX3_longestSign 15 = .ok (.if_icmp .ge 34, 3) := by decide +kernel
theorem dX3_longestSign_18 : decode cX3_longestSign 18 = .ok (.aload_n 0, 1) := by decide +kernel
theorem dX3_longestSign_19 : decode cX3_longestSign 19 = .ok (.iload_n 3, 1) := by decide +kernel
theorem dX3_longestSign_20 : decode cX3_longestSign 20 = .ok (.invokevirtual 43, 3) := by decide +kernel
theorem dX3_longestSign_23 : decode cX3_longestSign 23 = .ok (.ifCond .eq 20, 3) := by decide +kernel
theorem dX3_longestSign_26 : decode cX3_longestSign 26 = .ok (.aload_n 0, 1) := by decide +kernel
theorem dX3_longestSign_27 : decode cX3_longestSign 27 = .ok (.iload_n 3, 1) := by decide +kernel
theorem dX3_longestSign_28 : decode cX3_longestSign 28 = .ok (.aload_n 1, 1) := by decide +kernel
theorem dX3_longestSign_29 : decode cX3_longestSign 29 = .ok (.invokevirtual 47, 3) := by decide +kernel
theorem dX3_longestSign_32 : decode cX3_longestSign 32 = .ok (.aload_n 0, 1) := by decide +kernel
theorem dX3_longestSign_33 : decode cX3_longestSign 33 = .ok (.iload_n 2, 1) := by decide +kernel
theorem dX3_longestSign_34 : decode cX3_longestSign 34 = .ok (.aload_n 1, 1) := by decide +kernel
theorem dX3_longestSign_35 : decode cX3_longestSign 35 = .ok (.invokevirtual 47, 3) := by decide +kernel
theorem dX3_longestSign_38 : decode cX3_longestSign 38 = .ok (.if_icmp .le 5, 3) := by decide +kernel
theorem dX3_longestSign_41 : decode cX3_longestSign 41 = .ok (.iload_n 3, 1) := by decide +kernel
theorem dX3_longestSign_42 : decode cX3_longestSign 42 = .ok (.istore_n 2, 1) := by decide +kernel
theorem dX3_longestSign_43 : decode cX3_longestSign 43 = .ok (.iinc 3 1, 3) := by decide +kernel
theorem dX3_longestSign_46 : decode cX3_longestSign 46 = .ok (.goto (-42), 3) := by decide +kernel
theorem dX3_longestSign_49 : decode cX3_longestSign 49 = .ok (.iload_n 2, 1) := by decide +kernel
theorem dX3_longestSign_50 : decode cX3_longestSign 50 = .ok (.ireturn, 1) := by decide +kernel
theorem dX3_bestSign_0 : decode cX3_bestSign 0 = .ok (.aload_n 0, 1) := by decide +kernel
theorem dX3_bestSign_1 : decode cX3_bestSign 1 = .ok (.getfield 7, 3) := by decide +kernel
theorem dX3_bestSign_4 : decode cX3_bestSign 4 = .ok (.ireturn, 1) := by decide +kernel
theorem dX3_bestSum_0 : decode cX3_bestSum 0 = .ok (.aload_n 0, 1) := by decide +kernel
theorem dX3_bestSum_1 : decode cX3_bestSum 1 = .ok (.getfield 13, 3) := by decide +kernel
theorem dX3_bestSum_4 : decode cX3_bestSum 4 = .ok (.ireturn, 1) := by decide +kernel
set_option maxRecDepth 20000 in
theorem ggX3_findBest_X8_choices : GoodIn wsX3_findBest wsX8_choices := goodIn_r _ [10, 11, 117, 118, 119, 120] (by decide +kernel) (by decide +kernel)
set_option maxRecDepth 20000 in
theorem gX3_findBest_X8_choices : GoodIn wsX3_findBest (wsV RX3 37 RX8 yX8_choices wsX8_choices) := goodIn_app (goodIn_of _ (by decide +kernel)) ggX3_findBest_X8_choices
set_option maxRecDepth 20000 in
theorem ggX3_findBest_X3_isSign : GoodIn wsX3_findBest wsX3_isSign := goodIn_r _ [16, 1, 17, 18, 19, 9, 20, 21, 22, 23, 24, 25, 11, 26, 27, 28, 29, 112, 113, 114, 115, 116, 117, 118, 119, 120] (by decide +kernel) (by decide +kernel)
set_option maxRecDepth 20000 in
theorem gX3_findBest_X3_isSign : GoodIn wsX3_findBest (wsV RX3 43 RX3 yX3_isSign wsX3_isSign) := goodIn_app (goodIn_of _ (by decide +kernel)) ggX3_findBest_X3_isSign
set_option maxRecDepth 20000 in
theorem ggX3_findBest_X3_allBut : GoodIn wsX3_findBest wsX3_allBut := goodIn_r _ [33, 1, 34, 35, 36, 9, 37, 38, 26, 27, 28, 29, 39, 40, 41, 42, 43, 44, 45, 46, 47, 112, 113, 114, 115, 116, 117, 118, 119, 120] (by decide +kernel) (by decide +kernel)
set_option maxRecDepth 20000 in
theorem gX3_findBest_X3_allBut : GoodIn wsX3_findBest (wsV RX3 28 RX3 yX3_allBut wsX3_allBut) := goodIn_app (goodIn_of _ (by decide +kernel)) ggX3_findBest_X3_allBut
set_option maxRecDepth 20000 in
theorem ggX3_findBest_X1_measure : GoodIn wsX3_findBest wsX1_measure := goodIn_r _ [52, 53, 54, 55, 56, 57, 58, 59, 60, 61, 62, 63, 44, 45, 9, 46, 47, 64, 65, 28, 66, 67, 68, 69, 51, 70, 71, 72, 73, 74, 75, 76, 77, 78, 79, 80, 81, 82, 18, 19, 20, 21, 22, 23, 24, 25, 11, 26, 27, 29, 83, 84, 85, 86, 87, 88, 89, 90, 91, 92, 93, 35, 36, 37, 38, 94, 95, 96, 97, 98, 99, 100, 101, 102, 103, 121, 122, 123, 124, 125, 126, 127, 117, 118, 119, 120, 128, 129, 130, 131, 132, 133] (by decide +kernel) (by decide +kernel)
set_option maxRecDepth 20000 in
theorem gX3_findBest_X1_measure : GoodIn wsX3_findBest (wsV RX3 51 RX1 yX1_measure wsX1_measure) := goodIn_app (goodIn_of _ (by decide +kernel)) ggX3_findBest_X1_measure
set_option maxRecDepth 20000 in
theorem ggX3_findBest_X3_sumOfTried : GoodIn wsX3_findBest wsX3_sumOfTried := goodIn_r _ [107, 1, 3, 6, 7, 8, 9, 10, 11, 12, 13, 14, 15, 16, 17, 18, 19, 20, 21, 22, 23, 24, 25, 26, 27, 28, 29, 30, 31, 32, 33, 34, 35, 36, 37, 38, 39, 40, 41, 42, 43, 44, 45, 46, 47, 108, 109, 110, 51, 111, 54, 99, 112, 113, 114, 115, 116, 117, 118, 119, 120, 121, 122, 123, 124, 125] (by decide +kernel) (by decide +kernel)
set_option maxRecDepth 20000 in
theorem gX3_findBest_X3_sumOfTried : GoodIn wsX3_findBest (wsV RX3 55 RX3 yX3_sumOfTried wsX3_sumOfTried) := goodIn_app (goodIn_of _ (by decide +kernel)) ggX3_findBest_X3_sumOfTried
theorem dX3_findBest_0 : decode cX3_findBest 0 = .ok (.iconst 0, 1) := by decide +kernel
theorem dX3_findBest_1 : decode cX3_findBest 1 = .ok (.istore_n 1, 1) := by decide +kernel
theorem dX3_findBest_2 : decode cX3_findBest 2 = .ok (.iload_n 1, 1) := by decide +kernel
theorem dX3_findBest_3 : decode cX3_findBest 3 = .ok (.bipush 10, 2) := by decide +kernel
theorem dX3_findBest_5 : decode cX3_findBest 5 = .ok (.aload_n 0, 1) := by decide +kernel
theorem dX3_findBest_6 : decode cX3_findBest 6 = .ok (.getfield 20, 3) := by decide +kernel
theorem dX3_findBest_9 : decode cX3_findBest 9 = .ok (.invokevirtual 37, 3) := by decide +kernel
theorem dX3_findBest_12 : decode cX3_findBest 12 = .ok (.imul, 1) := by decide +kernel
theorem dX3_findBest_13 : decode cX3_findBest 13 = .ok (.if_icmp .ge 63, 3) := by decide +kernel
theorem dX3_findBest_16 : decode cX3_findBest 16 = .ok (.aload_n 0, 1) := by decide +kernel
theorem dX3_findBest_17 : decode cX3_findBest 17 = .ok (.getfield 16, 3) := by decide +kernel
theorem dX3_findBest_20 : decode cX3_findBest 20 = .ok (.ifCond .ne 56, 3) := by decide +kernel
theorem dX3_findBest_23 : decode cX3_findBest 23 = .ok (.aload_n 0, 1) := by decide +kernel
theorem dX3_findBest_24 : decode cX3_findBest 24 = .ok (.iload_n 1, 1) := by decide +kernel
theorem dX3_findBest_25 : decode cX3_findBest 25 = .ok (.invokevirtual 43, 3) := by decide +kernel
theorem dX3_findBest_28 : decode cX3_findBest 28 = .ok (.ifCond .eq 42, 3) := by decide +kernel
theorem dX3_findBest_31 : decode cX3_findBest 31 = .ok (.aload_n 0, 1) := by decide +kernel
theorem dX3_findBest_32 : decode cX3_findBest 32 = .ok (.getfield 24, 3) := by decide +kernel
theorem dX3_findBest_35 : decode cX3_findBest 35 = .ok (.aload_n 0, 1) := by decide +kernel
theorem dX3_findBest_36 : decode cX3_findBest 36 = .ok (.iload_n 1, 1) := by decide +kernel
theorem dX3_findBest_37 : decode cX3_findBest 37 = .ok (.invokevirtual 28, 3) := by decide +kernel
theorem dX3_findBest_40 : decode cX3_findBest 40 = .ok (.invokevirtual 51, 3) := by decide +kernel
theorem dX3_findBest_43 : decode cX3_findBest 43 = .ok (.aload_n 0, 1) := by decide +kernel
theorem dX3_findBest_44 : decode cX3_findBest 44 = .ok (.invokevirtual 55, 3) := by decide +kernel
theorem dX3_findBest_47 : decode cX3_findBest 47 = .ok (.istore_n 2, 1) := by decide +kernel
theorem dX3_findBest_48 : decode cX3_findBest 48 = .ok (.iload_n 1, 1) := by decide +kernel
theorem dX3_findBest_49 : decode cX3_findBest 49 = .ok (.ifCond .eq 11, 3) := by decide +kernel
theorem dX3_findBest_52 : decode cX3_findBest 52 = .ok (.iload_n 2, 1) := by decide +kernel
theorem dX3_findBest_53 : decode cX3_findBest 53 = .ok (.aload_n 0, 1) := by decide +kernel
theorem dX3_findBest_54 : decode cX3_findBest 54 = .ok (.getfield 13, 3) := by decide +kernel
theorem dX3_findBest_57 : decode cX3_findBest 57 = .ok (.if_icmp .ge 13, 3) := by decide +kernel
theorem dX3_findBest_60 : decode cX3_findBest 60 = .ok (.aload_n 0, 1) := by decide +kernel
theorem dX3_findBest_61 : decode cX3_findBest 61 = .ok (.iload_n 1, 1) := by decide +kernel
theorem dX3_findBest_62 : decode cX3_findBest 62 = .ok (.putfield 7, 3) := by decide +kernel
theorem dX3_findBest_65 : decode cX3_findBest 65 = .ok (.aload_n 0, 1) := by decide +kernel
theorem dX3_findBest_66 : decode cX3_findBest 66 = .ok (.iload_n 2, 1) := by decide +kernel
theorem dX3_findBest_67 : decode cX3_findBest 67 = .ok (.putfield 13, 3) := by decide +kernel
theorem dX3_findBest_70 : decode cX3_findBest 70 = .ok (.iinc 1 1, 3) := by decide +kernel
theorem dX3_findBest_73 : decode cX3_findBest 73 = .ok (.goto (-71), 3) := by decide +kernel
theorem dX3_findBest_76 : decode cX3_findBest 76 = .ok (.aload_n 0, 1) := by decide +kernel
theorem dX3_findBest_77 : decode cX3_findBest 77 = .ok (.iconst 1, 1) := by decide +kernel
theorem dX3_findBest_78 : decode cX3_findBest 78 = .ok (.putfield 16, 3) := by decide +kernel
theorem dX3_findBest_81 : decode cX3_findBest 81 = .ok (.return_, 1) := by decide +kernel
set_option maxRecDepth 20000 in
theorem ggX3_sumOfTried_X8_choices : GoodIn wsX3_sumOfTried wsX8_choices := goodIn_r _ [7, 8, 57, 58, 59, 60] (by decide +kernel) (by decide +kernel)
set_option maxRecDepth 20000 in
theorem gX3_sumOfTried_X8_choices : GoodIn wsX3_sumOfTried (wsV RX3 37 RX8 yX8_choices wsX8_choices) := goodIn_app (goodIn_of _ (by decide +kernel)) ggX3_sumOfTried_X8_choices
set_option maxRecDepth 20000 in
theorem ggX3_sumOfTried_X3_isSign : GoodIn wsX3_sumOfTried wsX3_isSign := goodIn_r _ [13, 1, 14, 15, 16, 6, 17, 18, 19, 20, 21, 22, 8, 23, 24, 25, 26, 52, 53, 54, 55, 56, 57, 58, 59, 60] (by decide +kernel) (by decide +kernel)
set_option maxRecDepth 20000 in
theorem gX3_sumOfTried_X3_isSign : GoodIn wsX3_sumOfTried (wsV RX3 43 RX3 yX3_isSign wsX3_isSign) := goodIn_app (goodIn_of _ (by decide +kernel)) ggX3_sumOfTried_X3_isSign
set_option maxRecDepth 20000 in
theorem ggX3_sumOfTried_X3_allBut : GoodIn wsX3_sumOfTried wsX3_allBut := goodIn_r _ [30, 1, 31, 32, 33, 6, 34, 35, 23, 24, 25, 26, 36, 37, 38, 39, 40, 41, 42, 43, 44, 52, 53, 54, 55, 56, 57, 58, 59, 60] (by decide +kernel) (by decide +kernel)
set_option maxRecDepth 20000 in
theorem gX3_sumOfTried_X3_allBut : GoodIn wsX3_sumOfTried (wsV RX3 28 RX3 yX3_allBut wsX3_allBut) := goodIn_app (goodIn_of _ (by decide +kernel)) ggX3_sumOfTried_X3_allBut
set_option maxRecDepth 20000 in
theorem ggX3_sumOfTried_X1_of : GoodIn wsX3_sumOfTried wsX1_of := goodIn_r _ [49, 50, 51, 24, 25, 26, 61, 62, 63, 64, 65] (by decide +kernel) (by decide +kernel)
set_option maxRecDepth 20000 in
theorem gX3_sumOfTried_X1_of : GoodIn wsX3_sumOfTried (wsV RX3 32 RX1 yX1_of wsX1_of) := goodIn_app (goodIn_of _ (by decide +kernel)) ggX3_sumOfTried_X1_of
theorem dX3_sumOfTried_0 : decode cX3_sumOfTried 0 = .ok (.iconst 0, 1) := by decide +kernel
theorem dX3_sumOfTried_1 : decode cX3_sumOfTried 1 = .ok (.istore_n 1, 1) := by decide +kernel
theorem dX3_sumOfTried_2 : decode cX3_sumOfTried 2 = .ok (.iconst 0, 1) := by decide +kernel
theorem dX3_sumOfTried_3 : decode cX3_sumOfTried 3 = .ok (.istore_n 2, 1) := by decide +kernel
theorem dX3_sumOfTried_4 : decode cX3_sumOfTried 4 = .ok (.iload_n 2, 1) := by decide +kernel
theorem dX3_sumOfTried_5 : decode cX3_sumOfTried 5 = .ok (.bipush 10, 2) := by decide +kernel
theorem dX3_sumOfTried_7 : decode cX3_sumOfTried 7 = .ok (.aload_n 0, 1) := by decide +kernel
theorem dX3_sumOfTried_8 : decode cX3_sumOfTried 8 = .ok (.getfield 20, 3) := by decide +kernel
theorem dX3_sumOfTried_11 : decode cX3_sumOfTried 11 = .ok (.invokevirtual 37, 3) := by decide +kernel
theorem dX3_sumOfTried_14 : decode cX3_sumOfTried 14 = .ok (.imul, 1) := by decide +kernel
theorem dX3_sumOfTried_15 : decode cX3_sumOfTried 15 = .ok (.if_icmp .ge 32, 3) := by decide +kernel
theorem dX3_sumOfTried_18 : decode cX3_sumOfTried 18 = .ok (.aload_n 0, 1) := by decide +kernel
theorem dX3_sumOfTried_19 : decode cX3_sumOfTried 19 = .ok (.iload_n 2, 1) := by decide +kernel
theorem dX3_sumOfTried_20 : decode cX3_sumOfTried 20 = .ok (.invokevirtual 43, 3) := by decide +kernel
theorem dX3_sumOfTried_23 : decode cX3_sumOfTried 23 = .ok (.ifCond .eq 18, 3) := by decide +kernel
theorem dX3_sumOfTried_26 : decode cX3_sumOfTried 26 = .ok (.iload_n 1, 1) := by decide +kernel
theorem dX3_sumOfTried_27 : decode cX3_sumOfTried 27 = .ok (.aload_n 0, 1) := by decide +kernel
theorem dX3_sumOfTried_28 : decode cX3_sumOfTried 28 = .ok (.getfield 24, 3) := by decide +kernel
theorem dX3_sumOfTried_31 : decode cX3_sumOfTried 31 = .ok (.aload_n 0, 1) := by decide +kernel
theorem dX3_sumOfTried_32 : decode cX3_sumOfTried 32 = .ok (.iload_n 2, 1) := by decide +kernel
theorem dX3_sumOfTried_33 : decode cX3_sumOfTried 33 = .ok (.invokevirtual 28, 3) := by decide +kernel
theorem dX3_sumOfTried_36 : decode cX3_sumOfTried 36 = .ok (.invokevirtual 32, 3) := by decide +kernel
theorem dX3_sumOfTried_39 : decode cX3_sumOfTried 39 = .ok (.iadd, 1) := by decide +kernel
theorem dX3_sumOfTried_40 : decode cX3_sumOfTried 40 = .ok (.istore_n 1, 1) := by decide +kernel
theorem dX3_sumOfTried_41 : decode cX3_sumOfTried 41 = .ok (.iinc 2 1, 3) := by decide +kernel
theorem dX3_sumOfTried_44 : decode cX3_sumOfTried 44 = .ok (.goto (-40), 3) := by decide +kernel
theorem dX3_sumOfTried_47 : decode cX3_sumOfTried 47 = .ok (.iload_n 1, 1) := by decide +kernel
theorem dX3_sumOfTried_48 : decode cX3_sumOfTried 48 = .ok (.ireturn, 1) := by decide +kernel
set_option maxRecDepth 20000 in
theorem ggX3_isSign_X8_valuesOf : GoodIn wsX3_isSign wsX8_valuesOf := goodIn_r _ [6, 7, 8, 9, 10, 5, 11, 12, 13, 14, 15, 16, 22, 23, 24, 25] (by decide +kernel) (by decide +kernel)
set_option maxRecDepth 20000 in
theorem gX3_isSign_X8_valuesOf : GoodIn wsX3_isSign (wsV RX3 58 RX8 yX8_valuesOf wsX8_valuesOf) := goodIn_app (goodIn_of _ (by decide +kernel)) ggX3_isSign_X8_valuesOf
theorem dX3_isSign_0 : decode cX3_isSign 0 = .ok (.iload_n 1, 1) := by decide +kernel
theorem dX3_isSign_1 : decode cX3_isSign 1 = .ok (.bipush 10, 2) := by decide +kernel
theorem dX3_isSign_3 : decode cX3_isSign 3 = .ok (.irem, 1) := by decide +kernel
theorem dX3_isSign_4 : decode cX3_isSign 4 = .ok (.aload_n 0, 1) := by decide +kernel
theorem dX3_isSign_5 : decode cX3_isSign 5 = .ok (.getfield 20, 3) := by decide +kernel
theorem dX3_isSign_8 : decode cX3_isSign 8 = .ok (.iload_n 1, 1) := by decide +kernel
theorem dX3_isSign_9 : decode cX3_isSign 9 = .ok (.bipush 10, 2) := by decide +kernel
theorem dX3_isSign_11 : decode cX3_isSign 11 = .ok (.idiv, 1) := by decide +kernel
theorem dX3_isSign_12 : decode cX3_isSign 12 = .ok (.invokevirtual 58, 3) := by decide +kernel
theorem dX3_isSign_15 : decode cX3_isSign 15 = .ok (.if_icmp .ge 7, 3) := by decide +kernel
theorem dX3_isSign_18 : decode cX3_isSign 18 = .ok (.iconst 1, 1) := by decide +kernel
theorem dX3_isSign_19 : decode cX3_isSign 19 = .ok (.goto 4, 3) := by decide +kernel
theorem dX3_isSign_22 : decode cX3_isSign 22 = .ok (.iconst 0, 1) := by decide +kernel
theorem dX3_isSign_23 : decode cX3_isSign 23 = .ok (.ireturn, 1) := by decide +kernel
set_option maxRecDepth 20000 in
theorem ggX3_allBut_X8_leftBy : GoodIn wsX3_allBut wsX8_leftBy := goodIn_r _ [6, 7, 8, 9, 10, 11, 26, 27, 28, 29] (by decide +kernel) (by decide +kernel)
set_option maxRecDepth 20000 in
theorem gX3_allBut_X8_leftBy : GoodIn wsX3_allBut (wsV RX3 61 RX8 yX8_leftBy wsX8_leftBy) := goodIn_app (goodIn_of _ (by decide +kernel)) ggX3_allBut_X8_leftBy
set_option maxRecDepth 20000 in
theorem ggX3_allBut_X8_others : GoodIn wsX3_allBut wsX8_others := goodIn_r _ [15, 16, 17, 18, 5, 19, 20, 26, 27, 28, 29] (by decide +kernel) (by decide +kernel)
set_option maxRecDepth 20000 in
theorem gX3_allBut_X8_others : GoodIn wsX3_allBut (wsV RX3 65 RX8 yX8_others wsX8_others) := goodIn_app (goodIn_of _ (by decide +kernel)) ggX3_allBut_X8_others
theorem dX3_allBut_0 : decode cX3_allBut 0 = .ok (.aload_n 0, 1) := by decide +kernel
theorem dX3_allBut_1 : decode cX3_allBut 1 = .ok (.getfield 20, 3) := by decide +kernel
theorem dX3_allBut_4 : decode cX3_allBut 4 = .ok (.aload_n 0, 1) := by decide +kernel
theorem dX3_allBut_5 : decode cX3_allBut 5 = .ok (.getfield 20, 3) := by decide +kernel
theorem dX3_allBut_8 : decode cX3_allBut 8 = .ok (.iload_n 1, 1) := by decide +kernel
theorem dX3_allBut_9 : decode cX3_allBut 9 = .ok (.bipush 10, 2) := by decide +kernel
theorem dX3_allBut_11 : decode cX3_allBut 11 = .ok (.idiv, 1) := by decide +kernel
theorem dX3_allBut_12 : decode cX3_allBut 12 = .ok (.iload_n 1, 1) := by decide +kernel
theorem dX3_allBut_13 : decode cX3_allBut 13 = .ok (.bipush 10, 2) := by decide +kernel
theorem dX3_allBut_15 : decode cX3_allBut 15 = .ok (.irem, 1) := by decide +kernel
theorem dX3_allBut_16 : decode cX3_allBut 16 = .ok (.invokevirtual 61, 3) := by decide +kernel
theorem dX3_allBut_19 : decode cX3_allBut 19 = .ok (.invokevirtual 65, 3) := by decide +kernel
theorem dX3_allBut_22 : decode cX3_allBut 22 = .ok (.ireturn, 1) := by decide +kernel
theorem dX4_at_0 : decode cX4_at 0 = .ok (.iload_n 1, 1) := by decide +kernel
theorem dX4_at_1 : decode cX4_at 1 = .ok (.ifCond .lt 15, 3) := by decide +kernel
theorem dX4_at_4 : decode cX4_at 4 = .ok (.iload_n 1, 1) := by decide +kernel
theorem dX4_at_5 : decode cX4_at 5 = .ok (.aload_n 0, 1) := by decide +kernel
theorem dX4_at_6 : decode cX4_at 6 = .ok (.arraylength, 1) := by decide +kernel
theorem dX4_at_7 : decode cX4_at 7 = .ok (.if_icmp .ge 9, 3) := by decide +kernel
theorem dX4_at_10 : decode cX4_at 10 = .ok (.aload_n 0, 1) := by decide +kernel
theorem dX4_at_11 : decode cX4_at 11 = .ok (.iload_n 1, 1) := by decide +kernel
theorem dX4_at_12 : decode cX4_at 12 = .ok (.iaload, 1) := by decide +kernel
theorem dX4_at_13 : decode cX4_at 13 = .ok (.goto 4, 3) := by decide +kernel
theorem dX4_at_16 : decode cX4_at 16 = .ok (.iconst 0, 1) := by decide +kernel
theorem dX4_at_17 : decode cX4_at 17 = .ok (.ireturn, 1) := by decide +kernel
theorem dX4_put_0 : decode cX4_put 0 = .ok (.iload_n 1, 1) := by decide +kernel
theorem dX4_put_1 : decode cX4_put 1 = .ok (.ifCond .lt 13, 3) := by decide +kernel
theorem dX4_put_4 : decode cX4_put 4 = .ok (.iload_n 1, 1) := by decide +kernel
theorem dX4_put_5 : decode cX4_put 5 = .ok (.aload_n 0, 1) := by decide +kernel
theorem dX4_put_6 : decode cX4_put 6 = .ok (.arraylength, 1) := by decide +kernel
theorem dX4_put_7 : decode cX4_put 7 = .ok (.if_icmp .ge 7, 3) := by decide +kernel
theorem dX4_put_10 : decode cX4_put 10 = .ok (.aload_n 0, 1) := by decide +kernel
theorem dX4_put_11 : decode cX4_put 11 = .ok (.iload_n 1, 1) := by decide +kernel
theorem dX4_put_12 : decode cX4_put 12 = .ok (.iload_n 2, 1) := by decide +kernel
theorem dX4_put_13 : decode cX4_put 13 = .ok (.iastore, 1) := by decide +kernel
theorem dX4_put_14 : decode cX4_put 14 = .ok (.return_, 1) := by decide +kernel
theorem dX4_has_0 : decode cX4_has 0 = .ok (.iload_n 1, 1) := by decide +kernel
theorem dX4_has_1 : decode cX4_has 1 = .ok (.ifCond .lt 21, 3) := by decide +kernel
theorem dX4_has_4 : decode cX4_has 4 = .ok (.iload_n 1, 1) := by decide +kernel
theorem dX4_has_5 : decode cX4_has 5 = .ok (.bipush 9, 2) := by decide +kernel
theorem dX4_has_7 : decode cX4_has 7 = .ok (.if_icmp .ge 15, 3) := by decide +kernel
theorem dX4_has_10 : decode cX4_has 10 = .ok (.iload_n 0, 1) := by decide +kernel
theorem dX4_has_11 : decode cX4_has 11 = .ok (.iconst 1, 1) := by decide +kernel
theorem dX4_has_12 : decode cX4_has 12 = .ok (.iload_n 1, 1) := by decide +kernel
theorem dX4_has_13 : decode cX4_has 13 = .ok (.ishl, 1) := by decide +kernel
theorem dX4_has_14 : decode cX4_has 14 = .ok (.iand, 1) := by decide +kernel
theorem dX4_has_15 : decode cX4_has 15 = .ok (.ifCond .eq 7, 3) := by decide +kernel
theorem dX4_has_18 : decode cX4_has 18 = .ok (.iconst 1, 1) := by decide +kernel
theorem dX4_has_19 : decode cX4_has 19 = .ok (.goto 4, 3) := by decide +kernel
theorem dX4_has_22 : decode cX4_has 22 = .ok (.iconst 0, 1) := by decide +kernel
theorem dX4_has_23 : decode cX4_has 23 = .ok (.ireturn, 1) := by decide +kernel
theorem dX5_init_0 : decode cX5_init 0 = .ok (.aload_n 0, 1) := by decide +kernel
theorem dX5_init_1 : decode cX5_init 1 = .ok (.invokespecial 3, 3) := by decide +kernel
theorem dX5_init_4 : decode cX5_init 4 = .ok (.aload_n 0, 1) := by decide +kernel
theorem dX5_init_5 : decode cX5_init 5 = .ok (.aload_n 1, 1) := by decide +kernel
theorem dX5_init_6 : decode cX5_init 6 = .ok (.putfield 9, 3) := by decide +kernel
theorem dX5_init_9 : decode cX5_init 9 = .ok (.aload_n 0, 1) := by decide +kernel
theorem dX5_init_10 : decode cX5_init 10 = .ok (.aload_n 2, 1) := by decide +kernel
theorem dX5_init_11 : decode cX5_init 11 = .ok (.putfield 15, 3) := by decide +kernel
theorem dX5_init_14 : decode cX5_init 14 = .ok (.return_, 1) := by decide +kernel
theorem dX5_speech_0 : decode cX5_speech 0 = .ok (.aload_n 0, 1) := by decide +kernel
theorem dX5_speech_1 : decode cX5_speech 1 = .ok (.getfield 9, 3) := by decide +kernel
theorem dX5_speech_4 : decode cX5_speech 4 = .ok (.areturn, 1) := by decide +kernel
set_option maxRecDepth 20000 in
theorem ggX5_many_X0_words : GoodIn wsX5_many wsX0_words := goodIn_r _ [7, 8, 26, 27, 28, 29, 30, 31] (by decide +kernel) (by decide +kernel)
set_option maxRecDepth 20000 in
theorem gX5_many_X0_words : GoodIn wsX5_many (wsV RX5 19 RX0 yX0_words wsX0_words) := goodIn_app (goodIn_of _ (by decide +kernel)) ggX5_many_X0_words
set_option maxRecDepth 20000 in
theorem ggX5_many_X8_valuesOf : GoodIn wsX5_many wsX8_valuesOf := goodIn_r _ [13, 14, 15, 16, 17, 12, 18, 19, 20, 21, 22, 23, 32, 33, 34, 35] (by decide +kernel) (by decide +kernel)
set_option maxRecDepth 20000 in
theorem gX5_many_X8_valuesOf : GoodIn wsX5_many (wsV RX5 25 RX8 yX8_valuesOf wsX8_valuesOf) := goodIn_app (goodIn_of _ (by decide +kernel)) ggX5_many_X8_valuesOf
theorem dX5_many_0 : decode cX5_many 0 = .ok (.iload_n 1, 1) := by decide +kernel
theorem dX5_many_1 : decode cX5_many 1 = .ok (.iconst 3, 1) := by decide +kernel
theorem dX5_many_2 : decode cX5_many 2 = .ok (.if_icmp .ne 13, 3) := by decide +kernel
theorem dX5_many_5 : decode cX5_many 5 = .ok (.aload_n 0, 1) := by decide +kernel
theorem dX5_many_6 : decode cX5_many 6 = .ok (.getfield 15, 3) := by decide +kernel
theorem dX5_many_9 : decode cX5_many 9 = .ok (.invokevirtual 19, 3) := by decide +kernel
theorem dX5_many_12 : decode cX5_many 12 = .ok (.goto 11, 3) := by decide +kernel
theorem dX5_many_15 : decode cX5_many 15 = .ok (.aload_n 0, 1) := by decide +kernel
theorem dX5_many_16 : decode cX5_many 16 = .ok (.getfield 9, 3) := by decide +kernel
theorem dX5_many_19 : decode cX5_many 19 = .ok (.iload_n 1, 1) := by decide +kernel
theorem dX5_many_20 : decode cX5_many 20 = .ok (.invokevirtual 25, 3) := by decide +kernel
theorem dX5_many_23 : decode cX5_many 23 = .ok (.ireturn, 1) := by decide +kernel
set_option maxRecDepth 20000 in
theorem ggX5_leftBy_X0_wordSet : GoodIn wsX5_leftBy wsX0_wordSet := goodIn_r _ [7, 8, 9, 10, 11, 12, 22, 23, 24, 25, 26, 27] (by decide +kernel) (by decide +kernel)
set_option maxRecDepth 20000 in
theorem gX5_leftBy_X0_wordSet : GoodIn wsX5_leftBy (wsV RX5 31 RX0 yX0_wordSet wsX0_wordSet) := goodIn_app (goodIn_of _ (by decide +kernel)) ggX5_leftBy_X0_wordSet
set_option maxRecDepth 20000 in
theorem ggX5_leftBy_X8_leftBy : GoodIn wsX5_leftBy wsX8_leftBy := goodIn_r _ [17, 18, 19, 10, 11, 12, 28, 29, 30, 31] (by decide +kernel) (by decide +kernel)
set_option maxRecDepth 20000 in
theorem gX5_leftBy_X8_leftBy : GoodIn wsX5_leftBy (wsV RX5 34 RX8 yX8_leftBy wsX8_leftBy) := goodIn_app (goodIn_of _ (by decide +kernel)) ggX5_leftBy_X8_leftBy
theorem dX5_leftBy_0 : decode cX5_leftBy 0 = .ok (.iload_n 1, 1) := by decide +kernel
theorem dX5_leftBy_1 : decode cX5_leftBy 1 = .ok (.iconst 3, 1) := by decide +kernel
theorem dX5_leftBy_2 : decode cX5_leftBy 2 = .ok (.if_icmp .ne 14, 3) := by decide +kernel
theorem dX5_leftBy_5 : decode cX5_leftBy 5 = .ok (.aload_n 0, 1) := by decide +kernel
theorem dX5_leftBy_6 : decode cX5_leftBy 6 = .ok (.getfield 15, 3) := by decide +kernel
theorem dX5_leftBy_9 : decode cX5_leftBy 9 = .ok (.iload_n 2, 1) := by decide +kernel
theorem dX5_leftBy_10 : decode cX5_leftBy 10 = .ok (.invokevirtual 31, 3) := by decide +kernel
theorem dX5_leftBy_13 : decode cX5_leftBy 13 = .ok (.goto 12, 3) := by decide +kernel
theorem dX5_leftBy_16 : decode cX5_leftBy 16 = .ok (.aload_n 0, 1) := by decide +kernel
theorem dX5_leftBy_17 : decode cX5_leftBy 17 = .ok (.getfield 9, 3) := by decide +kernel
theorem dX5_leftBy_20 : decode cX5_leftBy 20 = .ok (.iload_n 1, 1) := by decide +kernel
theorem dX5_leftBy_21 : decode cX5_leftBy 21 = .ok (.iload_n 2, 1) := by decide +kernel
theorem dX5_leftBy_22 : decode cX5_leftBy 22 = .ok (.invokevirtual 34, 3) := by decide +kernel
theorem dX5_leftBy_25 : decode cX5_leftBy 25 = .ok (.ireturn, 1) := by decide +kernel
set_option maxRecDepth 20000 in
theorem ggX5_groupOf_X8_isChoice : GoodIn wsX5_groupOf wsX8_isChoice := goodIn_r _ [6, 7, 10, 11, 12, 13] (by decide +kernel) (by decide +kernel)
set_option maxRecDepth 20000 in
theorem gX5_groupOf_X8_isChoice : GoodIn wsX5_groupOf (wsV RX5 38 RX8 yX8_isChoice wsX8_isChoice) := goodIn_app (goodIn_of _ (by decide +kernel)) ggX5_groupOf_X8_isChoice
theorem dX5_groupOf_0 : decode cX5_groupOf 0 = .ok (.iload_n 1, 1) := by decide +kernel
theorem dX5_groupOf_1 : decode cX5_groupOf 1 = .ok (.bipush 119, 2) := by decide +kernel
theorem dX5_groupOf_3 : decode cX5_groupOf 3 = .ok (.if_icmp .ne 5, 3) := by decide +kernel
theorem dX5_groupOf_6 : decode cX5_groupOf 6 = .ok (.iconst 3, 1) := by decide +kernel
theorem dX5_groupOf_7 : decode cX5_groupOf 7 = .ok (.ireturn, 1) := by decide +kernel
theorem dX5_groupOf_8 : decode cX5_groupOf 8 = .ok (.aload_n 0, 1) := by decide +kernel
theorem dX5_groupOf_9 : decode cX5_groupOf 9 = .ok (.getfield 9, 3) := by decide +kernel
theorem dX5_groupOf_12 : decode cX5_groupOf 12 = .ok (.iload_n 1, 1) := by decide +kernel
theorem dX5_groupOf_13 : decode cX5_groupOf 13 = .ok (.bipush 97, 2) := by decide +kernel
theorem dX5_groupOf_15 : decode cX5_groupOf 15 = .ok (.isub, 1) := by decide +kernel
theorem dX5_groupOf_16 : decode cX5_groupOf 16 = .ok (.invokevirtual 38, 3) := by decide +kernel
theorem dX5_groupOf_19 : decode cX5_groupOf 19 = .ok (.ifCond .eq 10, 3) := by decide +kernel
theorem dX5_groupOf_22 : decode cX5_groupOf 22 = .ok (.iload_n 1, 1) := by decide +kernel
theorem dX5_groupOf_23 : decode cX5_groupOf 23 = .ok (.bipush 97, 2) := by decide +kernel
theorem dX5_groupOf_25 : decode cX5_groupOf 25 = .ok (.isub, 1) := by decide +kernel
theorem dX5_groupOf_26 : decode cX5_groupOf 26 = .ok (.goto 4, 3) := by decide +kernel
theorem dX5_groupOf_29 : decode cX5_groupOf 29 = .ok (.iconst (-1), 1) := by decide +kernel
theorem dX5_groupOf_30 : decode cX5_groupOf 30 = .ok (.ireturn, 1) := by decide +kernel
set_option maxRecDepth 20000 in
theorem ggX5_firstFor_X5_many : GoodIn wsX5_firstFor wsX5_many := goodIn_r _ [5, 6, 7, 8, 9, 10, 11, 12, 13, 14, 15, 16, 17, 18, 19, 20, 21, 22, 23, 24, 25, 26, 27, 28, 44, 45, 46, 47, 48, 49, 50, 51, 52, 53, 54, 55] (by decide +kernel) (by decide +kernel)
set_option maxRecDepth 20000 in
theorem gX5_firstFor_X5_many : GoodIn wsX5_firstFor (wsV RX5 42 RX5 yX5_many wsX5_many) := goodIn_app (goodIn_of _ (by decide +kernel)) ggX5_firstFor_X5_many
set_option maxRecDepth 20000 in
theorem ggX5_firstFor_X5_leftBy : GoodIn wsX5_firstFor wsX5_leftBy := goodIn_r _ [32, 6, 7, 33, 34, 35, 11, 36, 37, 38, 26, 27, 28, 39, 40, 41, 17, 42, 43, 25, 44, 45, 46, 47, 48, 49, 50, 51, 52, 53, 54, 55] (by decide +kernel) (by decide +kernel)
set_option maxRecDepth 20000 in
theorem gX5_firstFor_X5_leftBy : GoodIn wsX5_firstFor (wsV RX5 45 RX5 yX5_leftBy wsX5_leftBy) := goodIn_app (goodIn_of _ (by decide +kernel)) ggX5_firstFor_X5_leftBy
theorem dX5_firstFor_0 : decode cX5_firstFor 0 = .ok (.iconst 0, 1) := by decide +kernel
theorem dX5_firstFor_1 : decode cX5_firstFor 1 = .ok (.istore_n 2, 1) := by decide +kernel
theorem dX5_firstFor_2 : decode cX5_firstFor 2 = .ok (.iload_n 2, 1) := by decide +kernel
theorem dX5_firstFor_3 : decode cX5_firstFor 3 = .ok (.iconst 3, 1) := by decide +kernel
theorem dX5_firstFor_4 : decode cX5_firstFor 4 = .ok (.if_icmp .gt 43, 3) := by decide +kernel
theorem dX5_firstFor_7 : decode cX5_firstFor 7 = .ok (.iconst 0, 1) := by decide +kernel
theorem dX5_firstFor_8 : decode cX5_firstFor 8 = .ok (.istore_n 3, 1) := by decide +kernel
theorem dX5_firstFor_9 : decode cX5_firstFor 9 = .ok (.iload_n 3, 1) := by decide +kernel
theorem dX5_firstFor_10 : decode cX5_firstFor 10 = .ok (.aload_n 0, 1) := by decide +kernel
theorem dX5_firstFor_11 : decode cX5_firstFor 11 = .ok (.iload_n 2, 1) := by decide +kernel
theorem dX5_firstFor_12 : decode cX5_firstFor 12 = .ok (.invokevirtual 42, 3) := by decide +kernel
theorem dX5_firstFor_15 : decode cX5_firstFor 15 = .ok (.if_icmp .ge 26, 3) := by decide +kernel
theorem dX5_firstFor_18 : decode cX5_firstFor 18 = .ok (.aload_n 0, 1) := by decide +kernel
theorem dX5_firstFor_19 : decode cX5_firstFor 19 = .ok (.iload_n 2, 1) := by decide +kernel
theorem dX5_firstFor_20 : decode cX5_firstFor 20 = .ok (.iload_n 3, 1) := by decide +kernel
theorem dX5_firstFor_21 : decode cX5_firstFor 21 = .ok (.invokevirtual 45, 3) := by decide +kernel
theorem dX5_firstFor_24 : decode cX5_firstFor 24 = .ok (.iload_n 1, 1) := by decide +kernel
theorem dX5_firstFor_25 : decode cX5_firstFor 25 = .ok (.if_icmp .ne 10, 3) := by decide +kernel
theorem dX5_firstFor_28 : decode cX5_firstFor 28 = .ok (.bipush 10, 2) := by decide +kernel
theorem dX5_firstFor_30 : decode cX5_firstFor 30 = .ok (.iload_n 2, 1) := by decide +kernel
theorem dX5_firstFor_31 : decode cX5_firstFor 31 = .ok (.imul, 1) := by decide +kernel
theorem dX5_firstFor_32 : decode cX5_firstFor 32 = .ok (.iload_n 3, 1) := by decide +kernel
theorem dX5_firstFor_33 : decode cX5_firstFor 33 = .ok (.iadd, 1) := by decide +kernel
theorem dX5_firstFor_34 : decode cX5_firstFor 34 = .ok (.ireturn, 1) := by decide +kernel
theorem dX5_firstFor_35 : decode cX5_firstFor 35 = .ok (.iinc 3 1, 3) := by decide +kernel
theorem dX5_firstFor_38 : decode cX5_firstFor 38 = .ok (.goto (-29), 3) := by decide +kernel
theorem dX5_firstFor_41 : decode cX5_firstFor 41 = .ok (.iinc 2 1, 3) := by decide +kernel
theorem dX5_firstFor_44 : decode cX5_firstFor 44 = .ok (.goto (-42), 3) := by decide +kernel
theorem dX5_firstFor_47 : decode cX5_firstFor 47 = .ok (.bipush (-9), 2) := by decide +kernel
theorem dX5_firstFor_49 : decode cX5_firstFor 49 = .ok (.ireturn, 1) := by decide +kernel
theorem dX6_init_0 : decode cX6_init 0 = .ok (.aload_n 0, 1) := by decide +kernel
theorem dX6_init_1 : decode cX6_init 1 = .ok (.invokespecial 1, 3) := by decide +kernel
theorem dX6_init_4 : decode cX6_init 4 = .ok (.aload_n 0, 1) := by decide +kernel
theorem dX6_init_5 : decode cX6_init 5 = .ok (.sipush 200, 3) := by decide +kernel
theorem dX6_init_8 : decode cX6_init 8 = .ok (.newarray .int, 2) := by decide +kernel
theorem dX6_init_10 : decode cX6_init 10 = .ok (.putfield 9, 3) := by decide +kernel
theorem dX6_init_13 : decode cX6_init 13 = .ok (.aload_n 0, 1) := by decide +kernel
theorem dX6_init_14 : decode cX6_init 14 = .ok (.iconst 0, 1) := by decide +kernel
theorem dX6_init_15 : decode cX6_init 15 = .ok (.putfield 13, 3) := by decide +kernel
theorem dX6_init_18 : decode cX6_init 18 = .ok (.return_, 1) := by decide +kernel
set_option maxRecDepth 20000 in
theorem ggX6_add_X4_put : GoodIn wsX6_add wsX4_put := goodIn_r _ [6] (by decide +kernel) (by decide +kernel)
set_option maxRecDepth 20000 in
theorem gX6_add_X4_put : GoodIn wsX6_add (va_wsS RX6 17 yX4_put wsX4_put) := goodIn_app (goodIn_of _ (by decide +kernel)) ggX6_add_X4_put
theorem dX6_add_0 : decode cX6_add 0 = .ok (.aload_n 0, 1) := by decide +kernel
theorem dX6_add_1 : decode cX6_add 1 = .ok (.getfield 13, 3) := by decide +kernel
theorem dX6_add_4 : decode cX6_add 4 = .ok (.iload_n 3, 1) := by decide +kernel
theorem dX6_add_5 : decode cX6_add 5 = .ok (.iadd, 1) := by decide +kernel
theorem dX6_add_6 : decode cX6_add 6 = .ok (.sipush 200, 3) := by decide +kernel
theorem dX6_add_9 : decode cX6_add 9 = .ok (.if_icmp .le 5, 3) := by decide +kernel
theorem dX6_add_12 : decode cX6_add 12 = .ok (.iconst 0, 1) := by decide +kernel
theorem dX6_add_13 : decode cX6_add 13 = .ok (.ireturn, 1) := by decide +kernel
theorem dX6_add_14 : decode cX6_add 14 = .ok (.iload_n 3, 1) := by decide +kernel
theorem dX6_add_15 : decode cX6_add 15 = .ok (.iconst 1, 1) := by decide +kernel
theorem dX6_add_16 : decode cX6_add 16 = .ok (.isub, 1) := by decide +kernel
theorem dX6_add_17 : decode cX6_add 17 = .ok (.istore 4, 2) := by decide +kernel
theorem dX6_add_19 : decode cX6_add 19 = .ok (.iload 4, 2) := by decide +kernel
theorem dX6_add_21 : decode cX6_add 21 = .ok (.ifCond .lt 42, 3) := by decide +kernel
theorem dX6_add_24 : decode cX6_add 24 = .ok (.aload_n 0, 1) := by decide +kernel
theorem dX6_add_25 : decode cX6_add 25 = .ok (.getfield 9, 3) := by decide +kernel
theorem dX6_add_28 : decode cX6_add 28 = .ok (.aload_n 0, 1) := by decide +kernel
theorem dX6_add_29 : decode cX6_add 29 = .ok (.getfield 13, 3) := by decide +kernel
theorem dX6_add_32 : decode cX6_add 32 = .ok (.lload_n 1, 1) := by decide +kernel
theorem dX6_add_33 : decode cX6_add 33 = .ok (.bipush 8, 2) := by decide +kernel
theorem dX6_add_35 : decode cX6_add 35 = .ok (.iload 4, 2) := by decide +kernel
theorem dX6_add_37 : decode cX6_add 37 = .ok (.imul, 1) := by decide +kernel
theorem dX6_add_38 : decode cX6_add 38 = .ok (.lushr, 1) := by decide +kernel
theorem dX6_add_39 : decode cX6_add 39 = .ok (.l2i, 1) := by decide +kernel
theorem dX6_add_40 : decode cX6_add 40 = .ok (.sipush 255, 3) := by decide +kernel
theorem dX6_add_43 : decode cX6_add 43 = .ok (.iand, 1) := by decide +kernel
theorem dX6_add_44 : decode cX6_add 44 = .ok (.invokestatic 17, 3) := by decide +kernel
theorem dX6_add_47 : decode cX6_add 47 = .ok (.aload_n 0, 1) := by decide +kernel
theorem dX6_add_48 : decode cX6_add 48 = .ok (.dup, 1) := by decide +kernel
theorem dX6_add_49 : decode cX6_add 49 = .ok (.getfield 13, 3) := by decide +kernel
theorem dX6_add_52 : decode cX6_add 52 = .ok (.iconst 1, 1) := by decide +kernel
theorem dX6_add_53 : decode cX6_add 53 = .ok (.iadd, 1) := by decide +kernel
theorem dX6_add_54 : decode cX6_add 54 = .ok (.putfield 13, 3) := by decide +kernel
theorem dX6_add_57 : decode cX6_add 57 = .ok (.iinc 4 (-1), 3) := by decide +kernel
theorem dX6_add_60 : decode cX6_add 60 = .ok (.goto (-41), 3) := by decide +kernel
theorem dX6_add_63 : decode cX6_add 63 = .ok (.iconst 1, 1) := by decide +kernel
theorem dX6_add_64 : decode cX6_add 64 = .ok (.ireturn, 1) := by decide +kernel
theorem dX6_drop_0 : decode cX6_drop 0 = .ok (.aload_n 0, 1) := by decide +kernel
theorem dX6_drop_1 : decode cX6_drop 1 = .ok (.getfield 13, 3) := by decide +kernel
theorem dX6_drop_4 : decode cX6_drop 4 = .ok (.istore_n 1, 1) := by decide +kernel
theorem dX6_drop_5 : decode cX6_drop 5 = .ok (.aload_n 0, 1) := by decide +kernel
theorem dX6_drop_6 : decode cX6_drop 6 = .ok (.iconst 0, 1) := by decide +kernel
theorem dX6_drop_7 : decode cX6_drop 7 = .ok (.putfield 13, 3) := by decide +kernel
theorem dX6_drop_10 : decode cX6_drop 10 = .ok (.iload_n 1, 1) := by decide +kernel
theorem dX6_drop_11 : decode cX6_drop 11 = .ok (.ireturn, 1) := by decide +kernel
theorem dX6_size_0 : decode cX6_size 0 = .ok (.aload_n 0, 1) := by decide +kernel
theorem dX6_size_1 : decode cX6_size 1 = .ok (.getfield 13, 3) := by decide +kernel
theorem dX6_size_4 : decode cX6_size 4 = .ok (.ireturn, 1) := by decide +kernel
set_option maxRecDepth 20000 in
theorem ggX6_byteAt_X4_at : GoodIn wsX6_byteAt wsX4_at := goodIn_r _ [6] (by decide +kernel) (by decide +kernel)
set_option maxRecDepth 20000 in
theorem gX6_byteAt_X4_at : GoodIn wsX6_byteAt (va_wsS RX6 23 yX4_at wsX4_at) := goodIn_app (goodIn_of _ (by decide +kernel)) ggX6_byteAt_X4_at
theorem dX6_byteAt_0 : decode cX6_byteAt 0 = .ok (.iload_n 1, 1) := by decide +kernel
theorem dX6_byteAt_1 : decode cX6_byteAt 1 = .ok (.aload_n 0, 1) := by decide +kernel
theorem dX6_byteAt_2 : decode cX6_byteAt 2 = .ok (.getfield 13, 3) := by decide +kernel
theorem dX6_byteAt_5 : decode cX6_byteAt 5 = .ok (.if_icmp .ge 14, 3) := by decide +kernel
theorem dX6_byteAt_8 : decode cX6_byteAt 8 = .ok (.aload_n 0, 1) := by decide +kernel
theorem dX6_byteAt_9 : decode cX6_byteAt 9 = .ok (.getfield 9, 3) := by decide +kernel
theorem dX6_byteAt_12 : decode cX6_byteAt 12 = .ok (.iload_n 1, 1) := by decide +kernel
theorem dX6_byteAt_13 : decode cX6_byteAt 13 = .ok (.invokestatic 23, 3) := by decide +kernel
theorem dX6_byteAt_16 : decode cX6_byteAt 16 = .ok (.goto 4, 3) := by decide +kernel
theorem dX6_byteAt_19 : decode cX6_byteAt 19 = .ok (.iconst 0, 1) := by decide +kernel
theorem dX6_byteAt_20 : decode cX6_byteAt 20 = .ok (.ireturn, 1) := by decide +kernel
theorem dX7_init_0 : decode cX7_init 0 = .ok (.aload_n 0, 1) := by decide +kernel
theorem dX7_init_1 : decode cX7_init 1 = .ok (.invokespecial 1, 3) := by decide +kernel
theorem dX7_init_4 : decode cX7_init 4 = .ok (.aload_n 0, 1) := by decide +kernel
theorem dX7_init_5 : decode cX7_init 5 = .ok (.iconst 0, 1) := by decide +kernel
theorem dX7_init_6 : decode cX7_init 6 = .ok (.putfield 7, 3) := by decide +kernel
theorem dX7_init_9 : decode cX7_init 9 = .ok (.aload_n 0, 1) := by decide +kernel
theorem dX7_init_10 : decode cX7_init 10 = .ok (.iconst 0, 1) := by decide +kernel
theorem dX7_init_11 : decode cX7_init 11 = .ok (.putfield 13, 3) := by decide +kernel
theorem dX7_init_14 : decode cX7_init 14 = .ok (.aload_n 0, 1) := by decide +kernel
theorem dX7_init_15 : decode cX7_init 15 = .ok (.iconst 0, 1) := by decide +kernel
theorem dX7_init_16 : decode cX7_init 16 = .ok (.putfield 16, 3) := by decide +kernel
theorem dX7_init_19 : decode cX7_init 19 = .ok (.aload_n 0, 1) := by decide +kernel
theorem dX7_init_20 : decode cX7_init 20 = .ok (.aload_n 1, 1) := by decide +kernel
theorem dX7_init_21 : decode cX7_init 21 = .ok (.putfield 19, 3) := by decide +kernel
theorem dX7_init_24 : decode cX7_init 24 = .ok (.return_, 1) := by decide +kernel
theorem dX7_begin_0 : decode cX7_begin 0 = .ok (.aload_n 0, 1) := by decide +kernel
theorem dX7_begin_1 : decode cX7_begin 1 = .ok (.iconst 0, 1) := by decide +kernel
theorem dX7_begin_2 : decode cX7_begin 2 = .ok (.putfield 7, 3) := by decide +kernel
theorem dX7_begin_5 : decode cX7_begin 5 = .ok (.aload_n 0, 1) := by decide +kernel
theorem dX7_begin_6 : decode cX7_begin 6 = .ok (.iconst 0, 1) := by decide +kernel
theorem dX7_begin_7 : decode cX7_begin 7 = .ok (.putfield 13, 3) := by decide +kernel
theorem dX7_begin_10 : decode cX7_begin 10 = .ok (.aload_n 0, 1) := by decide +kernel
theorem dX7_begin_11 : decode cX7_begin 11 = .ok (.iconst 0, 1) := by decide +kernel
theorem dX7_begin_12 : decode cX7_begin 12 = .ok (.putfield 16, 3) := by decide +kernel
theorem dX7_begin_15 : decode cX7_begin 15 = .ok (.return_, 1) := by decide +kernel
set_option maxRecDepth 20000 in
theorem ggX7_step_X6_size : GoodIn wsX7_step wsX6_size := goodIn_r _ [9, 10, 42, 43] (by decide +kernel) (by decide +kernel)
set_option maxRecDepth 20000 in
theorem gX7_step_X6_size : GoodIn wsX7_step (wsV RX7 23 RX6 yX6_size wsX6_size) := goodIn_app (goodIn_of _ (by decide +kernel)) ggX7_step_X6_size
set_option maxRecDepth 20000 in
theorem ggX7_step_X6_byteAt : GoodIn wsX7_step wsX6_byteAt := goodIn_r _ [14, 10, 15, 16, 17, 18, 19, 42, 43] (by decide +kernel) (by decide +kernel)
set_option maxRecDepth 20000 in
theorem gX7_step_X6_byteAt : GoodIn wsX7_step (wsV RX7 29 RX6 yX6_byteAt wsX6_byteAt) := goodIn_app (goodIn_of _ (by decide +kernel)) ggX7_step_X6_byteAt
set_option maxRecDepth 20000 in
theorem ggX7_step_X7_isLetter : GoodIn wsX7_step wsX7_isLetter := goodIn_r _ [23] (by decide +kernel) (by decide +kernel)
set_option maxRecDepth 20000 in
theorem gX7_step_X7_isLetter : GoodIn wsX7_step (va_wsS RX7 33 yX7_isLetter wsX7_isLetter) := goodIn_app (goodIn_of _ (by decide +kernel)) ggX7_step_X7_isLetter
set_option maxRecDepth 20000 in
theorem ggX7_step_X7_passLetters : GoodIn wsX7_step wsX7_passLetters := goodIn_r _ [27, 1, 2, 5, 6, 7, 8, 9, 10, 11, 12, 13, 14, 15, 16, 17, 18, 19, 20, 21, 22, 23, 38, 39, 40, 41, 42, 43] (by decide +kernel) (by decide +kernel)
set_option maxRecDepth 20000 in
theorem gX7_step_X7_passLetters : GoodIn wsX7_step (wsV RX7 37 RX7 yX7_passLetters wsX7_passLetters) := goodIn_app (goodIn_of _ (by decide +kernel)) ggX7_step_X7_passLetters
set_option maxRecDepth 20000 in
theorem ggX7_step_X7_isDigit : GoodIn wsX7_step wsX7_isDigit := goodIn_r _ [30] (by decide +kernel) (by decide +kernel)
set_option maxRecDepth 20000 in
theorem gX7_step_X7_isDigit : GoodIn wsX7_step (va_wsS RX7 40 yX7_isDigit wsX7_isDigit) := goodIn_app (goodIn_of _ (by decide +kernel)) ggX7_step_X7_isDigit
set_option maxRecDepth 20000 in
theorem ggX7_step_X7_passDigits : GoodIn wsX7_step wsX7_passDigits := goodIn_r _ [34, 1, 2, 5, 6, 7, 8, 9, 10, 11, 12, 13, 14, 15, 16, 17, 18, 19, 28, 29, 22, 30, 38, 39, 40, 41, 42, 43] (by decide +kernel) (by decide +kernel)
set_option maxRecDepth 20000 in
theorem gX7_step_X7_passDigits : GoodIn wsX7_step (wsV RX7 43 RX7 yX7_passDigits wsX7_passDigits) := goodIn_app (goodIn_of _ (by decide +kernel)) ggX7_step_X7_passDigits
set_option maxRecDepth 20000 in
theorem ggX7_step_X7_isMark : GoodIn wsX7_step wsX7_isMark := goodIn_r _ [37] (by decide +kernel) (by decide +kernel)
set_option maxRecDepth 20000 in
theorem gX7_step_X7_isMark : GoodIn wsX7_step (va_wsS RX7 46 yX7_isMark wsX7_isMark) := goodIn_app (goodIn_of _ (by decide +kernel)) ggX7_step_X7_isMark
theorem dX7_step_0 : decode cX7_step 0 = .ok (.aload_n 0, 1) := by decide +kernel
theorem dX7_step_1 : decode cX7_step 1 = .ok (.getfield 7, 3) := by decide +kernel
theorem dX7_step_4 : decode cX7_step 4 = .ok (.aload_n 0, 1) := by decide +kernel
theorem dX7_step_5 : decode cX7_step 5 = .ok (.getfield 19, 3) := by decide +kernel
theorem dX7_step_8 : decode cX7_step 8 = .ok (.invokevirtual 23, 3) := by decide +kernel
theorem dX7_step_11 : decode cX7_step 11 = .ok (.if_icmp .ge 32, 3) := by decide +kernel
theorem dX7_step_14 : decode cX7_step 14 = .ok (.aload_n 0, 1) := by decide +kernel
theorem dX7_step_15 : decode cX7_step 15 = .ok (.getfield 19, 3) := by decide +kernel
theorem dX7_step_18 : decode cX7_step 18 = .ok (.aload_n 0, 1) := by decide +kernel
theorem dX7_step_19 : decode cX7_step 19 = .ok (.getfield 7, 3) := by decide +kernel
theorem dX7_step_22 : decode cX7_step 22 = .ok (.invokevirtual 29, 3) := by decide +kernel
theorem dX7_step_25 : decode cX7_step 25 = .ok (.bipush 32, 2) := by decide +kernel
theorem dX7_step_27 : decode cX7_step 27 = .ok (.if_icmp .ne 16, 3) := by decide +kernel
theorem dX7_step_30 : decode cX7_step 30 = .ok (.aload_n 0, 1) := by decide +kernel
theorem dX7_step_31 : decode cX7_step 31 = .ok (.dup, 1) := by decide +kernel
theorem dX7_step_32 : decode cX7_step 32 = .ok (.getfield 7, 3) := by decide +kernel
theorem dX7_step_35 : decode cX7_step 35 = .ok (.iconst 1, 1) := by decide +kernel
theorem dX7_step_36 : decode cX7_step 36 = .ok (.iadd, 1) := by decide +kernel
theorem dX7_step_37 : decode cX7_step 37 = .ok (.putfield 7, 3) := by decide +kernel
theorem dX7_step_40 : decode cX7_step 40 = .ok (.goto (-40), 3) := by decide +kernel
theorem dX7_step_43 : decode cX7_step 43 = .ok (.aload_n 0, 1) := by decide +kernel
theorem dX7_step_44 : decode cX7_step 44 = .ok (.aload_n 0, 1) := by decide +kernel
theorem dX7_step_45 : decode cX7_step 45 = .ok (.getfield 7, 3) := by decide +kernel
theorem dX7_step_48 : decode cX7_step 48 = .ok (.putfield 13, 3) := by decide +kernel
theorem dX7_step_51 : decode cX7_step 51 = .ok (.aload_n 0, 1) := by decide +kernel
theorem dX7_step_52 : decode cX7_step 52 = .ok (.getfield 19, 3) := by decide +kernel
theorem dX7_step_55 : decode cX7_step 55 = .ok (.aload_n 0, 1) := by decide +kernel
theorem dX7_step_56 : decode cX7_step 56 = .ok (.getfield 7, 3) := by decide +kernel
theorem dX7_step_59 : decode cX7_step 59 = .ok (.invokevirtual 29, 3) := by decide +kernel
theorem dX7_step_62 : decode cX7_step 62 = .ok (.istore_n 1, 1) := by decide +kernel
theorem dX7_step_63 : decode cX7_step 63 = .ok (.aload_n 0, 1) := by decide +kernel
theorem dX7_step_64 : decode cX7_step 64 = .ok (.getfield 7, 3) := by decide +kernel
theorem dX7_step_67 : decode cX7_step 67 = .ok (.aload_n 0, 1) := by decide +kernel
theorem dX7_step_68 : decode cX7_step 68 = .ok (.getfield 19, 3) := by decide +kernel
theorem dX7_step_71 : decode cX7_step 71 = .ok (.invokevirtual 23, 3) := by decide +kernel
theorem dX7_step_74 : decode cX7_step 74 = .ok (.if_icmp .lt 11, 3) := by decide +kernel
theorem dX7_step_77 : decode cX7_step 77 = .ok (.aload_n 0, 1) := by decide +kernel
theorem dX7_step_78 : decode cX7_step 78 = .ok (.iconst 0, 1) := by decide +kernel
theorem dX7_step_79 : decode cX7_step 79 = .ok (.putfield 16, 3) := by decide +kernel
theorem dX7_step_82 : decode cX7_step 82 = .ok (.goto 67, 3) := by decide +kernel
theorem dX7_step_85 : decode cX7_step 85 = .ok (.iload_n 1, 1) := by decide +kernel
theorem dX7_step_86 : decode cX7_step 86 = .ok (.invokestatic 33, 3) := by decide +kernel
theorem dX7_step_89 : decode cX7_step 89 = .ok (.ifCond .eq 15, 3) := by decide +kernel
theorem dX7_step_92 : decode cX7_step 92 = .ok (.aload_n 0, 1) := by decide +kernel
theorem dX7_step_93 : decode cX7_step 93 = .ok (.iconst 2, 1) := by decide +kernel
theorem dX7_step_94 : decode cX7_step 94 = .ok (.putfield 16, 3) := by decide +kernel
theorem dX7_step_97 : decode cX7_step 97 = .ok (.aload_n 0, 1) := by decide +kernel
theorem dX7_step_98 : decode cX7_step 98 = .ok (.invokevirtual 37, 3) := by decide +kernel
theorem dX7_step_101 : decode cX7_step 101 = .ok (.goto 48, 3) := by decide +kernel
theorem dX7_step_104 : decode cX7_step 104 = .ok (.iload_n 1, 1) := by decide +kernel
theorem dX7_step_105 : decode cX7_step 105 = .ok (.invokestatic 40, 3) := by decide +kernel
theorem dX7_step_108 : decode cX7_step 108 = .ok (.ifCond .eq 15, 3) := by decide +kernel
theorem dX7_step_111 : decode cX7_step 111 = .ok (.aload_n 0, 1) := by decide +kernel
theorem dX7_step_112 : decode cX7_step 112 = .ok (.iconst 3, 1) := by decide +kernel
theorem dX7_step_113 : decode cX7_step 113 = .ok (.putfield 16, 3) := by decide +kernel
theorem dX7_step_116 : decode cX7_step 116 = .ok (.aload_n 0, 1) := by decide +kernel
theorem dX7_step_117 : decode cX7_step 117 = .ok (.invokevirtual 43, 3) := by decide +kernel
theorem dX7_step_120 : decode cX7_step 120 = .ok (.goto 29, 3) := by decide +kernel
theorem dX7_step_123 : decode cX7_step 123 = .ok (.aload_n 0, 1) := by decide +kernel
theorem dX7_step_124 : decode cX7_step 124 = .ok (.iload_n 1, 1) := by decide +kernel
theorem dX7_step_125 : decode cX7_step 125 = .ok (.invokestatic 46, 3) := by decide +kernel
theorem dX7_step_128 : decode cX7_step 128 = .ok (.ifCond .eq 7, 3) := by decide +kernel
theorem dX7_step_131 : decode cX7_step 131 = .ok (.iload_n 1, 1) := by decide +kernel
theorem dX7_step_132 : decode cX7_step 132 = .ok (.goto 4, 3) := by decide +kernel
theorem dX7_step_135 : decode cX7_step 135 = .ok (.iconst 1, 1) := by decide +kernel
theorem dX7_step_136 : decode cX7_step 136 = .ok (.putfield 16, 3) := by decide +kernel
theorem dX7_step_139 : decode cX7_step 139 = .ok (.aload_n 0, 1) := by decide +kernel
theorem dX7_step_140 : decode cX7_step 140 = .ok (.dup, 1) := by decide +kernel
theorem dX7_step_141 : decode cX7_step 141 = .ok (.getfield 7, 3) := by decide +kernel
theorem dX7_step_144 : decode cX7_step 144 = .ok (.iconst 1, 1) := by decide +kernel
theorem dX7_step_145 : decode cX7_step 145 = .ok (.iadd, 1) := by decide +kernel
theorem dX7_step_146 : decode cX7_step 146 = .ok (.putfield 7, 3) := by decide +kernel
theorem dX7_step_149 : decode cX7_step 149 = .ok (.return_, 1) := by decide +kernel
theorem dX7_place_0 : decode cX7_place 0 = .ok (.aload_n 0, 1) := by decide +kernel
theorem dX7_place_1 : decode cX7_place 1 = .ok (.getfield 13, 3) := by decide +kernel
theorem dX7_place_4 : decode cX7_place 4 = .ok (.ireturn, 1) := by decide +kernel
theorem dX7_is_0 : decode cX7_is 0 = .ok (.aload_n 0, 1) := by decide +kernel
theorem dX7_is_1 : decode cX7_is 1 = .ok (.getfield 16, 3) := by decide +kernel
theorem dX7_is_4 : decode cX7_is 4 = .ok (.iload_n 1, 1) := by decide +kernel
theorem dX7_is_5 : decode cX7_is 5 = .ok (.if_icmp .ne 7, 3) := by decide +kernel
theorem dX7_is_8 : decode cX7_is 8 = .ok (.iconst 1, 1) := by decide +kernel
theorem dX7_is_9 : decode cX7_is 9 = .ok (.goto 4, 3) := by decide +kernel
theorem dX7_is_12 : decode cX7_is 12 = .ok (.iconst 0, 1) := by decide +kernel
theorem dX7_is_13 : decode cX7_is 13 = .ok (.ireturn, 1) := by decide +kernel
set_option maxRecDepth 20000 in
theorem ggX7_isChoice_J0_length_8abf5 : GoodIn wsX7_isChoice wsJ0_length_8abf5 := goodIn_r _ [9, 10, 11, 12, 13, 8, 14, 15, 16] (by decide +kernel) (by decide +kernel)
set_option maxRecDepth 20000 in
theorem gX7_isChoice_J0_length_8abf5 : GoodIn wsX7_isChoice (wsV RX7 51 RJ0 yJ0_length_8abf5 wsJ0_length_8abf5) := goodIn_app (goodIn_of _ (by decide +kernel)) ggX7_isChoice_J0_length_8abf5
set_option maxRecDepth 20000 in
theorem ggX7_isChoice_X6_byteAt : GoodIn wsX7_isChoice wsX6_byteAt := goodIn_r _ [21, 22, 23, 24, 25, 26, 27, 69, 70] (by decide +kernel) (by decide +kernel)
set_option maxRecDepth 20000 in
theorem gX7_isChoice_X6_byteAt : GoodIn wsX7_isChoice (wsV RX7 29 RX6 yX6_byteAt wsX6_byteAt) := goodIn_app (goodIn_of _ (by decide +kernel)) ggX7_isChoice_X6_byteAt
set_option maxRecDepth 20000 in
theorem ggX7_isChoice_J0_charAt_5068e : GoodIn wsX7_isChoice wsJ0_charAt_5068e := goodIn_r _ [31, 10, 32, 33, 34, 8, 35, 15, 16, 36, 37, 38, 39, 40, 41, 42, 43, 44, 45, 46, 47, 48, 49, 50, 51, 52, 53, 54, 55, 56, 57, 58, 59, 60, 61, 62, 63, 64] (by decide +kernel) (by decide +kernel)
set_option maxRecDepth 20000 in
theorem gX7_isChoice_J0_charAt_5068e : GoodIn wsX7_isChoice (wsV RX7 56 RJ0 yJ0_charAt_5068e wsJ0_charAt_5068e) := goodIn_app (goodIn_of _ (by decide +kernel)) ggX7_isChoice_J0_charAt_5068e
theorem dX7_isChoice_0 : decode cX7_isChoice 0 = .ok (.aload_n 0, 1) := by decide +kernel
theorem dX7_isChoice_1 : decode cX7_isChoice 1 = .ok (.getfield 16, 3) := by decide +kernel
theorem dX7_isChoice_4 : decode cX7_isChoice 4 = .ok (.iconst 2, 1) := by decide +kernel
theorem dX7_isChoice_5 : decode cX7_isChoice 5 = .ok (.if_icmp .ne 20, 3) := by decide +kernel
theorem dX7_isChoice_8 : decode cX7_isChoice 8 = .ok (.aload_n 0, 1) := by decide +kernel
theorem dX7_isChoice_9 : decode cX7_isChoice 9 = .ok (.getfield 7, 3) := by decide +kernel
theorem dX7_isChoice_12 : decode cX7_isChoice 12 = .ok (.aload_n 0, 1) := by decide +kernel
theorem dX7_isChoice_13 : decode cX7_isChoice 13 = .ok (.getfield 13, 3) := by decide +kernel
theorem dX7_isChoice_16 : decode cX7_isChoice 16 = .ok (.isub, 1) := by decide +kernel
theorem dX7_isChoice_17 : decode cX7_isChoice 17 = .ok (.ldc 49, 2) := by decide +kernel
theorem dX7_isChoice_19 : decode cX7_isChoice 19 = .ok (.invokevirtual 51, 3) := by decide +kernel
theorem dX7_isChoice_22 : decode cX7_isChoice 22 = .ok (.if_icmp .eq 5, 3) := by decide +kernel
theorem dX7_isChoice_25 : decode cX7_isChoice 25 = .ok (.iconst 0, 1) := by decide +kernel
theorem dX7_isChoice_26 : decode cX7_isChoice 26 = .ok (.ireturn, 1) := by decide +kernel
theorem dX7_isChoice_27 : decode cX7_isChoice 27 = .ok (.iconst 0, 1) := by decide +kernel
theorem dX7_isChoice_28 : decode cX7_isChoice 28 = .ok (.istore_n 1, 1) := by decide +kernel
theorem dX7_isChoice_29 : decode cX7_isChoice 29 = .ok (.iload_n 1, 1) := by decide +kernel
theorem dX7_isChoice_30 : decode cX7_isChoice 30 = .ok (.ldc 49, 2) := by decide +kernel
theorem dX7_isChoice_32 : decode cX7_isChoice 32 = .ok (.invokevirtual 51, 3) := by decide +kernel
theorem dX7_isChoice_35 : decode cX7_isChoice 35 = .ok (.if_icmp .ge 33, 3) := by decide +kernel
theorem dX7_isChoice_38 : decode cX7_isChoice 38 = .ok (.aload_n 0, 1) := by decide +kernel
theorem dX7_isChoice_39 : decode cX7_isChoice 39 = .ok (.getfield 19, 3) := by decide +kernel
theorem dX7_isChoice_42 : decode cX7_isChoice 42 = .ok (.aload_n 0, 1) := by decide +kernel
theorem dX7_isChoice_43 : decode cX7_isChoice 43 = .ok (.getfield 13, 3) := by decide +kernel
theorem dX7_isChoice_46 : decode cX7_isChoice 46 = .ok (.iload_n 1, 1) := by decide +kernel
theorem dX7_isChoice_47 : decode cX7_isChoice 47 = .ok (.iadd, 1) := by decide +kernel
theorem dX7_isChoice_48 : decode cX7_isChoice 48 = .ok (.invokevirtual 29, 3) := by decide +kernel
theorem dX7_isChoice_51 : decode cX7_isChoice 51 = .ok (.ldc 49, 2) := by decide +kernel
theorem dX7_isChoice_53 : decode cX7_isChoice 53 = .ok (.iload_n 1, 1) := by decide +kernel
theorem dX7_isChoice_54 : decode cX7_isChoice 54 = .ok (.invokevirtual 56, 3) := by decide +kernel
theorem dX7_isChoice_57 : decode cX7_isChoice 57 = .ok (.if_icmp .eq 5, 3) := by decide +kernel
theorem dX7_isChoice_60 : decode cX7_isChoice 60 = .ok (.iconst 0, 1) := by decide +kernel
theorem dX7_isChoice_61 : decode cX7_isChoice 61 = .ok (.ireturn, 1) := by decide +kernel
theorem dX7_isChoice_62 : decode cX7_isChoice 62 = .ok (.iinc 1 1, 3) := by decide +kernel
theorem dX7_isChoice_65 : decode cX7_isChoice 65 = .ok (.goto (-36), 3) := by decide +kernel
theorem dX7_isChoice_68 : decode cX7_isChoice 68 = .ok (.iconst 1, 1) := by decide +kernel
theorem dX7_isChoice_69 : decode cX7_isChoice 69 = .ok (.ireturn, 1) := by decide +kernel
set_option maxRecDepth 20000 in
theorem ggX7_letter_X6_byteAt : GoodIn wsX7_letter wsX6_byteAt := goodIn_r _ [9, 10, 11, 12, 13, 14, 15, 20, 21] (by decide +kernel) (by decide +kernel)
set_option maxRecDepth 20000 in
theorem gX7_letter_X6_byteAt : GoodIn wsX7_letter (wsV RX7 29 RX6 yX6_byteAt wsX6_byteAt) := goodIn_app (goodIn_of _ (by decide +kernel)) ggX7_letter_X6_byteAt
theorem dX7_letter_0 : decode cX7_letter 0 = .ok (.aload_n 0, 1) := by decide +kernel
theorem dX7_letter_1 : decode cX7_letter 1 = .ok (.getfield 16, 3) := by decide +kernel
theorem dX7_letter_4 : decode cX7_letter 4 = .ok (.iconst 2, 1) := by decide +kernel
theorem dX7_letter_5 : decode cX7_letter 5 = .ok (.if_icmp .ne 30, 3) := by decide +kernel
theorem dX7_letter_8 : decode cX7_letter 8 = .ok (.aload_n 0, 1) := by decide +kernel
theorem dX7_letter_9 : decode cX7_letter 9 = .ok (.getfield 7, 3) := by decide +kernel
theorem dX7_letter_12 : decode cX7_letter 12 = .ok (.aload_n 0, 1) := by decide +kernel
theorem dX7_letter_13 : decode cX7_letter 13 = .ok (.getfield 13, 3) := by decide +kernel
theorem dX7_letter_16 : decode cX7_letter 16 = .ok (.isub, 1) := by decide +kernel
theorem dX7_letter_17 : decode cX7_letter 17 = .ok (.iconst 1, 1) := by decide +kernel
theorem dX7_letter_18 : decode cX7_letter 18 = .ok (.if_icmp .ne 17, 3) := by decide +kernel
theorem dX7_letter_21 : decode cX7_letter 21 = .ok (.aload_n 0, 1) := by decide +kernel
theorem dX7_letter_22 : decode cX7_letter 22 = .ok (.getfield 19, 3) := by decide +kernel
theorem dX7_letter_25 : decode cX7_letter 25 = .ok (.aload_n 0, 1) := by decide +kernel
theorem dX7_letter_26 : decode cX7_letter 26 = .ok (.getfield 13, 3) := by decide +kernel
theorem dX7_letter_29 : decode cX7_letter 29 = .ok (.invokevirtual 29, 3) := by decide +kernel
theorem dX7_letter_32 : decode cX7_letter 32 = .ok (.goto 4, 3) := by decide +kernel
theorem dX7_letter_35 : decode cX7_letter 35 = .ok (.iconst 0, 1) := by decide +kernel
theorem dX7_letter_36 : decode cX7_letter 36 = .ok (.ireturn, 1) := by decide +kernel
set_option maxRecDepth 20000 in
theorem ggX7_number_X6_byteAt : GoodIn wsX7_number wsX6_byteAt := goodIn_r _ [9, 10, 11, 12, 13, 14, 15, 20, 21] (by decide +kernel) (by decide +kernel)
set_option maxRecDepth 20000 in
theorem gX7_number_X6_byteAt : GoodIn wsX7_number (wsV RX7 29 RX6 yX6_byteAt wsX6_byteAt) := goodIn_app (goodIn_of _ (by decide +kernel)) ggX7_number_X6_byteAt
theorem dX7_number_0 : decode cX7_number 0 = .ok (.aload_n 0, 1) := by decide +kernel
theorem dX7_number_1 : decode cX7_number 1 = .ok (.getfield 7, 3) := by decide +kernel
theorem dX7_number_4 : decode cX7_number 4 = .ok (.aload_n 0, 1) := by decide +kernel
theorem dX7_number_5 : decode cX7_number 5 = .ok (.getfield 13, 3) := by decide +kernel
theorem dX7_number_8 : decode cX7_number 8 = .ok (.isub, 1) := by decide +kernel
theorem dX7_number_9 : decode cX7_number 9 = .ok (.istore_n 1, 1) := by decide +kernel
theorem dX7_number_10 : decode cX7_number 10 = .ok (.aload_n 0, 1) := by decide +kernel
theorem dX7_number_11 : decode cX7_number 11 = .ok (.getfield 16, 3) := by decide +kernel
theorem dX7_number_14 : decode cX7_number 14 = .ok (.iconst 3, 1) := by decide +kernel
theorem dX7_number_15 : decode cX7_number 15 = .ok (.if_icmp .ne 24, 3) := by decide +kernel
theorem dX7_number_18 : decode cX7_number 18 = .ok (.iload_n 1, 1) := by decide +kernel
theorem dX7_number_19 : decode cX7_number 19 = .ok (.iconst 1, 1) := by decide +kernel
theorem dX7_number_20 : decode cX7_number 20 = .ok (.if_icmp .le 21, 3) := by decide +kernel
theorem dX7_number_23 : decode cX7_number 23 = .ok (.aload_n 0, 1) := by decide +kernel
theorem dX7_number_24 : decode cX7_number 24 = .ok (.getfield 19, 3) := by decide +kernel
theorem dX7_number_27 : decode cX7_number 27 = .ok (.aload_n 0, 1) := by decide +kernel
theorem dX7_number_28 : decode cX7_number 28 = .ok (.getfield 13, 3) := by decide +kernel
theorem dX7_number_31 : decode cX7_number 31 = .ok (.invokevirtual 29, 3) := by decide +kernel
theorem dX7_number_34 : decode cX7_number 34 = .ok (.bipush 48, 2) := by decide +kernel
theorem dX7_number_36 : decode cX7_number 36 = .ok (.if_icmp .ne 5, 3) := by decide +kernel
theorem dX7_number_39 : decode cX7_number 39 = .ok (.iconst (-1), 1) := by decide +kernel
theorem dX7_number_40 : decode cX7_number 40 = .ok (.ireturn, 1) := by decide +kernel
theorem dX7_number_41 : decode cX7_number 41 = .ok (.iconst 0, 1) := by decide +kernel
theorem dX7_number_42 : decode cX7_number 42 = .ok (.istore_n 2, 1) := by decide +kernel
theorem dX7_number_43 : decode cX7_number 43 = .ok (.aload_n 0, 1) := by decide +kernel
theorem dX7_number_44 : decode cX7_number 44 = .ok (.getfield 13, 3) := by decide +kernel
theorem dX7_number_47 : decode cX7_number 47 = .ok (.istore_n 3, 1) := by decide +kernel
theorem dX7_number_48 : decode cX7_number 48 = .ok (.iload_n 3, 1) := by decide +kernel
theorem dX7_number_49 : decode cX7_number 49 = .ok (.aload_n 0, 1) := by decide +kernel
theorem dX7_number_50 : decode cX7_number 50 = .ok (.getfield 7, 3) := by decide +kernel
theorem dX7_number_53 : decode cX7_number 53 = .ok (.if_icmp .ge 32, 3) := by decide +kernel
theorem dX7_number_56 : decode cX7_number 56 = .ok (.iload_n 2, 1) := by decide +kernel
theorem dX7_number_57 : decode cX7_number 57 = .ok (.bipush 99, 2) := by decide +kernel
theorem dX7_number_59 : decode cX7_number 59 = .ok (.if_icmp .gt 26, 3) := by decide +kernel
theorem dX7_number_62 : decode cX7_number 62 = .ok (.iload_n 2, 1) := by decide +kernel
theorem dX7_number_63 : decode cX7_number 63 = .ok (.bipush 10, 2) := by decide +kernel
theorem dX7_number_65 : decode cX7_number 65 = .ok (.imul, 1) := by decide +kernel
theorem dX7_number_66 : decode cX7_number 66 = .ok (.aload_n 0, 1) := by decide +kernel
theorem dX7_number_67 : decode cX7_number 67 = .ok (.getfield 19, 3) := by decide +kernel
theorem dX7_number_70 : decode cX7_number 70 = .ok (.iload_n 3, 1) := by decide +kernel
theorem dX7_number_71 : decode cX7_number 71 = .ok (.invokevirtual 29, 3) := by decide +kernel
theorem dX7_number_74 : decode cX7_number 74 = .ok (.iadd, 1) := by decide +kernel
theorem dX7_number_75 : decode cX7_number 75 = .ok (.bipush 48, 2) := by decide +kernel
theorem dX7_number_77 : decode cX7_number 77 = .ok (.isub, 1) := by decide +kernel
theorem dX7_number_78 : decode cX7_number 78 = .ok (.istore_n 2, 1) := by decide +kernel
theorem dX7_number_79 : decode cX7_number 79 = .ok (.iinc 3 1, 3) := by decide +kernel
theorem dX7_number_82 : decode cX7_number 82 = .ok (.goto (-34), 3) := by decide +kernel
theorem dX7_number_85 : decode cX7_number 85 = .ok (.iload_n 2, 1) := by decide +kernel
theorem dX7_number_86 : decode cX7_number 86 = .ok (.bipush 99, 2) := by decide +kernel
theorem dX7_number_88 : decode cX7_number 88 = .ok (.if_icmp .gt 7, 3) := by decide +kernel
theorem dX7_number_91 : decode cX7_number 91 = .ok (.iload_n 2, 1) := by decide +kernel
theorem dX7_number_92 : decode cX7_number 92 = .ok (.goto 4, 3) := by decide +kernel
theorem dX7_number_95 : decode cX7_number 95 = .ok (.iconst (-1), 1) := by decide +kernel
theorem dX7_number_96 : decode cX7_number 96 = .ok (.ireturn, 1) := by decide +kernel
set_option maxRecDepth 20000 in
theorem ggX7_passLetters_X6_size : GoodIn wsX7_passLetters wsX6_size := goodIn_r _ [7, 8, 26, 27] (by decide +kernel) (by decide +kernel)
set_option maxRecDepth 20000 in
theorem gX7_passLetters_X6_size : GoodIn wsX7_passLetters (wsV RX7 23 RX6 yX6_size wsX6_size) := goodIn_app (goodIn_of _ (by decide +kernel)) ggX7_passLetters_X6_size
set_option maxRecDepth 20000 in
theorem ggX7_passLetters_X6_byteAt : GoodIn wsX7_passLetters wsX6_byteAt := goodIn_r _ [12, 8, 13, 14, 15, 16, 17, 26, 27] (by decide +kernel) (by decide +kernel)
set_option maxRecDepth 20000 in
theorem gX7_passLetters_X6_byteAt : GoodIn wsX7_passLetters (wsV RX7 29 RX6 yX6_byteAt wsX6_byteAt) := goodIn_app (goodIn_of _ (by decide +kernel)) ggX7_passLetters_X6_byteAt
set_option maxRecDepth 20000 in
theorem ggX7_passLetters_X7_isLetter : GoodIn wsX7_passLetters wsX7_isLetter := goodIn_r _ [21] (by decide +kernel) (by decide +kernel)
set_option maxRecDepth 20000 in
theorem gX7_passLetters_X7_isLetter : GoodIn wsX7_passLetters (va_wsS RX7 33 yX7_isLetter wsX7_isLetter) := goodIn_app (goodIn_of _ (by decide +kernel)) ggX7_passLetters_X7_isLetter
theorem dX7_passLetters_0 : decode cX7_passLetters 0 = .ok (.aload_n 0, 1) := by decide +kernel
theorem dX7_passLetters_1 : decode cX7_passLetters 1 = .ok (.getfield 7, 3) := by decide +kernel
theorem dX7_passLetters_4 : decode cX7_passLetters 4 = .ok (.aload_n 0, 1) := by decide +kernel
theorem dX7_passLetters_5 : decode cX7_passLetters 5 = .ok (.getfield 19, 3) := by decide +kernel
theorem dX7_passLetters_8 : decode cX7_passLetters 8 = .ok (.invokevirtual 23, 3) := by decide +kernel
theorem dX7_passLetters_11 : decode cX7_passLetters 11 = .ok (.if_icmp .ge 33, 3) := by decide +kernel
theorem dX7_passLetters_14 : decode cX7_passLetters 14 = .ok (.aload_n 0, 1) := by decide +kernel
theorem dX7_passLetters_15 : decode cX7_passLetters 15 = .ok (.getfield 19, 3) := by decide +kernel
theorem dX7_passLetters_18 : decode cX7_passLetters 18 = .ok (.aload_n 0, 1) := by decide +kernel
theorem dX7_passLetters_19 : decode cX7_passLetters 19 = .ok (.getfield 7, 3) := by decide +kernel
theorem dX7_passLetters_22 : decode cX7_passLetters 22 = .ok (.invokevirtual 29, 3) := by decide +kernel
theorem dX7_passLetters_25 : decode cX7_passLetters 25 = .ok (.invokestatic 33, 3) := by decide +kernel
theorem dX7_passLetters_28 : decode cX7_passLetters 28 = .ok (.ifCond .eq 16, 3) := by decide +kernel
theorem dX7_passLetters_31 : decode cX7_passLetters 31 = .ok (.aload_n 0, 1) := by decide +kernel
theorem dX7_passLetters_32 : decode cX7_passLetters 32 = .ok (.dup, 1) := by decide +kernel
theorem dX7_passLetters_33 : decode cX7_passLetters 33 = .ok (.getfield 7, 3) := by decide +kernel
theorem dX7_passLetters_36 : decode cX7_passLetters 36 = .ok (.iconst 1, 1) := by decide +kernel
theorem dX7_passLetters_37 : decode cX7_passLetters 37 = .ok (.iadd, 1) := by decide +kernel
theorem dX7_passLetters_38 : decode cX7_passLetters 38 = .ok (.putfield 7, 3) := by decide +kernel
theorem dX7_passLetters_41 : decode cX7_passLetters 41 = .ok (.goto (-41), 3) := by decide +kernel
theorem dX7_passLetters_44 : decode cX7_passLetters 44 = .ok (.return_, 1) := by decide +kernel
set_option maxRecDepth 20000 in
theorem ggX7_passDigits_X6_size : GoodIn wsX7_passDigits wsX6_size := goodIn_r _ [7, 8, 26, 27] (by decide +kernel) (by decide +kernel)
set_option maxRecDepth 20000 in
theorem gX7_passDigits_X6_size : GoodIn wsX7_passDigits (wsV RX7 23 RX6 yX6_size wsX6_size) := goodIn_app (goodIn_of _ (by decide +kernel)) ggX7_passDigits_X6_size
set_option maxRecDepth 20000 in
theorem ggX7_passDigits_X6_byteAt : GoodIn wsX7_passDigits wsX6_byteAt := goodIn_r _ [12, 8, 13, 14, 15, 16, 17, 26, 27] (by decide +kernel) (by decide +kernel)
set_option maxRecDepth 20000 in
theorem gX7_passDigits_X6_byteAt : GoodIn wsX7_passDigits (wsV RX7 29 RX6 yX6_byteAt wsX6_byteAt) := goodIn_app (goodIn_of _ (by decide +kernel)) ggX7_passDigits_X6_byteAt
set_option maxRecDepth 20000 in
theorem ggX7_passDigits_X7_isDigit : GoodIn wsX7_passDigits wsX7_isDigit := goodIn_r _ [21] (by decide +kernel) (by decide +kernel)
set_option maxRecDepth 20000 in
theorem gX7_passDigits_X7_isDigit : GoodIn wsX7_passDigits (va_wsS RX7 40 yX7_isDigit wsX7_isDigit) := goodIn_app (goodIn_of _ (by decide +kernel)) ggX7_passDigits_X7_isDigit
theorem dX7_passDigits_0 : decode cX7_passDigits 0 = .ok (.aload_n 0, 1) := by decide +kernel
theorem dX7_passDigits_1 : decode cX7_passDigits 1 = .ok (.getfield 7, 3) := by decide +kernel
theorem dX7_passDigits_4 : decode cX7_passDigits 4 = .ok (.aload_n 0, 1) := by decide +kernel
theorem dX7_passDigits_5 : decode cX7_passDigits 5 = .ok (.getfield 19, 3) := by decide +kernel
theorem dX7_passDigits_8 : decode cX7_passDigits 8 = .ok (.invokevirtual 23, 3) := by decide +kernel
theorem dX7_passDigits_11 : decode cX7_passDigits 11 = .ok (.if_icmp .ge 33, 3) := by decide +kernel
theorem dX7_passDigits_14 : decode cX7_passDigits 14 = .ok (.aload_n 0, 1) := by decide +kernel
theorem dX7_passDigits_15 : decode cX7_passDigits 15 = .ok (.getfield 19, 3) := by decide +kernel
theorem dX7_passDigits_18 : decode cX7_passDigits 18 = .ok (.aload_n 0, 1) := by decide +kernel
theorem dX7_passDigits_19 : decode cX7_passDigits 19 = .ok (.getfield 7, 3) := by decide +kernel
theorem dX7_passDigits_22 : decode cX7_passDigits 22 = .ok (.invokevirtual 29, 3) := by decide +kernel
theorem dX7_passDigits_25 : decode cX7_passDigits 25 = .ok (.invokestatic 40, 3) := by decide +kernel
theorem dX7_passDigits_28 : decode cX7_passDigits 28 = .ok (.ifCond .eq 16, 3) := by decide +kernel
theorem dX7_passDigits_31 : decode cX7_passDigits 31 = .ok (.aload_n 0, 1) := by decide +kernel
theorem dX7_passDigits_32 : decode cX7_passDigits 32 = .ok (.dup, 1) := by decide +kernel
theorem dX7_passDigits_33 : decode cX7_passDigits 33 = .ok (.getfield 7, 3) := by decide +kernel
theorem dX7_passDigits_36 : decode cX7_passDigits 36 = .ok (.iconst 1, 1) := by decide +kernel
theorem dX7_passDigits_37 : decode cX7_passDigits 37 = .ok (.iadd, 1) := by decide +kernel
theorem dX7_passDigits_38 : decode cX7_passDigits 38 = .ok (.putfield 7, 3) := by decide +kernel
theorem dX7_passDigits_41 : decode cX7_passDigits 41 = .ok (.goto (-41), 3) := by decide +kernel
theorem dX7_passDigits_44 : decode cX7_passDigits 44 = .ok (.return_, 1) := by decide +kernel
theorem dX7_isLetter_0 : decode cX7_isLetter 0 = .ok (.iload_n 0, 1) := by decide +kernel
theorem dX7_isLetter_1 : decode cX7_isLetter 1 = .ok (.bipush 97, 2) := by decide +kernel
theorem dX7_isLetter_3 : decode cX7_isLetter 3 = .ok (.if_icmp .lt 13, 3) := by decide +kernel
theorem dX7_isLetter_6 : decode cX7_isLetter 6 = .ok (.iload_n 0, 1) := by decide +kernel
theorem dX7_isLetter_7 : decode cX7_isLetter 7 = .ok (.bipush 122, 2) := by decide +kernel
theorem dX7_isLetter_9 : decode cX7_isLetter 9 = .ok (.if_icmp .gt 7, 3) := by decide +kernel
theorem dX7_isLetter_12 : decode cX7_isLetter 12 = .ok (.iconst 1, 1) := by decide +kernel
theorem dX7_isLetter_13 : decode cX7_isLetter 13 = .ok (.goto 4, 3) := by decide +kernel
theorem dX7_isLetter_16 : decode cX7_isLetter 16 = .ok (.iconst 0, 1) := by decide +kernel
theorem dX7_isLetter_17 : decode cX7_isLetter 17 = .ok (.ireturn, 1) := by decide +kernel
theorem dX7_isDigit_0 : decode cX7_isDigit 0 = .ok (.iload_n 0, 1) := by decide +kernel
theorem dX7_isDigit_1 : decode cX7_isDigit 1 = .ok (.bipush 48, 2) := by decide +kernel
theorem dX7_isDigit_3 : decode cX7_isDigit 3 = .ok (.if_icmp .lt 13, 3) := by decide +kernel
theorem dX7_isDigit_6 : decode cX7_isDigit 6 = .ok (.iload_n 0, 1) := by decide +kernel
theorem dX7_isDigit_7 : decode cX7_isDigit 7 = .ok (.bipush 57, 2) := by decide +kernel
theorem dX7_isDigit_9 : decode cX7_isDigit 9 = .ok (.if_icmp .gt 7, 3) := by decide +kernel
theorem dX7_isDigit_12 : decode cX7_isDigit 12 = .ok (.iconst 1, 1) := by decide +kernel
theorem dX7_isDigit_13 : decode cX7_isDigit 13 = .ok (.goto 4, 3) := by decide +kernel
theorem dX7_isDigit_16 : decode cX7_isDigit 16 = .ok (.iconst 0, 1) := by decide +kernel
theorem dX7_isDigit_17 : decode cX7_isDigit 17 = .ok (.ireturn, 1) := by decide +kernel
theorem dX7_isMark_0 : decode cX7_isMark 0 = .ok (.iload_n 0, 1) := by decide +kernel
theorem dX7_isMark_1 : decode cX7_isMark 1 = .ok (.bipush 59, 2) := by decide +kernel
theorem dX7_isMark_3 : decode cX7_isMark 3 = .ok (.if_icmp .eq 27, 3) := by decide +kernel
theorem dX7_isMark_6 : decode cX7_isMark 6 = .ok (.iload_n 0, 1) := by decide +kernel
theorem dX7_isMark_7 : decode cX7_isMark 7 = .ok (.bipush 124, 2) := by decide +kernel
theorem dX7_isMark_9 : decode cX7_isMark 9 = .ok (.if_icmp .eq 21, 3) := by decide +kernel
theorem dX7_isMark_12 : decode cX7_isMark 12 = .ok (.iload_n 0, 1) := by decide +kernel
theorem dX7_isMark_13 : decode cX7_isMark 13 = .ok (.bipush 38, 2) := by decide +kernel
theorem dX7_isMark_15 : decode cX7_isMark 15 = .ok (.if_icmp .eq 15, 3) := by decide +kernel
theorem dX7_isMark_18 : decode cX7_isMark 18 = .ok (.iload_n 0, 1) := by decide +kernel
theorem dX7_isMark_19 : decode cX7_isMark 19 = .ok (.bipush 40, 2) := by decide +kernel
theorem dX7_isMark_21 : decode cX7_isMark 21 = .ok (.if_icmp .eq 9, 3) := by decide +kernel
theorem dX7_isMark_24 : decode cX7_isMark 24 = .ok (.iload_n 0, 1) := by decide +kernel
theorem dX7_isMark_25 : decode cX7_isMark 25 = .ok (.bipush 41, 2) := by decide +kernel
theorem dX7_isMark_27 : decode cX7_isMark 27 = .ok (.if_icmp .ne 7, 3) := by decide +kernel
theorem dX7_isMark_30 : decode cX7_isMark 30 = .ok (.iconst 1, 1) := by decide +kernel
theorem dX7_isMark_31 : decode cX7_isMark 31 = .ok (.goto 4, 3) := by decide +kernel
theorem dX7_isMark_34 : decode cX7_isMark 34 = .ok (.iconst 0, 1) := by decide +kernel
theorem dX7_isMark_35 : decode cX7_isMark 35 = .ok (.ireturn, 1) := by decide +kernel
theorem dX8_init_0 : decode cX8_init 0 = .ok (.aload_n 0, 1) := by decide +kernel
theorem dX8_init_1 : decode cX8_init 1 = .ok (.invokespecial 1, 3) := by decide +kernel
theorem dX8_init_4 : decode cX8_init 4 = .ok (.aload_n 0, 1) := by decide +kernel
theorem dX8_init_5 : decode cX8_init 5 = .ok (.iconst 3, 1) := by decide +kernel
theorem dX8_init_6 : decode cX8_init 6 = .ok (.newarray .int, 2) := by decide +kernel
theorem dX8_init_8 : decode cX8_init 8 = .ok (.putfield 9, 3) := by decide +kernel
theorem dX8_init_11 : decode cX8_init 11 = .ok (.aload_n 0, 1) := by decide +kernel
theorem dX8_init_12 : decode cX8_init 12 = .ok (.bipush 30, 2) := by decide +kernel
theorem dX8_init_14 : decode cX8_init 14 = .ok (.newarray .int, 2) := by decide +kernel
theorem dX8_init_16 : decode cX8_init 16 = .ok (.putfield 13, 3) := by decide +kernel
theorem dX8_init_19 : decode cX8_init 19 = .ok (.aload_n 0, 1) := by decide +kernel
theorem dX8_init_20 : decode cX8_init 20 = .ok (.iconst 0, 1) := by decide +kernel
theorem dX8_init_21 : decode cX8_init 21 = .ok (.putfield 16, 3) := by decide +kernel
theorem dX8_init_24 : decode cX8_init 24 = .ok (.aload_n 0, 1) := by decide +kernel
theorem dX8_init_25 : decode cX8_init 25 = .ok (.iconst 1, 1) := by decide +kernel
theorem dX8_init_26 : decode cX8_init 26 = .ok (.putfield 20, 3) := by decide +kernel
theorem dX8_init_29 : decode cX8_init 29 = .ok (.return_, 1) := by decide +kernel
theorem dX8_begin_0 : decode cX8_begin 0 = .ok (.aload_n 0, 1) := by decide +kernel
theorem dX8_begin_1 : decode cX8_begin 1 = .ok (.iconst 0, 1) := by decide +kernel
theorem dX8_begin_2 : decode cX8_begin 2 = .ok (.putfield 16, 3) := by decide +kernel
theorem dX8_begin_5 : decode cX8_begin 5 = .ok (.aload_n 0, 1) := by decide +kernel
theorem dX8_begin_6 : decode cX8_begin 6 = .ok (.iconst 1, 1) := by decide +kernel
theorem dX8_begin_7 : decode cX8_begin 7 = .ok (.putfield 20, 3) := by decide +kernel
theorem dX8_begin_10 : decode cX8_begin 10 = .ok (.return_, 1) := by decide +kernel
set_option maxRecDepth 20000 in
theorem ggX8_addChoice_X4_put : GoodIn wsX8_addChoice wsX4_put := goodIn_r _ [7] (by decide +kernel) (by decide +kernel)
set_option maxRecDepth 20000 in
theorem gX8_addChoice_X4_put : GoodIn wsX8_addChoice (va_wsS RX8 23 yX4_put wsX4_put) := goodIn_app (goodIn_of _ (by decide +kernel)) ggX8_addChoice_X4_put
theorem dX8_addChoice_0 : decode cX8_addChoice 0 = .ok (.aload_n 0, 1) := by decide +kernel
theorem dX8_addChoice_1 : decode cX8_addChoice 1 = .ok (.getfield 9, 3) := by decide +kernel
theorem dX8_addChoice_4 : decode cX8_addChoice 4 = .ok (.aload_n 0, 1) := by decide +kernel
theorem dX8_addChoice_5 : decode cX8_addChoice 5 = .ok (.getfield 16, 3) := by decide +kernel
theorem dX8_addChoice_8 : decode cX8_addChoice 8 = .ok (.iload_n 1, 1) := by decide +kernel
theorem dX8_addChoice_9 : decode cX8_addChoice 9 = .ok (.invokestatic 23, 3) := by decide +kernel
theorem dX8_addChoice_12 : decode cX8_addChoice 12 = .ok (.aload_n 0, 1) := by decide +kernel
theorem dX8_addChoice_13 : decode cX8_addChoice 13 = .ok (.dup, 1) := by decide +kernel
theorem dX8_addChoice_14 : decode cX8_addChoice 14 = .ok (.getfield 16, 3) := by decide +kernel
theorem dX8_addChoice_17 : decode cX8_addChoice 17 = .ok (.iconst 1, 1) := by decide +kernel
theorem dX8_addChoice_18 : decode cX8_addChoice 18 = .ok (.iadd, 1) := by decide +kernel
theorem dX8_addChoice_19 : decode cX8_addChoice 19 = .ok (.putfield 16, 3) := by decide +kernel
theorem dX8_addChoice_22 : decode cX8_addChoice 22 = .ok (.aload_n 0, 1) := by decide +kernel
theorem dX8_addChoice_23 : decode cX8_addChoice 23 = .ok (.dup, 1) := by decide +kernel
theorem dX8_addChoice_24 : decode cX8_addChoice 24 = .ok (.getfield 20, 3) := by decide +kernel
theorem dX8_addChoice_27 : decode cX8_addChoice 27 = .ok (.iload_n 1, 1) := by decide +kernel
theorem dX8_addChoice_28 : decode cX8_addChoice 28 = .ok (.imul, 1) := by decide +kernel
theorem dX8_addChoice_29 : decode cX8_addChoice 29 = .ok (.putfield 20, 3) := by decide +kernel
theorem dX8_addChoice_32 : decode cX8_addChoice 32 = .ok (.return_, 1) := by decide +kernel
set_option maxRecDepth 20000 in
theorem ggX8_layOut_X8_layOutChoice : GoodIn wsX8_layOut wsX8_layOutChoice := goodIn_r _ [6, 7, 8, 9, 10, 11, 5, 12, 13, 14, 15, 16, 17, 1, 18, 19, 20, 21, 22, 23, 24, 25, 26, 27, 28] (by decide +kernel) (by decide +kernel)
set_option maxRecDepth 20000 in
theorem gX8_layOut_X8_layOutChoice : GoodIn wsX8_layOut (wsV RX8 29 RX8 yX8_layOutChoice wsX8_layOutChoice) := goodIn_app (goodIn_of _ (by decide +kernel)) ggX8_layOut_X8_layOutChoice
set_option maxRecDepth 20000 in
theorem ggX8_layOut_X8_valuesOf : GoodIn wsX8_layOut wsX8_valuesOf := goodIn_r _ [12, 13, 14, 15, 16, 5, 17, 1, 18, 19, 20, 21, 25, 26, 27, 28] (by decide +kernel) (by decide +kernel)
set_option maxRecDepth 20000 in
theorem gX8_layOut_X8_valuesOf : GoodIn wsX8_layOut (wsV RX8 33 RX8 yX8_valuesOf wsX8_valuesOf) := goodIn_app (goodIn_of _ (by decide +kernel)) ggX8_layOut_X8_valuesOf
theorem dX8_layOut_0 : decode cX8_layOut 0 = .ok (.iconst 1, 1) := by decide +kernel
theorem dX8_layOut_1 : decode cX8_layOut 1 = .ok (.istore_n 1, 1) := by decide +kernel
theorem dX8_layOut_2 : decode cX8_layOut 2 = .ok (.iconst 0, 1) := by decide +kernel
theorem dX8_layOut_3 : decode cX8_layOut 3 = .ok (.istore_n 2, 1) := by decide +kernel
theorem dX8_layOut_4 : decode cX8_layOut 4 = .ok (.iload_n 2, 1) := by decide +kernel
theorem dX8_layOut_5 : decode cX8_layOut 5 = .ok (.aload_n 0, 1) := by decide +kernel
theorem dX8_layOut_6 : decode cX8_layOut 6 = .ok (.getfield 16, 3) := by decide +kernel
theorem dX8_layOut_9 : decode cX8_layOut 9 = .ok (.if_icmp .ge 23, 3) := by decide +kernel
theorem dX8_layOut_12 : decode cX8_layOut 12 = .ok (.aload_n 0, 1) := by decide +kernel
theorem dX8_layOut_13 : decode cX8_layOut 13 = .ok (.iload_n 2, 1) := by decide +kernel
theorem dX8_layOut_14 : decode cX8_layOut 14 = .ok (.iload_n 1, 1) := by decide +kernel
theorem dX8_layOut_15 : decode cX8_layOut 15 = .ok (.invokevirtual 29, 3) := by decide +kernel
theorem dX8_layOut_18 : decode cX8_layOut 18 = .ok (.iload_n 1, 1) := by decide +kernel
theorem dX8_layOut_19 : decode cX8_layOut 19 = .ok (.aload_n 0, 1) := by decide +kernel
theorem dX8_layOut_20 : decode cX8_layOut 20 = .ok (.iload_n 2, 1) := by decide +kernel
theorem dX8_layOut_21 : decode cX8_layOut 21 = .ok (.invokevirtual 33, 3) := by decide +kernel
theorem dX8_layOut_24 : decode cX8_layOut 24 = .ok (.imul, 1) := by decide +kernel
theorem dX8_layOut_25 : decode cX8_layOut 25 = .ok (.istore_n 1, 1) := by decide +kernel
theorem dX8_layOut_26 : decode cX8_layOut 26 = .ok (.iinc 2 1, 3) := by decide +kernel
theorem dX8_layOut_29 : decode cX8_layOut 29 = .ok (.goto (-25), 3) := by decide +kernel
theorem dX8_layOut_32 : decode cX8_layOut 32 = .ok (.return_, 1) := by decide +kernel
set_option maxRecDepth 20000 in
theorem ggX8_layOutChoice_X8_valuesOf : GoodIn wsX8_layOutChoice wsX8_valuesOf := goodIn_r _ [7, 8, 9, 10, 11, 6, 12, 13, 14, 15, 16, 17, 21, 22, 23, 24] (by decide +kernel) (by decide +kernel)
set_option maxRecDepth 20000 in
theorem gX8_layOutChoice_X8_valuesOf : GoodIn wsX8_layOutChoice (wsV RX8 33 RX8 yX8_valuesOf wsX8_valuesOf) := goodIn_app (goodIn_of _ (by decide +kernel)) ggX8_layOutChoice_X8_valuesOf
set_option maxRecDepth 20000 in
theorem ggX8_layOutChoice_X4_put : GoodIn wsX8_layOutChoice wsX4_put := goodIn_r _ [20] (by decide +kernel) (by decide +kernel)
set_option maxRecDepth 20000 in
theorem gX8_layOutChoice_X4_put : GoodIn wsX8_layOutChoice (va_wsS RX8 23 yX4_put wsX4_put) := goodIn_app (goodIn_of _ (by decide +kernel)) ggX8_layOutChoice_X4_put
set_option maxRecDepth 20000 in
theorem ggX8_layOutChoice_X4_at : GoodIn wsX8_layOutChoice wsX4_at := goodIn_r _ [17] (by decide +kernel) (by decide +kernel)
set_option maxRecDepth 20000 in
theorem gX8_layOutChoice_X4_at : GoodIn wsX8_layOutChoice (va_wsS RX8 37 yX4_at wsX4_at) := goodIn_app (goodIn_of _ (by decide +kernel)) ggX8_layOutChoice_X4_at
theorem dX8_layOutChoice_0 : decode cX8_layOutChoice 0 = .ok (.iconst 0, 1) := by decide +kernel
theorem dX8_layOutChoice_1 : decode cX8_layOutChoice 1 = .ok (.istore_n 3, 1) := by decide +kernel
theorem dX8_layOutChoice_2 : decode cX8_layOutChoice 2 = .ok (.iload_n 3, 1) := by decide +kernel
theorem dX8_layOutChoice_3 : decode cX8_layOutChoice 3 = .ok (.aload_n 0, 1) := by decide +kernel
theorem dX8_layOutChoice_4 : decode cX8_layOutChoice 4 = .ok (.iload_n 1, 1) := by decide +kernel
theorem dX8_layOutChoice_5 : decode cX8_layOutChoice 5 = .ok (.invokevirtual 33, 3) := by decide +kernel
theorem dX8_layOutChoice_8 : decode cX8_layOutChoice 8 = .ok (.if_icmp .ge 23, 3) := by decide +kernel
theorem dX8_layOutChoice_11 : decode cX8_layOutChoice 11 = .ok (.aload_n 0, 1) := by decide +kernel
theorem dX8_layOutChoice_12 : decode cX8_layOutChoice 12 = .ok (.getfield 13, 3) := by decide +kernel
theorem dX8_layOutChoice_15 : decode cX8_layOutChoice 15 = .ok (.bipush 10, 2) := by decide +kernel
theorem dX8_layOutChoice_17 : decode cX8_layOutChoice 17 = .ok (.iload_n 1, 1) := by decide +kernel
theorem dX8_layOutChoice_18 : decode cX8_layOutChoice 18 = .ok (.imul, 1) := by decide +kernel
theorem dX8_layOutChoice_19 : decode cX8_layOutChoice 19 = .ok (.iload_n 3, 1) := by decide +kernel
theorem dX8_layOutChoice_20 : decode cX8_layOutChoice 20 = .ok (.iadd, 1) := by decide +kernel
theorem dX8_layOutChoice_21 : decode cX8_layOutChoice 21 = .ok (.iconst 0, 1) := by decide +kernel
theorem dX8_layOutChoice_22 : decode cX8_layOutChoice 22 = .ok (.invokestatic 23, 3) := by decide +kernel
theorem dX8_layOutChoice_25 : decode cX8_layOutChoice 25 = .ok (.iinc 3 1, 3) := by decide +kernel
theorem dX8_layOutChoice_28 : decode cX8_layOutChoice 28 = .ok (.goto (-26), 3) := by decide +kernel
theorem dX8_layOutChoice_31 : decode cX8_layOutChoice 31 = .ok (.iconst 0, 1) := by decide +kernel
theorem dX8_layOutChoice_32 : decode cX8_layOutChoice 32 = .ok (.istore_n 3, 1) := by decide +kernel
theorem dX8_layOutChoice_33 : decode cX8_layOutChoice 33 = .ok (.iconst 0, 1) := by decide +kernel
theorem dX8_layOutChoice_34 : decode cX8_layOutChoice 34 = .ok (.istore 4, 2) := by decide +kernel
theorem dX8_layOutChoice_36 : decode cX8_layOutChoice 36 = .ok (.iconst 0, 1) := by decide +kernel
theorem dX8_layOutChoice_37 : decode cX8_layOutChoice 37 = .ok (.istore 5, 2) := by decide +kernel
theorem dX8_layOutChoice_39 : decode cX8_layOutChoice 39 = .ok (.iload 5, 2) := by decide +kernel
theorem dX8_layOutChoice_41 : decode cX8_layOutChoice 41 = .ok (.aload_n 0, 1) := by decide +kernel
theorem dX8_layOutChoice_42 : decode cX8_layOutChoice 42 = .ok (.getfield 20, 3) := by decide +kernel
theorem dX8_layOutChoice_45 : decode cX8_layOutChoice 45 = .ok (.if_icmp .ge 71, 3) := by decide +kernel
theorem dX8_layOutChoice_48 : decode cX8_layOutChoice 48 = .ok (.bipush 10, 2) := by decide +kernel
theorem dX8_layOutChoice_50 : decode cX8_layOutChoice 50 = .ok (.iload_n 1, 1) := by decide +kernel
theorem dX8_layOutChoice_51 : decode cX8_layOutChoice 51 = .ok (.imul, 1) := by decide +kernel
theorem dX8_layOutChoice_52 : decode cX8_layOutChoice 52 = .ok (.iload_n 3, 1) := by decide +kernel
theorem dX8_layOutChoice_53 : decode cX8_layOutChoice 53 = .ok (.iadd, 1) := by decide +kernel
theorem dX8_layOutChoice_54 : decode cX8_layOutChoice 54 = .ok (.istore 6, 2) := by decide +kernel
theorem dX8_layOutChoice_56 : decode cX8_layOutChoice 56 = .ok (.aload_n 0, 1) := by decide +kernel
theorem dX8_layOutChoice_57 : decode cX8_layOutChoice 57 = .ok (.getfield 13, 3) := by decide +kernel
theorem dX8_layOutChoice_60 : decode cX8_layOutChoice 60 = .ok (.iload 6, 2) := by decide +kernel
theorem dX8_layOutChoice_62 : decode cX8_layOutChoice 62 = .ok (.aload_n 0, 1) := by decide +kernel
theorem dX8_layOutChoice_63 : decode cX8_layOutChoice 63 = .ok (.getfield 13, 3) := by decide +kernel
theorem dX8_layOutChoice_66 : decode cX8_layOutChoice 66 = .ok (.iload 6, 2) := by decide +kernel
theorem dX8_layOutChoice_68 : decode cX8_layOutChoice 68 = .ok (.invokestatic 37, 3) := by decide +kernel
theorem dX8_layOutChoice_71 : decode cX8_layOutChoice 71 = .ok (.iconst 1, 1) := by decide +kernel
theorem dX8_layOutChoice_72 : decode cX8_layOutChoice 72 = .ok (.iload 5, 2) := by decide +kernel
theorem dX8_layOutChoice_74 : decode cX8_layOutChoice 74 = .ok (.ishl, 1) := by decide +kernel
theorem dX8_layOutChoice_75 : decode cX8_layOutChoice 75 = .ok (.ior, 1) := by decide +kernel
theorem dX8_layOutChoice_76 : decode cX8_layOutChoice 76 = .ok (.invokestatic 23, 3) := by decide +kernel
theorem dX8_layOutChoice_79 : decode cX8_layOutChoice 79 = .ok (.iinc 4 1, 3) := by decide +kernel
theorem dX8_layOutChoice_82 : decode cX8_layOutChoice 82 = .ok (.iload 4, 2) := by decide +kernel
theorem dX8_layOutChoice_84 : decode cX8_layOutChoice 84 = .ok (.iload_n 2, 1) := by decide +kernel
theorem dX8_layOutChoice_85 : decode cX8_layOutChoice 85 = .ok (.if_icmp .ne 25, 3) := by decide +kernel
theorem dX8_layOutChoice_88 : decode cX8_layOutChoice 88 = .ok (.iconst 0, 1) := by decide +kernel
theorem dX8_layOutChoice_89 : decode cX8_layOutChoice 89 = .ok (.istore 4, 2) := by decide +kernel
theorem dX8_layOutChoice_91 : decode cX8_layOutChoice 91 = .ok (.iload_n 3, 1) := by decide +kernel
theorem dX8_layOutChoice_92 : decode cX8_layOutChoice 92 = .ok (.iconst 1, 1) := by decide +kernel
theorem dX8_layOutChoice_93 : decode cX8_layOutChoice 93 = .ok (.iadd, 1) := by decide +kernel
theorem dX8_layOutChoice_94 : decode cX8_layOutChoice 94 = .ok (.aload_n 0, 1) := by decide +kernel
theorem dX8_layOutChoice_95 : decode cX8_layOutChoice 95 = .ok (.iload_n 1, 1) := by decide +kernel
theorem dX8_layOutChoice_96 : decode cX8_layOutChoice 96 = .ok (.invokevirtual 33, 3) := by decide +kernel
theorem dX8_layOutChoice_99 : decode cX8_layOutChoice 99 = .ok (.if_icmp .ge 9, 3) := by decide +kernel
theorem dX8_layOutChoice_102 : decode cX8_layOutChoice 102 = .ok (.iload_n 3, 1) := by decide +kernel
theorem dX8_layOutChoice_103 : decode cX8_layOutChoice 103 = .ok (.iconst 1, 1) := by decide +kernel
theorem dX8_layOutChoice_104 : decode cX8_layOutChoice 104 = .ok (.iadd, 1) := by decide +kernel
theorem dX8_layOutChoice_105 : decode cX8_layOutChoice 105 = .ok (.goto 4, 3) := by decide +kernel
theorem dX8_layOutChoice_108 : decode cX8_layOutChoice 108 = .ok (.iconst 0, 1) := by decide +kernel
theorem dX8_layOutChoice_109 : decode cX8_layOutChoice 109 = .ok (.istore_n 3, 1) := by decide +kernel
theorem dX8_layOutChoice_110 : decode cX8_layOutChoice 110 = .ok (.iinc 5 1, 3) := by decide +kernel
theorem dX8_layOutChoice_113 : decode cX8_layOutChoice 113 = .ok (.goto (-74), 3) := by decide +kernel
theorem dX8_layOutChoice_116 : decode cX8_layOutChoice 116 = .ok (.return_, 1) := by decide +kernel
