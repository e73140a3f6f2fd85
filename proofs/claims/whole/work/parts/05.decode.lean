theorem dX8_choices_0 : decode cX8_choices 0 = .ok (.aload_n 0, 1) := by decide +kernel
theorem dX8_choices_1 : decode cX8_choices 1 = .ok (.getfield 16, 3) := by decide +kernel
theorem dX8_choices_4 : decode cX8_choices 4 = .ok (.ireturn, 1) := by decide +kernel
theorem dX8_worlds_0 : decode cX8_worlds 0 = .ok (.aload_n 0, 1) := by decide +kernel
theorem dX8_worlds_1 : decode cX8_worlds 1 = .ok (.getfield 20, 3) := by decide +kernel
theorem dX8_worlds_4 : decode cX8_worlds 4 = .ok (.ireturn, 1) := by decide +kernel
theorem dX8_all_0 : decode cX8_all 0 = .ok (.iconst 1, 1) := by decide +kernel
theorem dX8_all_1 : decode cX8_all 1 = .ok (.aload_n 0, 1) := by decide +kernel
theorem dX8_all_2 : decode cX8_all 2 = .ok (.getfield 20, 3) := by decide +kernel
theorem dX8_all_5 : decode cX8_all 5 = .ok (.ishl, 1) := by decide +kernel
theorem dX8_all_6 : decode cX8_all 6 = .ok (.iconst 1, 1) := by decide +kernel
theorem dX8_all_7 : decode cX8_all 7 = .ok (.isub, 1) := by decide +kernel
theorem dX8_all_8 : decode cX8_all 8 = .ok (.ireturn, 1) := by decide +kernel
set_option maxRecDepth 20000 in
theorem ggX8_others_X8_all : GoodIn wsX8_others wsX8_all := goodIn_r _ [5, 6, 7, 8, 9, 10] (by decide +kernel) (by decide +kernel)
set_option maxRecDepth 20000 in
theorem gX8_others_X8_all : GoodIn wsX8_others (wsV RX8 41 RX8 yX8_all wsX8_all) := goodIn_app (goodIn_of _ (by decide +kernel)) ggX8_others_X8_all
theorem dX8_others_0 : decode cX8_others 0 = .ok (.aload_n 0, 1) := by decide +kernel
theorem dX8_others_1 : decode cX8_others 1 = .ok (.invokevirtual 41, 3) := by decide +kernel
theorem dX8_others_4 : decode cX8_others 4 = .ok (.iload_n 1, 1) := by decide +kernel
theorem dX8_others_5 : decode cX8_others 5 = .ok (.iconst (-1), 1) := by decide +kernel
theorem dX8_others_6 : decode cX8_others 6 = .ok (.ixor, 1) := by decide +kernel
theorem dX8_others_7 : decode cX8_others 7 = .ok (.iand, 1) := by decide +kernel
theorem dX8_others_8 : decode cX8_others 8 = .ok (.ireturn, 1) := by decide +kernel
set_option maxRecDepth 20000 in
theorem ggX8_isSet_X8_all : GoodIn wsX8_isSet wsX8_all := goodIn_r _ [5, 6, 7, 8, 9, 10] (by decide +kernel) (by decide +kernel)
set_option maxRecDepth 20000 in
theorem gX8_isSet_X8_all : GoodIn wsX8_isSet (wsV RX8 41 RX8 yX8_all wsX8_all) := goodIn_app (goodIn_of _ (by decide +kernel)) ggX8_isSet_X8_all
theorem dX8_isSet_0 : decode cX8_isSet 0 = .ok (.iload_n 1, 1) := by decide +kernel
theorem dX8_isSet_1 : decode cX8_isSet 1 = .ok (.ifCond .lt 15, 3) := by decide +kernel
theorem dX8_isSet_4 : decode cX8_isSet 4 = .ok (.iload_n 1, 1) := by decide +kernel
theorem dX8_isSet_5 : decode cX8_isSet 5 = .ok (.aload_n 0, 1) := by decide +kernel
theorem dX8_isSet_6 : decode cX8_isSet 6 = .ok (.invokevirtual 41, 3) := by decide +kernel
theorem dX8_isSet_9 : decode cX8_isSet 9 = .ok (.if_icmp .gt 7, 3) := by decide +kernel
theorem dX8_isSet_12 : decode cX8_isSet 12 = .ok (.iconst 1, 1) := by decide +kernel
theorem dX8_isSet_13 : decode cX8_isSet 13 = .ok (.goto 4, 3) := by decide +kernel
theorem dX8_isSet_16 : decode cX8_isSet 16 = .ok (.iconst 0, 1) := by decide +kernel
theorem dX8_isSet_17 : decode cX8_isSet 17 = .ok (.ireturn, 1) := by decide +kernel
theorem dX8_isWorld_0 : decode cX8_isWorld 0 = .ok (.iload_n 1, 1) := by decide +kernel
theorem dX8_isWorld_1 : decode cX8_isWorld 1 = .ok (.ifCond .lt 15, 3) := by decide +kernel
theorem dX8_isWorld_4 : decode cX8_isWorld 4 = .ok (.iload_n 1, 1) := by decide +kernel
theorem dX8_isWorld_5 : decode cX8_isWorld 5 = .ok (.aload_n 0, 1) := by decide +kernel
theorem dX8_isWorld_6 : decode cX8_isWorld 6 = .ok (.getfield 20, 3) := by decide +kernel
theorem dX8_isWorld_9 : decode cX8_isWorld 9 = .ok (.if_icmp .ge 7, 3) := by decide +kernel
theorem dX8_isWorld_12 : decode cX8_isWorld 12 = .ok (.iconst 1, 1) := by decide +kernel
theorem dX8_isWorld_13 : decode cX8_isWorld 13 = .ok (.goto 4, 3) := by decide +kernel
theorem dX8_isWorld_16 : decode cX8_isWorld 16 = .ok (.iconst 0, 1) := by decide +kernel
theorem dX8_isWorld_17 : decode cX8_isWorld 17 = .ok (.ireturn, 1) := by decide +kernel
theorem dX8_isChoice_0 : decode cX8_isChoice 0 = .ok (.iload_n 1, 1) := by decide +kernel
theorem dX8_isChoice_1 : decode cX8_isChoice 1 = .ok (.ifCond .lt 15, 3) := by decide +kernel
theorem dX8_isChoice_4 : decode cX8_isChoice 4 = .ok (.iload_n 1, 1) := by decide +kernel
theorem dX8_isChoice_5 : decode cX8_isChoice 5 = .ok (.aload_n 0, 1) := by decide +kernel
theorem dX8_isChoice_6 : decode cX8_isChoice 6 = .ok (.getfield 16, 3) := by decide +kernel
theorem dX8_isChoice_9 : decode cX8_isChoice 9 = .ok (.if_icmp .ge 7, 3) := by decide +kernel
theorem dX8_isChoice_12 : decode cX8_isChoice 12 = .ok (.iconst 1, 1) := by decide +kernel
theorem dX8_isChoice_13 : decode cX8_isChoice 13 = .ok (.goto 4, 3) := by decide +kernel
theorem dX8_isChoice_16 : decode cX8_isChoice 16 = .ok (.iconst 0, 1) := by decide +kernel
theorem dX8_isChoice_17 : decode cX8_isChoice 17 = .ok (.ireturn, 1) := by decide +kernel
set_option maxRecDepth 20000 in
theorem ggX8_valuesOf_X8_isChoice : GoodIn wsX8_valuesOf wsX8_isChoice := goodIn_r _ [6, 7, 12, 13, 14, 15] (by decide +kernel) (by decide +kernel)
set_option maxRecDepth 20000 in
theorem gX8_valuesOf_X8_isChoice : GoodIn wsX8_valuesOf (wsV RX8 45 RX8 yX8_isChoice wsX8_isChoice) := goodIn_app (goodIn_of _ (by decide +kernel)) ggX8_valuesOf_X8_isChoice
set_option maxRecDepth 20000 in
theorem ggX8_valuesOf_X4_at : GoodIn wsX8_valuesOf wsX4_at := goodIn_r _ [11] (by decide +kernel) (by decide +kernel)
set_option maxRecDepth 20000 in
theorem gX8_valuesOf_X4_at : GoodIn wsX8_valuesOf (va_wsS RX8 37 yX4_at wsX4_at) := goodIn_app (goodIn_of _ (by decide +kernel)) ggX8_valuesOf_X4_at
theorem dX8_valuesOf_0 : decode cX8_valuesOf 0 = .ok (.aload_n 0, 1) := by decide +kernel
theorem dX8_valuesOf_1 : decode cX8_valuesOf 1 = .ok (.iload_n 1, 1) := by decide +kernel
theorem dX8_valuesOf_2 : decode cX8_valuesOf 2 = .ok (.invokevirtual 45, 3) := by decide +kernel
theorem dX8_valuesOf_5 : decode cX8_valuesOf 5 = .ok (.ifCond .eq 14, 3) := by decide +kernel
theorem dX8_valuesOf_8 : decode cX8_valuesOf 8 = .ok (.aload_n 0, 1) := by decide +kernel
theorem dX8_valuesOf_9 : decode cX8_valuesOf 9 = .ok (.getfield 9, 3) := by decide +kernel
theorem dX8_valuesOf_12 : decode cX8_valuesOf 12 = .ok (.iload_n 1, 1) := by decide +kernel
theorem dX8_valuesOf_13 : decode cX8_valuesOf 13 = .ok (.invokestatic 37, 3) := by decide +kernel
theorem dX8_valuesOf_16 : decode cX8_valuesOf 16 = .ok (.goto 4, 3) := by decide +kernel
theorem dX8_valuesOf_19 : decode cX8_valuesOf 19 = .ok (.iconst 0, 1) := by decide +kernel
theorem dX8_valuesOf_20 : decode cX8_valuesOf 20 = .ok (.ireturn, 1) := by decide +kernel
set_option maxRecDepth 20000 in
theorem ggX8_leftBy_X4_at : GoodIn wsX8_leftBy wsX4_at := goodIn_r _ [5] (by decide +kernel) (by decide +kernel)
set_option maxRecDepth 20000 in
theorem gX8_leftBy_X4_at : GoodIn wsX8_leftBy (va_wsS RX8 37 yX4_at wsX4_at) := goodIn_app (goodIn_of _ (by decide +kernel)) ggX8_leftBy_X4_at
theorem dX8_leftBy_0 : decode cX8_leftBy 0 = .ok (.aload_n 0, 1) := by decide +kernel
theorem dX8_leftBy_1 : decode cX8_leftBy 1 = .ok (.getfield 13, 3) := by decide +kernel
theorem dX8_leftBy_4 : decode cX8_leftBy 4 = .ok (.bipush 10, 2) := by decide +kernel
theorem dX8_leftBy_6 : decode cX8_leftBy 6 = .ok (.iload_n 1, 1) := by decide +kernel
theorem dX8_leftBy_7 : decode cX8_leftBy 7 = .ok (.imul, 1) := by decide +kernel
theorem dX8_leftBy_8 : decode cX8_leftBy 8 = .ok (.iload_n 2, 1) := by decide +kernel
theorem dX8_leftBy_9 : decode cX8_leftBy 9 = .ok (.iadd, 1) := by decide +kernel
theorem dX8_leftBy_10 : decode cX8_leftBy 10 = .ok (.invokestatic 37, 3) := by decide +kernel
theorem dX8_leftBy_13 : decode cX8_leftBy 13 = .ok (.ireturn, 1) := by decide +kernel
set_option maxRecDepth 20000 in
theorem ggX8_valueIn_X8_fixedIn : GoodIn wsX8_valueIn wsX8_fixedIn := goodIn_r _ [5, 6, 7, 8, 4, 9, 10, 11, 12, 13, 14, 15, 16, 17, 18, 19, 20, 21, 22, 23, 24, 25, 26, 27, 28] (by decide +kernel) (by decide +kernel)
set_option maxRecDepth 20000 in
theorem gX8_valueIn_X8_fixedIn : GoodIn wsX8_valueIn (wsV RX8 49 RX8 yX8_fixedIn wsX8_fixedIn) := goodIn_app (goodIn_of _ (by decide +kernel)) ggX8_valueIn_X8_fixedIn
theorem dX8_valueIn_0 : decode cX8_valueIn 0 = .ok (.aload_n 0, 1) := by decide +kernel
theorem dX8_valueIn_1 : decode cX8_valueIn 1 = .ok (.iconst 1, 1) := by decide +kernel
theorem dX8_valueIn_2 : decode cX8_valueIn 2 = .ok (.iload_n 1, 1) := by decide +kernel
theorem dX8_valueIn_3 : decode cX8_valueIn 3 = .ok (.ishl, 1) := by decide +kernel
theorem dX8_valueIn_4 : decode cX8_valueIn 4 = .ok (.iload_n 2, 1) := by decide +kernel
theorem dX8_valueIn_5 : decode cX8_valueIn 5 = .ok (.invokevirtual 49, 3) := by decide +kernel
theorem dX8_valueIn_8 : decode cX8_valueIn 8 = .ok (.ireturn, 1) := by decide +kernel
set_option maxRecDepth 20000 in
theorem ggX8_fixedIn_X8_valuesOf : GoodIn wsX8_fixedIn wsX8_valuesOf := goodIn_r _ [5, 6, 7, 8, 9, 4, 10, 11, 12, 13, 14, 15, 21, 22, 23, 24] (by decide +kernel) (by decide +kernel)
set_option maxRecDepth 20000 in
theorem gX8_fixedIn_X8_valuesOf : GoodIn wsX8_fixedIn (wsV RX8 33 RX8 yX8_valuesOf wsX8_valuesOf) := goodIn_app (goodIn_of _ (by decide +kernel)) ggX8_fixedIn_X8_valuesOf
set_option maxRecDepth 20000 in
theorem ggX8_fixedIn_X8_leftBy : GoodIn wsX8_fixedIn wsX8_leftBy := goodIn_r _ [19, 20, 12, 13, 14, 15, 21, 22, 23, 24] (by decide +kernel) (by decide +kernel)
set_option maxRecDepth 20000 in
theorem gX8_fixedIn_X8_leftBy : GoodIn wsX8_fixedIn (wsV RX8 53 RX8 yX8_leftBy wsX8_leftBy) := goodIn_app (goodIn_of _ (by decide +kernel)) ggX8_fixedIn_X8_leftBy
theorem dX8_fixedIn_0 : decode cX8_fixedIn 0 = .ok (.iconst 0, 1) := by decide +kernel
theorem dX8_fixedIn_1 : decode cX8_fixedIn 1 = .ok (.istore_n 3, 1) := by decide +kernel
theorem dX8_fixedIn_2 : decode cX8_fixedIn 2 = .ok (.iload_n 3, 1) := by decide +kernel
theorem dX8_fixedIn_3 : decode cX8_fixedIn 3 = .ok (.aload_n 0, 1) := by decide +kernel
theorem dX8_fixedIn_4 : decode cX8_fixedIn 4 = .ok (.iload_n 2, 1) := by decide +kernel
theorem dX8_fixedIn_5 : decode cX8_fixedIn 5 = .ok (.invokevirtual 33, 3) := by decide +kernel
theorem dX8_fixedIn_8 : decode cX8_fixedIn 8 = .ok (.if_icmp .ge 24, 3) := by decide +kernel
theorem dX8_fixedIn_11 : decode cX8_fixedIn 11 = .ok (.iload_n 1, 1) := by decide +kernel
theorem dX8_fixedIn_12 : decode cX8_fixedIn 12 = .ok (.aload_n 0, 1) := by decide +kernel
theorem dX8_fixedIn_13 : decode cX8_fixedIn 13 = .ok (.iload_n 2, 1) := by decide +kernel
theorem dX8_fixedIn_14 : decode cX8_fixedIn 14 = .ok (.iload_n 3, 1) := by decide +kernel
theorem dX8_fixedIn_15 : decode cX8_fixedIn 15 = .ok (.invokevirtual 53, 3) := by decide +kernel
theorem dX8_fixedIn_18 : decode cX8_fixedIn 18 = .ok (.iconst (-1), 1) := by decide +kernel
theorem dX8_fixedIn_19 : decode cX8_fixedIn 19 = .ok (.ixor, 1) := by decide +kernel
theorem dX8_fixedIn_20 : decode cX8_fixedIn 20 = .ok (.iand, 1) := by decide +kernel
theorem dX8_fixedIn_21 : decode cX8_fixedIn 21 = .ok (.ifCond .ne 5, 3) := by decide +kernel
theorem dX8_fixedIn_24 : decode cX8_fixedIn 24 = .ok (.iload_n 3, 1) := by decide +kernel
theorem dX8_fixedIn_25 : decode cX8_fixedIn 25 = .ok (.ireturn, 1) := by decide +kernel
theorem dX8_fixedIn_26 : decode cX8_fixedIn 26 = .ok (.iinc 3 1, 3) := by decide +kernel
theorem dX8_fixedIn_29 : decode cX8_fixedIn 29 = .ok (.goto (-27), 3) := by decide +kernel
theorem dX8_fixedIn_32 : decode cX8_fixedIn 32 = .ok (.iconst (-1), 1) := by decide +kernel
theorem dX8_fixedIn_33 : decode cX8_fixedIn 33 = .ok (.ireturn, 1) := by decide +kernel
set_option maxRecDepth 20000 in
theorem ggX8_fixedLike_X8_all : GoodIn wsX8_fixedLike wsX8_all := goodIn_r _ [6, 7, 30, 31, 32, 33] (by decide +kernel) (by decide +kernel)
set_option maxRecDepth 20000 in
theorem gX8_fixedLike_X8_all : GoodIn wsX8_fixedLike (wsV RX8 41 RX8 yX8_all wsX8_all) := goodIn_app (goodIn_of _ (by decide +kernel)) ggX8_fixedLike_X8_all
set_option maxRecDepth 20000 in
theorem ggX8_fixedLike_X8_fixedIn : GoodIn wsX8_fixedLike wsX8_fixedIn := goodIn_r _ [11, 12, 13, 14, 5, 15, 16, 17, 18, 19, 20, 1, 21, 22, 23, 24, 25, 26, 27, 28, 29, 30, 31, 32, 33] (by decide +kernel) (by decide +kernel)
set_option maxRecDepth 20000 in
theorem gX8_fixedLike_X8_fixedIn : GoodIn wsX8_fixedLike (wsV RX8 49 RX8 yX8_fixedIn wsX8_fixedIn) := goodIn_app (goodIn_of _ (by decide +kernel)) ggX8_fixedLike_X8_fixedIn
set_option maxRecDepth 20000 in
theorem ggX8_fixedLike_X8_leftBy : GoodIn wsX8_fixedLike wsX8_leftBy := goodIn_r _ [28, 29, 21, 22, 23, 24, 30, 31, 32, 33] (by decide +kernel) (by decide +kernel)
set_option maxRecDepth 20000 in
theorem gX8_fixedLike_X8_leftBy : GoodIn wsX8_fixedLike (wsV RX8 53 RX8 yX8_leftBy wsX8_leftBy) := goodIn_app (goodIn_of _ (by decide +kernel)) ggX8_fixedLike_X8_leftBy
theorem dX8_fixedLike_0 : decode cX8_fixedLike 0 = .ok (.aload_n 0, 1) := by decide +kernel
theorem dX8_fixedLike_1 : decode cX8_fixedLike 1 = .ok (.invokevirtual 41, 3) := by decide +kernel
theorem dX8_fixedLike_4 : decode cX8_fixedLike 4 = .ok (.istore_n 3, 1) := by decide +kernel
theorem dX8_fixedLike_5 : decode cX8_fixedLike 5 = .ok (.iconst 0, 1) := by decide +kernel
theorem dX8_fixedLike_6 : decode cX8_fixedLike 6 = .ok (.istore 4, 2) := by decide +kernel
theorem dX8_fixedLike_8 : decode cX8_fixedLike 8 = .ok (.iload 4, 2) := by decide +kernel
theorem dX8_fixedLike_10 : decode cX8_fixedLike 10 = .ok (.aload_n 0, 1) := by decide +kernel
theorem dX8_fixedLike_11 : decode cX8_fixedLike 11 = .ok (.getfield 16, 3) := by decide +kernel
theorem dX8_fixedLike_14 : decode cX8_fixedLike 14 = .ok (.if_icmp .ge 45, 3) := by decide +kernel
theorem dX8_fixedLike_17 : decode cX8_fixedLike 17 = .ok (.iload 4, 2) := by decide +kernel
theorem dX8_fixedLike_19 : decode cX8_fixedLike 19 = .ok (.iload_n 2, 1) := by decide +kernel
theorem dX8_fixedLike_20 : decode cX8_fixedLike 20 = .ok (.if_icmp .ne 7, 3) := by decide +kernel
theorem dX8_fixedLike_23 : decode cX8_fixedLike 23 = .ok (.iconst (-1), 1) := by decide +kernel
theorem dX8_fixedLike_24 : decode cX8_fixedLike 24 = .ok (.goto 10, 3) := by decide +kernel
theorem dX8_fixedLike_27 : decode cX8_fixedLike 27 = .ok (.aload_n 0, 1) := by decide +kernel
theorem dX8_fixedLike_28 : decode cX8_fixedLike 28 = .ok (.iload_n 1, 1) := by decide +kernel
theorem dX8_fixedLike_29 : decode cX8_fixedLike 29 = .ok (.iload 4, 2) := by decide +kernel
theorem dX8_fixedLike_31 : decode cX8_fixedLike 31 = .ok (.invokevirtual 49, 3) := by decide +kernel
theorem dX8_fixedLike_34 : decode cX8_fixedLike 34 = .ok (.istore 5, 2) := by decide +kernel
theorem dX8_fixedLike_36 : decode cX8_fixedLike 36 = .ok (.iload 5, 2) := by decide +kernel
theorem dX8_fixedLike_38 : decode cX8_fixedLike 38 = .ok (.iconst (-1), 1) := by decide +kernel
theorem dX8_fixedLike_39 : decode cX8_fixedLike 39 = .ok (.if_icmp .eq 14, 3) := by decide +kernel
theorem dX8_fixedLike_42 : decode cX8_fixedLike 42 = .ok (.iload_n 3, 1) := by decide +kernel
theorem dX8_fixedLike_43 : decode cX8_fixedLike 43 = .ok (.aload_n 0, 1) := by decide +kernel
theorem dX8_fixedLike_44 : decode cX8_fixedLike 44 = .ok (.iload 4, 2) := by decide +kernel
theorem dX8_fixedLike_46 : decode cX8_fixedLike 46 = .ok (.iload 5, 2) := by decide +kernel
theorem dX8_fixedLike_48 : decode cX8_fixedLike 48 = .ok (.invokevirtual 53, 3) := by decide +kernel
theorem dX8_fixedLike_51 : decode cX8_fixedLike 51 = .ok (.iand, 1) := by decide +kernel
theorem dX8_fixedLike_52 : decode cX8_fixedLike 52 = .ok (.istore_n 3, 1) := by decide +kernel
theorem dX8_fixedLike_53 : decode cX8_fixedLike 53 = .ok (.iinc 4 1, 3) := by decide +kernel
theorem dX8_fixedLike_56 : decode cX8_fixedLike 56 = .ok (.goto (-48), 3) := by decide +kernel
theorem dX8_fixedLike_59 : decode cX8_fixedLike 59 = .ok (.iload_n 3, 1) := by decide +kernel
theorem dX8_fixedLike_60 : decode cX8_fixedLike 60 = .ok (.ireturn, 1) := by decide +kernel
set_option maxRecDepth 20000 in
theorem ggX8_isTerm_X8_fixedLike : GoodIn wsX8_isTerm wsX8_fixedLike := goodIn_r _ [6, 1, 7, 8, 9, 5, 10, 11, 12, 13, 14, 15, 16, 17, 18, 19, 20, 21, 22, 23, 24, 25, 26, 27, 28, 29, 30, 31, 32, 33, 34, 35, 36, 37] (by decide +kernel) (by decide +kernel)
set_option maxRecDepth 20000 in
theorem gX8_isTerm_X8_fixedLike : GoodIn wsX8_isTerm (wsV RX8 56 RX8 yX8_fixedLike wsX8_fixedLike) := goodIn_app (goodIn_of _ (by decide +kernel)) ggX8_isTerm_X8_fixedLike
set_option maxRecDepth 20000 in
theorem ggX8_isTerm_X8_fixedIn : GoodIn wsX8_isTerm wsX8_fixedIn := goodIn_r _ [15, 16, 17, 18, 5, 19, 20, 21, 22, 23, 24, 1, 25, 26, 27, 28, 29, 30, 31, 32, 33, 34, 35, 36, 37] (by decide +kernel) (by decide +kernel)
set_option maxRecDepth 20000 in
theorem gX8_isTerm_X8_fixedIn : GoodIn wsX8_isTerm (wsV RX8 49 RX8 yX8_fixedIn wsX8_fixedIn) := goodIn_app (goodIn_of _ (by decide +kernel)) ggX8_isTerm_X8_fixedIn
theorem dX8_isTerm_0 : decode cX8_isTerm 0 = .ok (.iload_n 1, 1) := by decide +kernel
theorem dX8_isTerm_1 : decode cX8_isTerm 1 = .ok (.ifCond .eq 21, 3) := by decide +kernel
theorem dX8_isTerm_4 : decode cX8_isTerm 4 = .ok (.iload_n 1, 1) := by decide +kernel
theorem dX8_isTerm_5 : decode cX8_isTerm 5 = .ok (.iload_n 2, 1) := by decide +kernel
theorem dX8_isTerm_6 : decode cX8_isTerm 6 = .ok (.iconst (-1), 1) := by decide +kernel
theorem dX8_isTerm_7 : decode cX8_isTerm 7 = .ok (.ixor, 1) := by decide +kernel
theorem dX8_isTerm_8 : decode cX8_isTerm 8 = .ok (.iand, 1) := by decide +kernel
theorem dX8_isTerm_9 : decode cX8_isTerm 9 = .ok (.ifCond .ne 13, 3) := by decide +kernel
theorem dX8_isTerm_12 : decode cX8_isTerm 12 = .ok (.aload_n 0, 1) := by decide +kernel
theorem dX8_isTerm_13 : decode cX8_isTerm 13 = .ok (.iload_n 1, 1) := by decide +kernel
theorem dX8_isTerm_14 : decode cX8_isTerm 14 = .ok (.iconst (-1), 1) := by decide +kernel
theorem dX8_isTerm_15 : decode cX8_isTerm 15 = .ok (.invokevirtual 56, 3) := by decide +kernel
theorem dX8_isTerm_18 : decode cX8_isTerm 18 = .ok (.iload_n 1, 1) := by decide +kernel
theorem dX8_isTerm_19 : decode cX8_isTerm 19 = .ok (.if_icmp .eq 5, 3) := by decide +kernel
theorem dX8_isTerm_22 : decode cX8_isTerm 22 = .ok (.iconst 0, 1) := by decide +kernel
theorem dX8_isTerm_23 : decode cX8_isTerm 23 = .ok (.ireturn, 1) := by decide +kernel
theorem dX8_isTerm_24 : decode cX8_isTerm 24 = .ok (.iconst 0, 1) := by decide +kernel
theorem dX8_isTerm_25 : decode cX8_isTerm 25 = .ok (.istore_n 3, 1) := by decide +kernel
theorem dX8_isTerm_26 : decode cX8_isTerm 26 = .ok (.iload_n 3, 1) := by decide +kernel
theorem dX8_isTerm_27 : decode cX8_isTerm 27 = .ok (.aload_n 0, 1) := by decide +kernel
theorem dX8_isTerm_28 : decode cX8_isTerm 28 = .ok (.getfield 16, 3) := by decide +kernel
theorem dX8_isTerm_31 : decode cX8_isTerm 31 = .ok (.if_icmp .ge 34, 3) := by decide +kernel
theorem dX8_isTerm_34 : decode cX8_isTerm 34 = .ok (.aload_n 0, 1) := by decide +kernel
theorem dX8_isTerm_35 : decode cX8_isTerm 35 = .ok (.iload_n 1, 1) := by decide +kernel
theorem dX8_isTerm_36 : decode cX8_isTerm 36 = .ok (.iload_n 3, 1) := by decide +kernel
theorem dX8_isTerm_37 : decode cX8_isTerm 37 = .ok (.invokevirtual 49, 3) := by decide +kernel
theorem dX8_isTerm_40 : decode cX8_isTerm 40 = .ok (.iconst (-1), 1) := by decide +kernel
theorem dX8_isTerm_41 : decode cX8_isTerm 41 = .ok (.if_icmp .eq 18, 3) := by decide +kernel
theorem dX8_isTerm_44 : decode cX8_isTerm 44 = .ok (.aload_n 0, 1) := by decide +kernel
theorem dX8_isTerm_45 : decode cX8_isTerm 45 = .ok (.iload_n 1, 1) := by decide +kernel
theorem dX8_isTerm_46 : decode cX8_isTerm 46 = .ok (.iload_n 3, 1) := by decide +kernel
theorem dX8_isTerm_47 : decode cX8_isTerm 47 = .ok (.invokevirtual 56, 3) := by decide +kernel
theorem dX8_isTerm_50 : decode cX8_isTerm 50 = .ok (.iload_n 2, 1) := by decide +kernel
theorem dX8_isTerm_51 : decode cX8_isTerm 51 = .ok (.iconst (-1), 1) := by decide +kernel
theorem dX8_isTerm_52 : decode cX8_isTerm 52 = .ok (.ixor, 1) := by decide +kernel
theorem dX8_isTerm_53 : decode cX8_isTerm 53 = .ok (.iand, 1) := by decide +kernel
theorem dX8_isTerm_54 : decode cX8_isTerm 54 = .ok (.ifCond .ne 5, 3) := by decide +kernel
theorem dX8_isTerm_57 : decode cX8_isTerm 57 = .ok (.iconst 0, 1) := by decide +kernel
theorem dX8_isTerm_58 : decode cX8_isTerm 58 = .ok (.ireturn, 1) := by decide +kernel
theorem dX8_isTerm_59 : decode cX8_isTerm 59 = .ok (.iinc 3 1, 3) := by decide +kernel
theorem dX8_isTerm_62 : decode cX8_isTerm 62 = .ok (.goto (-36), 3) := by decide +kernel
theorem dX8_isTerm_65 : decode cX8_isTerm 65 = .ok (.iconst 1, 1) := by decide +kernel
theorem dX8_isTerm_66 : decode cX8_isTerm 66 = .ok (.ireturn, 1) := by decide +kernel
set_option maxRecDepth 20000 in
theorem ggX8_looksLike_X8_all : GoodIn wsX8_looksLike wsX8_all := goodIn_r _ [6, 7, 30, 31, 32, 33] (by decide +kernel) (by decide +kernel)
set_option maxRecDepth 20000 in
theorem gX8_looksLike_X8_all : GoodIn wsX8_looksLike (wsV RX8 41 RX8 yX8_all wsX8_all) := goodIn_app (goodIn_of _ (by decide +kernel)) ggX8_looksLike_X8_all
set_option maxRecDepth 20000 in
theorem ggX8_looksLike_X8_fixedIn : GoodIn wsX8_looksLike wsX8_fixedIn := goodIn_r _ [11, 12, 13, 14, 5, 15, 16, 17, 18, 19, 20, 1, 21, 22, 23, 24, 25, 26, 27, 28, 29, 30, 31, 32, 33] (by decide +kernel) (by decide +kernel)
set_option maxRecDepth 20000 in
theorem gX8_looksLike_X8_fixedIn : GoodIn wsX8_looksLike (wsV RX8 49 RX8 yX8_fixedIn wsX8_fixedIn) := goodIn_app (goodIn_of _ (by decide +kernel)) ggX8_looksLike_X8_fixedIn
set_option maxRecDepth 20000 in
theorem ggX8_looksLike_X8_leftBy : GoodIn wsX8_looksLike wsX8_leftBy := goodIn_r _ [28, 29, 21, 22, 23, 24, 30, 31, 32, 33] (by decide +kernel) (by decide +kernel)
set_option maxRecDepth 20000 in
theorem gX8_looksLike_X8_leftBy : GoodIn wsX8_looksLike (wsV RX8 53 RX8 yX8_leftBy wsX8_leftBy) := goodIn_app (goodIn_of _ (by decide +kernel)) ggX8_looksLike_X8_leftBy
theorem dX8_looksLike_0 : decode cX8_looksLike 0 = .ok (.aload_n 0, 1) := by decide +kernel
theorem dX8_looksLike_1 : decode cX8_looksLike 1 = .ok (.invokevirtual 41, 3) := by decide +kernel
theorem dX8_looksLike_4 : decode cX8_looksLike 4 = .ok (.istore_n 3, 1) := by decide +kernel
theorem dX8_looksLike_5 : decode cX8_looksLike 5 = .ok (.iconst 0, 1) := by decide +kernel
theorem dX8_looksLike_6 : decode cX8_looksLike 6 = .ok (.istore 4, 2) := by decide +kernel
theorem dX8_looksLike_8 : decode cX8_looksLike 8 = .ok (.iload 4, 2) := by decide +kernel
theorem dX8_looksLike_10 : decode cX8_looksLike 10 = .ok (.aload_n 0, 1) := by decide +kernel
theorem dX8_looksLike_11 : decode cX8_looksLike 11 = .ok (.getfield 16, 3) := by decide +kernel
theorem dX8_looksLike_14 : decode cX8_looksLike 14 = .ok (.if_icmp .ge 36, 3) := by decide +kernel
theorem dX8_looksLike_17 : decode cX8_looksLike 17 = .ok (.iload_n 1, 1) := by decide +kernel
theorem dX8_looksLike_18 : decode cX8_looksLike 18 = .ok (.iconst 1, 1) := by decide +kernel
theorem dX8_looksLike_19 : decode cX8_looksLike 19 = .ok (.iload 4, 2) := by decide +kernel
theorem dX8_looksLike_21 : decode cX8_looksLike 21 = .ok (.ishl, 1) := by decide +kernel
theorem dX8_looksLike_22 : decode cX8_looksLike 22 = .ok (.iand, 1) := by decide +kernel
theorem dX8_looksLike_23 : decode cX8_looksLike 23 = .ok (.ifCond .eq 21, 3) := by decide +kernel
theorem dX8_looksLike_26 : decode cX8_looksLike 26 = .ok (.iload_n 3, 1) := by decide +kernel
theorem dX8_looksLike_27 : decode cX8_looksLike 27 = .ok (.aload_n 0, 1) := by decide +kernel
theorem dX8_looksLike_28 : decode cX8_looksLike 28 = .ok (.iload 4, 2) := by decide +kernel
theorem dX8_looksLike_30 : decode cX8_looksLike 30 = .ok (.aload_n 0, 1) := by decide +kernel
theorem dX8_looksLike_31 : decode cX8_looksLike 31 = .ok (.iconst 1, 1) := by decide +kernel
theorem dX8_looksLike_32 : decode cX8_looksLike 32 = .ok (.iload_n 2, 1) := by decide +kernel
theorem dX8_looksLike_33 : decode cX8_looksLike 33 = .ok (.ishl, 1) := by decide +kernel
theorem dX8_looksLike_34 : decode cX8_looksLike 34 = .ok (.iload 4, 2) := by decide +kernel
theorem dX8_looksLike_36 : decode cX8_looksLike 36 = .ok (.invokevirtual 49, 3) := by decide +kernel
theorem dX8_looksLike_39 : decode cX8_looksLike 39 = .ok (.invokevirtual 53, 3) := by decide +kernel
theorem dX8_looksLike_42 : decode cX8_looksLike 42 = .ok (.iand, 1) := by decide +kernel
theorem dX8_looksLike_43 : decode cX8_looksLike 43 = .ok (.istore_n 3, 1) := by decide +kernel
theorem dX8_looksLike_44 : decode cX8_looksLike 44 = .ok (.iinc 4 1, 3) := by decide +kernel
theorem dX8_looksLike_47 : decode cX8_looksLike 47 = .ok (.goto (-39), 3) := by decide +kernel
theorem dX8_looksLike_50 : decode cX8_looksLike 50 = .ok (.iload_n 3, 1) := by decide +kernel
theorem dX8_looksLike_51 : decode cX8_looksLike 51 = .ok (.ireturn, 1) := by decide +kernel
theorem dX9_init_0 : decode cX9_init 0 = .ok (.aload_n 0, 1) := by decide +kernel
theorem dX9_init_1 : decode cX9_init 1 = .ok (.invokespecial 1, 3) := by decide +kernel
theorem dX9_init_4 : decode cX9_init 4 = .ok (.aload_n 0, 1) := by decide +kernel
theorem dX9_init_5 : decode cX9_init 5 = .ok (.aload_n 1, 1) := by decide +kernel
theorem dX9_init_6 : decode cX9_init 6 = .ok (.putfield 7, 3) := by decide +kernel
theorem dX9_init_9 : decode cX9_init 9 = .ok (.return_, 1) := by decide +kernel
set_option maxRecDepth 20000 in
theorem ggX9_inCommon_X8_worlds : GoodIn wsX9_inCommon wsX8_worlds := goodIn_r _ [6, 7, 43, 44, 45, 46] (by decide +kernel) (by decide +kernel)
set_option maxRecDepth 20000 in
theorem gX9_inCommon_X8_worlds : GoodIn wsX9_inCommon (wsV RX9 13 RX8 yX8_worlds wsX8_worlds) := goodIn_app (goodIn_of _ (by decide +kernel)) ggX9_inCommon_X8_worlds
set_option maxRecDepth 20000 in
theorem ggX9_inCommon_X4_has : GoodIn wsX9_inCommon wsX4_has := goodIn_r _ [11] (by decide +kernel) (by decide +kernel)
set_option maxRecDepth 20000 in
theorem gX9_inCommon_X4_has : GoodIn wsX9_inCommon (va_wsS RX9 19 yX4_has wsX4_has) := goodIn_app (goodIn_of _ (by decide +kernel)) ggX9_inCommon_X4_has
set_option maxRecDepth 20000 in
theorem ggX9_inCommon_X8_looksLike : GoodIn wsX9_inCommon wsX8_looksLike := goodIn_r _ [15, 16, 17, 18, 19, 5, 20, 7, 21, 22, 23, 24, 25, 26, 27, 28, 29, 30, 31, 32, 33, 34, 35, 10, 36, 37, 38, 39, 40, 41, 43, 44, 45, 46] (by decide +kernel) (by decide +kernel)
set_option maxRecDepth 20000 in
theorem gX9_inCommon_X8_looksLike : GoodIn wsX9_inCommon (wsV RX9 25 RX8 yX8_looksLike wsX8_looksLike) := goodIn_app (goodIn_of _ (by decide +kernel)) ggX9_inCommon_X8_looksLike
theorem dX9_inCommon_0 : decode cX9_inCommon 0 = .ok (.iload 4, 2) := by decide +kernel
theorem dX9_inCommon_2 : decode cX9_inCommon 2 = .ok (.iconst 1, 1) := by decide +kernel
theorem dX9_inCommon_3 : decode cX9_inCommon 3 = .ok (.iload_n 3, 1) := by decide +kernel
theorem dX9_inCommon_4 : decode cX9_inCommon 4 = .ok (.ishl, 1) := by decide +kernel
theorem dX9_inCommon_5 : decode cX9_inCommon 5 = .ok (.iand, 1) := by decide +kernel
theorem dX9_inCommon_6 : decode cX9_inCommon 6 = .ok (.istore 5, 2) := by decide +kernel
theorem dX9_inCommon_8 : decode cX9_inCommon 8 = .ok (.iconst 0, 1) := by decide +kernel
theorem dX9_inCommon_9 : decode cX9_inCommon 9 = .ok (.istore 6, 2) := by decide +kernel
theorem dX9_inCommon_11 : decode cX9_inCommon 11 = .ok (.iload 6, 2) := by decide +kernel
theorem dX9_inCommon_13 : decode cX9_inCommon 13 = .ok (.aload_n 0, 1) := by decide +kernel
theorem dX9_inCommon_14 : decode cX9_inCommon 14 = .ok (.getfield 7, 3) := by decide +kernel
theorem dX9_inCommon_17 : decode cX9_inCommon 17 = .ok (.invokevirtual 13, 3) := by decide +kernel
theorem dX9_inCommon_20 : decode cX9_inCommon 20 = .ok (.if_icmp .ge 73, 3) := by decide +kernel
theorem dX9_inCommon_23 : decode cX9_inCommon 23 = .ok (.iconst 0, 1) := by decide +kernel
theorem dX9_inCommon_24 : decode cX9_inCommon 24 = .ok (.istore 7, 2) := by decide +kernel
theorem dX9_inCommon_26 : decode cX9_inCommon 26 = .ok (.iload 7, 2) := by decide +kernel
theorem dX9_inCommon_28 : decode cX9_inCommon 28 = .ok (.aload_n 0, 1) := by decide +kernel
theorem dX9_inCommon_29 : decode cX9_inCommon 29 = .ok (.getfield 7, 3) := by decide +kernel
theorem dX9_inCommon_32 : decode cX9_inCommon 32 = .ok (.invokevirtual 13, 3) := by decide +kernel
theorem dX9_inCommon_35 : decode cX9_inCommon 35 = .ok (.if_icmp .ge 52, 3) := by decide +kernel
theorem dX9_inCommon_38 : decode cX9_inCommon 38 = .ok (.iload 5, 2) := by decide +kernel
theorem dX9_inCommon_40 : decode cX9_inCommon 40 = .ok (.iload 7, 2) := by decide +kernel
theorem dX9_inCommon_42 : decode cX9_inCommon 42 = .ok (.invokestatic 19, 3) := by decide +kernel
theorem dX9_inCommon_45 : decode cX9_inCommon 45 = .ok (.ifCond .eq 36, 3) := by decide +kernel
theorem dX9_inCommon_48 : decode cX9_inCommon 48 = .ok (.aload_n 0, 1) := by decide +kernel
theorem dX9_inCommon_49 : decode cX9_inCommon 49 = .ok (.getfield 7, 3) := by decide +kernel
theorem dX9_inCommon_52 : decode cX9_inCommon 52 = .ok (.iload_n 1, 1) := by decide +kernel
theorem dX9_inCommon_53 : decode cX9_inCommon 53 = .ok (.iload 7, 2) := by decide +kernel
theorem dX9_inCommon_55 : decode cX9_inCommon 55 = .ok (.invokevirtual 25, 3) := by decide +kernel
theorem dX9_inCommon_58 : decode cX9_inCommon 58 = .ok (.aload_n 0, 1) := by decide +kernel
theorem dX9_inCommon_59 : decode cX9_inCommon 59 = .ok (.getfield 7, 3) := by decide +kernel
theorem dX9_inCommon_62 : decode cX9_inCommon 62 = .ok (.iload_n 2, 1) := by decide +kernel
theorem dX9_inCommon_63 : decode cX9_inCommon 63 = .ok (.iload 7, 2) := by decide +kernel
theorem dX9_inCommon_65 : decode cX9_inCommon 65 = .ok (.invokevirtual 25, 3) := by decide +kernel
theorem dX9_inCommon_68 : decode cX9_inCommon 68 = .ok (.ior, 1) := by decide +kernel
theorem dX9_inCommon_69 : decode cX9_inCommon 69 = .ok (.istore 8, 2) := by decide +kernel
theorem dX9_inCommon_71 : decode cX9_inCommon 71 = .ok (.iload 5, 2) := by decide +kernel
theorem dX9_inCommon_73 : decode cX9_inCommon 73 = .ok (.iload 4, 2) := by decide +kernel
theorem dX9_inCommon_75 : decode cX9_inCommon 75 = .ok (.iload 8, 2) := by decide +kernel
theorem dX9_inCommon_77 : decode cX9_inCommon 77 = .ok (.iand, 1) := by decide +kernel
theorem dX9_inCommon_78 : decode cX9_inCommon 78 = .ok (.ior, 1) := by decide +kernel
theorem dX9_inCommon_79 : decode cX9_inCommon 79 = .ok (.istore 5, 2) := by decide +kernel
theorem dX9_inCommon_81 : decode cX9_inCommon 81 = .ok (.iinc 7 1, 3) := by decide +kernel
theorem dX9_inCommon_84 : decode cX9_inCommon 84 = .ok (.goto (-58), 3) := by decide +kernel
theorem dX9_inCommon_87 : decode cX9_inCommon 87 = .ok (.iinc 6 1, 3) := by decide +kernel
theorem dX9_inCommon_90 : decode cX9_inCommon 90 = .ok (.goto (-79), 3) := by decide +kernel
theorem dX9_inCommon_93 : decode cX9_inCommon 93 = .ok (.iload 5, 2) := by decide +kernel
theorem dX9_inCommon_95 : decode cX9_inCommon 95 = .ok (.ireturn, 1) := by decide +kernel
set_option maxRecDepth 20000 in
theorem ggX9_knows_X8_looksLike : GoodIn wsX9_knows wsX8_looksLike := goodIn_r _ [6, 7, 8, 9, 10, 5, 11, 12, 13, 14, 15, 16, 17, 18, 19, 20, 21, 22, 23, 24, 25, 26, 27, 28, 29, 30, 31, 32, 33, 34, 43, 44, 45, 46] (by decide +kernel) (by decide +kernel)
set_option maxRecDepth 20000 in
theorem gX9_knows_X8_looksLike : GoodIn wsX9_knows (wsV RX9 25 RX8 yX8_looksLike wsX8_looksLike) := goodIn_app (goodIn_of _ (by decide +kernel)) ggX9_knows_X8_looksLike
set_option maxRecDepth 20000 in
theorem ggX9_knows_J6_bitCount_0f7a4 : GoodIn wsX9_knows wsJ6_bitCount_0f7a4 := goodIn_r _ [38, 39, 40, 41] (by decide +kernel) (by decide +kernel)
set_option maxRecDepth 20000 in
theorem gX9_knows_J6_bitCount_0f7a4 : GoodIn wsX9_knows (va_wsS RX9 29 yJ6_bitCount_0f7a4 wsJ6_bitCount_0f7a4) := goodIn_app (goodIn_of _ (by decide +kernel)) ggX9_knows_J6_bitCount_0f7a4
theorem dX9_knows_0 : decode cX9_knows 0 = .ok (.iload_n 3, 1) := by decide +kernel
theorem dX9_knows_1 : decode cX9_knows 1 = .ok (.aload_n 0, 1) := by decide +kernel
theorem dX9_knows_2 : decode cX9_knows 2 = .ok (.getfield 7, 3) := by decide +kernel
theorem dX9_knows_5 : decode cX9_knows 5 = .ok (.iload_n 1, 1) := by decide +kernel
theorem dX9_knows_6 : decode cX9_knows 6 = .ok (.iload_n 2, 1) := by decide +kernel
theorem dX9_knows_7 : decode cX9_knows 7 = .ok (.invokevirtual 25, 3) := by decide +kernel
theorem dX9_knows_10 : decode cX9_knows 10 = .ok (.iand, 1) := by decide +kernel
theorem dX9_knows_11 : decode cX9_knows 11 = .ok (.invokestatic 29, 3) := by decide +kernel
theorem dX9_knows_14 : decode cX9_knows 14 = .ok (.iconst 1, 1) := by decide +kernel
theorem dX9_knows_15 : decode cX9_knows 15 = .ok (.if_icmp .ne 7, 3) := by decide +kernel
theorem dX9_knows_18 : decode cX9_knows 18 = .ok (.iconst 1, 1) := by decide +kernel
theorem dX9_knows_19 : decode cX9_knows 19 = .ok (.goto 4, 3) := by decide +kernel
theorem dX9_knows_22 : decode cX9_knows 22 = .ok (.iconst 0, 1) := by decide +kernel
theorem dX9_knows_23 : decode cX9_knows 23 = .ok (.ireturn, 1) := by decide +kernel
set_option maxRecDepth 20000 in
theorem ggX9_unknownTo_X8_worlds : GoodIn wsX9_unknownTo wsX8_worlds := goodIn_r _ [6, 7, 55, 56, 57, 58] (by decide +kernel) (by decide +kernel)
set_option maxRecDepth 20000 in
theorem gX9_unknownTo_X8_worlds : GoodIn wsX9_unknownTo (wsV RX9 13 RX8 yX8_worlds wsX8_worlds) := goodIn_app (goodIn_of _ (by decide +kernel)) ggX9_unknownTo_X8_worlds
set_option maxRecDepth 20000 in
theorem ggX9_unknownTo_X4_has : GoodIn wsX9_unknownTo wsX4_has := goodIn_r _ [11] (by decide +kernel) (by decide +kernel)
set_option maxRecDepth 20000 in
theorem gX9_unknownTo_X4_has : GoodIn wsX9_unknownTo (va_wsS RX9 19 yX4_has wsX4_has) := goodIn_app (goodIn_of _ (by decide +kernel)) ggX9_unknownTo_X4_has
set_option maxRecDepth 20000 in
theorem ggX9_unknownTo_X9_knows : GoodIn wsX9_unknownTo wsX9_knows := goodIn_r _ [16, 1, 17, 18, 19, 5, 20, 21, 22, 23, 24, 25, 7, 26, 27, 28, 29, 30, 31, 32, 33, 34, 35, 36, 37, 38, 39, 40, 10, 41, 42, 43, 44, 45, 46, 47, 48, 49, 50, 51, 52, 53, 54, 55, 56, 57, 58] (by decide +kernel) (by decide +kernel)
set_option maxRecDepth 20000 in
theorem gX9_unknownTo_X9_knows : GoodIn wsX9_unknownTo (wsV RX9 35 RX9 yX9_knows wsX9_knows) := goodIn_app (goodIn_of _ (by decide +kernel)) ggX9_unknownTo_X9_knows
theorem dX9_unknownTo_0 : decode cX9_unknownTo 0 = .ok (.iconst 0, 1) := by decide +kernel
theorem dX9_unknownTo_1 : decode cX9_unknownTo 1 = .ok (.istore_n 3, 1) := by decide +kernel
theorem dX9_unknownTo_2 : decode cX9_unknownTo 2 = .ok (.iconst 0, 1) := by decide +kernel
theorem dX9_unknownTo_3 : decode cX9_unknownTo 3 = .ok (.istore 4, 2) := by decide +kernel
theorem dX9_unknownTo_5 : decode cX9_unknownTo 5 = .ok (.iload 4, 2) := by decide +kernel
theorem dX9_unknownTo_7 : decode cX9_unknownTo 7 = .ok (.aload_n 0, 1) := by decide +kernel
theorem dX9_unknownTo_8 : decode cX9_unknownTo 8 = .ok (.getfield 7, 3) := by decide +kernel
theorem dX9_unknownTo_11 : decode cX9_unknownTo 11 = .ok (.invokevirtual 13, 3) := by decide +kernel
theorem dX9_unknownTo_14 : decode cX9_unknownTo 14 = .ok (.if_icmp .ge 36, 3) := by decide +kernel
theorem dX9_unknownTo_17 : decode cX9_unknownTo 17 = .ok (.iload_n 2, 1) := by decide +kernel
theorem dX9_unknownTo_18 : decode cX9_unknownTo 18 = .ok (.iload 4, 2) := by decide +kernel
theorem dX9_unknownTo_20 : decode cX9_unknownTo 20 = .ok (.invokestatic 19, 3) := by decide +kernel
theorem dX9_unknownTo_23 : decode cX9_unknownTo 23 = .ok (.ifCond .eq 21, 3) := by decide +kernel
theorem dX9_unknownTo_26 : decode cX9_unknownTo 26 = .ok (.aload_n 0, 1) := by decide +kernel
theorem dX9_unknownTo_27 : decode cX9_unknownTo 27 = .ok (.iload_n 1, 1) := by decide +kernel
theorem dX9_unknownTo_28 : decode cX9_unknownTo 28 = .ok (.iload 4, 2) := by decide +kernel
theorem dX9_unknownTo_30 : decode cX9_unknownTo 30 = .ok (.iload_n 2, 1) := by decide +kernel
theorem dX9_unknownTo_31 : decode cX9_unknownTo 31 = .ok (.invokevirtual 35, 3) := by decide +kernel
theorem dX9_unknownTo_34 : decode cX9_unknownTo 34 = .ok (.ifCond .ne 10, 3) := by decide +kernel
theorem dX9_unknownTo_37 : decode cX9_unknownTo 37 = .ok (.iload_n 3, 1) := by decide +kernel
theorem dX9_unknownTo_38 : decode cX9_unknownTo 38 = .ok (.iconst 1, 1) := by decide +kernel
theorem dX9_unknownTo_39 : decode cX9_unknownTo 39 = .ok (.iload 4, 2) := by decide +kernel
theorem dX9_unknownTo_41 : decode cX9_unknownTo 41 = .ok (.ishl, 1) := by decide +kernel
theorem dX9_unknownTo_42 : decode cX9_unknownTo 42 = .ok (.ior, 1) := by decide +kernel
theorem dX9_unknownTo_43 : decode cX9_unknownTo 43 = .ok (.istore_n 3, 1) := by decide +kernel
theorem dX9_unknownTo_44 : decode cX9_unknownTo 44 = .ok (.iinc 4 1, 3) := by decide +kernel
theorem dX9_unknownTo_47 : decode cX9_unknownTo 47 = .ok (.goto (-42), 3) := by decide +kernel
theorem dX9_unknownTo_50 : decode cX9_unknownTo 50 = .ok (.iload_n 3, 1) := by decide +kernel
theorem dX9_unknownTo_51 : decode cX9_unknownTo 51 = .ok (.ireturn, 1) := by decide +kernel
set_option maxRecDepth 20000 in
theorem ggX10_init_X6_init : GoodIn wsX10_init wsX6_init := goodIn_r _ [41, 42, 2, 3, 43, 44, 45, 115, 116] (by decide +kernel) (by decide +kernel)
set_option maxRecDepth 20000 in
theorem gX10_init_X6_init_n9 : GoodIn wsX10_init (wsX6_init) := ggX10_init_X6_init
set_option maxRecDepth 20000 in
theorem ggX10_init_X8_init : GoodIn wsX10_init wsX8_init := goodIn_r _ [47, 48, 2, 3, 43, 49, 50, 51, 52, 129, 130, 131, 132] (by decide +kernel) (by decide +kernel)
set_option maxRecDepth 20000 in
theorem gX10_init_X8_init_n18 : GoodIn wsX10_init (wsX8_init) := ggX10_init_X8_init
set_option maxRecDepth 20000 in
theorem ggX10_init_X0_init : GoodIn wsX10_init wsX0_init := goodIn_r _ [54, 55, 2, 3, 43, 56, 57, 58, 59, 60, 61, 133, 134, 135, 136, 137, 138] (by decide +kernel) (by decide +kernel)
set_option maxRecDepth 20000 in
theorem gX10_init_X0_init_n25 : GoodIn wsX10_init (wsX0_init) := ggX10_init_X0_init
set_option maxRecDepth 20000 in
theorem ggX10_init_X5_init : GoodIn wsX10_init wsX5_init := goodIn_r _ [64, 65, 2, 3, 66, 67, 139, 140] (by decide +kernel) (by decide +kernel)
set_option maxRecDepth 20000 in
theorem gX10_init_X5_init : GoodIn wsX10_init (wsX5_init) := ggX10_init_X5_init
set_option maxRecDepth 20000 in
theorem ggX10_init_X2_init : GoodIn wsX10_init wsX2_init := goodIn_r _ [70, 71, 2, 3, 43, 72, 73, 74, 75, 76, 77, 78, 79, 80, 81, 82, 83, 84, 85, 86, 87, 88, 89, 90, 91, 141, 142, 143, 144, 145, 146, 147, 148, 149, 161, 162, 163, 164] (by decide +kernel) (by decide +kernel)
set_option maxRecDepth 20000 in
theorem gX10_init_X2_init : GoodIn wsX10_init (wsX2_init) := ggX10_init_X2_init
set_option maxRecDepth 20000 in
theorem ggX10_init_X1_init : GoodIn wsX10_init wsX1_init := goodIn_r _ [94, 95, 2, 3, 43, 96, 97, 98, 99, 100, 150, 151, 152, 153, 154] (by decide +kernel) (by decide +kernel)
set_option maxRecDepth 20000 in
theorem gX10_init_X1_init : GoodIn wsX10_init (wsX1_init) := ggX10_init_X1_init
set_option maxRecDepth 20000 in
theorem ggX10_init_X3_init : GoodIn wsX10_init wsX3_init := goodIn_r _ [103, 104, 2, 3, 105, 106, 107, 108, 109, 155, 156, 157, 158, 159] (by decide +kernel) (by decide +kernel)
set_option maxRecDepth 20000 in
theorem gX10_init_X3_init : GoodIn wsX10_init (wsX3_init) := ggX10_init_X3_init
set_option maxRecDepth 20000 in
theorem ggX10_init_X9_init : GoodIn wsX10_init wsX9_init := goodIn_r _ [112, 113, 2, 3, 114, 160] (by decide +kernel) (by decide +kernel)
set_option maxRecDepth 20000 in
theorem gX10_init_X9_init : GoodIn wsX10_init (wsX9_init) := ggX10_init_X9_init
theorem dX10_init_0 : decode cX10_init 0 = .ok (.aload_n 0, 1) := by decide +kernel
theorem dX10_init_1 : decode cX10_init 1 = .ok (.invokespecial 1, 3) := by decide +kernel
theorem dX10_init_4 : decode cX10_init 4 = .ok (.aload_n 0, 1) := by decide +kernel
theorem dX10_init_5 : decode cX10_init 5 = .ok (.new 7, 3) := by decide +kernel
theorem dX10_init_8 : decode cX10_init 8 = .ok (.dup, 1) := by decide +kernel
theorem dX10_init_9 : decode cX10_init 9 = .ok (.invokespecial 9, 3) := by decide +kernel
theorem dX10_init_12 : decode cX10_init 12 = .ok (.putfield 10, 3) := by decide +kernel
theorem dX10_init_15 : decode cX10_init 15 = .ok (.aload_n 0, 1) := by decide +kernel
theorem dX10_init_16 : decode cX10_init 16 = .ok (.new 16, 3) := by decide +kernel
theorem dX10_init_19 : decode cX10_init 19 = .ok (.dup, 1) := by decide +kernel
theorem dX10_init_20 : decode cX10_init 20 = .ok (.invokespecial 18, 3) := by decide +kernel
theorem dX10_init_23 : decode cX10_init 23 = .ok (.putfield 19, 3) := by decide +kernel
theorem dX10_init_26 : decode cX10_init 26 = .ok (.aload_n 0, 1) := by decide +kernel
theorem dX10_init_27 : decode cX10_init 27 = .ok (.new 23, 3) := by decide +kernel
theorem dX10_init_30 : decode cX10_init 30 = .ok (.dup, 1) := by decide +kernel
theorem dX10_init_31 : decode cX10_init 31 = .ok (.invokespecial 25, 3) := by decide +kernel
theorem dX10_init_34 : decode cX10_init 34 = .ok (.putfield 26, 3) := by decide +kernel
theorem dX10_init_37 : decode cX10_init 37 = .ok (.aload_n 0, 1) := by decide +kernel
theorem dX10_init_38 : decode cX10_init 38 = .ok (.new 23, 3) := by decide +kernel
theorem dX10_init_41 : decode cX10_init 41 = .ok (.dup, 1) := by decide +kernel
theorem dX10_init_42 : decode cX10_init 42 = .ok (.invokespecial 25, 3) := by decide +kernel
theorem dX10_init_45 : decode cX10_init 45 = .ok (.putfield 30, 3) := by decide +kernel
theorem dX10_init_48 : decode cX10_init 48 = .ok (.aload_n 0, 1) := by decide +kernel
theorem dX10_init_49 : decode cX10_init 49 = .ok (.new 23, 3) := by decide +kernel
theorem dX10_init_52 : decode cX10_init 52 = .ok (.dup, 1) := by decide +kernel
theorem dX10_init_53 : decode cX10_init 53 = .ok (.invokespecial 25, 3) := by decide +kernel
theorem dX10_init_56 : decode cX10_init 56 = .ok (.putfield 33, 3) := by decide +kernel
theorem dX10_init_59 : decode cX10_init 59 = .ok (.aload_n 0, 1) := by decide +kernel
theorem dX10_init_60 : decode cX10_init 60 = .ok (.new 36, 3) := by decide +kernel
theorem dX10_init_63 : decode cX10_init 63 = .ok (.dup, 1) := by decide +kernel
theorem dX10_init_64 : decode cX10_init 64 = .ok (.aload_n 0, 1) := by decide +kernel
theorem dX10_init_65 : decode cX10_init 65 = .ok (.getfield 19, 3) := by decide +kernel
theorem dX10_init_68 : decode cX10_init 68 = .ok (.aload_n 0, 1) := by decide +kernel
theorem dX10_init_69 : decode cX10_init 69 = .ok (.getfield 26, 3) := by decide +kernel
theorem dX10_init_72 : decode cX10_init 72 = .ok (.invokespecial 38, 3) := by decide +kernel
theorem dX10_init_75 : decode cX10_init 75 = .ok (.putfield 41, 3) := by decide +kernel
theorem dX10_init_78 : decode cX10_init 78 = .ok (.aload_n 0, 1) := by decide +kernel
theorem dX10_init_79 : decode cX10_init 79 = .ok (.new 45, 3) := by decide +kernel
theorem dX10_init_82 : decode cX10_init 82 = .ok (.dup, 1) := by decide +kernel
theorem dX10_init_83 : decode cX10_init 83 = .ok (.aload_n 0, 1) := by decide +kernel
theorem dX10_init_84 : decode cX10_init 84 = .ok (.getfield 10, 3) := by decide +kernel
theorem dX10_init_87 : decode cX10_init 87 = .ok (.aload_n 0, 1) := by decide +kernel
theorem dX10_init_88 : decode cX10_init 88 = .ok (.getfield 41, 3) := by decide +kernel
theorem dX10_init_91 : decode cX10_init 91 = .ok (.invokespecial 47, 3) := by decide +kernel
theorem dX10_init_94 : decode cX10_init 94 = .ok (.putfield 50, 3) := by decide +kernel
theorem dX10_init_97 : decode cX10_init 97 = .ok (.aload_n 0, 1) := by decide +kernel
theorem dX10_init_98 : decode cX10_init 98 = .ok (.new 54, 3) := by decide +kernel
theorem dX10_init_101 : decode cX10_init 101 = .ok (.dup, 1) := by decide +kernel
theorem dX10_init_102 : decode cX10_init 102 = .ok (.aload_n 0, 1) := by decide +kernel
theorem dX10_init_103 : decode cX10_init 103 = .ok (.getfield 41, 3) := by decide +kernel
theorem dX10_init_106 : decode cX10_init 106 = .ok (.invokespecial 56, 3) := by decide +kernel
theorem dX10_init_109 : decode cX10_init 109 = .ok (.putfield 59, 3) := by decide +kernel
theorem dX10_init_112 : decode cX10_init 112 = .ok (.aload_n 0, 1) := by decide +kernel
theorem dX10_init_113 : decode cX10_init 113 = .ok (.new 63, 3) := by decide +kernel
theorem dX10_init_116 : decode cX10_init 116 = .ok (.dup, 1) := by decide +kernel
theorem dX10_init_117 : decode cX10_init 117 = .ok (.aload_n 0, 1) := by decide +kernel
theorem dX10_init_118 : decode cX10_init 118 = .ok (.getfield 19, 3) := by decide +kernel
theorem dX10_init_121 : decode cX10_init 121 = .ok (.new 54, 3) := by decide +kernel
theorem dX10_init_124 : decode cX10_init 124 = .ok (.dup, 1) := by decide +kernel
theorem dX10_init_125 : decode cX10_init 125 = .ok (.aload_n 0, 1) := by decide +kernel
theorem dX10_init_126 : decode cX10_init 126 = .ok (.getfield 41, 3) := by decide +kernel
theorem dX10_init_129 : decode cX10_init 129 = .ok (.invokespecial 56, 3) := by decide +kernel
theorem dX10_init_132 : decode cX10_init 132 = .ok (.invokespecial 65, 3) := by decide +kernel
theorem dX10_init_135 : decode cX10_init 135 = .ok (.putfield 68, 3) := by decide +kernel
theorem dX10_init_138 : decode cX10_init 138 = .ok (.aload_n 0, 1) := by decide +kernel
theorem dX10_init_139 : decode cX10_init 139 = .ok (.new 72, 3) := by decide +kernel
theorem dX10_init_142 : decode cX10_init 142 = .ok (.dup, 1) := by decide +kernel
theorem dX10_init_143 : decode cX10_init 143 = .ok (.aload_n 0, 1) := by decide +kernel
theorem dX10_init_144 : decode cX10_init 144 = .ok (.getfield 19, 3) := by decide +kernel
theorem dX10_init_147 : decode cX10_init 147 = .ok (.invokespecial 74, 3) := by decide +kernel
theorem dX10_init_150 : decode cX10_init 150 = .ok (.putfield 77, 3) := by decide +kernel
theorem dX10_init_153 : decode cX10_init 153 = .ok (.aload_n 0, 1) := by decide +kernel
theorem dX10_init_154 : decode cX10_init 154 = .ok (.iconst 0, 1) := by decide +kernel
theorem dX10_init_155 : decode cX10_init 155 = .ok (.putfield 81, 3) := by decide +kernel
theorem dX10_init_158 : decode cX10_init 158 = .ok (.aload_n 0, 1) := by decide +kernel
theorem dX10_init_159 : decode cX10_init 159 = .ok (.lconst 0, 1) := by decide +kernel
theorem dX10_init_160 : decode cX10_init 160 = .ok (.putfield 85, 3) := by decide +kernel
theorem dX10_init_163 : decode cX10_init 163 = .ok (.return_, 1) := by decide +kernel
set_option maxRecDepth 20000 in
theorem ggX10_type_X6_add : GoodIn wsX10_type wsX6_add := goodIn_r _ [6, 7, 8, 9, 10, 11, 12, 29, 30] (by decide +kernel) (by decide +kernel)
set_option maxRecDepth 20000 in
theorem gX10_type_X6_add : GoodIn wsX10_type (wsV RX10 89 RX6 yX6_add wsX6_add) := goodIn_app (goodIn_of _ (by decide +kernel)) ggX10_type_X6_add
set_option maxRecDepth 20000 in
theorem ggX10_type_X6_size : GoodIn wsX10_type wsX6_size := goodIn_r _ [16, 7, 29, 30] (by decide +kernel) (by decide +kernel)
set_option maxRecDepth 20000 in
theorem gX10_type_X6_size : GoodIn wsX10_type (wsV RX10 93 RX6 yX6_size wsX6_size) := goodIn_app (goodIn_of _ (by decide +kernel)) ggX10_type_X6_size
theorem dX10_type_0 : decode cX10_type 0 = .ok (.iload_n 3, 1) := by decide +kernel
theorem dX10_type_1 : decode cX10_type 1 = .ok (.iconst 1, 1) := by decide +kernel
theorem dX10_type_2 : decode cX10_type 2 = .ok (.if_icmp .lt 9, 3) := by decide +kernel
theorem dX10_type_5 : decode cX10_type 5 = .ok (.iload_n 3, 1) := by decide +kernel
theorem dX10_type_6 : decode cX10_type 6 = .ok (.bipush 8, 2) := by decide +kernel
theorem dX10_type_8 : decode cX10_type 8 = .ok (.if_icmp .le 5, 3) := by decide +kernel
theorem dX10_type_11 : decode cX10_type 11 = .ok (.iconst (-1), 1) := by decide +kernel
theorem dX10_type_12 : decode cX10_type 12 = .ok (.ireturn, 1) := by decide +kernel
theorem dX10_type_13 : decode cX10_type 13 = .ok (.aload_n 0, 1) := by decide +kernel
theorem dX10_type_14 : decode cX10_type 14 = .ok (.getfield 10, 3) := by decide +kernel
theorem dX10_type_17 : decode cX10_type 17 = .ok (.lload_n 1, 1) := by decide +kernel
theorem dX10_type_18 : decode cX10_type 18 = .ok (.iload_n 3, 1) := by decide +kernel
theorem dX10_type_19 : decode cX10_type 19 = .ok (.invokevirtual 89, 3) := by decide +kernel
theorem dX10_type_22 : decode cX10_type 22 = .ok (.ifCond .eq 13, 3) := by decide +kernel
theorem dX10_type_25 : decode cX10_type 25 = .ok (.aload_n 0, 1) := by decide +kernel
theorem dX10_type_26 : decode cX10_type 26 = .ok (.getfield 10, 3) := by decide +kernel
theorem dX10_type_29 : decode cX10_type 29 = .ok (.invokevirtual 93, 3) := by decide +kernel
theorem dX10_type_32 : decode cX10_type 32 = .ok (.goto 5, 3) := by decide +kernel
theorem dX10_type_35 : decode cX10_type 35 = .ok (.bipush (-3), 2) := by decide +kernel
theorem dX10_type_37 : decode cX10_type 37 = .ok (.ireturn, 1) := by decide +kernel
set_option maxRecDepth 20000 in
theorem ggX10_clear_X6_drop : GoodIn wsX10_clear wsX6_drop := goodIn_r _ [6, 7, 20, 21] (by decide +kernel) (by decide +kernel)
set_option maxRecDepth 20000 in
theorem gX10_clear_X6_drop : GoodIn wsX10_clear (wsV RX10 97 RX6 yX6_drop wsX6_drop) := goodIn_app (goodIn_of _ (by decide +kernel)) ggX10_clear_X6_drop
theorem dX10_clear_0 : decode cX10_clear 0 = .ok (.aload_n 0, 1) := by decide +kernel
theorem dX10_clear_1 : decode cX10_clear 1 = .ok (.getfield 10, 3) := by decide +kernel
theorem dX10_clear_4 : decode cX10_clear 4 = .ok (.invokevirtual 97, 3) := by decide +kernel
theorem dX10_clear_7 : decode cX10_clear 7 = .ok (.ireturn, 1) := by decide +kernel
set_option maxRecDepth 20000 in
theorem ggX10_tongue_X2_faultOfTongue : GoodIn wsX10_tongue wsX2_faultOfTongue := goodIn_r _ [11, 12, 13, 14, 15, 16, 17, 18, 19, 20, 21, 22, 23, 24, 25, 26, 27, 28, 29, 30, 31, 32, 33, 34, 35, 36, 37, 38, 39, 40, 41, 42, 43, 44, 45, 46, 47, 48, 49, 50, 51, 52, 53, 54, 55, 56, 57, 58, 59, 60, 61, 62, 63, 64, 65, 66, 67, 68, 69, 70, 71, 72, 73, 74, 75, 76, 77, 78, 79, 80, 81, 82, 83, 84, 85, 86, 87, 88, 89, 90, 91, 92, 93, 94, 95, 96, 97, 98, 99, 100, 101, 102, 103, 104, 105, 106, 107, 108, 109, 110, 111, 112, 113, 114, 115, 116, 117, 118, 119, 120, 121, 122, 123, 124, 125, 126, 127, 209, 210, 211, 212, 213, 214, 215, 216, 217, 218, 219, 220, 221, 222, 223] (by decide +kernel) (by decide +kernel)
set_option maxRecDepth 20000 in
theorem gX10_tongue_X2_faultOfTongue : GoodIn wsX10_tongue (wsV RX10 100 RX2 yX2_faultOfTongue wsX2_faultOfTongue) := goodIn_app (goodIn_of _ (by decide +kernel)) ggX10_tongue_X2_faultOfTongue
set_option maxRecDepth 20000 in
theorem ggX10_tongue_X8_begin : GoodIn wsX10_tongue wsX8_begin := goodIn_r _ [132, 133, 134, 224, 225, 226, 227] (by decide +kernel) (by decide +kernel)
set_option maxRecDepth 20000 in
theorem gX10_tongue_X8_begin : GoodIn wsX10_tongue (wsV RX10 103 RX8 yX8_begin wsX8_begin) := goodIn_app (goodIn_of _ (by decide +kernel)) ggX10_tongue_X8_begin
set_option maxRecDepth 20000 in
theorem ggX10_tongue_X2_choicesRead : GoodIn wsX10_tongue wsX2_choicesRead := goodIn_r _ [138, 12, 209, 210, 211, 212, 213, 214, 215, 216, 217] (by decide +kernel) (by decide +kernel)
set_option maxRecDepth 20000 in
theorem gX10_tongue_X2_choicesRead : GoodIn wsX10_tongue (wsV RX10 106 RX2 yX2_choicesRead wsX2_choicesRead) := goodIn_app (goodIn_of _ (by decide +kernel)) ggX10_tongue_X2_choicesRead
set_option maxRecDepth 20000 in
theorem ggX10_tongue_X2_valuesRead : GoodIn wsX10_tongue wsX2_valuesRead := goodIn_r _ [142, 14, 143, 40, 41, 42, 209, 210, 211, 212, 213, 214, 215, 216, 217] (by decide +kernel) (by decide +kernel)
set_option maxRecDepth 20000 in
theorem gX10_tongue_X2_valuesRead : GoodIn wsX10_tongue (wsV RX10 109 RX2 yX2_valuesRead wsX2_valuesRead) := goodIn_app (goodIn_of _ (by decide +kernel)) ggX10_tongue_X2_valuesRead
set_option maxRecDepth 20000 in
theorem ggX10_tongue_X8_addChoice : GoodIn wsX10_tongue wsX8_addChoice := goodIn_r _ [147, 148, 133, 134, 149, 126, 41, 127, 224, 225, 226, 227] (by decide +kernel) (by decide +kernel)
set_option maxRecDepth 20000 in
theorem gX10_tongue_X8_addChoice : GoodIn wsX10_tongue (wsV RX10 113 RX8 yX8_addChoice wsX8_addChoice) := goodIn_app (goodIn_of _ (by decide +kernel)) ggX10_tongue_X8_addChoice
set_option maxRecDepth 20000 in
theorem ggX10_tongue_X8_layOut : GoodIn wsX10_tongue wsX8_layOut := goodIn_r _ [153, 133, 154, 155, 156, 131, 157, 158, 134, 159, 160, 161, 162, 148, 163, 164, 165, 166, 167, 40, 41, 42, 149, 126, 127, 224, 225, 226, 227] (by decide +kernel) (by decide +kernel)
set_option maxRecDepth 20000 in
theorem gX10_tongue_X8_layOut : GoodIn wsX10_tongue (wsV RX10 117 RX8 yX8_layOut wsX8_layOut) := goodIn_app (goodIn_of _ (by decide +kernel)) ggX10_tongue_X8_layOut
set_option maxRecDepth 20000 in
theorem ggX10_tongue_X6_drop : GoodIn wsX10_tongue wsX6_drop := goodIn_r _ [171, 33, 222, 223] (by decide +kernel) (by decide +kernel)
set_option maxRecDepth 20000 in
theorem gX10_tongue_X6_drop : GoodIn wsX10_tongue (wsV RX10 97 RX6 yX6_drop wsX6_drop) := goodIn_app (goodIn_of _ (by decide +kernel)) ggX10_tongue_X6_drop
set_option maxRecDepth 20000 in
theorem ggX10_tongue_X0_forget : GoodIn wsX10_tongue wsX0_forget := goodIn_r _ [176, 177, 178, 179, 228, 229, 230, 231, 232, 233] (by decide +kernel) (by decide +kernel)
set_option maxRecDepth 20000 in
theorem gX10_tongue_X0_forget : GoodIn wsX10_tongue (wsV RX10 120 RX0 yX0_forget wsX0_forget) := goodIn_app (goodIn_of _ (by decide +kernel)) ggX10_tongue_X0_forget
set_option maxRecDepth 20000 in
theorem ggX10_tongue_X10_signsChanged : GoodIn wsX10_tongue wsX10_signsChanged := goodIn_r _ [184, 185, 186, 187, 188, 189, 190, 191, 192, 197, 198, 199, 200, 201, 202, 203, 204, 205, 206, 207, 208, 234, 235, 236, 237, 238] (by decide +kernel) (by decide +kernel)
set_option maxRecDepth 20000 in
theorem gX10_tongue_X10_signsChanged : GoodIn wsX10_tongue (wsV RX10 123 RX10 yX10_signsChanged wsX10_signsChanged) := goodIn_app (goodIn_of _ (by decide +kernel)) ggX10_tongue_X10_signsChanged
set_option maxRecDepth 20000 in
theorem ggX10_tongue_X8_choices : GoodIn wsX10_tongue wsX8_choices := goodIn_r _ [196, 133, 224, 225, 226, 227] (by decide +kernel) (by decide +kernel)
set_option maxRecDepth 20000 in
theorem gX10_tongue_X8_choices : GoodIn wsX10_tongue (wsV RX10 126 RX8 yX8_choices wsX8_choices) := goodIn_app (goodIn_of _ (by decide +kernel)) ggX10_tongue_X8_choices
theorem dX10_tongue_0 : decode cX10_tongue 0 = .ok (.aload_n 0, 1) := by decide +kernel
theorem dX10_tongue_1 : decode cX10_tongue 1 = .ok (.getfield 50, 3) := by decide +kernel
theorem dX10_tongue_4 : decode cX10_tongue 4 = .ok (.invokevirtual 100, 3) := by decide +kernel
theorem dX10_tongue_7 : decode cX10_tongue 7 = .ok (.istore_n 1, 1) := by decide +kernel
theorem dX10_tongue_8 : decode cX10_tongue 8 = .ok (.iload_n 1, 1) := by decide +kernel
theorem dX10_tongue_9 : decode cX10_tongue 9 = .ok (.iconst (-1), 1) := by decide +kernel
theorem dX10_tongue_10 : decode cX10_tongue 10 = .ok (.if_icmp .eq 8, 3) := by decide +kernel
theorem dX10_tongue_13 : decode cX10_tongue 13 = .ok (.bipush (-10), 2) := by decide +kernel
theorem dX10_tongue_15 : decode cX10_tongue 15 = .ok (.iload_n 1, 1) := by decide +kernel
theorem dX10_tongue_16 : decode cX10_tongue 16 = .ok (.isub, 1) := by decide +kernel
theorem dX10_tongue_17 : decode cX10_tongue 17 = .ok (.ireturn, 1) := by decide +kernel
theorem dX10_tongue_18 : decode cX10_tongue 18 = .ok (.aload_n 0, 1) := by decide +kernel
theorem dX10_tongue_19 : decode cX10_tongue 19 = .ok (.getfield 19, 3) := by decide +kernel
theorem dX10_tongue_22 : decode cX10_tongue 22 = .ok (.invokevirtual 103, 3) := by decide +kernel
theorem dX10_tongue_25 : decode cX10_tongue 25 = .ok (.iconst 0, 1) := by decide +kernel
theorem dX10_tongue_26 : decode cX10_tongue 26 = .ok (.istore_n 2, 1) := by decide +kernel
theorem dX10_tongue_27 : decode cX10_tongue 27 = .ok (.iload_n 2, 1) := by decide +kernel
theorem dX10_tongue_28 : decode cX10_tongue 28 = .ok (.aload_n 0, 1) := by decide +kernel
theorem dX10_tongue_29 : decode cX10_tongue 29 = .ok (.getfield 50, 3) := by decide +kernel
theorem dX10_tongue_32 : decode cX10_tongue 32 = .ok (.invokevirtual 106, 3) := by decide +kernel
theorem dX10_tongue_35 : decode cX10_tongue 35 = .ok (.if_icmp .ge 24, 3) := by decide +kernel
theorem dX10_tongue_38 : decode cX10_tongue 38 = .ok (.aload_n 0, 1) := by decide +kernel
theorem dX10_tongue_39 : decode cX10_tongue 39 = .ok (.getfield 19, 3) := by decide +kernel
theorem dX10_tongue_42 : decode cX10_tongue 42 = .ok (.aload_n 0, 1) := by decide +kernel
theorem dX10_tongue_43 : decode cX10_tongue 43 = .ok (.getfield 50, 3) := by decide +kernel
theorem dX10_tongue_46 : decode cX10_tongue 46 = .ok (.iload_n 2, 1) := by decide +kernel
theorem dX10_tongue_47 : decode cX10_tongue 47 = .ok (.invokevirtual 109, 3) := by decide +kernel
theorem dX10_tongue_50 : decode cX10_tongue 50 = .ok (.invokevirtual 113, 3) := by decide +kernel
theorem dX10_tongue_53 : decode cX10_tongue 53 = .ok (.iinc 2 1, 3) := by decide +kernel
theorem dX10_tongue_56 : decode cX10_tongue 56 = .ok (.goto (-29), 3) := by decide +kernel
theorem dX10_tongue_59 : decode cX10_tongue 59 = .ok (.aload_n 0, 1) := by decide +kernel
theorem dX10_tongue_60 : decode cX10_tongue 60 = .ok (.getfield 19, 3) := by decide +kernel
theorem dX10_tongue_63 : decode cX10_tongue 63 = .ok (.invokevirtual 117, 3) := by decide +kernel
theorem dX10_tongue_66 : decode cX10_tongue 66 = .ok (.aload_n 0, 1) := by decide +kernel
theorem dX10_tongue_67 : decode cX10_tongue 67 = .ok (.getfield 10, 3) := by decide +kernel
theorem dX10_tongue_70 : decode cX10_tongue 70 = .ok (.invokevirtual 97, 3) := by decide +kernel
theorem dX10_tongue_73 : decode cX10_tongue 73 = .ok (.pop, 1) := by decide +kernel
theorem dX10_tongue_74 : decode cX10_tongue 74 = .ok (.aload_n 0, 1) := by decide +kernel
theorem dX10_tongue_75 : decode cX10_tongue 75 = .ok (.getfield 26, 3) := by decide +kernel
theorem dX10_tongue_78 : decode cX10_tongue 78 = .ok (.invokevirtual 120, 3) := by decide +kernel
theorem dX10_tongue_81 : decode cX10_tongue 81 = .ok (.aload_n 0, 1) := by decide +kernel
theorem dX10_tongue_82 : decode cX10_tongue 82 = .ok (.getfield 30, 3) := by decide +kernel
theorem dX10_tongue_85 : decode cX10_tongue 85 = .ok (.invokevirtual 120, 3) := by decide +kernel
theorem dX10_tongue_88 : decode cX10_tongue 88 = .ok (.aload_n 0, 1) := by decide +kernel
theorem dX10_tongue_89 : decode cX10_tongue 89 = .ok (.getfield 33, 3) := by decide +kernel
theorem dX10_tongue_92 : decode cX10_tongue 92 = .ok (.invokevirtual 120, 3) := by decide +kernel
theorem dX10_tongue_95 : decode cX10_tongue 95 = .ok (.aload_n 0, 1) := by decide +kernel
theorem dX10_tongue_96 : decode cX10_tongue 96 = .ok (.invokevirtual 123, 3) := by decide +kernel
theorem dX10_tongue_99 : decode cX10_tongue 99 = .ok (.aload_n 0, 1) := by decide +kernel
theorem dX10_tongue_100 : decode cX10_tongue 100 = .ok (.getfield 19, 3) := by decide +kernel
theorem dX10_tongue_103 : decode cX10_tongue 103 = .ok (.invokevirtual 126, 3) := by decide +kernel
theorem dX10_tongue_106 : decode cX10_tongue 106 = .ok (.ireturn, 1) := by decide +kernel
set_option maxRecDepth 20000 in
theorem ggX10_say_X0_sayings : GoodIn wsX10_say wsX0_sayings := goodIn_r _ [8, 9, 191, 192, 193, 194, 195, 196] (by decide +kernel) (by decide +kernel)
set_option maxRecDepth 20000 in
theorem gX10_say_X0_sayings : GoodIn wsX10_say (wsV RX10 129 RX0 yX0_sayings wsX0_sayings) := goodIn_app (goodIn_of _ (by decide +kernel)) ggX10_say_X0_sayings
set_option maxRecDepth 20000 in
theorem ggX10_say_X2_faultOfSaying : GoodIn wsX10_say wsX2_faultOfSaying := goodIn_r _ [14, 15, 16, 17, 18, 19, 20, 21, 22, 23, 24, 25, 26, 27, 28, 29, 13, 30, 31, 32, 33, 34, 35, 36, 37, 38, 39, 40, 41, 42, 43, 44, 45, 46, 47, 48, 49, 50, 51, 52, 53, 54, 55, 56, 57, 58, 59, 60, 61, 62, 63, 64, 65, 66, 67, 68, 69, 70, 71, 72, 73, 74, 75, 76, 77, 78, 79, 80, 81, 82, 83, 84, 85, 86, 87, 88, 89, 90, 91, 92, 93, 94, 95, 96, 97, 98, 99, 100, 101, 102, 103, 104, 105, 106, 107, 108, 109, 110, 111, 112, 113, 114, 115, 116, 117, 118, 7, 119, 120, 121, 122, 123, 124, 125, 126, 127, 128, 129, 130, 131, 132, 133, 134, 135, 136, 137, 138, 139, 140, 141, 142, 143, 144, 145, 146, 147, 148, 149, 150, 151, 152, 153, 154, 155, 156, 157, 158, 159, 197, 198, 199, 200, 201, 202, 203, 204, 205, 206, 207, 208, 209, 210, 211, 212, 213, 214, 215, 216, 217, 191, 192, 193, 194, 195, 196] (by decide +kernel) (by decide +kernel)
set_option maxRecDepth 20000 in
theorem gX10_say_X2_faultOfSaying : GoodIn wsX10_say (wsV RX10 132 RX2 yX2_faultOfSaying wsX2_faultOfSaying) := goodIn_app (goodIn_of _ (by decide +kernel)) ggX10_say_X2_faultOfSaying
set_option maxRecDepth 20000 in
theorem ggX10_say_X2_leftBySaying : GoodIn wsX10_say wsX2_leftBySaying := goodIn_r _ [163, 152, 153, 154, 13, 155, 31, 16, 32, 147, 67, 36, 68, 197, 198, 199, 200, 201, 202, 203, 204, 205] (by decide +kernel) (by decide +kernel)
set_option maxRecDepth 20000 in
theorem gX10_say_X2_leftBySaying : GoodIn wsX10_say (wsV RX10 135 RX2 yX2_leftBySaying wsX2_leftBySaying) := goodIn_app (goodIn_of _ (by decide +kernel)) ggX10_say_X2_leftBySaying
set_option maxRecDepth 20000 in
theorem ggX10_say_X2_signsRead : GoodIn wsX10_say wsX2_signsRead := goodIn_r _ [167, 17, 197, 198, 199, 200, 201, 202, 203, 204, 205] (by decide +kernel) (by decide +kernel)
set_option maxRecDepth 20000 in
theorem gX10_say_X2_signsRead : GoodIn wsX10_say (wsV RX10 138 RX2 yX2_signsRead wsX2_signsRead) := goodIn_app (goodIn_of _ (by decide +kernel)) ggX10_say_X2_signsRead
set_option maxRecDepth 20000 in
theorem ggX10_say_X0_addSaying : GoodIn wsX10_say wsX0_addSaying := goodIn_r _ [171, 172, 9, 173, 174, 35, 36, 37, 191, 192, 193, 194, 195, 196] (by decide +kernel) (by decide +kernel)
set_option maxRecDepth 20000 in
theorem gX10_say_X0_addSaying : GoodIn wsX10_say (wsV RX10 141 RX0 yX0_addSaying wsX0_addSaying) := goodIn_app (goodIn_of _ (by decide +kernel)) ggX10_say_X0_addSaying
set_option maxRecDepth 20000 in
theorem ggX10_say_X6_drop : GoodIn wsX10_say wsX6_drop := goodIn_r _ [178, 60, 216, 217] (by decide +kernel) (by decide +kernel)
set_option maxRecDepth 20000 in
theorem gX10_say_X6_drop : GoodIn wsX10_say (wsV RX10 97 RX6 yX6_drop wsX6_drop) := goodIn_app (goodIn_of _ (by decide +kernel)) ggX10_say_X6_drop
theorem dX10_say_0 : decode cX10_say 0 = .ok (.aload_n 0, 1) := by decide +kernel
theorem dX10_say_1 : decode cX10_say 1 = .ok (.getfield 26, 3) := by decide +kernel
theorem dX10_say_4 : decode cX10_say 4 = .ok (.invokevirtual 129, 3) := by decide +kernel
theorem dX10_say_7 : decode cX10_say 7 = .ok (.bipush 8, 2) := by decide +kernel
theorem dX10_say_9 : decode cX10_say 9 = .ok (.if_icmp .lt 6, 3) := by decide +kernel
theorem dX10_say_12 : decode cX10_say 12 = .ok (.bipush (-3), 2) := by decide +kernel
theorem dX10_say_14 : decode cX10_say 14 = .ok (.ireturn, 1) := by decide +kernel
theorem dX10_say_15 : decode cX10_say 15 = .ok (.aload_n 0, 1) := by decide +kernel
theorem dX10_say_16 : decode cX10_say 16 = .ok (.getfield 50, 3) := by decide +kernel
theorem dX10_say_19 : decode cX10_say 19 = .ok (.invokevirtual 132, 3) := by decide +kernel
theorem dX10_say_22 : decode cX10_say 22 = .ok (.istore_n 1, 1) := by decide +kernel
theorem dX10_say_23 : decode cX10_say 23 = .ok (.iload_n 1, 1) := by decide +kernel
theorem dX10_say_24 : decode cX10_say 24 = .ok (.iconst (-1), 1) := by decide +kernel
theorem dX10_say_25 : decode cX10_say 25 = .ok (.if_icmp .eq 8, 3) := by decide +kernel
theorem dX10_say_28 : decode cX10_say 28 = .ok (.bipush (-10), 2) := by decide +kernel
theorem dX10_say_30 : decode cX10_say 30 = .ok (.iload_n 1, 1) := by decide +kernel
theorem dX10_say_31 : decode cX10_say 31 = .ok (.isub, 1) := by decide +kernel
theorem dX10_say_32 : decode cX10_say 32 = .ok (.ireturn, 1) := by decide +kernel
theorem dX10_say_33 : decode cX10_say 33 = .ok (.aload_n 0, 1) := by decide +kernel
theorem dX10_say_34 : decode cX10_say 34 = .ok (.getfield 26, 3) := by decide +kernel
theorem dX10_say_37 : decode cX10_say 37 = .ok (.aload_n 0, 1) := by decide +kernel
theorem dX10_say_38 : decode cX10_say 38 = .ok (.getfield 50, 3) := by decide +kernel
theorem dX10_say_41 : decode cX10_say 41 = .ok (.invokevirtual 135, 3) := by decide +kernel
theorem dX10_say_44 : decode cX10_say 44 = .ok (.aload_n 0, 1) := by decide +kernel
theorem dX10_say_45 : decode cX10_say 45 = .ok (.getfield 50, 3) := by decide +kernel
theorem dX10_say_48 : decode cX10_say 48 = .ok (.invokevirtual 138, 3) := by decide +kernel
theorem dX10_say_51 : decode cX10_say 51 = .ok (.invokevirtual 141, 3) := by decide +kernel
theorem dX10_say_54 : decode cX10_say 54 = .ok (.aload_n 0, 1) := by decide +kernel
theorem dX10_say_55 : decode cX10_say 55 = .ok (.getfield 10, 3) := by decide +kernel
theorem dX10_say_58 : decode cX10_say 58 = .ok (.invokevirtual 97, 3) := by decide +kernel
theorem dX10_say_61 : decode cX10_say 61 = .ok (.pop, 1) := by decide +kernel
theorem dX10_say_62 : decode cX10_say 62 = .ok (.aload_n 0, 1) := by decide +kernel
theorem dX10_say_63 : decode cX10_say 63 = .ok (.getfield 26, 3) := by decide +kernel
theorem dX10_say_66 : decode cX10_say 66 = .ok (.invokevirtual 129, 3) := by decide +kernel
theorem dX10_say_69 : decode cX10_say 69 = .ok (.ireturn, 1) := by decide +kernel
set_option maxRecDepth 20000 in
theorem ggX10_unsay_X0_sayings : GoodIn wsX10_unsay wsX0_sayings := goodIn_r _ [6, 7, 24, 25, 26, 27, 28, 29] (by decide +kernel) (by decide +kernel)
set_option maxRecDepth 20000 in
theorem gX10_unsay_X0_sayings : GoodIn wsX10_unsay (wsV RX10 129 RX0 yX0_sayings wsX0_sayings) := goodIn_app (goodIn_of _ (by decide +kernel)) ggX10_unsay_X0_sayings
set_option maxRecDepth 20000 in
theorem ggX10_unsay_X0_dropSaying : GoodIn wsX10_unsay wsX0_dropSaying := goodIn_r _ [11, 7, 24, 25, 26, 27, 28, 29] (by decide +kernel) (by decide +kernel)
set_option maxRecDepth 20000 in
theorem gX10_unsay_X0_dropSaying : GoodIn wsX10_unsay (wsV RX10 145 RX0 yX0_dropSaying wsX0_dropSaying) := goodIn_app (goodIn_of _ (by decide +kernel)) ggX10_unsay_X0_dropSaying
theorem dX10_unsay_0 : decode cX10_unsay 0 = .ok (.aload_n 0, 1) := by decide +kernel
theorem dX10_unsay_1 : decode cX10_unsay 1 = .ok (.getfield 26, 3) := by decide +kernel
theorem dX10_unsay_4 : decode cX10_unsay 4 = .ok (.invokevirtual 129, 3) := by decide +kernel
theorem dX10_unsay_7 : decode cX10_unsay 7 = .ok (.ifCond .ne 6, 3) := by decide +kernel
theorem dX10_unsay_10 : decode cX10_unsay 10 = .ok (.bipush (-2), 2) := by decide +kernel
theorem dX10_unsay_12 : decode cX10_unsay 12 = .ok (.ireturn, 1) := by decide +kernel
theorem dX10_unsay_13 : decode cX10_unsay 13 = .ok (.aload_n 0, 1) := by decide +kernel
theorem dX10_unsay_14 : decode cX10_unsay 14 = .ok (.getfield 26, 3) := by decide +kernel
theorem dX10_unsay_17 : decode cX10_unsay 17 = .ok (.invokevirtual 145, 3) := by decide +kernel
theorem dX10_unsay_20 : decode cX10_unsay 20 = .ok (.aload_n 0, 1) := by decide +kernel
theorem dX10_unsay_21 : decode cX10_unsay 21 = .ok (.getfield 26, 3) := by decide +kernel
theorem dX10_unsay_24 : decode cX10_unsay 24 = .ok (.invokevirtual 129, 3) := by decide +kernel
theorem dX10_unsay_27 : decode cX10_unsay 27 = .ok (.ireturn, 1) := by decide +kernel
set_option maxRecDepth 20000 in
theorem ggX10_word_X8_isSet : GoodIn wsX10_word wsX8_isSet := goodIn_r _ [7, 8, 9, 10, 6, 11, 12, 53, 54, 55, 56] (by decide +kernel) (by decide +kernel)
set_option maxRecDepth 20000 in
theorem gX10_word_X8_isSet : GoodIn wsX10_word (wsV RX10 148 RX8 yX8_isSet wsX8_isSet) := goodIn_app (goodIn_of _ (by decide +kernel)) ggX10_word_X8_isSet
set_option maxRecDepth 20000 in
theorem ggX10_word_X0_words : GoodIn wsX10_word wsX0_words := goodIn_r _ [17, 18, 57, 58, 59, 60, 61, 62] (by decide +kernel) (by decide +kernel)
set_option maxRecDepth 20000 in
theorem gX10_word_X0_words : GoodIn wsX10_word (wsV RX10 152 RX0 yX0_words wsX0_words) := goodIn_app (goodIn_of _ (by decide +kernel)) ggX10_word_X0_words
set_option maxRecDepth 20000 in
theorem ggX10_word_X0_addWord : GoodIn wsX10_word wsX0_addWord := goodIn_r _ [22, 23, 18, 24, 25, 26, 27, 57, 58, 59, 60, 61, 62] (by decide +kernel) (by decide +kernel)
set_option maxRecDepth 20000 in
theorem gX10_word_X0_addWord : GoodIn wsX10_word (wsV RX10 155 RX0 yX0_addWord wsX0_addWord) := goodIn_app (goodIn_of _ (by decide +kernel)) ggX10_word_X0_addWord
set_option maxRecDepth 20000 in
theorem ggX10_word_X10_signsChanged : GoodIn wsX10_word wsX10_signsChanged := goodIn_r _ [32, 33, 34, 35, 36, 37, 38, 39, 40, 41, 42, 43, 44, 45, 46, 47, 48, 49, 50, 51, 52, 63, 64, 65, 66, 67] (by decide +kernel) (by decide +kernel)
set_option maxRecDepth 20000 in
theorem gX10_word_X10_signsChanged : GoodIn wsX10_word (wsV RX10 123 RX10 yX10_signsChanged wsX10_signsChanged) := goodIn_app (goodIn_of _ (by decide +kernel)) ggX10_word_X10_signsChanged
theorem dX10_word_0 : decode cX10_word 0 = .ok (.aload_n 0, 1) := by decide +kernel
theorem dX10_word_1 : decode cX10_word 1 = .ok (.getfield 19, 3) := by decide +kernel
theorem dX10_word_4 : decode cX10_word 4 = .ok (.iload_n 1, 1) := by decide +kernel
theorem dX10_word_5 : decode cX10_word 5 = .ok (.invokevirtual 148, 3) := by decide +kernel
theorem dX10_word_8 : decode cX10_word 8 = .ok (.ifCond .ne 5, 3) := by decide +kernel
theorem dX10_word_11 : decode cX10_word 11 = .ok (.iconst (-1), 1) := by decide +kernel
theorem dX10_word_12 : decode cX10_word 12 = .ok (.ireturn, 1) := by decide +kernel
theorem dX10_word_13 : decode cX10_word 13 = .ok (.aload_n 0, 1) := by decide +kernel
theorem dX10_word_14 : decode cX10_word 14 = .ok (.getfield 26, 3) := by decide +kernel
theorem dX10_word_17 : decode cX10_word 17 = .ok (.invokevirtual 152, 3) := by decide +kernel
theorem dX10_word_20 : decode cX10_word 20 = .ok (.iconst 3, 1) := by decide +kernel
theorem dX10_word_21 : decode cX10_word 21 = .ok (.if_icmp .lt 6, 3) := by decide +kernel
theorem dX10_word_24 : decode cX10_word 24 = .ok (.bipush (-3), 2) := by decide +kernel
theorem dX10_word_26 : decode cX10_word 26 = .ok (.ireturn, 1) := by decide +kernel
theorem dX10_word_27 : decode cX10_word 27 = .ok (.aload_n 0, 1) := by decide +kernel
theorem dX10_word_28 : decode cX10_word 28 = .ok (.getfield 26, 3) := by decide +kernel
theorem dX10_word_31 : decode cX10_word 31 = .ok (.iload_n 1, 1) := by decide +kernel
theorem dX10_word_32 : decode cX10_word 32 = .ok (.invokevirtual 155, 3) := by decide +kernel
theorem dX10_word_35 : decode cX10_word 35 = .ok (.aload_n 0, 1) := by decide +kernel
theorem dX10_word_36 : decode cX10_word 36 = .ok (.invokevirtual 123, 3) := by decide +kernel
theorem dX10_word_39 : decode cX10_word 39 = .ok (.aload_n 0, 1) := by decide +kernel
theorem dX10_word_40 : decode cX10_word 40 = .ok (.getfield 26, 3) := by decide +kernel
theorem dX10_word_43 : decode cX10_word 43 = .ok (.invokevirtual 152, 3) := by decide +kernel
theorem dX10_word_46 : decode cX10_word 46 = .ok (.ireturn, 1) := by decide +kernel
set_option maxRecDepth 20000 in
theorem ggX10_unword_X0_words : GoodIn wsX10_unword wsX0_words := goodIn_r _ [6, 7, 37, 38, 39, 40, 41, 42] (by decide +kernel) (by decide +kernel)
set_option maxRecDepth 20000 in
theorem gX10_unword_X0_words : GoodIn wsX10_unword (wsV RX10 152 RX0 yX0_words wsX0_words) := goodIn_app (goodIn_of _ (by decide +kernel)) ggX10_unword_X0_words
set_option maxRecDepth 20000 in
theorem ggX10_unword_X0_dropWords : GoodIn wsX10_unword wsX0_dropWords := goodIn_r _ [11, 7, 37, 38, 39, 40, 41, 42] (by decide +kernel) (by decide +kernel)
set_option maxRecDepth 20000 in
theorem gX10_unword_X0_dropWords : GoodIn wsX10_unword (wsV RX10 158 RX0 yX0_dropWords wsX0_dropWords) := goodIn_app (goodIn_of _ (by decide +kernel)) ggX10_unword_X0_dropWords
set_option maxRecDepth 20000 in
theorem ggX10_unword_X10_signsChanged : GoodIn wsX10_unword wsX10_signsChanged := goodIn_r _ [16, 17, 18, 19, 20, 21, 22, 23, 24, 25, 26, 27, 28, 29, 30, 31, 32, 33, 34, 35, 36, 43, 44, 45, 46, 47] (by decide +kernel) (by decide +kernel)
set_option maxRecDepth 20000 in
theorem gX10_unword_X10_signsChanged : GoodIn wsX10_unword (wsV RX10 123 RX10 yX10_signsChanged wsX10_signsChanged) := goodIn_app (goodIn_of _ (by decide +kernel)) ggX10_unword_X10_signsChanged
theorem dX10_unword_0 : decode cX10_unword 0 = .ok (.aload_n 0, 1) := by decide +kernel
theorem dX10_unword_1 : decode cX10_unword 1 = .ok (.getfield 26, 3) := by decide +kernel
theorem dX10_unword_4 : decode cX10_unword 4 = .ok (.invokevirtual 152, 3) := by decide +kernel
theorem dX10_unword_7 : decode cX10_unword 7 = .ok (.istore_n 1, 1) := by decide +kernel
theorem dX10_unword_8 : decode cX10_unword 8 = .ok (.aload_n 0, 1) := by decide +kernel
theorem dX10_unword_9 : decode cX10_unword 9 = .ok (.getfield 26, 3) := by decide +kernel
theorem dX10_unword_12 : decode cX10_unword 12 = .ok (.invokevirtual 158, 3) := by decide +kernel
theorem dX10_unword_15 : decode cX10_unword 15 = .ok (.aload_n 0, 1) := by decide +kernel
theorem dX10_unword_16 : decode cX10_unword 16 = .ok (.invokevirtual 123, 3) := by decide +kernel
theorem dX10_unword_19 : decode cX10_unword 19 = .ok (.iload_n 1, 1) := by decide +kernel
theorem dX10_unword_20 : decode cX10_unword 20 = .ok (.ireturn, 1) := by decide +kernel
set_option maxRecDepth 20000 in
theorem ggX10_value_X8_isWorld : GoodIn wsX10_value wsX8_isWorld := goodIn_r _ [6, 7, 48, 49, 50, 51] (by decide +kernel) (by decide +kernel)
set_option maxRecDepth 20000 in
theorem gX10_value_X8_isWorld : GoodIn wsX10_value (wsV RX10 161 RX8 yX8_isWorld wsX8_isWorld) := goodIn_app (goodIn_of _ (by decide +kernel)) ggX10_value_X8_isWorld
set_option maxRecDepth 20000 in
theorem ggX10_value_X8_isChoice : GoodIn wsX10_value wsX8_isChoice := goodIn_r _ [11, 12, 48, 49, 50, 51] (by decide +kernel) (by decide +kernel)
set_option maxRecDepth 20000 in
theorem gX10_value_X8_isChoice : GoodIn wsX10_value (wsV RX10 164 RX8 yX8_isChoice wsX8_isChoice) := goodIn_app (goodIn_of _ (by decide +kernel)) ggX10_value_X8_isChoice
set_option maxRecDepth 20000 in
theorem ggX10_value_X8_valueIn : GoodIn wsX10_value wsX8_valueIn := goodIn_r _ [16, 17, 18, 19, 5, 20, 21, 22, 23, 24, 25, 26, 9, 10, 11, 12, 27, 28, 29, 30, 31, 32, 33, 34, 35, 48, 49, 50, 51] (by decide +kernel) (by decide +kernel)
set_option maxRecDepth 20000 in
theorem gX10_value_X8_valueIn : GoodIn wsX10_value (wsV RX10 167 RX8 yX8_valueIn wsX8_valueIn) := goodIn_app (goodIn_of _ (by decide +kernel)) ggX10_value_X8_valueIn
theorem dX10_value_0 : decode cX10_value 0 = .ok (.aload_n 0, 1) := by decide +kernel
theorem dX10_value_1 : decode cX10_value 1 = .ok (.getfield 19, 3) := by decide +kernel
theorem dX10_value_4 : decode cX10_value 4 = .ok (.iload_n 1, 1) := by decide +kernel
theorem dX10_value_5 : decode cX10_value 5 = .ok (.invokevirtual 161, 3) := by decide +kernel
theorem dX10_value_8 : decode cX10_value 8 = .ok (.ifCond .eq 14, 3) := by decide +kernel
theorem dX10_value_11 : decode cX10_value 11 = .ok (.aload_n 0, 1) := by decide +kernel
theorem dX10_value_12 : decode cX10_value 12 = .ok (.getfield 19, 3) := by decide +kernel
theorem dX10_value_15 : decode cX10_value 15 = .ok (.iload_n 2, 1) := by decide +kernel
theorem dX10_value_16 : decode cX10_value 16 = .ok (.invokevirtual 164, 3) := by decide +kernel
theorem dX10_value_19 : decode cX10_value 19 = .ok (.ifCond .ne 5, 3) := by decide +kernel
theorem dX10_value_22 : decode cX10_value 22 = .ok (.iconst (-1), 1) := by decide +kernel
theorem dX10_value_23 : decode cX10_value 23 = .ok (.ireturn, 1) := by decide +kernel
theorem dX10_value_24 : decode cX10_value 24 = .ok (.aload_n 0, 1) := by decide +kernel
theorem dX10_value_25 : decode cX10_value 25 = .ok (.getfield 19, 3) := by decide +kernel
theorem dX10_value_28 : decode cX10_value 28 = .ok (.iload_n 1, 1) := by decide +kernel
theorem dX10_value_29 : decode cX10_value 29 = .ok (.iload_n 2, 1) := by decide +kernel
theorem dX10_value_30 : decode cX10_value 30 = .ok (.invokevirtual 167, 3) := by decide +kernel
theorem dX10_value_33 : decode cX10_value 33 = .ok (.ireturn, 1) := by decide +kernel
set_option maxRecDepth 20000 in
theorem ggX10_saying_X0_isSaying : GoodIn wsX10_saying wsX0_isSaying := goodIn_r _ [6, 7, 34, 35, 36, 37, 38, 39] (by decide +kernel) (by decide +kernel)
set_option maxRecDepth 20000 in
theorem gX10_saying_X0_isSaying : GoodIn wsX10_saying (wsV RX10 171 RX0 yX0_isSaying wsX0_isSaying) := goodIn_app (goodIn_of _ (by decide +kernel)) ggX10_saying_X0_isSaying
set_option maxRecDepth 20000 in
theorem ggX10_saying_X0_leftBy : GoodIn wsX10_saying wsX0_leftBy := goodIn_r _ [11, 12, 13, 14, 15, 16, 34, 35, 36, 37, 38, 39] (by decide +kernel) (by decide +kernel)
set_option maxRecDepth 20000 in
theorem gX10_saying_X0_leftBy : GoodIn wsX10_saying (wsV RX10 174 RX0 yX0_leftBy wsX0_leftBy) := goodIn_app (goodIn_of _ (by decide +kernel)) ggX10_saying_X0_leftBy
set_option maxRecDepth 20000 in
theorem ggX10_saying_X0_signsOf : GoodIn wsX10_saying wsX0_signsOf := goodIn_r _ [20, 21, 13, 14, 15, 16, 34, 35, 36, 37, 38, 39] (by decide +kernel) (by decide +kernel)
set_option maxRecDepth 20000 in
theorem gX10_saying_X0_signsOf : GoodIn wsX10_saying (wsV RX10 177 RX0 yX0_signsOf wsX0_signsOf) := goodIn_app (goodIn_of _ (by decide +kernel)) ggX10_saying_X0_signsOf
theorem dX10_saying_0 : decode cX10_saying 0 = .ok (.aload_n 0, 1) := by decide +kernel
theorem dX10_saying_1 : decode cX10_saying 1 = .ok (.getfield 26, 3) := by decide +kernel
theorem dX10_saying_4 : decode cX10_saying 4 = .ok (.iload_n 1, 1) := by decide +kernel
theorem dX10_saying_5 : decode cX10_saying 5 = .ok (.invokevirtual 171, 3) := by decide +kernel
theorem dX10_saying_8 : decode cX10_saying 8 = .ok (.ifCond .eq 12, 3) := by decide +kernel
theorem dX10_saying_11 : decode cX10_saying 11 = .ok (.iload_n 2, 1) := by decide +kernel
theorem dX10_saying_12 : decode cX10_saying 12 = .ok (.ifCond .lt 8, 3) := by decide +kernel
theorem dX10_saying_15 : decode cX10_saying 15 = .ok (.iload_n 2, 1) := by decide +kernel
theorem dX10_saying_16 : decode cX10_saying 16 = .ok (.iconst 1, 1) := by decide +kernel
theorem dX10_saying_17 : decode cX10_saying 17 = .ok (.if_icmp .le 5, 3) := by decide +kernel
theorem dX10_saying_20 : decode cX10_saying 20 = .ok (.iconst (-1), 1) := by decide +kernel
theorem dX10_saying_21 : decode cX10_saying 21 = .ok (.ireturn, 1) := by decide +kernel
theorem dX10_saying_22 : decode cX10_saying 22 = .ok (.iload_n 2, 1) := by decide +kernel
theorem dX10_saying_23 : decode cX10_saying 23 = .ok (.ifCond .ne 14, 3) := by decide +kernel
theorem dX10_saying_26 : decode cX10_saying 26 = .ok (.aload_n 0, 1) := by decide +kernel
theorem dX10_saying_27 : decode cX10_saying 27 = .ok (.getfield 26, 3) := by decide +kernel
theorem dX10_saying_30 : decode cX10_saying 30 = .ok (.iload_n 1, 1) := by decide +kernel
theorem dX10_saying_31 : decode cX10_saying 31 = .ok (.invokevirtual 174, 3) := by decide +kernel
theorem dX10_saying_34 : decode cX10_saying 34 = .ok (.goto 11, 3) := by decide +kernel
theorem dX10_saying_37 : decode cX10_saying 37 = .ok (.aload_n 0, 1) := by decide +kernel
theorem dX10_saying_38 : decode cX10_saying 38 = .ok (.getfield 26, 3) := by decide +kernel
theorem dX10_saying_41 : decode cX10_saying 41 = .ok (.iload_n 1, 1) := by decide +kernel
theorem dX10_saying_42 : decode cX10_saying 42 = .ok (.invokevirtual 177, 3) := by decide +kernel
theorem dX10_saying_45 : decode cX10_saying 45 = .ok (.ireturn, 1) := by decide +kernel
set_option maxRecDepth 20000 in
theorem ggX10_alike_X0_isSaying : GoodIn wsX10_alike wsX0_isSaying := goodIn_r _ [6, 7, 29, 30, 31, 32, 33, 34] (by decide +kernel) (by decide +kernel)
set_option maxRecDepth 20000 in
theorem gX10_alike_X0_isSaying : GoodIn wsX10_alike (wsV RX10 171 RX0 yX0_isSaying wsX0_isSaying) := goodIn_app (goodIn_of _ (by decide +kernel)) ggX10_alike_X0_isSaying
set_option maxRecDepth 20000 in
theorem ggX10_alike_X0_leftBy : GoodIn wsX10_alike wsX0_leftBy := goodIn_r _ [11, 12, 13, 14, 15, 16, 29, 30, 31, 32, 33, 34] (by decide +kernel) (by decide +kernel)
set_option maxRecDepth 20000 in
theorem gX10_alike_X0_leftBy : GoodIn wsX10_alike (wsV RX10 174 RX0 yX0_leftBy wsX0_leftBy) := goodIn_app (goodIn_of _ (by decide +kernel)) ggX10_alike_X0_leftBy
theorem dX10_alike_0 : decode cX10_alike 0 = .ok (.aload_n 0, 1) := by decide +kernel
theorem dX10_alike_1 : decode cX10_alike 1 = .ok (.getfield 26, 3) := by decide +kernel
theorem dX10_alike_4 : decode cX10_alike 4 = .ok (.iload_n 1, 1) := by decide +kernel
theorem dX10_alike_5 : decode cX10_alike 5 = .ok (.invokevirtual 171, 3) := by decide +kernel
theorem dX10_alike_8 : decode cX10_alike 8 = .ok (.ifCond .eq 14, 3) := by decide +kernel
theorem dX10_alike_11 : decode cX10_alike 11 = .ok (.aload_n 0, 1) := by decide +kernel
theorem dX10_alike_12 : decode cX10_alike 12 = .ok (.getfield 26, 3) := by decide +kernel
theorem dX10_alike_15 : decode cX10_alike 15 = .ok (.iload_n 2, 1) := by decide +kernel
theorem dX10_alike_16 : decode cX10_alike 16 = .ok (.invokevirtual 171, 3) := by decide +kernel
theorem dX10_alike_19 : decode cX10_alike 19 = .ok (.ifCond .ne 5, 3) := by decide +kernel
theorem dX10_alike_22 : decode cX10_alike 22 = .ok (.iconst (-1), 1) := by decide +kernel
theorem dX10_alike_23 : decode cX10_alike 23 = .ok (.ireturn, 1) := by decide +kernel
theorem dX10_alike_24 : decode cX10_alike 24 = .ok (.aload_n 0, 1) := by decide +kernel
theorem dX10_alike_25 : decode cX10_alike 25 = .ok (.getfield 26, 3) := by decide +kernel
theorem dX10_alike_28 : decode cX10_alike 28 = .ok (.iload_n 1, 1) := by decide +kernel
theorem dX10_alike_29 : decode cX10_alike 29 = .ok (.invokevirtual 174, 3) := by decide +kernel
theorem dX10_alike_32 : decode cX10_alike 32 = .ok (.aload_n 0, 1) := by decide +kernel
theorem dX10_alike_33 : decode cX10_alike 33 = .ok (.getfield 26, 3) := by decide +kernel
theorem dX10_alike_36 : decode cX10_alike 36 = .ok (.iload_n 2, 1) := by decide +kernel
theorem dX10_alike_37 : decode cX10_alike 37 = .ok (.invokevirtual 174, 3) := by decide +kernel
theorem dX10_alike_40 : decode cX10_alike 40 = .ok (.if_icmp .ne 7, 3) := by decide +kernel
theorem dX10_alike_43 : decode cX10_alike 43 = .ok (.iconst 1, 1) := by decide +kernel
theorem dX10_alike_44 : decode cX10_alike 44 = .ok (.goto 4, 3) := by decide +kernel
theorem dX10_alike_47 : decode cX10_alike 47 = .ok (.iconst 0, 1) := by decide +kernel
theorem dX10_alike_48 : decode cX10_alike 48 = .ok (.ireturn, 1) := by decide +kernel
set_option maxRecDepth 20000 in
theorem ggX10_shortest_X8_isSet : GoodIn wsX10_shortest wsX8_isSet := goodIn_r _ [6, 7, 8, 9, 5, 10, 11, 108, 109, 110, 111] (by decide +kernel) (by decide +kernel)
set_option maxRecDepth 20000 in
theorem gX10_shortest_X8_isSet : GoodIn wsX10_shortest (wsV RX10 148 RX8 yX8_isSet wsX8_isSet) := goodIn_app (goodIn_of _ (by decide +kernel)) ggX10_shortest_X8_isSet
set_option maxRecDepth 20000 in
theorem ggX10_shortest_X10_lengthsNow : GoodIn wsX10_shortest wsX10_lengthsNow := goodIn_r _ [16, 17, 18, 19, 20, 21, 22, 23, 24, 25, 26, 27, 28, 29, 30, 31, 32, 33, 34, 8, 9, 5, 10, 11, 35, 36, 37, 38, 39, 40, 41, 42, 43, 44, 45, 46, 47, 48, 49, 50, 51, 52, 53, 54, 55, 56, 57, 58, 59, 60, 61, 62, 63, 64, 65, 66, 67, 68, 69, 70, 71, 72, 73, 74, 75, 76, 77, 78, 79, 80, 81, 82, 83, 84, 85, 86, 87, 88, 89, 90, 91, 96, 97, 98, 99, 100, 101, 102, 103, 104, 105, 106, 107, 112, 113, 114, 115, 116, 117, 118, 108, 109, 110, 111, 119, 120, 121, 122, 123, 124] (by decide +kernel) (by decide +kernel)
set_option maxRecDepth 20000 in
theorem gX10_shortest_X10_lengthsNow : GoodIn wsX10_shortest (wsV RX10 180 RX10 yX10_lengthsNow wsX10_lengthsNow) := goodIn_app (goodIn_of _ (by decide +kernel)) ggX10_shortest_X10_lengthsNow
set_option maxRecDepth 20000 in
theorem ggX10_shortest_X1_of : GoodIn wsX10_shortest wsX1_of := goodIn_r _ [95, 25, 87, 65, 37, 66, 112, 113, 114, 115, 116] (by decide +kernel) (by decide +kernel)
set_option maxRecDepth 20000 in
theorem gX10_shortest_X1_of : GoodIn wsX10_shortest (wsV RX10 184 RX1 yX1_of wsX1_of) := goodIn_app (goodIn_of _ (by decide +kernel)) ggX10_shortest_X1_of
theorem dX10_shortest_0 : decode cX10_shortest 0 = .ok (.aload_n 0, 1) := by decide +kernel
theorem dX10_shortest_1 : decode cX10_shortest 1 = .ok (.getfield 19, 3) := by decide +kernel
theorem dX10_shortest_4 : decode cX10_shortest 4 = .ok (.iload_n 1, 1) := by decide +kernel
theorem dX10_shortest_5 : decode cX10_shortest 5 = .ok (.invokevirtual 148, 3) := by decide +kernel
theorem dX10_shortest_8 : decode cX10_shortest 8 = .ok (.ifCond .eq 14, 3) := by decide +kernel
theorem dX10_shortest_11 : decode cX10_shortest 11 = .ok (.aload_n 0, 1) := by decide +kernel
theorem dX10_shortest_12 : decode cX10_shortest 12 = .ok (.invokevirtual 180, 3) := by decide +kernel
theorem dX10_shortest_15 : decode cX10_shortest 15 = .ok (.iload_n 1, 1) := by decide +kernel
theorem dX10_shortest_16 : decode cX10_shortest 16 = .ok (.invokevirtual 184, 3) := by decide +kernel
theorem dX10_shortest_19 : decode cX10_shortest 19 = .ok (.goto 4, 3) := by decide +kernel
theorem dX10_shortest_22 : decode cX10_shortest 22 = .ok (.iconst (-1), 1) := by decide +kernel
theorem dX10_shortest_23 : decode cX10_shortest 23 = .ok (.ireturn, 1) := by decide +kernel
set_option maxRecDepth 20000 in
theorem ggX10_made_X8_isSet : GoodIn wsX10_made wsX8_isSet := goodIn_r _ [8, 9, 10, 11, 7, 12, 13, 136, 137, 138, 139] (by decide +kernel) (by decide +kernel)
set_option maxRecDepth 20000 in
theorem gX10_made_X8_isSet : GoodIn wsX10_made (wsV RX10 148 RX8 yX8_isSet wsX8_isSet) := goodIn_app (goodIn_of _ (by decide +kernel)) ggX10_made_X8_isSet
set_option maxRecDepth 20000 in
theorem ggX10_made_X5_firstFor : GoodIn wsX10_made wsX5_firstFor := goodIn_r _ [18, 19, 20, 21, 17, 22, 23, 24, 25, 26, 27, 28, 29, 30, 31, 32, 33, 7, 34, 35, 36, 37, 38, 39, 40, 41, 42, 43, 44, 45, 46, 47, 48, 49, 50, 51, 52, 53, 54, 55, 56, 57, 58, 59, 140, 141, 142, 143, 144, 145, 146, 147, 136, 137, 138, 139] (by decide +kernel) (by decide +kernel)
set_option maxRecDepth 20000 in
theorem gX10_made_X5_firstFor : GoodIn wsX10_made (wsV RX10 187 RX5 yX5_firstFor wsX5_firstFor) := goodIn_app (goodIn_of _ (by decide +kernel)) ggX10_made_X5_firstFor
set_option maxRecDepth 20000 in
theorem ggX10_made_X10_lengthsNow : GoodIn wsX10_made wsX10_lengthsNow := goodIn_r _ [64, 65, 3, 66, 67, 68, 69, 70, 71, 72, 73, 74, 75, 76, 77, 17, 78, 24, 79, 10, 11, 7, 12, 13, 80, 81, 43, 82, 83, 84, 85, 86, 87, 20, 21, 22, 23, 25, 26, 27, 28, 29, 30, 31, 32, 33, 34, 35, 36, 37, 38, 39, 40, 41, 42, 44, 88, 46, 47, 48, 49, 50, 51, 52, 53, 54, 55, 56, 57, 58, 59, 89, 90, 91, 92, 93, 94, 95, 96, 97, 98, 124, 125, 126, 127, 128, 129, 130, 131, 132, 133, 134, 135, 148, 149, 150, 151, 152, 140, 141, 136, 137, 138, 139, 142, 143, 144, 145, 146, 147] (by decide +kernel) (by decide +kernel)
set_option maxRecDepth 20000 in
theorem gX10_made_X10_lengthsNow : GoodIn wsX10_made (wsV RX10 180 RX10 yX10_lengthsNow wsX10_lengthsNow) := goodIn_app (goodIn_of _ (by decide +kernel)) ggX10_made_X10_lengthsNow
set_option maxRecDepth 20000 in
theorem ggX10_made_X1_firstPair : GoodIn wsX10_made wsX1_firstPair := goodIn_r _ [102, 71, 103, 104, 105, 69, 106, 72, 94, 42, 43, 44, 75, 76, 77, 17, 78, 24, 79, 10, 11, 7, 12, 13, 107, 108, 109, 110, 111, 112, 113, 114, 148, 149, 150, 151, 152, 140, 141, 136, 137, 138, 139] (by decide +kernel) (by decide +kernel)
set_option maxRecDepth 20000 in
theorem gX10_made_X1_firstPair : GoodIn wsX10_made (wsV RX10 190 RX1 yX1_firstPair wsX1_firstPair) := goodIn_app (goodIn_of _ (by decide +kernel)) ggX10_made_X1_firstPair
set_option maxRecDepth 20000 in
theorem ggX10_made_X10_pairPart : GoodIn wsX10_made wsX10_pairPart := goodIn_r _ [117, 118, 119, 69, 120, 121, 122, 123] (by decide +kernel) (by decide +kernel)
set_option maxRecDepth 20000 in
theorem gX10_made_X10_pairPart : GoodIn wsX10_made (va_wsS RX10 194 yX10_pairPart wsX10_pairPart) := goodIn_app (goodIn_of _ (by decide +kernel)) ggX10_made_X10_pairPart
theorem dX10_made_0 : decode cX10_made 0 = .ok (.aload_n 0, 1) := by decide +kernel
theorem dX10_made_1 : decode cX10_made 1 = .ok (.getfield 19, 3) := by decide +kernel
theorem dX10_made_4 : decode cX10_made 4 = .ok (.iload_n 1, 1) := by decide +kernel
theorem dX10_made_5 : decode cX10_made 5 = .ok (.invokevirtual 148, 3) := by decide +kernel
theorem dX10_made_8 : decode cX10_made 8 = .ok (.ifCond .eq 12, 3) := by decide +kernel
theorem dX10_made_11 : decode cX10_made 11 = .ok (.iload_n 2, 1) := by decide +kernel
theorem dX10_made_12 : decode cX10_made 12 = .ok (.ifCond .lt 8, 3) := by decide +kernel
theorem dX10_made_15 : decode cX10_made 15 = .ok (.iload_n 2, 1) := by decide +kernel
theorem dX10_made_16 : decode cX10_made 16 = .ok (.iconst 2, 1) := by decide +kernel
theorem dX10_made_17 : decode cX10_made 17 = .ok (.if_icmp .le 5, 3) := by decide +kernel
theorem dX10_made_20 : decode cX10_made 20 = .ok (.iconst (-1), 1) := by decide +kernel
theorem dX10_made_21 : decode cX10_made 21 = .ok (.ireturn, 1) := by decide +kernel
theorem dX10_made_22 : decode cX10_made 22 = .ok (.aload_n 0, 1) := by decide +kernel
theorem dX10_made_23 : decode cX10_made 23 = .ok (.getfield 41, 3) := by decide +kernel
theorem dX10_made_26 : decode cX10_made 26 = .ok (.iload_n 1, 1) := by decide +kernel
theorem dX10_made_27 : decode cX10_made 27 = .ok (.invokevirtual 187, 3) := by decide +kernel
theorem dX10_made_30 : decode cX10_made 30 = .ok (.istore_n 3, 1) := by decide +kernel
theorem dX10_made_31 : decode cX10_made 31 = .ok (.iload_n 3, 1) := by decide +kernel
theorem dX10_made_32 : decode cX10_made 32 = .ok (.bipush (-9), 2) := by decide +kernel
theorem dX10_made_34 : decode cX10_made 34 = .ok (.if_icmp .eq 14, 3) := by decide +kernel
theorem dX10_made_37 : decode cX10_made 37 = .ok (.iload_n 2, 1) := by decide +kernel
theorem dX10_made_38 : decode cX10_made 38 = .ok (.iconst 1, 1) := by decide +kernel
theorem dX10_made_39 : decode cX10_made 39 = .ok (.if_icmp .ne 7, 3) := by decide +kernel
theorem dX10_made_42 : decode cX10_made 42 = .ok (.iload_n 3, 1) := by decide +kernel
theorem dX10_made_43 : decode cX10_made 43 = .ok (.goto 4, 3) := by decide +kernel
theorem dX10_made_46 : decode cX10_made 46 = .ok (.iconst 0, 1) := by decide +kernel
theorem dX10_made_47 : decode cX10_made 47 = .ok (.ireturn, 1) := by decide +kernel
theorem dX10_made_48 : decode cX10_made 48 = .ok (.aload_n 0, 1) := by decide +kernel
theorem dX10_made_49 : decode cX10_made 49 = .ok (.invokevirtual 180, 3) := by decide +kernel
theorem dX10_made_52 : decode cX10_made 52 = .ok (.iload_n 1, 1) := by decide +kernel
theorem dX10_made_53 : decode cX10_made 53 = .ok (.iconst 1, 1) := by decide +kernel
theorem dX10_made_54 : decode cX10_made 54 = .ok (.invokevirtual 190, 3) := by decide +kernel
theorem dX10_made_57 : decode cX10_made 57 = .ok (.istore 4, 2) := by decide +kernel
theorem dX10_made_59 : decode cX10_made 59 = .ok (.iload 4, 2) := by decide +kernel
theorem dX10_made_61 : decode cX10_made 61 = .ok (.bipush (-9), 2) := by decide +kernel
theorem dX10_made_63 : decode cX10_made 63 = .ok (.if_icmp .eq 11, 3) := by decide +kernel
theorem dX10_made_66 : decode cX10_made 66 = .ok (.iconst 1, 1) := by decide +kernel
theorem dX10_made_67 : decode cX10_made 67 = .ok (.iload 4, 2) := by decide +kernel
theorem dX10_made_69 : decode cX10_made 69 = .ok (.iload_n 2, 1) := by decide +kernel
theorem dX10_made_70 : decode cX10_made 70 = .ok (.invokestatic 194, 3) := by decide +kernel
theorem dX10_made_73 : decode cX10_made 73 = .ok (.ireturn, 1) := by decide +kernel
theorem dX10_made_74 : decode cX10_made 74 = .ok (.aload_n 0, 1) := by decide +kernel
theorem dX10_made_75 : decode cX10_made 75 = .ok (.getfield 59, 3) := by decide +kernel
theorem dX10_made_78 : decode cX10_made 78 = .ok (.iload_n 1, 1) := by decide +kernel
theorem dX10_made_79 : decode cX10_made 79 = .ok (.iconst 0, 1) := by decide +kernel
theorem dX10_made_80 : decode cX10_made 80 = .ok (.invokevirtual 190, 3) := by decide +kernel
theorem dX10_made_83 : decode cX10_made 83 = .ok (.istore 5, 2) := by decide +kernel
theorem dX10_made_85 : decode cX10_made 85 = .ok (.iload 5, 2) := by decide +kernel
theorem dX10_made_87 : decode cX10_made 87 = .ok (.bipush (-9), 2) := by decide +kernel
theorem dX10_made_89 : decode cX10_made 89 = .ok (.if_icmp .ne 8, 3) := by decide +kernel
theorem dX10_made_92 : decode cX10_made 92 = .ok (.bipush (-9), 2) := by decide +kernel
theorem dX10_made_94 : decode cX10_made 94 = .ok (.goto 10, 3) := by decide +kernel
theorem dX10_made_97 : decode cX10_made 97 = .ok (.iconst 2, 1) := by decide +kernel
theorem dX10_made_98 : decode cX10_made 98 = .ok (.iload 5, 2) := by decide +kernel
theorem dX10_made_100 : decode cX10_made 100 = .ok (.iload_n 2, 1) := by decide +kernel
theorem dX10_made_101 : decode cX10_made 101 = .ok (.invokestatic 194, 3) := by decide +kernel
theorem dX10_made_104 : decode cX10_made 104 = .ok (.ireturn, 1) := by decide +kernel
set_option maxRecDepth 20000 in
theorem ggX10_terms_X8_isSet : GoodIn wsX10_terms wsX8_isSet := goodIn_r _ [6, 7, 8, 9, 5, 10, 11, 56, 57, 58, 59] (by decide +kernel) (by decide +kernel)
set_option maxRecDepth 20000 in
theorem gX10_terms_X8_isSet : GoodIn wsX10_terms (wsV RX10 148 RX8 yX8_isSet wsX8_isSet) := goodIn_app (goodIn_of _ (by decide +kernel)) ggX10_terms_X8_isSet
set_option maxRecDepth 20000 in
theorem ggX10_terms_X8_all : GoodIn wsX10_terms wsX8_all := goodIn_r _ [10, 11, 56, 57, 58, 59] (by decide +kernel) (by decide +kernel)
set_option maxRecDepth 20000 in
theorem gX10_terms_X8_all : GoodIn wsX10_terms (wsV RX10 198 RX8 yX8_all wsX8_all) := goodIn_app (goodIn_of _ (by decide +kernel)) ggX10_terms_X8_all
set_option maxRecDepth 20000 in
theorem ggX10_terms_X8_isTerm : GoodIn wsX10_terms wsX8_isTerm := goodIn_r _ [16, 17, 18, 19, 20, 5, 21, 7, 8, 9, 10, 11, 22, 23, 24, 25, 26, 27, 28, 29, 30, 31, 32, 33, 34, 35, 36, 37, 38, 39, 40, 41, 42, 43, 56, 57, 58, 59] (by decide +kernel) (by decide +kernel)
set_option maxRecDepth 20000 in
theorem gX10_terms_X8_isTerm : GoodIn wsX10_terms (wsV RX10 201 RX8 yX8_isTerm wsX8_isTerm) := goodIn_app (goodIn_of _ (by decide +kernel)) ggX10_terms_X8_isTerm
theorem dX10_terms_0 : decode cX10_terms 0 = .ok (.aload_n 0, 1) := by decide +kernel
theorem dX10_terms_1 : decode cX10_terms 1 = .ok (.getfield 19, 3) := by decide +kernel
theorem dX10_terms_4 : decode cX10_terms 4 = .ok (.iload_n 1, 1) := by decide +kernel
theorem dX10_terms_5 : decode cX10_terms 5 = .ok (.invokevirtual 148, 3) := by decide +kernel
theorem dX10_terms_8 : decode cX10_terms 8 = .ok (.ifCond .eq 8, 3) := by decide +kernel
theorem dX10_terms_11 : decode cX10_terms 11 = .ok (.iload_n 2, 1) := by decide +kernel
theorem dX10_terms_12 : decode cX10_terms 12 = .ok (.iconst (-1), 1) := by decide +kernel
theorem dX10_terms_13 : decode cX10_terms 13 = .ok (.if_icmp .ge 5, 3) := by decide +kernel
theorem dX10_terms_16 : decode cX10_terms 16 = .ok (.iconst (-1), 1) := by decide +kernel
theorem dX10_terms_17 : decode cX10_terms 17 = .ok (.ireturn, 1) := by decide +kernel
theorem dX10_terms_18 : decode cX10_terms 18 = .ok (.iconst 0, 1) := by decide +kernel
theorem dX10_terms_19 : decode cX10_terms 19 = .ok (.istore_n 3, 1) := by decide +kernel
theorem dX10_terms_20 : decode cX10_terms 20 = .ok (.iconst 1, 1) := by decide +kernel
theorem dX10_terms_21 : decode cX10_terms 21 = .ok (.istore 4, 2) := by decide +kernel
theorem dX10_terms_23 : decode cX10_terms 23 = .ok (.iload 4, 2) := by decide +kernel
theorem dX10_terms_25 : decode cX10_terms 25 = .ok (.aload_n 0, 1) := by decide +kernel
theorem dX10_terms_26 : decode cX10_terms 26 = .ok (.getfield 19, 3) := by decide +kernel
theorem dX10_terms_29 : decode cX10_terms 29 = .ok (.invokevirtual 198, 3) := by decide +kernel
theorem dX10_terms_32 : decode cX10_terms 32 = .ok (.if_icmp .gt 33, 3) := by decide +kernel
theorem dX10_terms_35 : decode cX10_terms 35 = .ok (.aload_n 0, 1) := by decide +kernel
theorem dX10_terms_36 : decode cX10_terms 36 = .ok (.getfield 19, 3) := by decide +kernel
theorem dX10_terms_39 : decode cX10_terms 39 = .ok (.iload 4, 2) := by decide +kernel
theorem dX10_terms_41 : decode cX10_terms 41 = .ok (.iload_n 1, 1) := by decide +kernel
theorem dX10_terms_42 : decode cX10_terms 42 = .ok (.invokevirtual 201, 3) := by decide +kernel
theorem dX10_terms_45 : decode cX10_terms 45 = .ok (.ifCond .eq 14, 3) := by decide +kernel
theorem dX10_terms_48 : decode cX10_terms 48 = .ok (.iload_n 3, 1) := by decide +kernel
theorem dX10_terms_49 : decode cX10_terms 49 = .ok (.iload_n 2, 1) := by decide +kernel
theorem dX10_terms_50 : decode cX10_terms 50 = .ok (.if_icmp .ne 6, 3) := by decide +kernel
theorem dX10_terms_53 : decode cX10_terms 53 = .ok (.iload 4, 2) := by decide +kernel
theorem dX10_terms_55 : decode cX10_terms 55 = .ok (.ireturn, 1) := by decide +kernel
theorem dX10_terms_56 : decode cX10_terms 56 = .ok (.iinc 3 1, 3) := by decide +kernel
theorem dX10_terms_59 : decode cX10_terms 59 = .ok (.iinc 4 1, 3) := by decide +kernel
theorem dX10_terms_62 : decode cX10_terms 62 = .ok (.goto (-39), 3) := by decide +kernel
theorem dX10_terms_65 : decode cX10_terms 65 = .ok (.iload_n 2, 1) := by decide +kernel
theorem dX10_terms_66 : decode cX10_terms 66 = .ok (.iconst (-1), 1) := by decide +kernel
theorem dX10_terms_67 : decode cX10_terms 67 = .ok (.if_icmp .ne 7, 3) := by decide +kernel
theorem dX10_terms_70 : decode cX10_terms 70 = .ok (.iload_n 3, 1) := by decide +kernel
theorem dX10_terms_71 : decode cX10_terms 71 = .ok (.goto 4, 3) := by decide +kernel
theorem dX10_terms_74 : decode cX10_terms 74 = .ok (.iconst (-1), 1) := by decide +kernel
theorem dX10_terms_75 : decode cX10_terms 75 = .ok (.ireturn, 1) := by decide +kernel
set_option maxRecDepth 20000 in
theorem ggX10_refusal_X8_isSet : GoodIn wsX10_refusal wsX8_isSet := goodIn_r _ [6, 7, 8, 9, 5, 10, 11, 112, 113, 114, 115] (by decide +kernel) (by decide +kernel)
set_option maxRecDepth 20000 in
theorem gX10_refusal_X8_isSet : GoodIn wsX10_refusal (wsV RX10 148 RX8 yX8_isSet wsX8_isSet) := goodIn_app (goodIn_of _ (by decide +kernel)) ggX10_refusal_X8_isSet
set_option maxRecDepth 20000 in
theorem ggX10_refusal_X10_lengthsNow : GoodIn wsX10_refusal wsX10_lengthsNow := goodIn_r _ [16, 17, 18, 19, 20, 21, 22, 23, 24, 25, 26, 27, 28, 29, 30, 31, 32, 33, 34, 8, 9, 5, 10, 11, 35, 36, 37, 38, 39, 40, 41, 42, 43, 44, 45, 46, 47, 48, 49, 50, 51, 52, 53, 54, 55, 56, 57, 58, 59, 60, 61, 62, 63, 64, 65, 66, 67, 68, 69, 70, 71, 72, 73, 74, 75, 76, 77, 78, 79, 80, 81, 82, 83, 84, 85, 86, 87, 88, 89, 90, 91, 100, 101, 102, 103, 104, 105, 106, 107, 108, 109, 110, 111, 116, 117, 118, 119, 120, 121, 122, 112, 113, 114, 115, 123, 124, 125, 126, 127, 128] (by decide +kernel) (by decide +kernel)
set_option maxRecDepth 20000 in
theorem gX10_refusal_X10_lengthsNow : GoodIn wsX10_refusal (wsV RX10 180 RX10 yX10_lengthsNow wsX10_lengthsNow) := goodIn_app (goodIn_of _ (by decide +kernel)) ggX10_refusal_X10_lengthsNow
set_option maxRecDepth 20000 in
theorem ggX10_refusal_X8_others : GoodIn wsX10_refusal wsX8_others := goodIn_r _ [95, 7, 8, 9, 5, 10, 11, 112, 113, 114, 115] (by decide +kernel) (by decide +kernel)
set_option maxRecDepth 20000 in
theorem gX10_refusal_X8_others : GoodIn wsX10_refusal (wsV RX10 205 RX8 yX8_others wsX8_others) := goodIn_app (goodIn_of _ (by decide +kernel)) ggX10_refusal_X8_others
set_option maxRecDepth 20000 in
theorem ggX10_refusal_X1_of : GoodIn wsX10_refusal wsX1_of := goodIn_r _ [99, 25, 87, 65, 37, 66, 116, 117, 118, 119, 120] (by decide +kernel) (by decide +kernel)
set_option maxRecDepth 20000 in
theorem gX10_refusal_X1_of : GoodIn wsX10_refusal (wsV RX10 184 RX1 yX1_of wsX1_of) := goodIn_app (goodIn_of _ (by decide +kernel)) ggX10_refusal_X1_of
