theorem dX11_bitsIn_0 : decode cX11_bitsIn 0 = .ok (.iconst 0, 1) := by decide +kernel
theorem dX11_bitsIn_1 : decode cX11_bitsIn 1 = .ok (.istore_n 1, 1) := by decide +kernel
theorem dX11_bitsIn_2 : decode cX11_bitsIn 2 = .ok (.iconst 0, 1) := by decide +kernel
theorem dX11_bitsIn_3 : decode cX11_bitsIn 3 = .ok (.istore_n 2, 1) := by decide +kernel
theorem dX11_bitsIn_4 : decode cX11_bitsIn 4 = .ok (.iload_n 2, 1) := by decide +kernel
theorem dX11_bitsIn_5 : decode cX11_bitsIn 5 = .ok (.bipush 9, 2) := by decide +kernel
theorem dX11_bitsIn_7 : decode cX11_bitsIn 7 = .ok (.if_icmp .ge 17, 3) := by decide +kernel
theorem dX11_bitsIn_10 : decode cX11_bitsIn 10 = .ok (.iload_n 1, 1) := by decide +kernel
theorem dX11_bitsIn_11 : decode cX11_bitsIn 11 = .ok (.iload_n 0, 1) := by decide +kernel
theorem dX11_bitsIn_12 : decode cX11_bitsIn 12 = .ok (.iload_n 2, 1) := by decide +kernel
theorem dX11_bitsIn_13 : decode cX11_bitsIn 13 = .ok (.ishr, 1) := by decide +kernel
theorem dX11_bitsIn_14 : decode cX11_bitsIn 14 = .ok (.iconst 1, 1) := by decide +kernel
theorem dX11_bitsIn_15 : decode cX11_bitsIn 15 = .ok (.iand, 1) := by decide +kernel
theorem dX11_bitsIn_16 : decode cX11_bitsIn 16 = .ok (.iadd, 1) := by decide +kernel
theorem dX11_bitsIn_17 : decode cX11_bitsIn 17 = .ok (.istore_n 1, 1) := by decide +kernel
theorem dX11_bitsIn_18 : decode cX11_bitsIn 18 = .ok (.iinc 2 1, 3) := by decide +kernel
theorem dX11_bitsIn_21 : decode cX11_bitsIn 21 = .ok (.goto (-17), 3) := by decide +kernel
theorem dX11_bitsIn_24 : decode cX11_bitsIn 24 = .ok (.iload_n 1, 1) := by decide +kernel
theorem dX11_bitsIn_25 : decode cX11_bitsIn 25 = .ok (.ireturn, 1) := by decide +kernel
set_option maxRecDepth 20000 in
theorem ggX11_lostBy_X11_contractBut : GoodIn wsX11_lostBy wsX11_contractBut := goodIn_r _ [5, 6, 7, 8, 9, 10, 4, 11, 12, 16, 17, 18, 19, 20, 21, 22, 23, 24, 25, 26, 27, 28, 29, 30, 31, 32, 33, 34, 35, 36, 37, 38, 39, 40] (by decide +kernel) (by decide +kernel)
set_option maxRecDepth 20000 in
theorem gX11_lostBy_X11_contractBut : GoodIn wsX11_lostBy (wsV RX11 160 RX11 yX11_contractBut wsX11_contractBut) := goodIn_app (goodIn_of _ (by decide +kernel)) ggX11_lostBy_X11_contractBut
set_option maxRecDepth 20000 in
theorem ggX11_lostBy_X11_bitsIn : GoodIn wsX11_lostBy wsX11_bitsIn := goodIn_r _ [15] (by decide +kernel) (by decide +kernel)
set_option maxRecDepth 20000 in
theorem gX11_lostBy_X11_bitsIn : GoodIn wsX11_lostBy (va_wsS RX11 163 yX11_bitsIn wsX11_bitsIn) := goodIn_app (goodIn_of _ (by decide +kernel)) ggX11_lostBy_X11_bitsIn
theorem dX11_lostBy_0 : decode cX11_lostBy 0 = .ok (.aload_n 0, 1) := by decide +kernel
theorem dX11_lostBy_1 : decode cX11_lostBy 1 = .ok (.iload_n 1, 1) := by decide +kernel
theorem dX11_lostBy_2 : decode cX11_lostBy 2 = .ok (.invokevirtual 160, 3) := by decide +kernel
theorem dX11_lostBy_5 : decode cX11_lostBy 5 = .ok (.invokestatic 163, 3) := by decide +kernel
theorem dX11_lostBy_8 : decode cX11_lostBy 8 = .ok (.aload_n 0, 1) := by decide +kernel
theorem dX11_lostBy_9 : decode cX11_lostBy 9 = .ok (.bipush (-9), 2) := by decide +kernel
theorem dX11_lostBy_11 : decode cX11_lostBy 11 = .ok (.invokevirtual 160, 3) := by decide +kernel
theorem dX11_lostBy_14 : decode cX11_lostBy 14 = .ok (.invokestatic 163, 3) := by decide +kernel
theorem dX11_lostBy_17 : decode cX11_lostBy 17 = .ok (.isub, 1) := by decide +kernel
theorem dX11_lostBy_18 : decode cX11_lostBy 18 = .ok (.ireturn, 1) := by decide +kernel
set_option maxRecDepth 20000 in
theorem ggX11_lost_X11_isSaying : GoodIn wsX11_lost wsX11_isSaying := goodIn_r _ [5, 6, 7, 8, 4, 9, 27, 28, 29, 30, 31, 32, 33, 34, 35, 36, 37, 38, 39, 40, 41, 42, 43, 44, 45, 46, 47, 48, 49, 50, 51] (by decide +kernel) (by decide +kernel)
set_option maxRecDepth 20000 in
theorem gX11_lost_X11_isSaying : GoodIn wsX11_lost (wsV RX11 128 RX11 yX11_isSaying wsX11_isSaying) := goodIn_app (goodIn_of _ (by decide +kernel)) ggX11_lost_X11_isSaying
set_option maxRecDepth 20000 in
theorem ggX11_lost_X11_lostBy : GoodIn wsX11_lost wsX11_lostBy := goodIn_r _ [13, 14, 15, 16, 4, 17, 6, 18, 19, 20, 21, 22, 23, 24, 25, 26, 27, 28, 29, 30, 31, 32, 33, 34, 35, 36, 37, 38, 39, 40, 41, 42, 43, 44, 45, 46, 47, 48, 49, 50, 51] (by decide +kernel) (by decide +kernel)
set_option maxRecDepth 20000 in
theorem gX11_lost_X11_lostBy : GoodIn wsX11_lost (wsV RX11 166 RX11 yX11_lostBy wsX11_lostBy) := goodIn_app (goodIn_of _ (by decide +kernel)) ggX11_lost_X11_lostBy
theorem dX11_lost_0 : decode cX11_lost 0 = .ok (.aload_n 0, 1) := by decide +kernel
theorem dX11_lost_1 : decode cX11_lost 1 = .ok (.iload_n 1, 1) := by decide +kernel
theorem dX11_lost_2 : decode cX11_lost 2 = .ok (.invokevirtual 128, 3) := by decide +kernel
theorem dX11_lost_5 : decode cX11_lost 5 = .ok (.ifCond .eq 11, 3) := by decide +kernel
theorem dX11_lost_8 : decode cX11_lost 8 = .ok (.aload_n 0, 1) := by decide +kernel
theorem dX11_lost_9 : decode cX11_lost 9 = .ok (.iload_n 1, 1) := by decide +kernel
theorem dX11_lost_10 : decode cX11_lost 10 = .ok (.invokevirtual 166, 3) := by decide +kernel
theorem dX11_lost_13 : decode cX11_lost 13 = .ok (.goto 4, 3) := by decide +kernel
theorem dX11_lost_16 : decode cX11_lost 16 = .ok (.iconst (-1), 1) := by decide +kernel
theorem dX11_lost_17 : decode cX11_lost 17 = .ok (.ireturn, 1) := by decide +kernel
set_option maxRecDepth 20000 in
theorem ggX11_alikeTo_X11_valueOf : GoodIn wsX11_alikeTo wsX11_valueOf := goodIn_r _ [7, 8, 9, 10, 11, 12, 13, 14, 15, 16, 17, 18, 19, 20, 21, 22, 23, 24, 25, 26, 27, 28, 29, 30, 31, 32, 33] (by decide +kernel) (by decide +kernel)
set_option maxRecDepth 20000 in
theorem gX11_alikeTo_X11_valueOf : GoodIn wsX11_alikeTo (wsV RX11 98 RX11 yX11_valueOf wsX11_valueOf) := goodIn_app (goodIn_of _ (by decide +kernel)) ggX11_alikeTo_X11_valueOf
theorem dX11_alikeTo_0 : decode cX11_alikeTo 0 = .ok (.iconst 0, 1) := by decide +kernel
theorem dX11_alikeTo_1 : decode cX11_alikeTo 1 = .ok (.istore 4, 2) := by decide +kernel
theorem dX11_alikeTo_3 : decode cX11_alikeTo 3 = .ok (.iconst 0, 1) := by decide +kernel
theorem dX11_alikeTo_4 : decode cX11_alikeTo 4 = .ok (.istore 5, 2) := by decide +kernel
theorem dX11_alikeTo_6 : decode cX11_alikeTo 6 = .ok (.iload 5, 2) := by decide +kernel
theorem dX11_alikeTo_8 : decode cX11_alikeTo 8 = .ok (.aload_n 0, 1) := by decide +kernel
theorem dX11_alikeTo_9 : decode cX11_alikeTo 9 = .ok (.getfield 51, 3) := by decide +kernel
theorem dX11_alikeTo_12 : decode cX11_alikeTo 12 = .ok (.if_icmp .ge 101, 3) := by decide +kernel
theorem dX11_alikeTo_15 : decode cX11_alikeTo 15 = .ok (.iload_n 3, 1) := by decide +kernel
theorem dX11_alikeTo_16 : decode cX11_alikeTo 16 = .ok (.iload 5, 2) := by decide +kernel
theorem dX11_alikeTo_18 : decode cX11_alikeTo 18 = .ok (.ishr, 1) := by decide +kernel
theorem dX11_alikeTo_19 : decode cX11_alikeTo 19 = .ok (.iconst 1, 1) := by decide +kernel
theorem dX11_alikeTo_20 : decode cX11_alikeTo 20 = .ok (.iand, 1) := by decide +kernel
theorem dX11_alikeTo_21 : decode cX11_alikeTo 21 = .ok (.iconst 1, 1) := by decide +kernel
theorem dX11_alikeTo_22 : decode cX11_alikeTo 22 = .ok (.if_icmp .ne 7, 3) := by decide +kernel
theorem dX11_alikeTo_25 : decode cX11_alikeTo 25 = .ok (.iconst 1, 1) := by decide +kernel
theorem dX11_alikeTo_26 : decode cX11_alikeTo 26 = .ok (.goto 4, 3) := by decide +kernel
theorem dX11_alikeTo_29 : decode cX11_alikeTo 29 = .ok (.iconst 0, 1) := by decide +kernel
theorem dX11_alikeTo_30 : decode cX11_alikeTo 30 = .ok (.istore 6, 2) := by decide +kernel
theorem dX11_alikeTo_32 : decode cX11_alikeTo 32 = .ok (.iconst 0, 1) := by decide +kernel
theorem dX11_alikeTo_33 : decode cX11_alikeTo 33 = .ok (.istore 7, 2) := by decide +kernel
theorem dX11_alikeTo_35 : decode cX11_alikeTo 35 = .ok (.iload 7, 2) := by decide +kernel
theorem dX11_alikeTo_37 : decode cX11_alikeTo 37 = .ok (.aload_n 0, 1) := by decide +kernel
theorem dX11_alikeTo_38 : decode cX11_alikeTo 38 = .ok (.getfield 95, 3) := by decide +kernel
theorem dX11_alikeTo_41 : decode cX11_alikeTo 41 = .ok (.if_icmp .ge 48, 3) := by decide +kernel
theorem dX11_alikeTo_44 : decode cX11_alikeTo 44 = .ok (.iload 6, 2) := by decide +kernel
theorem dX11_alikeTo_46 : decode cX11_alikeTo 46 = .ok (.ifCond .eq 34, 3) := by decide +kernel
theorem dX11_alikeTo_49 : decode cX11_alikeTo 49 = .ok (.iload_n 1, 1) := by decide +kernel
theorem dX11_alikeTo_50 : decode cX11_alikeTo 50 = .ok (.iload 7, 2) := by decide +kernel
theorem dX11_alikeTo_52 : decode cX11_alikeTo 52 = .ok (.ishr, 1) := by decide +kernel
theorem dX11_alikeTo_53 : decode cX11_alikeTo 53 = .ok (.iconst 1, 1) := by decide +kernel
theorem dX11_alikeTo_54 : decode cX11_alikeTo 54 = .ok (.iand, 1) := by decide +kernel
theorem dX11_alikeTo_55 : decode cX11_alikeTo 55 = .ok (.ifCond .eq 21, 3) := by decide +kernel
theorem dX11_alikeTo_58 : decode cX11_alikeTo 58 = .ok (.aload_n 0, 1) := by decide +kernel
theorem dX11_alikeTo_59 : decode cX11_alikeTo 59 = .ok (.iload 5, 2) := by decide +kernel
theorem dX11_alikeTo_61 : decode cX11_alikeTo 61 = .ok (.iload 7, 2) := by decide +kernel
theorem dX11_alikeTo_63 : decode cX11_alikeTo 63 = .ok (.invokevirtual 98, 3) := by decide +kernel
theorem dX11_alikeTo_66 : decode cX11_alikeTo 66 = .ok (.aload_n 0, 1) := by decide +kernel
theorem dX11_alikeTo_67 : decode cX11_alikeTo 67 = .ok (.iload_n 2, 1) := by decide +kernel
theorem dX11_alikeTo_68 : decode cX11_alikeTo 68 = .ok (.iload 7, 2) := by decide +kernel
theorem dX11_alikeTo_70 : decode cX11_alikeTo 70 = .ok (.invokevirtual 98, 3) := by decide +kernel
theorem dX11_alikeTo_73 : decode cX11_alikeTo 73 = .ok (.if_icmp .ne 7, 3) := by decide +kernel
theorem dX11_alikeTo_76 : decode cX11_alikeTo 76 = .ok (.iconst 1, 1) := by decide +kernel
theorem dX11_alikeTo_77 : decode cX11_alikeTo 77 = .ok (.goto 4, 3) := by decide +kernel
theorem dX11_alikeTo_80 : decode cX11_alikeTo 80 = .ok (.iconst 0, 1) := by decide +kernel
theorem dX11_alikeTo_81 : decode cX11_alikeTo 81 = .ok (.istore 6, 2) := by decide +kernel
theorem dX11_alikeTo_83 : decode cX11_alikeTo 83 = .ok (.iinc 7 1, 3) := by decide +kernel
theorem dX11_alikeTo_86 : decode cX11_alikeTo 86 = .ok (.goto (-51), 3) := by decide +kernel
theorem dX11_alikeTo_89 : decode cX11_alikeTo 89 = .ok (.iload 4, 2) := by decide +kernel
theorem dX11_alikeTo_91 : decode cX11_alikeTo 91 = .ok (.iload 6, 2) := by decide +kernel
theorem dX11_alikeTo_93 : decode cX11_alikeTo 93 = .ok (.ifCond .eq 10, 3) := by decide +kernel
theorem dX11_alikeTo_96 : decode cX11_alikeTo 96 = .ok (.iconst 1, 1) := by decide +kernel
theorem dX11_alikeTo_97 : decode cX11_alikeTo 97 = .ok (.iload 5, 2) := by decide +kernel
theorem dX11_alikeTo_99 : decode cX11_alikeTo 99 = .ok (.ishl, 1) := by decide +kernel
theorem dX11_alikeTo_100 : decode cX11_alikeTo 100 = .ok (.goto 4, 3) := by decide +kernel
theorem dX11_alikeTo_103 : decode cX11_alikeTo 103 = .ok (.iconst 0, 1) := by decide +kernel
theorem dX11_alikeTo_104 : decode cX11_alikeTo 104 = .ok (.ior, 1) := by decide +kernel
theorem dX11_alikeTo_105 : decode cX11_alikeTo 105 = .ok (.istore 4, 2) := by decide +kernel
theorem dX11_alikeTo_107 : decode cX11_alikeTo 107 = .ok (.iinc 5 1, 3) := by decide +kernel
theorem dX11_alikeTo_110 : decode cX11_alikeTo 110 = .ok (.goto (-104), 3) := by decide +kernel
theorem dX11_alikeTo_113 : decode cX11_alikeTo 113 = .ok (.iload 4, 2) := by decide +kernel
theorem dX11_alikeTo_115 : decode cX11_alikeTo 115 = .ok (.ireturn, 1) := by decide +kernel
set_option maxRecDepth 20000 in
theorem ggX11_isSeen_X11_in : GoodIn wsX11_isSeen wsX11_in := goodIn_r _ [4] (by decide +kernel) (by decide +kernel)
set_option maxRecDepth 20000 in
theorem gX11_isSeen_X11_in : GoodIn wsX11_isSeen (va_wsS RX11 55 yX11_in wsX11_in) := goodIn_app (goodIn_of _ (by decide +kernel)) ggX11_isSeen_X11_in
theorem dX11_isSeen_0 : decode cX11_isSeen 0 = .ok (.iload_n 1, 1) := by decide +kernel
theorem dX11_isSeen_1 : decode cX11_isSeen 1 = .ok (.iconst 0, 1) := by decide +kernel
theorem dX11_isSeen_2 : decode cX11_isSeen 2 = .ok (.bipush 7, 2) := by decide +kernel
theorem dX11_isSeen_4 : decode cX11_isSeen 4 = .ok (.invokestatic 55, 3) := by decide +kernel
theorem dX11_isSeen_7 : decode cX11_isSeen 7 = .ok (.ifCond .eq 17, 3) := by decide +kernel
theorem dX11_isSeen_10 : decode cX11_isSeen 10 = .ok (.iload_n 2, 1) := by decide +kernel
theorem dX11_isSeen_11 : decode cX11_isSeen 11 = .ok (.iconst 0, 1) := by decide +kernel
theorem dX11_isSeen_12 : decode cX11_isSeen 12 = .ok (.bipush 7, 2) := by decide +kernel
theorem dX11_isSeen_14 : decode cX11_isSeen 14 = .ok (.invokestatic 55, 3) := by decide +kernel
theorem dX11_isSeen_17 : decode cX11_isSeen 17 = .ok (.ifCond .eq 7, 3) := by decide +kernel
theorem dX11_isSeen_20 : decode cX11_isSeen 20 = .ok (.iconst 1, 1) := by decide +kernel
theorem dX11_isSeen_21 : decode cX11_isSeen 21 = .ok (.goto 4, 3) := by decide +kernel
theorem dX11_isSeen_24 : decode cX11_isSeen 24 = .ok (.iconst 0, 1) := by decide +kernel
theorem dX11_isSeen_25 : decode cX11_isSeen 25 = .ok (.ireturn, 1) := by decide +kernel
set_option maxRecDepth 20000 in
theorem ggX11_common_X11_isSeen : GoodIn wsX11_common wsX11_isSeen := goodIn_r _ [6, 7, 8, 5, 9] (by decide +kernel) (by decide +kernel)
set_option maxRecDepth 20000 in
theorem gX11_common_X11_isSeen : GoodIn wsX11_common (wsV RX11 169 RX11 yX11_isSeen wsX11_isSeen) := goodIn_app (goodIn_of _ (by decide +kernel)) ggX11_common_X11_isSeen
set_option maxRecDepth 20000 in
theorem ggX11_common_X11_in : GoodIn wsX11_common wsX11_in := goodIn_r _ [9] (by decide +kernel) (by decide +kernel)
set_option maxRecDepth 20000 in
theorem gX11_common_X11_in : GoodIn wsX11_common (va_wsS RX11 55 yX11_in wsX11_in) := goodIn_app (goodIn_of _ (by decide +kernel)) ggX11_common_X11_in
set_option maxRecDepth 20000 in
theorem ggX11_common_X11_contractBut : GoodIn wsX11_common wsX11_contractBut := goodIn_r _ [13, 14, 15, 16, 17, 18, 5, 19, 1, 30, 31, 32, 33, 34, 35, 36, 37, 38, 39, 40, 41, 42, 43, 44, 45, 46, 47, 48, 49, 50, 51, 52, 53, 54] (by decide +kernel) (by decide +kernel)
set_option maxRecDepth 20000 in
theorem gX11_common_X11_contractBut : GoodIn wsX11_common (wsV RX11 160 RX11 yX11_contractBut wsX11_contractBut) := goodIn_app (goodIn_of _ (by decide +kernel)) ggX11_common_X11_contractBut
set_option maxRecDepth 20000 in
theorem ggX11_common_X11_alikeTo : GoodIn wsX11_common wsX11_alikeTo := goodIn_r _ [23, 1, 24, 25, 26, 27, 5, 28, 29, 30, 31, 32, 33, 34, 35, 36, 37, 38, 39, 40, 41, 42, 43, 44, 45, 46, 47, 48, 49, 50, 51, 52, 53, 54] (by decide +kernel) (by decide +kernel)
set_option maxRecDepth 20000 in
theorem gX11_common_X11_alikeTo : GoodIn wsX11_common (wsV RX11 172 RX11 yX11_alikeTo wsX11_alikeTo) := goodIn_app (goodIn_of _ (by decide +kernel)) ggX11_common_X11_alikeTo
theorem dX11_common_0 : decode cX11_common 0 = .ok (.aload_n 0, 1) := by decide +kernel
theorem dX11_common_1 : decode cX11_common 1 = .ok (.iload_n 1, 1) := by decide +kernel
theorem dX11_common_2 : decode cX11_common 2 = .ok (.iload_n 2, 1) := by decide +kernel
theorem dX11_common_3 : decode cX11_common 3 = .ok (.invokevirtual 169, 3) := by decide +kernel
theorem dX11_common_6 : decode cX11_common 6 = .ok (.ifCond .eq 17, 3) := by decide +kernel
theorem dX11_common_9 : decode cX11_common 9 = .ok (.iload_n 3, 1) := by decide +kernel
theorem dX11_common_10 : decode cX11_common 10 = .ok (.iconst 0, 1) := by decide +kernel
theorem dX11_common_11 : decode cX11_common 11 = .ok (.aload_n 0, 1) := by decide +kernel
theorem dX11_common_12 : decode cX11_common 12 = .ok (.getfield 51, 3) := by decide +kernel
theorem dX11_common_15 : decode cX11_common 15 = .ok (.iconst 1, 1) := by decide +kernel
theorem dX11_common_16 : decode cX11_common 16 = .ok (.isub, 1) := by decide +kernel
theorem dX11_common_17 : decode cX11_common 17 = .ok (.invokestatic 55, 3) := by decide +kernel
theorem dX11_common_20 : decode cX11_common 20 = .ok (.ifCond .ne 5, 3) := by decide +kernel
theorem dX11_common_23 : decode cX11_common 23 = .ok (.iconst (-1), 1) := by decide +kernel
theorem dX11_common_24 : decode cX11_common 24 = .ok (.ireturn, 1) := by decide +kernel
theorem dX11_common_25 : decode cX11_common 25 = .ok (.aload_n 0, 1) := by decide +kernel
theorem dX11_common_26 : decode cX11_common 26 = .ok (.bipush (-9), 2) := by decide +kernel
theorem dX11_common_28 : decode cX11_common 28 = .ok (.invokevirtual 160, 3) := by decide +kernel
theorem dX11_common_31 : decode cX11_common 31 = .ok (.istore 4, 2) := by decide +kernel
theorem dX11_common_33 : decode cX11_common 33 = .ok (.iload 4, 2) := by decide +kernel
theorem dX11_common_35 : decode cX11_common 35 = .ok (.iconst 1, 1) := by decide +kernel
theorem dX11_common_36 : decode cX11_common 36 = .ok (.iload_n 3, 1) := by decide +kernel
theorem dX11_common_37 : decode cX11_common 37 = .ok (.ishl, 1) := by decide +kernel
theorem dX11_common_38 : decode cX11_common 38 = .ok (.iand, 1) := by decide +kernel
theorem dX11_common_39 : decode cX11_common 39 = .ok (.istore 5, 2) := by decide +kernel
theorem dX11_common_41 : decode cX11_common 41 = .ok (.iconst (-1), 1) := by decide +kernel
theorem dX11_common_42 : decode cX11_common 42 = .ok (.istore 6, 2) := by decide +kernel
theorem dX11_common_44 : decode cX11_common 44 = .ok (.iload 5, 2) := by decide +kernel
theorem dX11_common_46 : decode cX11_common 46 = .ok (.iload 6, 2) := by decide +kernel
theorem dX11_common_48 : decode cX11_common 48 = .ok (.if_icmp .eq 67, 3) := by decide +kernel
theorem dX11_common_51 : decode cX11_common 51 = .ok (.iload 5, 2) := by decide +kernel
theorem dX11_common_53 : decode cX11_common 53 = .ok (.istore 6, 2) := by decide +kernel
theorem dX11_common_55 : decode cX11_common 55 = .ok (.iconst 0, 1) := by decide +kernel
theorem dX11_common_56 : decode cX11_common 56 = .ok (.istore 7, 2) := by decide +kernel
theorem dX11_common_58 : decode cX11_common 58 = .ok (.iload 7, 2) := by decide +kernel
theorem dX11_common_60 : decode cX11_common 60 = .ok (.aload_n 0, 1) := by decide +kernel
theorem dX11_common_61 : decode cX11_common 61 = .ok (.getfield 51, 3) := by decide +kernel
theorem dX11_common_64 : decode cX11_common 64 = .ok (.if_icmp .ge 48, 3) := by decide +kernel
theorem dX11_common_67 : decode cX11_common 67 = .ok (.iload 5, 2) := by decide +kernel
theorem dX11_common_69 : decode cX11_common 69 = .ok (.iload 5, 2) := by decide +kernel
theorem dX11_common_71 : decode cX11_common 71 = .ok (.iload 7, 2) := by decide +kernel
theorem dX11_common_73 : decode cX11_common 73 = .ok (.ishr, 1) := by decide +kernel
theorem dX11_common_74 : decode cX11_common 74 = .ok (.iconst 1, 1) := by decide +kernel
theorem dX11_common_75 : decode cX11_common 75 = .ok (.iand, 1) := by decide +kernel
theorem dX11_common_76 : decode cX11_common 76 = .ok (.iconst 1, 1) := by decide +kernel
theorem dX11_common_77 : decode cX11_common 77 = .ok (.if_icmp .ne 25, 3) := by decide +kernel
theorem dX11_common_80 : decode cX11_common 80 = .ok (.aload_n 0, 1) := by decide +kernel
theorem dX11_common_81 : decode cX11_common 81 = .ok (.iload_n 1, 1) := by decide +kernel
theorem dX11_common_82 : decode cX11_common 82 = .ok (.iload 7, 2) := by decide +kernel
theorem dX11_common_84 : decode cX11_common 84 = .ok (.iload 4, 2) := by decide +kernel
theorem dX11_common_86 : decode cX11_common 86 = .ok (.invokevirtual 172, 3) := by decide +kernel
theorem dX11_common_89 : decode cX11_common 89 = .ok (.aload_n 0, 1) := by decide +kernel
theorem dX11_common_90 : decode cX11_common 90 = .ok (.iload_n 2, 1) := by decide +kernel
theorem dX11_common_91 : decode cX11_common 91 = .ok (.iload 7, 2) := by decide +kernel
theorem dX11_common_93 : decode cX11_common 93 = .ok (.iload 4, 2) := by decide +kernel
theorem dX11_common_95 : decode cX11_common 95 = .ok (.invokevirtual 172, 3) := by decide +kernel
theorem dX11_common_98 : decode cX11_common 98 = .ok (.ior, 1) := by decide +kernel
theorem dX11_common_99 : decode cX11_common 99 = .ok (.goto 4, 3) := by decide +kernel
theorem dX11_common_102 : decode cX11_common 102 = .ok (.iconst 0, 1) := by decide +kernel
theorem dX11_common_103 : decode cX11_common 103 = .ok (.ior, 1) := by decide +kernel
theorem dX11_common_104 : decode cX11_common 104 = .ok (.istore 5, 2) := by decide +kernel
theorem dX11_common_106 : decode cX11_common 106 = .ok (.iinc 7 1, 3) := by decide +kernel
theorem dX11_common_109 : decode cX11_common 109 = .ok (.goto (-51), 3) := by decide +kernel
theorem dX11_common_112 : decode cX11_common 112 = .ok (.goto (-68), 3) := by decide +kernel
theorem dX11_common_115 : decode cX11_common 115 = .ok (.iload 5, 2) := by decide +kernel
theorem dX11_common_117 : decode cX11_common 117 = .ok (.ireturn, 1) := by decide +kernel
set_option maxRecDepth 20000 in
theorem ggX11_knows_X11_alikeTo : GoodIn wsX11_knows wsX11_alikeTo := goodIn_r _ [5, 6, 7, 8, 9, 10, 4, 11, 12, 13, 14, 15, 16, 17, 18, 19, 20, 21, 22, 23, 24, 25, 26, 27, 28, 29, 30, 31, 32, 33, 34, 35, 36, 37] (by decide +kernel) (by decide +kernel)
set_option maxRecDepth 20000 in
theorem gX11_knows_X11_alikeTo : GoodIn wsX11_knows (wsV RX11 172 RX11 yX11_alikeTo wsX11_alikeTo) := goodIn_app (goodIn_of _ (by decide +kernel)) ggX11_knows_X11_alikeTo
theorem dX11_knows_0 : decode cX11_knows 0 = .ok (.aload_n 0, 1) := by decide +kernel
theorem dX11_knows_1 : decode cX11_knows 1 = .ok (.iload_n 1, 1) := by decide +kernel
theorem dX11_knows_2 : decode cX11_knows 2 = .ok (.iload_n 2, 1) := by decide +kernel
theorem dX11_knows_3 : decode cX11_knows 3 = .ok (.iload_n 3, 1) := by decide +kernel
theorem dX11_knows_4 : decode cX11_knows 4 = .ok (.invokevirtual 172, 3) := by decide +kernel
theorem dX11_knows_7 : decode cX11_knows 7 = .ok (.iconst 1, 1) := by decide +kernel
theorem dX11_knows_8 : decode cX11_knows 8 = .ok (.iload_n 2, 1) := by decide +kernel
theorem dX11_knows_9 : decode cX11_knows 9 = .ok (.ishl, 1) := by decide +kernel
theorem dX11_knows_10 : decode cX11_knows 10 = .ok (.if_icmp .ne 7, 3) := by decide +kernel
theorem dX11_knows_13 : decode cX11_knows 13 = .ok (.iconst 1, 1) := by decide +kernel
theorem dX11_knows_14 : decode cX11_knows 14 = .ok (.goto 4, 3) := by decide +kernel
theorem dX11_knows_17 : decode cX11_knows 17 = .ok (.iconst 0, 1) := by decide +kernel
theorem dX11_knows_18 : decode cX11_knows 18 = .ok (.ireturn, 1) := by decide +kernel
set_option maxRecDepth 20000 in
theorem ggX11_silent_X11_knows : GoodIn wsX11_silent wsX11_knows := goodIn_r _ [6, 7, 8, 9, 5, 10, 1, 11, 12, 13, 14, 15, 16, 17, 18, 19, 20, 21, 22, 23, 24, 25, 26, 27, 28, 29, 30, 31, 32, 33, 34, 35, 36, 37, 38, 39, 40, 41] (by decide +kernel) (by decide +kernel)
set_option maxRecDepth 20000 in
theorem gX11_silent_X11_knows : GoodIn wsX11_silent (wsV RX11 176 RX11 yX11_knows wsX11_knows) := goodIn_app (goodIn_of _ (by decide +kernel)) ggX11_silent_X11_knows
theorem dX11_silent_0 : decode cX11_silent 0 = .ok (.iload_n 2, 1) := by decide +kernel
theorem dX11_silent_1 : decode cX11_silent 1 = .ok (.istore_n 3, 1) := by decide +kernel
theorem dX11_silent_2 : decode cX11_silent 2 = .ok (.iconst 0, 1) := by decide +kernel
theorem dX11_silent_3 : decode cX11_silent 3 = .ok (.istore 4, 2) := by decide +kernel
theorem dX11_silent_5 : decode cX11_silent 5 = .ok (.iload 4, 2) := by decide +kernel
theorem dX11_silent_7 : decode cX11_silent 7 = .ok (.aload_n 0, 1) := by decide +kernel
theorem dX11_silent_8 : decode cX11_silent 8 = .ok (.getfield 51, 3) := by decide +kernel
theorem dX11_silent_11 : decode cX11_silent 11 = .ok (.if_icmp .ge 43, 3) := by decide +kernel
theorem dX11_silent_14 : decode cX11_silent 14 = .ok (.iload_n 3, 1) := by decide +kernel
theorem dX11_silent_15 : decode cX11_silent 15 = .ok (.iload_n 2, 1) := by decide +kernel
theorem dX11_silent_16 : decode cX11_silent 16 = .ok (.iload 4, 2) := by decide +kernel
theorem dX11_silent_18 : decode cX11_silent 18 = .ok (.ishr, 1) := by decide +kernel
theorem dX11_silent_19 : decode cX11_silent 19 = .ok (.iconst 1, 1) := by decide +kernel
theorem dX11_silent_20 : decode cX11_silent 20 = .ok (.iand, 1) := by decide +kernel
theorem dX11_silent_21 : decode cX11_silent 21 = .ok (.iconst 1, 1) := by decide +kernel
theorem dX11_silent_22 : decode cX11_silent 22 = .ok (.if_icmp .ne 23, 3) := by decide +kernel
theorem dX11_silent_25 : decode cX11_silent 25 = .ok (.aload_n 0, 1) := by decide +kernel
theorem dX11_silent_26 : decode cX11_silent 26 = .ok (.iload_n 1, 1) := by decide +kernel
theorem dX11_silent_27 : decode cX11_silent 27 = .ok (.iload 4, 2) := by decide +kernel
theorem dX11_silent_29 : decode cX11_silent 29 = .ok (.iload_n 2, 1) := by decide +kernel
theorem dX11_silent_30 : decode cX11_silent 30 = .ok (.invokevirtual 176, 3) := by decide +kernel
theorem dX11_silent_33 : decode cX11_silent 33 = .ok (.ifCond .eq 12, 3) := by decide +kernel
theorem dX11_silent_36 : decode cX11_silent 36 = .ok (.iconst 1, 1) := by decide +kernel
theorem dX11_silent_37 : decode cX11_silent 37 = .ok (.iload 4, 2) := by decide +kernel
theorem dX11_silent_39 : decode cX11_silent 39 = .ok (.ishl, 1) := by decide +kernel
theorem dX11_silent_40 : decode cX11_silent 40 = .ok (.iconst (-1), 1) := by decide +kernel
theorem dX11_silent_41 : decode cX11_silent 41 = .ok (.ixor, 1) := by decide +kernel
theorem dX11_silent_42 : decode cX11_silent 42 = .ok (.goto 4, 3) := by decide +kernel
theorem dX11_silent_45 : decode cX11_silent 45 = .ok (.iconst (-1), 1) := by decide +kernel
theorem dX11_silent_46 : decode cX11_silent 46 = .ok (.iand, 1) := by decide +kernel
theorem dX11_silent_47 : decode cX11_silent 47 = .ok (.istore_n 3, 1) := by decide +kernel
theorem dX11_silent_48 : decode cX11_silent 48 = .ok (.iinc 4 1, 3) := by decide +kernel
theorem dX11_silent_51 : decode cX11_silent 51 = .ok (.goto (-46), 3) := by decide +kernel
theorem dX11_silent_54 : decode cX11_silent 54 = .ok (.iload_n 3, 1) := by decide +kernel
theorem dX11_silent_55 : decode cX11_silent 55 = .ok (.ireturn, 1) := by decide +kernel
set_option maxRecDepth 20000 in
theorem ggX11_talk_X11_isSeen : GoodIn wsX11_talk wsX11_isSeen := goodIn_r _ [6, 7, 8, 5, 9] (by decide +kernel) (by decide +kernel)
set_option maxRecDepth 20000 in
theorem gX11_talk_X11_isSeen : GoodIn wsX11_talk (wsV RX11 169 RX11 yX11_isSeen wsX11_isSeen) := goodIn_app (goodIn_of _ (by decide +kernel)) ggX11_talk_X11_isSeen
set_option maxRecDepth 20000 in
theorem ggX11_talk_X11_in : GoodIn wsX11_talk wsX11_in := goodIn_r _ [9] (by decide +kernel) (by decide +kernel)
set_option maxRecDepth 20000 in
theorem gX11_talk_X11_in : GoodIn wsX11_talk (va_wsS RX11 55 yX11_in wsX11_in) := goodIn_app (goodIn_of _ (by decide +kernel)) ggX11_talk_X11_in
set_option maxRecDepth 20000 in
theorem ggX11_talk_X11_contractBut : GoodIn wsX11_talk wsX11_contractBut := goodIn_r _ [13, 14, 15, 16, 17, 18, 5, 19, 1, 38, 39, 40, 41, 42, 43, 44, 45, 46, 47, 48, 49, 50, 51, 52, 53, 54, 55, 56, 57, 58, 59, 60, 61, 62] (by decide +kernel) (by decide +kernel)
set_option maxRecDepth 20000 in
theorem gX11_talk_X11_contractBut : GoodIn wsX11_talk (wsV RX11 160 RX11 yX11_contractBut wsX11_contractBut) := goodIn_app (goodIn_of _ (by decide +kernel)) ggX11_talk_X11_contractBut
set_option maxRecDepth 20000 in
theorem ggX11_talk_X11_knows : GoodIn wsX11_talk wsX11_knows := goodIn_r _ [23, 24, 25, 26, 5, 27, 1, 28, 29, 30, 31, 32, 33, 38, 39, 40, 41, 42, 43, 44, 45, 46, 47, 48, 49, 50, 51, 52, 53, 54, 55, 56, 57, 58, 59, 60, 61, 62] (by decide +kernel) (by decide +kernel)
set_option maxRecDepth 20000 in
theorem gX11_talk_X11_knows : GoodIn wsX11_talk (wsV RX11 176 RX11 yX11_knows wsX11_knows) := goodIn_app (goodIn_of _ (by decide +kernel)) ggX11_talk_X11_knows
set_option maxRecDepth 20000 in
theorem ggX11_talk_X11_silent : GoodIn wsX11_talk wsX11_silent := goodIn_r _ [37, 1, 20, 21, 22, 5, 23, 24, 25, 26, 27, 28, 29, 30, 31, 32, 33, 38, 39, 40, 41, 42, 43, 44, 45, 46, 47, 48, 49, 50, 51, 52, 53, 54, 55, 56, 57, 58, 59, 60, 61, 62] (by decide +kernel) (by decide +kernel)
set_option maxRecDepth 20000 in
theorem gX11_talk_X11_silent : GoodIn wsX11_talk (wsV RX11 179 RX11 yX11_silent wsX11_silent) := goodIn_app (goodIn_of _ (by decide +kernel)) ggX11_talk_X11_silent
theorem dX11_talk_0 : decode cX11_talk 0 = .ok (.aload_n 0, 1) := by decide +kernel
theorem dX11_talk_1 : decode cX11_talk 1 = .ok (.iload_n 1, 1) := by decide +kernel
theorem dX11_talk_2 : decode cX11_talk 2 = .ok (.iload_n 2, 1) := by decide +kernel
theorem dX11_talk_3 : decode cX11_talk 3 = .ok (.invokevirtual 169, 3) := by decide +kernel
theorem dX11_talk_6 : decode cX11_talk 6 = .ok (.ifCond .eq 17, 3) := by decide +kernel
theorem dX11_talk_9 : decode cX11_talk 9 = .ok (.iload_n 3, 1) := by decide +kernel
theorem dX11_talk_10 : decode cX11_talk 10 = .ok (.iconst 0, 1) := by decide +kernel
theorem dX11_talk_11 : decode cX11_talk 11 = .ok (.aload_n 0, 1) := by decide +kernel
theorem dX11_talk_12 : decode cX11_talk 12 = .ok (.getfield 51, 3) := by decide +kernel
theorem dX11_talk_15 : decode cX11_talk 15 = .ok (.iconst 1, 1) := by decide +kernel
theorem dX11_talk_16 : decode cX11_talk 16 = .ok (.isub, 1) := by decide +kernel
theorem dX11_talk_17 : decode cX11_talk 17 = .ok (.invokestatic 55, 3) := by decide +kernel
theorem dX11_talk_20 : decode cX11_talk 20 = .ok (.ifCond .ne 5, 3) := by decide +kernel
theorem dX11_talk_23 : decode cX11_talk 23 = .ok (.iconst (-1), 1) := by decide +kernel
theorem dX11_talk_24 : decode cX11_talk 24 = .ok (.ireturn, 1) := by decide +kernel
theorem dX11_talk_25 : decode cX11_talk 25 = .ok (.aload_n 0, 1) := by decide +kernel
theorem dX11_talk_26 : decode cX11_talk 26 = .ok (.bipush (-9), 2) := by decide +kernel
theorem dX11_talk_28 : decode cX11_talk 28 = .ok (.invokevirtual 160, 3) := by decide +kernel
theorem dX11_talk_31 : decode cX11_talk 31 = .ok (.istore 4, 2) := by decide +kernel
theorem dX11_talk_33 : decode cX11_talk 33 = .ok (.iload 4, 2) := by decide +kernel
theorem dX11_talk_35 : decode cX11_talk 35 = .ok (.iload_n 3, 1) := by decide +kernel
theorem dX11_talk_36 : decode cX11_talk 36 = .ok (.ishr, 1) := by decide +kernel
theorem dX11_talk_37 : decode cX11_talk 37 = .ok (.iconst 1, 1) := by decide +kernel
theorem dX11_talk_38 : decode cX11_talk 38 = .ok (.iand, 1) := by decide +kernel
theorem dX11_talk_39 : decode cX11_talk 39 = .ok (.ifCond .ne 6, 3) := by decide +kernel
theorem dX11_talk_42 : decode cX11_talk 42 = .ok (.bipush (-2), 2) := by decide +kernel
theorem dX11_talk_44 : decode cX11_talk 44 = .ok (.ireturn, 1) := by decide +kernel
theorem dX11_talk_45 : decode cX11_talk 45 = .ok (.iconst 1, 1) := by decide +kernel
theorem dX11_talk_46 : decode cX11_talk 46 = .ok (.istore 5, 2) := by decide +kernel
theorem dX11_talk_48 : decode cX11_talk 48 = .ok (.iload 5, 2) := by decide +kernel
theorem dX11_talk_50 : decode cX11_talk 50 = .ok (.bipush 30, 2) := by decide +kernel
theorem dX11_talk_52 : decode cX11_talk 52 = .ok (.if_icmp .gt 49, 3) := by decide +kernel
theorem dX11_talk_55 : decode cX11_talk 55 = .ok (.iload 5, 2) := by decide +kernel
theorem dX11_talk_57 : decode cX11_talk 57 = .ok (.iconst 2, 1) := by decide +kernel
theorem dX11_talk_58 : decode cX11_talk 58 = .ok (.irem, 1) := by decide +kernel
theorem dX11_talk_59 : decode cX11_talk 59 = .ok (.iconst 1, 1) := by decide +kernel
theorem dX11_talk_60 : decode cX11_talk 60 = .ok (.if_icmp .ne 7, 3) := by decide +kernel
theorem dX11_talk_63 : decode cX11_talk 63 = .ok (.iload_n 1, 1) := by decide +kernel
theorem dX11_talk_64 : decode cX11_talk 64 = .ok (.goto 4, 3) := by decide +kernel
theorem dX11_talk_67 : decode cX11_talk 67 = .ok (.iload_n 2, 1) := by decide +kernel
theorem dX11_talk_68 : decode cX11_talk 68 = .ok (.istore 6, 2) := by decide +kernel
theorem dX11_talk_70 : decode cX11_talk 70 = .ok (.aload_n 0, 1) := by decide +kernel
theorem dX11_talk_71 : decode cX11_talk 71 = .ok (.iload 6, 2) := by decide +kernel
theorem dX11_talk_73 : decode cX11_talk 73 = .ok (.iload_n 3, 1) := by decide +kernel
theorem dX11_talk_74 : decode cX11_talk 74 = .ok (.iload 4, 2) := by decide +kernel
theorem dX11_talk_76 : decode cX11_talk 76 = .ok (.invokevirtual 176, 3) := by decide +kernel
theorem dX11_talk_79 : decode cX11_talk 79 = .ok (.ifCond .eq 6, 3) := by decide +kernel
theorem dX11_talk_82 : decode cX11_talk 82 = .ok (.iload 5, 2) := by decide +kernel
theorem dX11_talk_84 : decode cX11_talk 84 = .ok (.ireturn, 1) := by decide +kernel
theorem dX11_talk_85 : decode cX11_talk 85 = .ok (.aload_n 0, 1) := by decide +kernel
theorem dX11_talk_86 : decode cX11_talk 86 = .ok (.iload 6, 2) := by decide +kernel
theorem dX11_talk_88 : decode cX11_talk 88 = .ok (.iload 4, 2) := by decide +kernel
theorem dX11_talk_90 : decode cX11_talk 90 = .ok (.invokevirtual 179, 3) := by decide +kernel
theorem dX11_talk_93 : decode cX11_talk 93 = .ok (.istore 4, 2) := by decide +kernel
theorem dX11_talk_95 : decode cX11_talk 95 = .ok (.iinc 5 1, 3) := by decide +kernel
theorem dX11_talk_98 : decode cX11_talk 98 = .ok (.goto (-50), 3) := by decide +kernel
theorem dX11_talk_101 : decode cX11_talk 101 = .ok (.bipush (-9), 2) := by decide +kernel
theorem dX11_talk_103 : decode cX11_talk 103 = .ok (.ireturn, 1) := by decide +kernel
set_option maxRecDepth 20000 in
theorem ggX11_silence_X11_isSeen : GoodIn wsX11_silence wsX11_isSeen := goodIn_r _ [5, 6, 7, 4, 8] (by decide +kernel) (by decide +kernel)
set_option maxRecDepth 20000 in
theorem gX11_silence_X11_isSeen : GoodIn wsX11_silence (wsV RX11 169 RX11 yX11_isSeen wsX11_isSeen) := goodIn_app (goodIn_of _ (by decide +kernel)) ggX11_silence_X11_isSeen
set_option maxRecDepth 20000 in
theorem ggX11_silence_X11_in : GoodIn wsX11_silence wsX11_in := goodIn_r _ [8] (by decide +kernel) (by decide +kernel)
set_option maxRecDepth 20000 in
theorem gX11_silence_X11_in : GoodIn wsX11_silence (va_wsS RX11 55 yX11_in wsX11_in) := goodIn_app (goodIn_of _ (by decide +kernel)) ggX11_silence_X11_in
set_option maxRecDepth 20000 in
theorem ggX11_silence_X11_contractBut : GoodIn wsX11_silence wsX11_contractBut := goodIn_r _ [12, 13, 14, 15, 16, 17, 4, 18, 19, 38, 39, 40, 41, 42, 43, 44, 45, 46, 47, 48, 49, 50, 51, 52, 53, 54, 55, 56, 57, 58, 59, 60, 61, 62] (by decide +kernel) (by decide +kernel)
set_option maxRecDepth 20000 in
theorem gX11_silence_X11_contractBut : GoodIn wsX11_silence (wsV RX11 160 RX11 yX11_contractBut wsX11_contractBut) := goodIn_app (goodIn_of _ (by decide +kernel)) ggX11_silence_X11_contractBut
set_option maxRecDepth 20000 in
theorem ggX11_silence_X11_silent : GoodIn wsX11_silence wsX11_silent := goodIn_r _ [23, 19, 24, 25, 26, 4, 27, 28, 29, 30, 31, 32, 33, 34, 35, 36, 37, 38, 39, 40, 41, 42, 43, 44, 45, 46, 47, 48, 49, 50, 51, 52, 53, 54, 55, 56, 57, 58, 59, 60, 61, 62] (by decide +kernel) (by decide +kernel)
set_option maxRecDepth 20000 in
theorem gX11_silence_X11_silent : GoodIn wsX11_silence (wsV RX11 179 RX11 yX11_silent wsX11_silent) := goodIn_app (goodIn_of _ (by decide +kernel)) ggX11_silence_X11_silent
theorem dX11_silence_0 : decode cX11_silence 0 = .ok (.aload_n 0, 1) := by decide +kernel
theorem dX11_silence_1 : decode cX11_silence 1 = .ok (.iload_n 1, 1) := by decide +kernel
theorem dX11_silence_2 : decode cX11_silence 2 = .ok (.iload_n 2, 1) := by decide +kernel
theorem dX11_silence_3 : decode cX11_silence 3 = .ok (.invokevirtual 169, 3) := by decide +kernel
theorem dX11_silence_6 : decode cX11_silence 6 = .ok (.ifCond .eq 13, 3) := by decide +kernel
theorem dX11_silence_9 : decode cX11_silence 9 = .ok (.iload_n 3, 1) := by decide +kernel
theorem dX11_silence_10 : decode cX11_silence 10 = .ok (.iconst 0, 1) := by decide +kernel
theorem dX11_silence_11 : decode cX11_silence 11 = .ok (.bipush 30, 2) := by decide +kernel
theorem dX11_silence_13 : decode cX11_silence 13 = .ok (.invokestatic 55, 3) := by decide +kernel
theorem dX11_silence_16 : decode cX11_silence 16 = .ok (.ifCond .ne 5, 3) := by decide +kernel
theorem dX11_silence_19 : decode cX11_silence 19 = .ok (.iconst (-1), 1) := by decide +kernel
theorem dX11_silence_20 : decode cX11_silence 20 = .ok (.ireturn, 1) := by decide +kernel
theorem dX11_silence_21 : decode cX11_silence 21 = .ok (.aload_n 0, 1) := by decide +kernel
theorem dX11_silence_22 : decode cX11_silence 22 = .ok (.bipush (-9), 2) := by decide +kernel
theorem dX11_silence_24 : decode cX11_silence 24 = .ok (.invokevirtual 160, 3) := by decide +kernel
theorem dX11_silence_27 : decode cX11_silence 27 = .ok (.istore 4, 2) := by decide +kernel
theorem dX11_silence_29 : decode cX11_silence 29 = .ok (.iconst 1, 1) := by decide +kernel
theorem dX11_silence_30 : decode cX11_silence 30 = .ok (.istore 5, 2) := by decide +kernel
theorem dX11_silence_32 : decode cX11_silence 32 = .ok (.iload 5, 2) := by decide +kernel
theorem dX11_silence_34 : decode cX11_silence 34 = .ok (.iload_n 3, 1) := by decide +kernel
theorem dX11_silence_35 : decode cX11_silence 35 = .ok (.if_icmp .gt 30, 3) := by decide +kernel
theorem dX11_silence_38 : decode cX11_silence 38 = .ok (.aload_n 0, 1) := by decide +kernel
theorem dX11_silence_39 : decode cX11_silence 39 = .ok (.iload 5, 2) := by decide +kernel
theorem dX11_silence_41 : decode cX11_silence 41 = .ok (.iconst 2, 1) := by decide +kernel
theorem dX11_silence_42 : decode cX11_silence 42 = .ok (.irem, 1) := by decide +kernel
theorem dX11_silence_43 : decode cX11_silence 43 = .ok (.iconst 1, 1) := by decide +kernel
theorem dX11_silence_44 : decode cX11_silence 44 = .ok (.if_icmp .ne 7, 3) := by decide +kernel
theorem dX11_silence_47 : decode cX11_silence 47 = .ok (.iload_n 1, 1) := by decide +kernel
theorem dX11_silence_48 : decode cX11_silence 48 = .ok (.goto 4, 3) := by decide +kernel
theorem dX11_silence_51 : decode cX11_silence 51 = .ok (.iload_n 2, 1) := by decide +kernel
theorem dX11_silence_52 : decode cX11_silence 52 = .ok (.iload 4, 2) := by decide +kernel
theorem dX11_silence_54 : decode cX11_silence 54 = .ok (.invokevirtual 179, 3) := by decide +kernel
theorem dX11_silence_57 : decode cX11_silence 57 = .ok (.istore 4, 2) := by decide +kernel
theorem dX11_silence_59 : decode cX11_silence 59 = .ok (.iinc 5 1, 3) := by decide +kernel
theorem dX11_silence_62 : decode cX11_silence 62 = .ok (.goto (-30), 3) := by decide +kernel
theorem dX11_silence_65 : decode cX11_silence 65 = .ok (.iload 4, 2) := by decide +kernel
theorem dX11_silence_67 : decode cX11_silence 67 = .ok (.ireturn, 1) := by decide +kernel
set_option maxRecDepth 20000 in
theorem ggX11_mark_X11_in : GoodIn wsX11_mark wsX11_in := goodIn_r _ [14] (by decide +kernel) (by decide +kernel)
set_option maxRecDepth 20000 in
theorem gX11_mark_X11_in : GoodIn wsX11_mark (va_wsS RX11 55 yX11_in wsX11_in) := goodIn_app (goodIn_of _ (by decide +kernel)) ggX11_mark_X11_in
set_option maxRecDepth 20000 in
theorem ggX11_mark_X11_isSaying : GoodIn wsX11_mark wsX11_isSaying := goodIn_r _ [18, 19, 11, 12, 13, 14, 58, 59, 60, 61, 62, 63, 64, 65, 66, 67, 68, 69, 70, 71, 72, 73, 74, 75, 76, 77, 78, 79, 80, 81, 82] (by decide +kernel) (by decide +kernel)
set_option maxRecDepth 20000 in
theorem gX11_mark_X11_isSaying : GoodIn wsX11_mark (wsV RX11 128 RX11 yX11_isSaying wsX11_isSaying) := goodIn_app (goodIn_of _ (by decide +kernel)) ggX11_mark_X11_isSaying
set_option maxRecDepth 20000 in
theorem ggX11_mark_X11_bitsIn : GoodIn wsX11_mark wsX11_bitsIn := goodIn_r _ [22] (by decide +kernel) (by decide +kernel)
set_option maxRecDepth 20000 in
theorem gX11_mark_X11_bitsIn : GoodIn wsX11_mark (va_wsS RX11 163 yX11_bitsIn wsX11_bitsIn) := goodIn_app (goodIn_of _ (by decide +kernel)) ggX11_mark_X11_bitsIn
set_option maxRecDepth 20000 in
theorem ggX11_mark_X11_lostBy : GoodIn wsX11_mark wsX11_lostBy := goodIn_r _ [26, 27, 28, 29, 13, 30, 19, 5, 31, 32, 33, 34, 35, 20, 21, 22, 58, 59, 60, 61, 62, 63, 64, 65, 66, 67, 68, 69, 70, 71, 72, 73, 74, 75, 76, 77, 78, 79, 80, 81, 82] (by decide +kernel) (by decide +kernel)
set_option maxRecDepth 20000 in
theorem gX11_mark_X11_lostBy : GoodIn wsX11_mark (wsV RX11 166 RX11 yX11_lostBy wsX11_lostBy) := goodIn_app (goodIn_of _ (by decide +kernel)) ggX11_mark_X11_lostBy
set_option maxRecDepth 20000 in
theorem ggX11_mark_X11_findAll : GoodIn wsX11_mark wsX11_findAll := goodIn_r _ [39, 10, 40, 41, 42, 43, 44, 45, 46, 47, 48, 13, 49, 35, 50, 51, 52, 53, 54, 55, 56, 57, 58, 59, 60, 61, 62, 63, 64, 65, 66, 67, 68, 69, 70, 71, 72, 73, 74, 75, 76, 77, 78, 79, 80, 81, 82] (by decide +kernel) (by decide +kernel)
set_option maxRecDepth 20000 in
theorem gX11_mark_X11_findAll : GoodIn wsX11_mark (wsV RX11 138 RX11 yX11_findAll wsX11_findAll) := goodIn_app (goodIn_of _ (by decide +kernel)) ggX11_mark_X11_findAll
theorem dX11_mark_0 : decode cX11_mark 0 = .ok (.iload_n 1, 1) := by decide +kernel
theorem dX11_mark_1 : decode cX11_mark 1 = .ok (.iconst 0, 1) := by decide +kernel
theorem dX11_mark_2 : decode cX11_mark 2 = .ok (.iconst 5, 1) := by decide +kernel
theorem dX11_mark_3 : decode cX11_mark 3 = .ok (.invokestatic 55, 3) := by decide +kernel
theorem dX11_mark_6 : decode cX11_mark 6 = .ok (.ifCond .eq 11, 3) := by decide +kernel
theorem dX11_mark_9 : decode cX11_mark 9 = .ok (.aload_n 0, 1) := by decide +kernel
theorem dX11_mark_10 : decode cX11_mark 10 = .ok (.iload_n 2, 1) := by decide +kernel
theorem dX11_mark_11 : decode cX11_mark 11 = .ok (.invokevirtual 128, 3) := by decide +kernel
theorem dX11_mark_14 : decode cX11_mark 14 = .ok (.ifCond .ne 6, 3) := by decide +kernel
theorem dX11_mark_17 : decode cX11_mark 17 = .ok (.ldc 182, 2) := by decide +kernel
theorem dX11_mark_19 : decode cX11_mark 19 = .ok (.ireturn, 1) := by decide +kernel
theorem dX11_mark_20 : decode cX11_mark 20 = .ok (.iload_n 1, 1) := by decide +kernel
theorem dX11_mark_21 : decode cX11_mark 21 = .ok (.tableswitch 160 0 4 #[35, 52, 81, 102, 129], 35) := by decide +kernel
theorem dX11_mark_56 : decode cX11_mark 56 = .ok (.aload_n 0, 1) := by decide +kernel
theorem dX11_mark_57 : decode cX11_mark 57 = .ok (.dup, 1) := by decide +kernel
theorem dX11_mark_58 : decode cX11_mark 58 = .ok (.getfield 183, 3) := by decide +kernel
theorem dX11_mark_61 : decode cX11_mark 61 = .ok (.lconst 1, 1) := by decide +kernel
theorem dX11_mark_62 : decode cX11_mark 62 = .ok (.ladd, 1) := by decide +kernel
theorem dX11_mark_63 : decode cX11_mark 63 = .ok (.putfield 183, 3) := by decide +kernel
theorem dX11_mark_66 : decode cX11_mark 66 = .ok (.aload_n 0, 1) := by decide +kernel
theorem dX11_mark_67 : decode cX11_mark 67 = .ok (.getfield 26, 3) := by decide +kernel
theorem dX11_mark_70 : decode cX11_mark 70 = .ok (.iload_n 2, 1) := by decide +kernel
theorem dX11_mark_71 : decode cX11_mark 71 = .ok (.iaload, 1) := by decide +kernel
theorem dX11_mark_72 : decode cX11_mark 72 = .ok (.ireturn, 1) := by decide +kernel
theorem dX11_mark_73 : decode cX11_mark 73 = .ok (.aload_n 0, 1) := by decide +kernel
theorem dX11_mark_74 : decode cX11_mark 74 = .ok (.dup, 1) := by decide +kernel
theorem dX11_mark_75 : decode cX11_mark 75 = .ok (.getfield 183, 3) := by decide +kernel
theorem dX11_mark_78 : decode cX11_mark 78 = .ok (.ldc2_w 187, 3) := by decide +kernel
theorem dX11_mark_81 : decode cX11_mark 81 = .ok (.ladd, 1) := by decide +kernel
theorem dX11_mark_82 : decode cX11_mark 82 = .ok (.putfield 183, 3) := by decide +kernel
theorem dX11_mark_85 : decode cX11_mark 85 = .ok (.aload_n 0, 1) := by decide +kernel
theorem dX11_mark_86 : decode cX11_mark 86 = .ok (.getfield 26, 3) := by decide +kernel
theorem dX11_mark_89 : decode cX11_mark 89 = .ok (.iload_n 2, 1) := by decide +kernel
theorem dX11_mark_90 : decode cX11_mark 90 = .ok (.iaload, 1) := by decide +kernel
theorem dX11_mark_91 : decode cX11_mark 91 = .ok (.aload_n 0, 1) := by decide +kernel
theorem dX11_mark_92 : decode cX11_mark 92 = .ok (.getfield 23, 3) := by decide +kernel
theorem dX11_mark_95 : decode cX11_mark 95 = .ok (.iload_n 2, 1) := by decide +kernel
theorem dX11_mark_96 : decode cX11_mark 96 = .ok (.iaload, 1) := by decide +kernel
theorem dX11_mark_97 : decode cX11_mark 97 = .ok (.invokestatic 163, 3) := by decide +kernel
theorem dX11_mark_100 : decode cX11_mark 100 = .ok (.iadd, 1) := by decide +kernel
theorem dX11_mark_101 : decode cX11_mark 101 = .ok (.ireturn, 1) := by decide +kernel
theorem dX11_mark_102 : decode cX11_mark 102 = .ok (.aload_n 0, 1) := by decide +kernel
theorem dX11_mark_103 : decode cX11_mark 103 = .ok (.dup, 1) := by decide +kernel
theorem dX11_mark_104 : decode cX11_mark 104 = .ok (.getfield 183, 3) := by decide +kernel
theorem dX11_mark_107 : decode cX11_mark 107 = .ok (.ldc2_w 189, 3) := by decide +kernel
theorem dX11_mark_110 : decode cX11_mark 110 = .ok (.ladd, 1) := by decide +kernel
theorem dX11_mark_111 : decode cX11_mark 111 = .ok (.putfield 183, 3) := by decide +kernel
theorem dX11_mark_114 : decode cX11_mark 114 = .ok (.iconst 2, 1) := by decide +kernel
theorem dX11_mark_115 : decode cX11_mark 115 = .ok (.aload_n 0, 1) := by decide +kernel
theorem dX11_mark_116 : decode cX11_mark 116 = .ok (.getfield 26, 3) := by decide +kernel
theorem dX11_mark_119 : decode cX11_mark 119 = .ok (.iload_n 2, 1) := by decide +kernel
theorem dX11_mark_120 : decode cX11_mark 120 = .ok (.iaload, 1) := by decide +kernel
theorem dX11_mark_121 : decode cX11_mark 121 = .ok (.imul, 1) := by decide +kernel
theorem dX11_mark_122 : decode cX11_mark 122 = .ok (.ireturn, 1) := by decide +kernel
theorem dX11_mark_123 : decode cX11_mark 123 = .ok (.aload_n 0, 1) := by decide +kernel
theorem dX11_mark_124 : decode cX11_mark 124 = .ok (.dup, 1) := by decide +kernel
theorem dX11_mark_125 : decode cX11_mark 125 = .ok (.getfield 183, 3) := by decide +kernel
theorem dX11_mark_128 : decode cX11_mark 128 = .ok (.ldc2_w 191, 3) := by decide +kernel
theorem dX11_mark_131 : decode cX11_mark 131 = .ok (.ladd, 1) := by decide +kernel
theorem dX11_mark_132 : decode cX11_mark 132 = .ok (.putfield 183, 3) := by decide +kernel
theorem dX11_mark_135 : decode cX11_mark 135 = .ok (.iconst 2, 1) := by decide +kernel
theorem dX11_mark_136 : decode cX11_mark 136 = .ok (.aload_n 0, 1) := by decide +kernel
theorem dX11_mark_137 : decode cX11_mark 137 = .ok (.getfield 26, 3) := by decide +kernel
theorem dX11_mark_140 : decode cX11_mark 140 = .ok (.iload_n 2, 1) := by decide +kernel
theorem dX11_mark_141 : decode cX11_mark 141 = .ok (.iaload, 1) := by decide +kernel
theorem dX11_mark_142 : decode cX11_mark 142 = .ok (.imul, 1) := by decide +kernel
theorem dX11_mark_143 : decode cX11_mark 143 = .ok (.aload_n 0, 1) := by decide +kernel
theorem dX11_mark_144 : decode cX11_mark 144 = .ok (.iload_n 2, 1) := by decide +kernel
theorem dX11_mark_145 : decode cX11_mark 145 = .ok (.invokevirtual 166, 3) := by decide +kernel
theorem dX11_mark_148 : decode cX11_mark 148 = .ok (.iadd, 1) := by decide +kernel
theorem dX11_mark_149 : decode cX11_mark 149 = .ok (.ireturn, 1) := by decide +kernel
theorem dX11_mark_150 : decode cX11_mark 150 = .ok (.aload_n 0, 1) := by decide +kernel
theorem dX11_mark_151 : decode cX11_mark 151 = .ok (.dup, 1) := by decide +kernel
theorem dX11_mark_152 : decode cX11_mark 152 = .ok (.getfield 183, 3) := by decide +kernel
theorem dX11_mark_155 : decode cX11_mark 155 = .ok (.ldc2_w 193, 3) := by decide +kernel
theorem dX11_mark_158 : decode cX11_mark 158 = .ok (.ladd, 1) := by decide +kernel
theorem dX11_mark_159 : decode cX11_mark 159 = .ok (.putfield 183, 3) := by decide +kernel
theorem dX11_mark_162 : decode cX11_mark 162 = .ok (.aload_n 0, 1) := by decide +kernel
theorem dX11_mark_163 : decode cX11_mark 163 = .ok (.getfield 26, 3) := by decide +kernel
theorem dX11_mark_166 : decode cX11_mark 166 = .ok (.iload_n 2, 1) := by decide +kernel
theorem dX11_mark_167 : decode cX11_mark 167 = .ok (.iaload, 1) := by decide +kernel
theorem dX11_mark_168 : decode cX11_mark 168 = .ok (.aload_n 0, 1) := by decide +kernel
theorem dX11_mark_169 : decode cX11_mark 169 = .ok (.getfield 23, 3) := by decide +kernel
theorem dX11_mark_172 : decode cX11_mark 172 = .ok (.iload_n 2, 1) := by decide +kernel
theorem dX11_mark_173 : decode cX11_mark 173 = .ok (.iaload, 1) := by decide +kernel
theorem dX11_mark_174 : decode cX11_mark 174 = .ok (.invokestatic 163, 3) := by decide +kernel
theorem dX11_mark_177 : decode cX11_mark 177 = .ok (.iadd, 1) := by decide +kernel
theorem dX11_mark_178 : decode cX11_mark 178 = .ok (.iload_n 2, 1) := by decide +kernel
theorem dX11_mark_179 : decode cX11_mark 179 = .ok (.isub, 1) := by decide +kernel
theorem dX11_mark_180 : decode cX11_mark 180 = .ok (.ireturn, 1) := by decide +kernel
theorem dX11_mark_181 : decode cX11_mark 181 = .ok (.aload_n 0, 1) := by decide +kernel
theorem dX11_mark_182 : decode cX11_mark 182 = .ok (.dup, 1) := by decide +kernel
theorem dX11_mark_183 : decode cX11_mark 183 = .ok (.getfield 183, 3) := by decide +kernel
theorem dX11_mark_186 : decode cX11_mark 186 = .ok (.ldc2_w 195, 3) := by decide +kernel
theorem dX11_mark_189 : decode cX11_mark 189 = .ok (.ladd, 1) := by decide +kernel
theorem dX11_mark_190 : decode cX11_mark 190 = .ok (.putfield 183, 3) := by decide +kernel
theorem dX11_mark_193 : decode cX11_mark 193 = .ok (.aload_n 0, 1) := by decide +kernel
theorem dX11_mark_194 : decode cX11_mark 194 = .ok (.iconst (-1), 1) := by decide +kernel
theorem dX11_mark_195 : decode cX11_mark 195 = .ok (.invokevirtual 138, 3) := by decide +kernel
theorem dX11_mark_198 : decode cX11_mark 198 = .ok (.aload_n 0, 1) := by decide +kernel
theorem dX11_mark_199 : decode cX11_mark 199 = .ok (.getfield 26, 3) := by decide +kernel
theorem dX11_mark_202 : decode cX11_mark 202 = .ok (.iload_n 2, 1) := by decide +kernel
theorem dX11_mark_203 : decode cX11_mark 203 = .ok (.iaload, 1) := by decide +kernel
theorem dX11_mark_204 : decode cX11_mark 204 = .ok (.aload_n 0, 1) := by decide +kernel
theorem dX11_mark_205 : decode cX11_mark 205 = .ok (.getfield 45, 3) := by decide +kernel
theorem dX11_mark_208 : decode cX11_mark 208 = .ok (.aload_n 0, 1) := by decide +kernel
theorem dX11_mark_209 : decode cX11_mark 209 = .ok (.getfield 23, 3) := by decide +kernel
theorem dX11_mark_212 : decode cX11_mark 212 = .ok (.iload_n 2, 1) := by decide +kernel
theorem dX11_mark_213 : decode cX11_mark 213 = .ok (.iaload, 1) := by decide +kernel
theorem dX11_mark_214 : decode cX11_mark 214 = .ok (.iaload, 1) := by decide +kernel
theorem dX11_mark_215 : decode cX11_mark 215 = .ok (.iadd, 1) := by decide +kernel
theorem dX11_mark_216 : decode cX11_mark 216 = .ok (.ireturn, 1) := by decide +kernel
theorem dX11_copy_0 : decode cX11_copy 0 = .ok (.aload_n 0, 1) := by decide +kernel
theorem dX11_copy_1 : decode cX11_copy 1 = .ok (.getfield 20, 3) := by decide +kernel
theorem dX11_copy_4 : decode cX11_copy 4 = .ok (.iload_n 2, 1) := by decide +kernel
theorem dX11_copy_5 : decode cX11_copy 5 = .ok (.aload_n 0, 1) := by decide +kernel
theorem dX11_copy_6 : decode cX11_copy 6 = .ok (.getfield 20, 3) := by decide +kernel
theorem dX11_copy_9 : decode cX11_copy 9 = .ok (.iload_n 1, 1) := by decide +kernel
theorem dX11_copy_10 : decode cX11_copy 10 = .ok (.iaload, 1) := by decide +kernel
theorem dX11_copy_11 : decode cX11_copy 11 = .ok (.iastore, 1) := by decide +kernel
theorem dX11_copy_12 : decode cX11_copy 12 = .ok (.aload_n 0, 1) := by decide +kernel
theorem dX11_copy_13 : decode cX11_copy 13 = .ok (.getfield 29, 3) := by decide +kernel
theorem dX11_copy_16 : decode cX11_copy 16 = .ok (.iload_n 2, 1) := by decide +kernel
theorem dX11_copy_17 : decode cX11_copy 17 = .ok (.aload_n 0, 1) := by decide +kernel
theorem dX11_copy_18 : decode cX11_copy 18 = .ok (.getfield 29, 3) := by decide +kernel
theorem dX11_copy_21 : decode cX11_copy 21 = .ok (.iload_n 1, 1) := by decide +kernel
theorem dX11_copy_22 : decode cX11_copy 22 = .ok (.iaload, 1) := by decide +kernel
theorem dX11_copy_23 : decode cX11_copy 23 = .ok (.iastore, 1) := by decide +kernel
theorem dX11_copy_24 : decode cX11_copy 24 = .ok (.iconst 0, 1) := by decide +kernel
theorem dX11_copy_25 : decode cX11_copy 25 = .ok (.istore_n 3, 1) := by decide +kernel
theorem dX11_copy_26 : decode cX11_copy 26 = .ok (.iload_n 3, 1) := by decide +kernel
theorem dX11_copy_27 : decode cX11_copy 27 = .ok (.bipush 8, 2) := by decide +kernel
theorem dX11_copy_29 : decode cX11_copy 29 = .ok (.if_icmp .ge 53, 3) := by decide +kernel
theorem dX11_copy_32 : decode cX11_copy 32 = .ok (.aload_n 0, 1) := by decide +kernel
theorem dX11_copy_33 : decode cX11_copy 33 = .ok (.getfield 23, 3) := by decide +kernel
theorem dX11_copy_36 : decode cX11_copy 36 = .ok (.bipush 8, 2) := by decide +kernel
theorem dX11_copy_38 : decode cX11_copy 38 = .ok (.iload_n 2, 1) := by decide +kernel
theorem dX11_copy_39 : decode cX11_copy 39 = .ok (.imul, 1) := by decide +kernel
theorem dX11_copy_40 : decode cX11_copy 40 = .ok (.iload_n 3, 1) := by decide +kernel
theorem dX11_copy_41 : decode cX11_copy 41 = .ok (.iadd, 1) := by decide +kernel
theorem dX11_copy_42 : decode cX11_copy 42 = .ok (.aload_n 0, 1) := by decide +kernel
theorem dX11_copy_43 : decode cX11_copy 43 = .ok (.getfield 23, 3) := by decide +kernel
theorem dX11_copy_46 : decode cX11_copy 46 = .ok (.bipush 8, 2) := by decide +kernel
theorem dX11_copy_48 : decode cX11_copy 48 = .ok (.iload_n 1, 1) := by decide +kernel
theorem dX11_copy_49 : decode cX11_copy 49 = .ok (.imul, 1) := by decide +kernel
theorem dX11_copy_50 : decode cX11_copy 50 = .ok (.iload_n 3, 1) := by decide +kernel
theorem dX11_copy_51 : decode cX11_copy 51 = .ok (.iadd, 1) := by decide +kernel
theorem dX11_copy_52 : decode cX11_copy 52 = .ok (.iaload, 1) := by decide +kernel
theorem dX11_copy_53 : decode cX11_copy 53 = .ok (.iastore, 1) := by decide +kernel
theorem dX11_copy_54 : decode cX11_copy 54 = .ok (.aload_n 0, 1) := by decide +kernel
theorem dX11_copy_55 : decode cX11_copy 55 = .ok (.getfield 26, 3) := by decide +kernel
theorem dX11_copy_58 : decode cX11_copy 58 = .ok (.bipush 8, 2) := by decide +kernel
theorem dX11_copy_60 : decode cX11_copy 60 = .ok (.iload_n 2, 1) := by decide +kernel
theorem dX11_copy_61 : decode cX11_copy 61 = .ok (.imul, 1) := by decide +kernel
theorem dX11_copy_62 : decode cX11_copy 62 = .ok (.iload_n 3, 1) := by decide +kernel
theorem dX11_copy_63 : decode cX11_copy 63 = .ok (.iadd, 1) := by decide +kernel
theorem dX11_copy_64 : decode cX11_copy 64 = .ok (.aload_n 0, 1) := by decide +kernel
theorem dX11_copy_65 : decode cX11_copy 65 = .ok (.getfield 26, 3) := by decide +kernel
theorem dX11_copy_68 : decode cX11_copy 68 = .ok (.bipush 8, 2) := by decide +kernel
theorem dX11_copy_70 : decode cX11_copy 70 = .ok (.iload_n 1, 1) := by decide +kernel
theorem dX11_copy_71 : decode cX11_copy 71 = .ok (.imul, 1) := by decide +kernel
theorem dX11_copy_72 : decode cX11_copy 72 = .ok (.iload_n 3, 1) := by decide +kernel
theorem dX11_copy_73 : decode cX11_copy 73 = .ok (.iadd, 1) := by decide +kernel
theorem dX11_copy_74 : decode cX11_copy 74 = .ok (.iaload, 1) := by decide +kernel
theorem dX11_copy_75 : decode cX11_copy 75 = .ok (.iastore, 1) := by decide +kernel
theorem dX11_copy_76 : decode cX11_copy 76 = .ok (.iinc 3 1, 3) := by decide +kernel
theorem dX11_copy_79 : decode cX11_copy 79 = .ok (.goto (-53), 3) := by decide +kernel
theorem dX11_copy_82 : decode cX11_copy 82 = .ok (.iconst 0, 1) := by decide +kernel
theorem dX11_copy_83 : decode cX11_copy 83 = .ok (.istore_n 3, 1) := by decide +kernel
theorem dX11_copy_84 : decode cX11_copy 84 = .ok (.iload_n 3, 1) := by decide +kernel
theorem dX11_copy_85 : decode cX11_copy 85 = .ok (.iconst 3, 1) := by decide +kernel
theorem dX11_copy_86 : decode cX11_copy 86 = .ok (.if_icmp .ge 29, 3) := by decide +kernel
theorem dX11_copy_89 : decode cX11_copy 89 = .ok (.aload_n 0, 1) := by decide +kernel
theorem dX11_copy_90 : decode cX11_copy 90 = .ok (.getfield 32, 3) := by decide +kernel
theorem dX11_copy_93 : decode cX11_copy 93 = .ok (.iconst 3, 1) := by decide +kernel
theorem dX11_copy_94 : decode cX11_copy 94 = .ok (.iload_n 2, 1) := by decide +kernel
theorem dX11_copy_95 : decode cX11_copy 95 = .ok (.imul, 1) := by decide +kernel
theorem dX11_copy_96 : decode cX11_copy 96 = .ok (.iload_n 3, 1) := by decide +kernel
theorem dX11_copy_97 : decode cX11_copy 97 = .ok (.iadd, 1) := by decide +kernel
theorem dX11_copy_98 : decode cX11_copy 98 = .ok (.aload_n 0, 1) := by decide +kernel
theorem dX11_copy_99 : decode cX11_copy 99 = .ok (.getfield 32, 3) := by decide +kernel
theorem dX11_copy_102 : decode cX11_copy 102 = .ok (.iconst 3, 1) := by decide +kernel
theorem dX11_copy_103 : decode cX11_copy 103 = .ok (.iload_n 1, 1) := by decide +kernel
theorem dX11_copy_104 : decode cX11_copy 104 = .ok (.imul, 1) := by decide +kernel
theorem dX11_copy_105 : decode cX11_copy 105 = .ok (.iload_n 3, 1) := by decide +kernel
theorem dX11_copy_106 : decode cX11_copy 106 = .ok (.iadd, 1) := by decide +kernel
theorem dX11_copy_107 : decode cX11_copy 107 = .ok (.iaload, 1) := by decide +kernel
theorem dX11_copy_108 : decode cX11_copy 108 = .ok (.iastore, 1) := by decide +kernel
theorem dX11_copy_109 : decode cX11_copy 109 = .ok (.iinc 3 1, 3) := by decide +kernel
theorem dX11_copy_112 : decode cX11_copy 112 = .ok (.goto (-28), 3) := by decide +kernel
theorem dX11_copy_115 : decode cX11_copy 115 = .ok (.return_, 1) := by decide +kernel
set_option maxRecDepth 20000 in
theorem ggX11_keep_X11_in : GoodIn wsX11_keep wsX11_in := goodIn_r _ [6] (by decide +kernel) (by decide +kernel)
set_option maxRecDepth 20000 in
theorem gX11_keep_X11_in : GoodIn wsX11_keep (va_wsS RX11 55 yX11_in wsX11_in) := goodIn_app (goodIn_of _ (by decide +kernel)) ggX11_keep_X11_in
set_option maxRecDepth 20000 in
theorem ggX11_keep_X11_copy : GoodIn wsX11_keep wsX11_copy := goodIn_r _ [10, 2, 11, 12, 13, 14, 15, 16, 17, 18, 19, 20, 21, 22, 23, 24, 25, 26, 27, 28, 29, 30, 31, 32, 33, 34, 35, 36, 37, 38, 39] (by decide +kernel) (by decide +kernel)
set_option maxRecDepth 20000 in
theorem gX11_keep_X11_copy : GoodIn wsX11_keep (wsV RX11 197 RX11 yX11_copy wsX11_copy) := goodIn_app (goodIn_of _ (by decide +kernel)) ggX11_keep_X11_copy
theorem dX11_keep_0 : decode cX11_keep 0 = .ok (.iload_n 1, 1) := by decide +kernel
theorem dX11_keep_1 : decode cX11_keep 1 = .ok (.iconst 0, 1) := by decide +kernel
theorem dX11_keep_2 : decode cX11_keep 2 = .ok (.iconst 1, 1) := by decide +kernel
theorem dX11_keep_3 : decode cX11_keep 3 = .ok (.invokestatic 55, 3) := by decide +kernel
theorem dX11_keep_6 : decode cX11_keep 6 = .ok (.ifCond .ne 5, 3) := by decide +kernel
theorem dX11_keep_9 : decode cX11_keep 9 = .ok (.iconst (-1), 1) := by decide +kernel
theorem dX11_keep_10 : decode cX11_keep 10 = .ok (.ireturn, 1) := by decide +kernel
theorem dX11_keep_11 : decode cX11_keep 11 = .ok (.aload_n 0, 1) := by decide +kernel
theorem dX11_keep_12 : decode cX11_keep 12 = .ok (.iconst 0, 1) := by decide +kernel
theorem dX11_keep_13 : decode cX11_keep 13 = .ok (.iconst 1, 1) := by decide +kernel
theorem dX11_keep_14 : decode cX11_keep 14 = .ok (.iload_n 1, 1) := by decide +kernel
theorem dX11_keep_15 : decode cX11_keep 15 = .ok (.iadd, 1) := by decide +kernel
theorem dX11_keep_16 : decode cX11_keep 16 = .ok (.invokevirtual 197, 3) := by decide +kernel
theorem dX11_keep_19 : decode cX11_keep 19 = .ok (.aload_n 0, 1) := by decide +kernel
theorem dX11_keep_20 : decode cX11_keep 20 = .ok (.getfield 35, 3) := by decide +kernel
theorem dX11_keep_23 : decode cX11_keep 23 = .ok (.iload_n 1, 1) := by decide +kernel
theorem dX11_keep_24 : decode cX11_keep 24 = .ok (.iconst 1, 1) := by decide +kernel
theorem dX11_keep_25 : decode cX11_keep 25 = .ok (.bastore, 1) := by decide +kernel
theorem dX11_keep_26 : decode cX11_keep 26 = .ok (.aload_n 0, 1) := by decide +kernel
theorem dX11_keep_27 : decode cX11_keep 27 = .ok (.getfield 20, 3) := by decide +kernel
theorem dX11_keep_30 : decode cX11_keep 30 = .ok (.iconst 0, 1) := by decide +kernel
theorem dX11_keep_31 : decode cX11_keep 31 = .ok (.iaload, 1) := by decide +kernel
theorem dX11_keep_32 : decode cX11_keep 32 = .ok (.ireturn, 1) := by decide +kernel
set_option maxRecDepth 20000 in
theorem ggX11_back_X11_in : GoodIn wsX11_back wsX11_in := goodIn_r _ [6] (by decide +kernel) (by decide +kernel)
set_option maxRecDepth 20000 in
theorem gX11_back_X11_in : GoodIn wsX11_back (va_wsS RX11 55 yX11_in wsX11_in) := goodIn_app (goodIn_of _ (by decide +kernel)) ggX11_back_X11_in
set_option maxRecDepth 20000 in
theorem ggX11_back_X11_copy : GoodIn wsX11_back wsX11_copy := goodIn_r _ [10, 2, 11, 12, 13, 14, 15, 16, 17, 18, 19, 20, 21, 22, 23, 24, 25, 26, 27, 28, 29, 30, 31, 32, 33, 34, 35, 36, 37, 38, 39] (by decide +kernel) (by decide +kernel)
set_option maxRecDepth 20000 in
theorem gX11_back_X11_copy : GoodIn wsX11_back (wsV RX11 197 RX11 yX11_copy wsX11_copy) := goodIn_app (goodIn_of _ (by decide +kernel)) ggX11_back_X11_copy
theorem dX11_back_0 : decode cX11_back 0 = .ok (.iload_n 1, 1) := by decide +kernel
theorem dX11_back_1 : decode cX11_back 1 = .ok (.iconst 0, 1) := by decide +kernel
theorem dX11_back_2 : decode cX11_back 2 = .ok (.iconst 1, 1) := by decide +kernel
theorem dX11_back_3 : decode cX11_back 3 = .ok (.invokestatic 55, 3) := by decide +kernel
theorem dX11_back_6 : decode cX11_back 6 = .ok (.ifCond .ne 5, 3) := by decide +kernel
theorem dX11_back_9 : decode cX11_back 9 = .ok (.iconst (-1), 1) := by decide +kernel
theorem dX11_back_10 : decode cX11_back 10 = .ok (.ireturn, 1) := by decide +kernel
theorem dX11_back_11 : decode cX11_back 11 = .ok (.aload_n 0, 1) := by decide +kernel
theorem dX11_back_12 : decode cX11_back 12 = .ok (.getfield 35, 3) := by decide +kernel
theorem dX11_back_15 : decode cX11_back 15 = .ok (.iload_n 1, 1) := by decide +kernel
theorem dX11_back_16 : decode cX11_back 16 = .ok (.baload, 1) := by decide +kernel
theorem dX11_back_17 : decode cX11_back 17 = .ok (.ifCond .ne 6, 3) := by decide +kernel
theorem dX11_back_20 : decode cX11_back 20 = .ok (.bipush (-2), 2) := by decide +kernel
theorem dX11_back_22 : decode cX11_back 22 = .ok (.ireturn, 1) := by decide +kernel
theorem dX11_back_23 : decode cX11_back 23 = .ok (.aload_n 0, 1) := by decide +kernel
theorem dX11_back_24 : decode cX11_back 24 = .ok (.iconst 1, 1) := by decide +kernel
theorem dX11_back_25 : decode cX11_back 25 = .ok (.iload_n 1, 1) := by decide +kernel
theorem dX11_back_26 : decode cX11_back 26 = .ok (.iadd, 1) := by decide +kernel
theorem dX11_back_27 : decode cX11_back 27 = .ok (.iconst 0, 1) := by decide +kernel
theorem dX11_back_28 : decode cX11_back 28 = .ok (.invokevirtual 197, 3) := by decide +kernel
theorem dX11_back_31 : decode cX11_back 31 = .ok (.aload_n 0, 1) := by decide +kernel
theorem dX11_back_32 : decode cX11_back 32 = .ok (.getfield 20, 3) := by decide +kernel
theorem dX11_back_35 : decode cX11_back 35 = .ok (.iconst 0, 1) := by decide +kernel
theorem dX11_back_36 : decode cX11_back 36 = .ok (.iaload, 1) := by decide +kernel
theorem dX11_back_37 : decode cX11_back 37 = .ok (.ireturn, 1) := by decide +kernel
theorem dX11_count_0 : decode cX11_count 0 = .ok (.iload_n 1, 1) := by decide +kernel
theorem dX11_count_1 : decode cX11_count 1 = .ok (.ifCond .ne 10, 3) := by decide +kernel
theorem dX11_count_4 : decode cX11_count 4 = .ok (.aload_n 0, 1) := by decide +kernel
theorem dX11_count_5 : decode cX11_count 5 = .ok (.getfield 95, 3) := by decide +kernel
theorem dX11_count_8 : decode cX11_count 8 = .ok (.goto 56, 3) := by decide +kernel
theorem dX11_count_11 : decode cX11_count 11 = .ok (.iload_n 1, 1) := by decide +kernel
theorem dX11_count_12 : decode cX11_count 12 = .ok (.iconst 1, 1) := by decide +kernel
theorem dX11_count_13 : decode cX11_count 13 = .ok (.if_icmp .ne 10, 3) := by decide +kernel
theorem dX11_count_16 : decode cX11_count 16 = .ok (.aload_n 0, 1) := by decide +kernel
theorem dX11_count_17 : decode cX11_count 17 = .ok (.getfield 51, 3) := by decide +kernel
theorem dX11_count_20 : decode cX11_count 20 = .ok (.goto 44, 3) := by decide +kernel
theorem dX11_count_23 : decode cX11_count 23 = .ok (.iload_n 1, 1) := by decide +kernel
theorem dX11_count_24 : decode cX11_count 24 = .ok (.iconst 2, 1) := by decide +kernel
theorem dX11_count_25 : decode cX11_count 25 = .ok (.if_icmp .ne 12, 3) := by decide +kernel
theorem dX11_count_28 : decode cX11_count 28 = .ok (.aload_n 0, 1) := by decide +kernel
theorem dX11_count_29 : decode cX11_count 29 = .ok (.getfield 20, 3) := by decide +kernel
theorem dX11_count_32 : decode cX11_count 32 = .ok (.iconst 0, 1) := by decide +kernel
theorem dX11_count_33 : decode cX11_count 33 = .ok (.iaload, 1) := by decide +kernel
theorem dX11_count_34 : decode cX11_count 34 = .ok (.goto 30, 3) := by decide +kernel
theorem dX11_count_37 : decode cX11_count 37 = .ok (.iload_n 1, 1) := by decide +kernel
theorem dX11_count_38 : decode cX11_count 38 = .ok (.iconst 3, 1) := by decide +kernel
theorem dX11_count_39 : decode cX11_count 39 = .ok (.if_icmp .ne 12, 3) := by decide +kernel
theorem dX11_count_42 : decode cX11_count 42 = .ok (.aload_n 0, 1) := by decide +kernel
theorem dX11_count_43 : decode cX11_count 43 = .ok (.getfield 29, 3) := by decide +kernel
theorem dX11_count_46 : decode cX11_count 46 = .ok (.iconst 0, 1) := by decide +kernel
theorem dX11_count_47 : decode cX11_count 47 = .ok (.iaload, 1) := by decide +kernel
theorem dX11_count_48 : decode cX11_count 48 = .ok (.goto 16, 3) := by decide +kernel
theorem dX11_count_51 : decode cX11_count 51 = .ok (.iload_n 1, 1) := by decide +kernel
theorem dX11_count_52 : decode cX11_count 52 = .ok (.iconst 4, 1) := by decide +kernel
theorem dX11_count_53 : decode cX11_count 53 = .ok (.if_icmp .ne 10, 3) := by decide +kernel
theorem dX11_count_56 : decode cX11_count 56 = .ok (.aload_n 0, 1) := by decide +kernel
theorem dX11_count_57 : decode cX11_count 57 = .ok (.getfield 59, 3) := by decide +kernel
theorem dX11_count_60 : decode cX11_count 60 = .ok (.goto 4, 3) := by decide +kernel
theorem dX11_count_63 : decode cX11_count 63 = .ok (.iconst (-1), 1) := by decide +kernel
theorem dX11_count_64 : decode cX11_count 64 = .ok (.ireturn, 1) := by decide +kernel
theorem dX11_trace_0 : decode cX11_trace 0 = .ok (.aload_n 0, 1) := by decide +kernel
theorem dX11_trace_1 : decode cX11_trace 1 = .ok (.getfield 183, 3) := by decide +kernel
theorem dX11_trace_4 : decode cX11_trace 4 = .ok (.lreturn, 1) := by decide +kernel
theorem dJ6_bitCount_0f7a4_0 : decode cJ6_bitCount_0f7a4 0 = .ok (.iload_n 0, 1) := by decide +kernel
theorem dJ6_bitCount_0f7a4_1 : decode cJ6_bitCount_0f7a4 1 = .ok (.iload_n 0, 1) := by decide +kernel
theorem dJ6_bitCount_0f7a4_2 : decode cJ6_bitCount_0f7a4 2 = .ok (.iconst 1, 1) := by decide +kernel
theorem dJ6_bitCount_0f7a4_3 : decode cJ6_bitCount_0f7a4 3 = .ok (.iushr, 1) := by decide +kernel
theorem dJ6_bitCount_0f7a4_4 : decode cJ6_bitCount_0f7a4 4 = .ok (.ldc_w 265, 3) := by decide +kernel
theorem dJ6_bitCount_0f7a4_7 : decode cJ6_bitCount_0f7a4 7 = .ok (.iand, 1) := by decide +kernel
theorem dJ6_bitCount_0f7a4_8 : decode cJ6_bitCount_0f7a4 8 = .ok (.isub, 1) := by decide +kernel
theorem dJ6_bitCount_0f7a4_9 : decode cJ6_bitCount_0f7a4 9 = .ok (.istore_n 0, 1) := by decide +kernel
theorem dJ6_bitCount_0f7a4_10 : decode cJ6_bitCount_0f7a4 10 = .ok (.iload_n 0, 1) := by decide +kernel
theorem dJ6_bitCount_0f7a4_11 : decode cJ6_bitCount_0f7a4 11 = .ok (.ldc_w 266, 3) := by decide +kernel
theorem dJ6_bitCount_0f7a4_14 : decode cJ6_bitCount_0f7a4 14 = .ok (.iand, 1) := by decide +kernel
theorem dJ6_bitCount_0f7a4_15 : decode cJ6_bitCount_0f7a4 15 = .ok (.iload_n 0, 1) := by decide +kernel
theorem dJ6_bitCount_0f7a4_16 : decode cJ6_bitCount_0f7a4 16 = .ok (.iconst 2, 1) := by decide +kernel
theorem dJ6_bitCount_0f7a4_17 : decode cJ6_bitCount_0f7a4 17 = .ok (.iushr, 1) := by decide +kernel
theorem dJ6_bitCount_0f7a4_18 : decode cJ6_bitCount_0f7a4 18 = .ok (.ldc_w 266, 3) := by decide +kernel
theorem dJ6_bitCount_0f7a4_21 : decode cJ6_bitCount_0f7a4 21 = .ok (.iand, 1) := by decide +kernel
theorem dJ6_bitCount_0f7a4_22 : decode cJ6_bitCount_0f7a4 22 = .ok (.iadd, 1) := by decide +kernel
theorem dJ6_bitCount_0f7a4_23 : decode cJ6_bitCount_0f7a4 23 = .ok (.istore_n 0, 1) := by decide +kernel
theorem dJ6_bitCount_0f7a4_24 : decode cJ6_bitCount_0f7a4 24 = .ok (.iload_n 0, 1) := by decide +kernel
theorem dJ6_bitCount_0f7a4_25 : decode cJ6_bitCount_0f7a4 25 = .ok (.iload_n 0, 1) := by decide +kernel
theorem dJ6_bitCount_0f7a4_26 : decode cJ6_bitCount_0f7a4 26 = .ok (.iconst 4, 1) := by decide +kernel
theorem dJ6_bitCount_0f7a4_27 : decode cJ6_bitCount_0f7a4 27 = .ok (.iushr, 1) := by decide +kernel
theorem dJ6_bitCount_0f7a4_28 : decode cJ6_bitCount_0f7a4 28 = .ok (.iadd, 1) := by decide +kernel
theorem dJ6_bitCount_0f7a4_29 : decode cJ6_bitCount_0f7a4 29 = .ok (.ldc_w 267, 3) := by decide +kernel
theorem dJ6_bitCount_0f7a4_32 : decode cJ6_bitCount_0f7a4 32 = .ok (.iand, 1) := by decide +kernel
theorem dJ6_bitCount_0f7a4_33 : decode cJ6_bitCount_0f7a4 33 = .ok (.istore_n 0, 1) := by decide +kernel
theorem dJ6_bitCount_0f7a4_34 : decode cJ6_bitCount_0f7a4 34 = .ok (.iload_n 0, 1) := by decide +kernel
theorem dJ6_bitCount_0f7a4_35 : decode cJ6_bitCount_0f7a4 35 = .ok (.iload_n 0, 1) := by decide +kernel
theorem dJ6_bitCount_0f7a4_36 : decode cJ6_bitCount_0f7a4 36 = .ok (.bipush 8, 2) := by decide +kernel
theorem dJ6_bitCount_0f7a4_38 : decode cJ6_bitCount_0f7a4 38 = .ok (.iushr, 1) := by decide +kernel
theorem dJ6_bitCount_0f7a4_39 : decode cJ6_bitCount_0f7a4 39 = .ok (.iadd, 1) := by decide +kernel
theorem dJ6_bitCount_0f7a4_40 : decode cJ6_bitCount_0f7a4 40 = .ok (.istore_n 0, 1) := by decide +kernel
theorem dJ6_bitCount_0f7a4_41 : decode cJ6_bitCount_0f7a4 41 = .ok (.iload_n 0, 1) := by decide +kernel
theorem dJ6_bitCount_0f7a4_42 : decode cJ6_bitCount_0f7a4 42 = .ok (.iload_n 0, 1) := by decide +kernel
theorem dJ6_bitCount_0f7a4_43 : decode cJ6_bitCount_0f7a4 43 = .ok (.bipush 16, 2) := by decide +kernel
theorem dJ6_bitCount_0f7a4_45 : decode cJ6_bitCount_0f7a4 45 = .ok (.iushr, 1) := by decide +kernel
theorem dJ6_bitCount_0f7a4_46 : decode cJ6_bitCount_0f7a4 46 = .ok (.iadd, 1) := by decide +kernel
theorem dJ6_bitCount_0f7a4_47 : decode cJ6_bitCount_0f7a4 47 = .ok (.istore_n 0, 1) := by decide +kernel
theorem dJ6_bitCount_0f7a4_48 : decode cJ6_bitCount_0f7a4 48 = .ok (.iload_n 0, 1) := by decide +kernel
theorem dJ6_bitCount_0f7a4_49 : decode cJ6_bitCount_0f7a4 49 = .ok (.bipush 63, 2) := by decide +kernel
theorem dJ6_bitCount_0f7a4_51 : decode cJ6_bitCount_0f7a4 51 = .ok (.iand, 1) := by decide +kernel
theorem dJ6_bitCount_0f7a4_52 : decode cJ6_bitCount_0f7a4 52 = .ok (.ireturn, 1) := by decide +kernel
theorem dJ9_max_7cf53_0 : decode cJ9_max_7cf53 0 = .ok (.iload_n 0, 1) := by decide +kernel
theorem dJ9_max_7cf53_1 : decode cJ9_max_7cf53 1 = .ok (.iload_n 1, 1) := by decide +kernel
theorem dJ9_max_7cf53_2 : decode cJ9_max_7cf53 2 = .ok (.if_icmp .lt 7, 3) := by decide +kernel
theorem dJ9_max_7cf53_5 : decode cJ9_max_7cf53 5 = .ok (.iload_n 0, 1) := by decide +kernel
theorem dJ9_max_7cf53_6 : decode cJ9_max_7cf53 6 = .ok (.goto 4, 3) := by decide +kernel
theorem dJ9_max_7cf53_9 : decode cJ9_max_7cf53 9 = .ok (.iload_n 1, 1) := by decide +kernel
theorem dJ9_max_7cf53_10 : decode cJ9_max_7cf53 10 = .ok (.ireturn, 1) := by decide +kernel
set_option maxRecDepth 20000 in
theorem ggJ0_length_8abf5_J0_coder_7d493 : GoodIn wsJ0_length_8abf5 wsJ0_coder_7d493 := goodIn_r _ [6, 7, 8] (by decide +kernel) (by decide +kernel)
set_option maxRecDepth 20000 in
theorem gJ0_length_8abf5_J0_coder_7d493 : GoodIn wsJ0_length_8abf5 (wsV RJ0 335 RJ0 yJ0_coder_7d493 wsJ0_coder_7d493) := goodIn_app (goodIn_of _ (by decide +kernel)) ggJ0_length_8abf5_J0_coder_7d493
theorem dJ0_length_8abf5_0 : decode cJ0_length_8abf5 0 = .ok (.aload_n 0, 1) := by decide +kernel
theorem dJ0_length_8abf5_1 : decode cJ0_length_8abf5 1 = .ok (.getfield 9, 3) := by decide +kernel
theorem dJ0_length_8abf5_4 : decode cJ0_length_8abf5 4 = .ok (.arraylength, 1) := by decide +kernel
theorem dJ0_length_8abf5_5 : decode cJ0_length_8abf5 5 = .ok (.aload_n 0, 1) := by decide +kernel
theorem dJ0_length_8abf5_6 : decode cJ0_length_8abf5 6 = .ok (.invokevirtual 335, 3) := by decide +kernel
theorem dJ0_length_8abf5_9 : decode cJ0_length_8abf5 9 = .ok (.ishr, 1) := by decide +kernel
theorem dJ0_length_8abf5_10 : decode cJ0_length_8abf5 10 = .ok (.ireturn, 1) := by decide +kernel
set_option maxRecDepth 20000 in
theorem ggJ0_charAt_5068e_J0_isLatin1_aae02 : GoodIn wsJ0_charAt_5068e wsJ0_isLatin1_aae02 := goodIn_r _ [6, 7, 8] (by decide +kernel) (by decide +kernel)
set_option maxRecDepth 20000 in
theorem gJ0_charAt_5068e_J0_isLatin1_aae02 : GoodIn wsJ0_charAt_5068e (wsV RJ0 492 RJ0 yJ0_isLatin1_aae02 wsJ0_isLatin1_aae02) := goodIn_app (goodIn_of _ (by decide +kernel)) ggJ0_charAt_5068e_J0_isLatin1_aae02
set_option maxRecDepth 20000 in
theorem ggJ0_charAt_5068e_J1_charAt_3b067 : GoodIn wsJ0_charAt_5068e wsJ1_charAt_3b067 := goodIn_r _ [12, 13, 14, 5, 15, 16, 17, 18, 19, 20] (by decide +kernel) (by decide +kernel)
set_option maxRecDepth 20000 in
theorem gJ0_charAt_5068e_J1_charAt_3b067 : GoodIn wsJ0_charAt_5068e (va_wsS RJ0 495 yJ1_charAt_3b067 wsJ1_charAt_3b067) := goodIn_app (goodIn_of _ (by decide +kernel)) ggJ0_charAt_5068e_J1_charAt_3b067
set_option maxRecDepth 20000 in
theorem ggJ0_charAt_5068e_J2_charAt_3b067 : GoodIn wsJ0_charAt_5068e wsJ2_charAt_3b067 := goodIn_r _ [24, 25, 26, 23, 27, 28, 29, 30, 31, 14, 5, 15, 16, 17, 18, 19, 20, 32, 33, 34, 35, 36, 37] (by decide +kernel) (by decide +kernel)
set_option maxRecDepth 20000 in
theorem gJ0_charAt_5068e_J2_charAt_3b067 : GoodIn wsJ0_charAt_5068e (va_wsS RJ0 498 yJ2_charAt_3b067 wsJ2_charAt_3b067) := goodIn_app (goodIn_of _ (by decide +kernel)) ggJ0_charAt_5068e_J2_charAt_3b067
theorem dJ0_charAt_5068e_0 : decode cJ0_charAt_5068e 0 = .ok (.aload_n 0, 1) := by decide +kernel
theorem dJ0_charAt_5068e_1 : decode cJ0_charAt_5068e 1 = .ok (.invokevirtual 492, 3) := by decide +kernel
theorem dJ0_charAt_5068e_4 : decode cJ0_charAt_5068e 4 = .ok (.ifCond .eq 12, 3) := by decide +kernel
theorem dJ0_charAt_5068e_7 : decode cJ0_charAt_5068e 7 = .ok (.aload_n 0, 1) := by decide +kernel
theorem dJ0_charAt_5068e_8 : decode cJ0_charAt_5068e 8 = .ok (.getfield 9, 3) := by decide +kernel
theorem dJ0_charAt_5068e_11 : decode cJ0_charAt_5068e 11 = .ok (.iload_n 1, 1) := by decide +kernel
theorem dJ0_charAt_5068e_12 : decode cJ0_charAt_5068e 12 = .ok (.invokestatic 495, 3) := by decide +kernel
theorem dJ0_charAt_5068e_15 : decode cJ0_charAt_5068e 15 = .ok (.ireturn, 1) := by decide +kernel
theorem dJ0_charAt_5068e_16 : decode cJ0_charAt_5068e 16 = .ok (.aload_n 0, 1) := by decide +kernel
theorem dJ0_charAt_5068e_17 : decode cJ0_charAt_5068e 17 = .ok (.getfield 9, 3) := by decide +kernel
theorem dJ0_charAt_5068e_20 : decode cJ0_charAt_5068e 20 = .ok (.iload_n 1, 1) := by decide +kernel
theorem dJ0_charAt_5068e_21 : decode cJ0_charAt_5068e 21 = .ok (.invokestatic 498, 3) := by decide +kernel
theorem dJ0_charAt_5068e_24 : decode cJ0_charAt_5068e 24 = .ok (.ireturn, 1) := by decide +kernel
theorem dJ0_coder_7d493_0 : decode cJ0_coder_7d493 0 = .ok (.getstatic 38, 3) := by decide +kernel
theorem dJ0_coder_7d493_3 : decode cJ0_coder_7d493 3 = .ok (.ifCond .eq 10, 3) := by decide +kernel
theorem dJ0_coder_7d493_6 : decode cJ0_coder_7d493 6 = .ok (.aload_n 0, 1) := by decide +kernel
theorem dJ0_coder_7d493_7 : decode cJ0_coder_7d493 7 = .ok (.getfield 15, 3) := by decide +kernel
theorem dJ0_coder_7d493_10 : decode cJ0_coder_7d493 10 = .ok (.goto 4, 3) := by decide +kernel
theorem dJ0_coder_7d493_13 : decode cJ0_coder_7d493 13 = .ok (.iconst 1, 1) := by decide +kernel
theorem dJ0_coder_7d493_14 : decode cJ0_coder_7d493 14 = .ok (.ireturn, 1) := by decide +kernel
theorem dJ0_isLatin1_aae02_0 : decode cJ0_isLatin1_aae02 0 = .ok (.getstatic 38, 3) := by decide +kernel
theorem dJ0_isLatin1_aae02_3 : decode cJ0_isLatin1_aae02 3 = .ok (.ifCond .eq 14, 3) := by decide +kernel
theorem dJ0_isLatin1_aae02_6 : decode cJ0_isLatin1_aae02 6 = .ok (.aload_n 0, 1) := by decide +kernel
theorem dJ0_isLatin1_aae02_7 : decode cJ0_isLatin1_aae02 7 = .ok (.getfield 15, 3) := by decide +kernel
theorem dJ0_isLatin1_aae02_10 : decode cJ0_isLatin1_aae02 10 = .ok (.ifCond .ne 7, 3) := by decide +kernel
theorem dJ0_isLatin1_aae02_13 : decode cJ0_isLatin1_aae02 13 = .ok (.iconst 1, 1) := by decide +kernel
theorem dJ0_isLatin1_aae02_14 : decode cJ0_isLatin1_aae02 14 = .ok (.goto 4, 3) := by decide +kernel
theorem dJ0_isLatin1_aae02_17 : decode cJ0_isLatin1_aae02 17 = .ok (.iconst 0, 1) := by decide +kernel
theorem dJ0_isLatin1_aae02_18 : decode cJ0_isLatin1_aae02 18 = .ok (.ireturn, 1) := by decide +kernel
set_option maxRecDepth 20000 in
theorem ggJ0_checkIndex_df160_J3_checkIndex_8e157 : GoodIn wsJ0_checkIndex_df160 wsJ3_checkIndex_8e157 := goodIn_r _ [5] (by decide +kernel) (by decide +kernel)
set_option maxRecDepth 20000 in
theorem gJ0_checkIndex_df160_J3_checkIndex_8e157 : GoodIn wsJ0_checkIndex_df160 (va_wsS RJ0 1059 yJ3_checkIndex_8e157 wsJ3_checkIndex_8e157) := goodIn_app (goodIn_of _ (by decide +kernel)) ggJ0_checkIndex_df160_J3_checkIndex_8e157
theorem dJ0_checkIndex_df160_0 : decode cJ0_checkIndex_df160 0 = .ok (.iload_n 0, 1) := by decide +kernel
theorem dJ0_checkIndex_df160_1 : decode cJ0_checkIndex_df160 1 = .ok (.iload_n 1, 1) := by decide +kernel
theorem dJ0_checkIndex_df160_2 : decode cJ0_checkIndex_df160 2 = .ok (.getstatic 1053, 3) := by decide +kernel
theorem dJ0_checkIndex_df160_5 : decode cJ0_checkIndex_df160 5 = .ok (.invokestatic 1059, 3) := by decide +kernel
theorem dJ0_checkIndex_df160_8 : decode cJ0_checkIndex_df160 8 = .ok (.pop, 1) := by decide +kernel
theorem dJ0_checkIndex_df160_9 : decode cJ0_checkIndex_df160 9 = .ok (.return_, 1) := by decide +kernel
set_option maxRecDepth 20000 in
theorem ggJ1_charAt_3b067_J0_checkIndex_df160 : GoodIn wsJ1_charAt_3b067 wsJ0_checkIndex_df160 := goodIn_r _ [4, 5, 6, 7, 8, 9] (by decide +kernel) (by decide +kernel)
set_option maxRecDepth 20000 in
theorem gJ1_charAt_3b067_J0_checkIndex_df160 : GoodIn wsJ1_charAt_3b067 (va_wsS RJ1 9 yJ0_checkIndex_df160 wsJ0_checkIndex_df160) := goodIn_app (goodIn_of _ (by decide +kernel)) ggJ1_charAt_3b067_J0_checkIndex_df160
theorem dJ1_charAt_3b067_0 : decode cJ1_charAt_3b067 0 = .ok (.iload_n 1, 1) := by decide +kernel
theorem dJ1_charAt_3b067_1 : decode cJ1_charAt_3b067 1 = .ok (.aload_n 0, 1) := by decide +kernel
theorem dJ1_charAt_3b067_2 : decode cJ1_charAt_3b067 2 = .ok (.arraylength, 1) := by decide +kernel
theorem dJ1_charAt_3b067_3 : decode cJ1_charAt_3b067 3 = .ok (.invokestatic 9, 3) := by decide +kernel
theorem dJ1_charAt_3b067_6 : decode cJ1_charAt_3b067 6 = .ok (.aload_n 0, 1) := by decide +kernel
theorem dJ1_charAt_3b067_7 : decode cJ1_charAt_3b067 7 = .ok (.iload_n 1, 1) := by decide +kernel
theorem dJ1_charAt_3b067_8 : decode cJ1_charAt_3b067 8 = .ok (.baload, 1) := by decide +kernel
theorem dJ1_charAt_3b067_9 : decode cJ1_charAt_3b067 9 = .ok (.sipush 255, 3) := by decide +kernel
theorem dJ1_charAt_3b067_12 : decode cJ1_charAt_3b067 12 = .ok (.iand, 1) := by decide +kernel
theorem dJ1_charAt_3b067_13 : decode cJ1_charAt_3b067 13 = .ok (.i2c, 1) := by decide +kernel
theorem dJ1_charAt_3b067_14 : decode cJ1_charAt_3b067 14 = .ok (.ireturn, 1) := by decide +kernel
set_option maxRecDepth 20000 in
theorem ggJ2_getChar_3b067_J2_length_9d52b : GoodIn wsJ2_getChar_3b067 wsJ2_length_9d52b := goodIn_r _ [7] (by decide +kernel) (by decide +kernel)
set_option maxRecDepth 20000 in
theorem gJ2_getChar_3b067_J2_length_9d52b : GoodIn wsJ2_getChar_3b067 (va_wsS RJ2 48 yJ2_length_9d52b wsJ2_length_9d52b) := goodIn_app (goodIn_of _ (by decide +kernel)) ggJ2_getChar_3b067_J2_length_9d52b
theorem dJ2_getChar_3b067_0 : decode cJ2_getChar_3b067 0 = .ok (.getstatic 44, 3) := by decide +kernel
theorem dJ2_getChar_3b067_3 : decode cJ2_getChar_3b067 3 = .ok (.ifCond .ne 25, 3) := by decide +kernel
theorem dJ2_getChar_3b067_6 : decode cJ2_getChar_3b067 6 = .ok (.iload_n 1, 1) := by decide +kernel
theorem dJ2_getChar_3b067_7 : decode cJ2_getChar_3b067 7 = .ok (.ifCond .lt 11, 3) := by decide +kernel
theorem dJ2_getChar_3b067_10 : decode cJ2_getChar_3b067 10 = .ok (.iload_n 1, 1) := by decide +kernel
theorem dJ2_getChar_3b067_11 : decode cJ2_getChar_3b067 11 = .ok (.aload_n 0, 1) := by decide +kernel
theorem dJ2_getChar_3b067_12 : decode cJ2_getChar_3b067 12 = .ok (.invokestatic 48, 3) := by decide +kernel
theorem dJ2_getChar_3b067_15 : decode cJ2_getChar_3b067 15 = .ok (.if_icmp .lt 13, 3) := by decide +kernel
theorem dJ2_getChar_3b067_18 : decode cJ2_getChar_3b067 18 = .ok (.new 52, 3) := by decide +kernel
theorem dJ2_getChar_3b067_21 : decode cJ2_getChar_3b067 21 = .ok (.dup, 1) := by decide +kernel
theorem dJ2_getChar_3b067_22 : decode cJ2_getChar_3b067 22 = .ok (.ldc 54, 2) := by decide +kernel
theorem dJ2_getChar_3b067_24 : decode cJ2_getChar_3b067 24 = .ok (.invokespecial 56, 3) := by decide +kernel
theorem dJ2_getChar_3b067_27 : decode cJ2_getChar_3b067 27 = .ok (.athrow, 1) := by decide +kernel
theorem dJ2_getChar_3b067_28 : decode cJ2_getChar_3b067 28 = .ok (.iload_n 1, 1) := by decide +kernel
theorem dJ2_getChar_3b067_29 : decode cJ2_getChar_3b067 29 = .ok (.iconst 1, 1) := by decide +kernel
theorem dJ2_getChar_3b067_30 : decode cJ2_getChar_3b067 30 = .ok (.ishl, 1) := by decide +kernel
theorem dJ2_getChar_3b067_31 : decode cJ2_getChar_3b067 31 = .ok (.istore_n 1, 1) := by decide +kernel
theorem dJ2_getChar_3b067_32 : decode cJ2_getChar_3b067 32 = .ok (.aload_n 0, 1) := by decide +kernel
theorem dJ2_getChar_3b067_33 : decode cJ2_getChar_3b067 33 = .ok (.iload_n 1, 1) := by decide +kernel
theorem dJ2_getChar_3b067_34 : decode cJ2_getChar_3b067 34 = .ok (.iinc 1 1, 3) := by decide +kernel
theorem dJ2_getChar_3b067_37 : decode cJ2_getChar_3b067 37 = .ok (.baload, 1) := by decide +kernel
theorem dJ2_getChar_3b067_38 : decode cJ2_getChar_3b067 38 = .ok (.sipush 255, 3) := by decide +kernel
theorem dJ2_getChar_3b067_41 : decode cJ2_getChar_3b067 41 = .ok (.iand, 1) := by decide +kernel
theorem dJ2_getChar_3b067_42 : decode cJ2_getChar_3b067 42 = .ok (.getstatic 59, 3) := by decide +kernel
theorem dJ2_getChar_3b067_45 : decode cJ2_getChar_3b067 45 = .ok (.ishl, 1) := by decide +kernel
theorem dJ2_getChar_3b067_46 : decode cJ2_getChar_3b067 46 = .ok (.aload_n 0, 1) := by decide +kernel
theorem dJ2_getChar_3b067_47 : decode cJ2_getChar_3b067 47 = .ok (.iload_n 1, 1) := by decide +kernel
theorem dJ2_getChar_3b067_48 : decode cJ2_getChar_3b067 48 = .ok (.baload, 1) := by decide +kernel
theorem dJ2_getChar_3b067_49 : decode cJ2_getChar_3b067 49 = .ok (.sipush 255, 3) := by decide +kernel
theorem dJ2_getChar_3b067_52 : decode cJ2_getChar_3b067 52 = .ok (.iand, 1) := by decide +kernel
theorem dJ2_getChar_3b067_53 : decode cJ2_getChar_3b067 53 = .ok (.getstatic 63, 3) := by decide +kernel
theorem dJ2_getChar_3b067_56 : decode cJ2_getChar_3b067 56 = .ok (.ishl, 1) := by decide +kernel
theorem dJ2_getChar_3b067_57 : decode cJ2_getChar_3b067 57 = .ok (.ior, 1) := by decide +kernel
theorem dJ2_getChar_3b067_58 : decode cJ2_getChar_3b067 58 = .ok (.i2c, 1) := by decide +kernel
theorem dJ2_getChar_3b067_59 : decode cJ2_getChar_3b067 59 = .ok (.ireturn, 1) := by decide +kernel
theorem dJ2_length_9d52b_0 : decode cJ2_length_9d52b 0 = .ok (.aload_n 0, 1) := by decide +kernel
theorem dJ2_length_9d52b_1 : decode cJ2_length_9d52b 1 = .ok (.arraylength, 1) := by decide +kernel
theorem dJ2_length_9d52b_2 : decode cJ2_length_9d52b 2 = .ok (.iconst 1, 1) := by decide +kernel
theorem dJ2_length_9d52b_3 : decode cJ2_length_9d52b 3 = .ok (.ishr, 1) := by decide +kernel
theorem dJ2_length_9d52b_4 : decode cJ2_length_9d52b 4 = .ok (.ireturn, 1) := by decide +kernel
set_option maxRecDepth 20000 in
theorem ggJ2_charAt_3b067_J2_checkIndex_2214a : GoodIn wsJ2_charAt_3b067 wsJ2_checkIndex_2214a := goodIn_r _ [4, 5, 6, 3, 7, 8, 9, 10, 11, 12, 13, 14, 15, 16] (by decide +kernel) (by decide +kernel)
set_option maxRecDepth 20000 in
theorem gJ2_charAt_3b067_J2_checkIndex_2214a : GoodIn wsJ2_charAt_3b067 (va_wsS RJ2 67 yJ2_checkIndex_2214a wsJ2_checkIndex_2214a) := goodIn_app (goodIn_of _ (by decide +kernel)) ggJ2_charAt_3b067_J2_checkIndex_2214a
set_option maxRecDepth 20000 in
theorem ggJ2_charAt_3b067_J2_getChar_3b067 : GoodIn wsJ2_charAt_3b067 wsJ2_getChar_3b067 := goodIn_r _ [19, 20, 21, 22, 5, 6, 3, 7] (by decide +kernel) (by decide +kernel)
set_option maxRecDepth 20000 in
theorem gJ2_charAt_3b067_J2_getChar_3b067 : GoodIn wsJ2_charAt_3b067 (va_wsS RJ2 71 yJ2_getChar_3b067 wsJ2_getChar_3b067) := goodIn_app (goodIn_of _ (by decide +kernel)) ggJ2_charAt_3b067_J2_getChar_3b067
theorem dJ2_charAt_3b067_0 : decode cJ2_charAt_3b067 0 = .ok (.iload_n 1, 1) := by decide +kernel
theorem dJ2_charAt_3b067_1 : decode cJ2_charAt_3b067 1 = .ok (.aload_n 0, 1) := by decide +kernel
theorem dJ2_charAt_3b067_2 : decode cJ2_charAt_3b067 2 = .ok (.invokestatic 67, 3) := by decide +kernel
theorem dJ2_charAt_3b067_5 : decode cJ2_charAt_3b067 5 = .ok (.aload_n 0, 1) := by decide +kernel
theorem dJ2_charAt_3b067_6 : decode cJ2_charAt_3b067 6 = .ok (.iload_n 1, 1) := by decide +kernel
theorem dJ2_charAt_3b067_7 : decode cJ2_charAt_3b067 7 = .ok (.invokestatic 71, 3) := by decide +kernel
theorem dJ2_charAt_3b067_10 : decode cJ2_charAt_3b067 10 = .ok (.ireturn, 1) := by decide +kernel
set_option maxRecDepth 20000 in
theorem ggJ2_checkIndex_2214a_J2_length_9d52b : GoodIn wsJ2_checkIndex_2214a wsJ2_length_9d52b := goodIn_r _ [4] (by decide +kernel) (by decide +kernel)
set_option maxRecDepth 20000 in
theorem gJ2_checkIndex_2214a_J2_length_9d52b : GoodIn wsJ2_checkIndex_2214a (va_wsS RJ2 48 yJ2_length_9d52b wsJ2_length_9d52b) := goodIn_app (goodIn_of _ (by decide +kernel)) ggJ2_checkIndex_2214a_J2_length_9d52b
set_option maxRecDepth 20000 in
theorem ggJ2_checkIndex_2214a_J0_checkIndex_df160 : GoodIn wsJ2_checkIndex_2214a wsJ0_checkIndex_df160 := goodIn_r _ [8, 9, 10, 11, 12, 13] (by decide +kernel) (by decide +kernel)
set_option maxRecDepth 20000 in
theorem gJ2_checkIndex_2214a_J0_checkIndex_df160 : GoodIn wsJ2_checkIndex_2214a (va_wsS RJ2 414 yJ0_checkIndex_df160 wsJ0_checkIndex_df160) := goodIn_app (goodIn_of _ (by decide +kernel)) ggJ2_checkIndex_2214a_J0_checkIndex_df160
theorem dJ2_checkIndex_2214a_0 : decode cJ2_checkIndex_2214a 0 = .ok (.iload_n 0, 1) := by decide +kernel
theorem dJ2_checkIndex_2214a_1 : decode cJ2_checkIndex_2214a 1 = .ok (.aload_n 1, 1) := by decide +kernel
theorem dJ2_checkIndex_2214a_2 : decode cJ2_checkIndex_2214a 2 = .ok (.invokestatic 48, 3) := by decide +kernel
theorem dJ2_checkIndex_2214a_5 : decode cJ2_checkIndex_2214a 5 = .ok (.invokestatic 414, 3) := by decide +kernel
theorem dJ2_checkIndex_2214a_8 : decode cJ2_checkIndex_2214a 8 = .ok (.return_, 1) := by decide +kernel
theorem dJ3_checkIndex_8e157_0 : decode cJ3_checkIndex_8e157 0 = .ok (.iload_n 0, 1) := by decide +kernel
theorem dJ3_checkIndex_8e157_1 : decode cJ3_checkIndex_8e157 1 = .ok (.ifCond .lt 8, 3) := by decide +kernel
theorem dJ3_checkIndex_8e157_4 : decode cJ3_checkIndex_8e157 4 = .ok (.iload_n 0, 1) := by decide +kernel
theorem dJ3_checkIndex_8e157_5 : decode cJ3_checkIndex_8e157 5 = .ok (.iload_n 1, 1) := by decide +kernel
theorem dJ3_checkIndex_8e157_6 : decode cJ3_checkIndex_8e157 6 = .ok (.if_icmp .lt 10, 3) := by decide +kernel
theorem dJ3_checkIndex_8e157_9 : decode cJ3_checkIndex_8e157 9 = .ok (.aload_n 2, 1) := by decide +kernel
theorem dJ3_checkIndex_8e157_10 : decode cJ3_checkIndex_8e157 10 = .ok (.iload_n 0, 1) := by decide +kernel
theorem dJ3_checkIndex_8e157_11 : decode cJ3_checkIndex_8e157 11 = .ok (.iload_n 1, 1) := by decide +kernel
theorem dJ3_checkIndex_8e157_12 : decode cJ3_checkIndex_8e157 12 = .ok (.invokestatic 95, 3) := by decide +kernel
theorem dJ3_checkIndex_8e157_15 : decode cJ3_checkIndex_8e157 15 = .ok (.athrow, 1) := by decide +kernel
theorem dJ3_checkIndex_8e157_16 : decode cJ3_checkIndex_8e157 16 = .ok (.iload_n 0, 1) := by decide +kernel
theorem dJ3_checkIndex_8e157_17 : decode cJ3_checkIndex_8e157 17 = .ok (.ireturn, 1) := by decide +kernel
set_option maxRecDepth 20000 in
theorem ggL_law_X10_init : GoodIn wsL_law wsX10_init := goodIn_r _ [9, 10, 11, 12, 13, 14, 15, 16, 17, 18, 19, 20, 21, 22, 23, 24, 25, 26, 27, 28, 29, 30, 31, 32, 33, 34, 35, 36, 37, 38, 39, 40, 41, 42, 43, 44, 45, 46, 47, 48, 49, 50, 51, 52, 53, 54, 55, 56, 57, 58, 59, 60, 61, 62, 63, 64, 65, 66, 67, 68, 69, 70, 71, 72, 73, 74, 75, 76, 77, 78, 79, 80, 81, 82, 83, 84, 85, 86, 87, 88, 89, 90, 91, 92, 93, 94, 95, 96, 97, 98, 99, 100, 101, 102, 103, 104, 105, 106, 107, 108, 109, 110, 111, 112, 113, 114, 115, 116, 117, 118, 119, 120, 121, 122, 123, 1037, 1038, 1000, 1001, 1002, 1003, 1004, 1005, 1006, 1007, 1008, 1009, 1010, 1011, 1039, 1040, 1041, 1042, 1043, 1044, 1045, 1046, 1047, 1048, 1049, 1050, 1051, 1052, 1053, 1054, 1055, 1056, 1057, 1058, 1059, 1060, 1061, 1062, 1063, 1064, 1065, 1066, 1067, 1068, 1069, 1070, 1071, 1072, 1073, 1074] (by decide +kernel) (by decide +kernel)
set_option maxRecDepth 20000 in
theorem gL_law_X10_init : GoodIn wsL_law (wsX10_init) := ggL_law_X10_init
set_option maxRecDepth 20000 in
theorem ggL_law_X11_init : GoodIn wsL_law wsX11_init := goodIn_r _ [126, 127, 11, 12, 128, 129, 52, 130, 131, 132, 133, 134, 135, 136, 137, 138, 139, 140, 141, 142, 143, 1012, 1013, 1014, 1015, 1016, 1017, 1018, 1019, 1020, 1021, 1022, 1023, 1024, 1025, 1026, 1027, 1028, 1029, 1030, 1031, 1032, 1033, 1034, 1035, 1036] (by decide +kernel) (by decide +kernel)
set_option maxRecDepth 20000 in
theorem gL_law_X11_init : GoodIn wsL_law (wsX11_init) := ggL_law_X11_init
set_option maxRecDepth 20000 in
theorem ggL_law_X10_type : GoodIn wsL_law wsX10_type := goodIn_r _ [147, 16, 148, 149, 150, 15, 151, 54, 53, 152, 153, 154, 155, 156, 157, 158, 159, 1000, 1001, 1002, 1003, 1004, 1005, 1006, 1007, 1008, 1009, 1010, 1011, 1037, 1038] (by decide +kernel) (by decide +kernel)
set_option maxRecDepth 20000 in
theorem gL_law_X10_type : GoodIn wsL_law (wsV RL 15 RX10 yX10_type wsX10_type) := goodIn_app (goodIn_of _ (by decide +kernel)) ggL_law_X10_type
set_option maxRecDepth 20000 in
theorem ggL_law_X11_type : GoodIn wsL_law wsX11_type := goodIn_r _ [163, 164, 129, 165, 166, 167, 5, 168, 1012, 1013, 1014, 1015, 1016, 1017, 1018, 1019, 1020, 1021, 1022, 1023, 1024, 1025, 1026, 1027, 1028, 1029, 1030, 1031, 1032, 1033, 1034, 1035, 1036] (by decide +kernel) (by decide +kernel)
set_option maxRecDepth 20000 in
theorem gL_law_X11_type : GoodIn wsL_law (wsV RL 19 RX11 yX11_type wsX11_type) := goodIn_app (goodIn_of _ (by decide +kernel)) ggL_law_X11_type
set_option maxRecDepth 20000 in
theorem ggL_law_X10_clear : GoodIn wsL_law wsX10_clear := goodIn_r _ [172, 16, 173, 174, 175, 15, 176, 54, 1000, 1001, 1002, 1003, 1004, 1005, 1006, 1007, 1008, 1009, 1010, 1011, 1037, 1038] (by decide +kernel) (by decide +kernel)
set_option maxRecDepth 20000 in
theorem gL_law_X10_clear : GoodIn wsL_law (wsV RL 20 RX10 yX10_clear wsX10_clear) := goodIn_app (goodIn_of _ (by decide +kernel)) ggL_law_X10_clear
set_option maxRecDepth 20000 in
theorem ggL_law_X11_clear : GoodIn wsL_law wsX11_clear := goodIn_r _ [180, 164, 1012, 1013, 1014, 1015, 1016, 1017, 1018, 1019, 1020, 1021, 1022, 1023, 1024, 1025, 1026, 1027, 1028, 1029, 1030, 1031, 1032, 1033, 1034, 1035, 1036] (by decide +kernel) (by decide +kernel)
set_option maxRecDepth 20000 in
theorem gL_law_X11_clear : GoodIn wsL_law (wsV RL 24 RX11 yX11_clear wsX11_clear) := goodIn_app (goodIn_of _ (by decide +kernel)) ggL_law_X11_clear
set_option maxRecDepth 20000 in
theorem ggL_law_X10_tongue : GoodIn wsL_law wsX10_tongue := goodIn_r _ [184, 34, 20, 16, 24, 25, 26, 185, 186, 187, 33, 188, 82, 91, 81, 189, 190, 191, 90, 192, 97, 98, 99, 193, 194, 195, 196, 100, 197, 157, 158, 15, 159, 54, 198, 199, 200, 201, 53, 202, 203, 154, 204, 205, 206, 207, 208, 209, 210, 211, 212, 213, 214, 215, 216, 217, 218, 219, 220, 221, 222, 223, 224, 225, 226, 227, 228, 229, 230, 231, 232, 233, 234, 235, 236, 237, 238, 239, 240, 241, 242, 243, 244, 245, 246, 247, 248, 249, 250, 251, 252, 253, 254, 255, 256, 257, 258, 259, 260, 261, 262, 263, 264, 265, 266, 267, 268, 269, 270, 271, 272, 273, 274, 275, 276, 277, 278, 279, 280, 281, 282, 283, 284, 285, 286, 287, 153, 155, 288, 289, 290, 19, 291, 60, 61, 292, 293, 294, 295, 296, 297, 298, 299, 300, 301, 302, 303, 304, 58, 305, 306, 307, 308, 309, 310, 311, 312, 313, 59, 314, 315, 316, 317, 318, 319, 320, 321, 322, 173, 174, 175, 176, 323, 324, 325, 23, 326, 68, 69, 70, 327, 328, 329, 2, 330, 47, 42, 331, 332, 333, 41, 334, 116, 335, 336, 337, 338, 1000, 1001, 1002, 1003, 1004, 1005, 1006, 1007, 1008, 1009, 1010, 1011, 1051, 1052, 1053, 1054, 1055, 1056, 1057, 1058, 1059, 1071, 1072, 1073, 1074, 1037, 1038, 1039, 1040, 1041, 1042, 1043, 1044, 1045, 1046, 1047, 1048, 1065, 1066, 1067, 1068, 1069] (by decide +kernel) (by decide +kernel)
set_option maxRecDepth 20000 in
theorem gL_law_X10_tongue : GoodIn wsL_law (wsV RL 25 RX10 yX10_tongue wsX10_tongue) := goodIn_app (goodIn_of _ (by decide +kernel)) ggL_law_X10_tongue
set_option maxRecDepth 20000 in
theorem ggL_law_X11_tongue : GoodIn wsL_law wsX11_tongue := goodIn_r _ [342, 343, 344, 345, 346, 131, 347, 143, 130, 132, 135, 138, 164, 348, 349, 350, 5, 351, 352, 353, 354, 355, 356, 357, 129, 166, 167, 168, 358, 359, 360, 361, 362, 363, 364, 1012, 1013, 1014, 1015, 1016, 1017, 1018, 1019, 1020, 1021, 1022, 1023, 1024, 1025, 1026, 1027, 1028, 1029, 1030, 1031, 1032, 1033, 1034, 1035, 1036] (by decide +kernel) (by decide +kernel)
set_option maxRecDepth 20000 in
theorem gL_law_X11_tongue : GoodIn wsL_law (wsV RL 28 RX11 yX11_tongue wsX11_tongue) := goodIn_app (goodIn_of _ (by decide +kernel)) ggL_law_X11_tongue
set_option maxRecDepth 20000 in
theorem ggL_law_X10_say : GoodIn wsL_law wsX10_say := goodIn_r _ [368, 24, 34, 16, 369, 370, 371, 23, 372, 68, 373, 374, 375, 33, 376, 91, 85, 86, 87, 189, 190, 191, 90, 192, 97, 98, 99, 377, 378, 379, 380, 83, 84, 92, 287, 153, 154, 155, 381, 382, 383, 29, 384, 75, 385, 386, 387, 19, 388, 61, 193, 194, 195, 196, 100, 197, 157, 158, 15, 159, 54, 198, 199, 200, 201, 53, 202, 203, 204, 205, 206, 207, 208, 209, 210, 211, 212, 213, 214, 215, 216, 217, 218, 219, 220, 221, 222, 223, 224, 225, 389, 390, 391, 392, 393, 394, 395, 396, 397, 398, 399, 400, 401, 319, 320, 321, 60, 283, 284, 285, 286, 402, 403, 404, 405, 76, 406, 407, 408, 409, 69, 410, 315, 316, 317, 58, 318, 322, 411, 412, 413, 414, 415, 416, 417, 418, 67, 419, 420, 421, 422, 423, 59, 424, 425, 426, 427, 300, 428, 429, 430, 431, 432, 433, 434, 435, 279, 280, 281, 282, 436, 437, 438, 439, 440, 441, 442, 443, 444, 445, 446, 447, 65, 66, 448, 173, 174, 175, 176, 1000, 1001, 1002, 1003, 1004, 1005, 1006, 1007, 1008, 1009, 1010, 1011, 1043, 1044, 1045, 1046, 1047, 1048, 1051, 1052, 1053, 1054, 1055, 1056, 1057, 1058, 1059, 1071, 1072, 1073, 1074, 1049, 1050, 1039, 1040, 1041, 1042, 1037, 1038] (by decide +kernel) (by decide +kernel)
set_option maxRecDepth 20000 in
theorem gL_law_X10_say : GoodIn wsL_law (wsV RL 29 RX10 yX10_say wsX10_say) := goodIn_app (goodIn_of _ (by decide +kernel)) ggL_law_X10_say
set_option maxRecDepth 20000 in
theorem ggL_law_X11_say : GoodIn wsL_law wsX11_say := goodIn_r _ [452, 132, 343, 344, 453, 345, 454, 139, 140, 133, 134, 164, 455, 456, 457, 5, 458, 459, 460, 461, 462, 143, 348, 349, 350, 351, 352, 346, 353, 354, 355, 356, 357, 129, 166, 167, 168, 358, 359, 360, 463, 464, 465, 466, 347, 135, 130, 136, 361, 362, 363, 364, 467, 468, 469, 470, 471, 472, 473, 474, 475, 476, 477, 478, 1012, 1013, 1014, 1015, 1016, 1017, 1018, 1019, 1020, 1021, 1022, 1023, 1024, 1025, 1026, 1027, 1028, 1029, 1030, 1031, 1032, 1033, 1034, 1035, 1036] (by decide +kernel) (by decide +kernel)
set_option maxRecDepth 20000 in
theorem gL_law_X11_say : GoodIn wsL_law (wsV RL 32 RX11 yX11_say wsX11_say) := goodIn_app (goodIn_of _ (by decide +kernel)) ggL_law_X11_say
set_option maxRecDepth 20000 in
theorem ggL_law_X10_unsay : GoodIn wsL_law wsX10_unsay := goodIn_r _ [482, 24, 369, 370, 371, 23, 372, 68, 483, 484, 485, 486, 1000, 1001, 1002, 1003, 1004, 1005, 1006, 1007, 1008, 1009, 1010, 1011, 1043, 1044, 1045, 1046, 1047, 1048] (by decide +kernel) (by decide +kernel)
set_option maxRecDepth 20000 in
theorem gL_law_X10_unsay : GoodIn wsL_law (wsV RL 33 RX10 yX10_unsay wsX10_unsay) := goodIn_app (goodIn_of _ (by decide +kernel)) ggL_law_X10_unsay
set_option maxRecDepth 20000 in
theorem ggL_law_X11_unsay : GoodIn wsL_law wsX11_unsay := goodIn_r _ [490, 132, 1012, 1013, 1014, 1015, 1016, 1017, 1018, 1019, 1020, 1021, 1022, 1023, 1024, 1025, 1026, 1027, 1028, 1029, 1030, 1031, 1032, 1033, 1034, 1035, 1036] (by decide +kernel) (by decide +kernel)
set_option maxRecDepth 20000 in
theorem gL_law_X11_unsay : GoodIn wsL_law (wsV RL 36 RX11 yX11_unsay wsX11_unsay) := goodIn_app (goodIn_of _ (by decide +kernel)) ggL_law_X11_unsay
set_option maxRecDepth 20000 in
theorem ggL_law_X10_word : GoodIn wsL_law wsX10_word := goodIn_r _ [494, 20, 24, 495, 496, 497, 19, 498, 499, 386, 387, 388, 61, 500, 407, 408, 23, 409, 69, 501, 502, 503, 504, 67, 448, 153, 154, 155, 327, 328, 329, 2, 330, 47, 42, 331, 332, 333, 41, 334, 116, 1000, 1001, 1002, 1003, 1004, 1005, 1006, 1007, 1008, 1009, 1010, 1011, 1039, 1040, 1041, 1042, 1043, 1044, 1045, 1046, 1047, 1048, 1065, 1066, 1067, 1068, 1069] (by decide +kernel) (by decide +kernel)
set_option maxRecDepth 20000 in
theorem gL_law_X10_word : GoodIn wsL_law (wsV RL 37 RX10 yX10_word wsX10_word) := goodIn_app (goodIn_of _ (by decide +kernel)) ggL_law_X10_word
set_option maxRecDepth 20000 in
theorem ggL_law_X11_word : GoodIn wsL_law wsX11_word := goodIn_r _ [508, 135, 136, 509, 510, 511, 5, 512, 459, 460, 461, 462, 143, 166, 167, 168, 1012, 1013, 1014, 1015, 1016, 1017, 1018, 1019, 1020, 1021, 1022, 1023, 1024, 1025, 1026, 1027, 1028, 1029, 1030, 1031, 1032, 1033, 1034, 1035, 1036] (by decide +kernel) (by decide +kernel)
set_option maxRecDepth 20000 in
theorem gL_law_X11_word : GoodIn wsL_law (wsV RL 41 RX11 yX11_word wsX11_word) := goodIn_app (goodIn_of _ (by decide +kernel)) ggL_law_X11_word
set_option maxRecDepth 20000 in
theorem ggL_law_X10_unword : GoodIn wsL_law wsX10_unword := goodIn_r _ [516, 24, 500, 407, 408, 23, 409, 69, 517, 518, 519, 520, 327, 328, 329, 2, 330, 47, 42, 331, 332, 333, 41, 334, 116, 1000, 1001, 1002, 1003, 1004, 1005, 1006, 1007, 1008, 1009, 1010, 1011, 1043, 1044, 1045, 1046, 1047, 1048, 1065, 1066, 1067, 1068, 1069] (by decide +kernel) (by decide +kernel)
set_option maxRecDepth 20000 in
theorem gL_law_X10_unword : GoodIn wsL_law (wsV RL 42 RX10 yX10_unword wsX10_unword) := goodIn_app (goodIn_of _ (by decide +kernel)) ggL_law_X10_unword
set_option maxRecDepth 20000 in
theorem ggL_law_X11_unword : GoodIn wsL_law wsX11_unword := goodIn_r _ [524, 135, 1012, 1013, 1014, 1015, 1016, 1017, 1018, 1019, 1020, 1021, 1022, 1023, 1024, 1025, 1026, 1027, 1028, 1029, 1030, 1031, 1032, 1033, 1034, 1035, 1036] (by decide +kernel) (by decide +kernel)
set_option maxRecDepth 20000 in
theorem gL_law_X11_unword : GoodIn wsL_law (wsV RL 45 RX11 yX11_unword wsX11_unword) := goodIn_app (goodIn_of _ (by decide +kernel)) ggL_law_X11_unword
set_option maxRecDepth 20000 in
theorem ggL_law_X10_value : GoodIn wsL_law wsX10_value := goodIn_r _ [528, 20, 529, 530, 531, 19, 532, 61, 533, 319, 320, 321, 60, 534, 535, 536, 537, 538, 539, 540, 541, 314, 315, 316, 317, 58, 318, 322, 203, 154, 204, 542, 421, 422, 423, 59, 1000, 1001, 1002, 1003, 1004, 1005, 1006, 1007, 1008, 1009, 1010, 1011, 1039, 1040, 1041, 1042] (by decide +kernel) (by decide +kernel)
set_option maxRecDepth 20000 in
theorem gL_law_X10_value : GoodIn wsL_law (wsV RL 46 RX10 yX10_value wsX10_value) := goodIn_app (goodIn_of _ (by decide +kernel)) ggL_law_X10_value
set_option maxRecDepth 20000 in
theorem ggL_law_X11_value : GoodIn wsL_law wsX11_value := goodIn_r _ [546, 143, 347, 166, 167, 5, 168, 471, 472, 473, 474, 130, 1012, 1013, 1014, 1015, 1016, 1017, 1018, 1019, 1020, 1021, 1022, 1023, 1024, 1025, 1026, 1027, 1028, 1029, 1030, 1031, 1032, 1033, 1034, 1035, 1036] (by decide +kernel) (by decide +kernel)
set_option maxRecDepth 20000 in
theorem gL_law_X11_value : GoodIn wsL_law (wsV RL 50 RX11 yX11_value wsX11_value) := goodIn_app (goodIn_of _ (by decide +kernel)) ggL_law_X11_value
set_option maxRecDepth 20000 in
theorem ggL_law_X10_saying : GoodIn wsL_law wsX10_saying := goodIn_r _ [550, 24, 551, 552, 553, 23, 554, 68, 555, 556, 557, 558, 65, 419, 203, 154, 204, 559, 560, 561, 562, 66, 1000, 1001, 1002, 1003, 1004, 1005, 1006, 1007, 1008, 1009, 1010, 1011, 1043, 1044, 1045, 1046, 1047, 1048] (by decide +kernel) (by decide +kernel)
set_option maxRecDepth 20000 in
theorem gL_law_X10_saying : GoodIn wsL_law (wsV RL 51 RX10 yX10_saying wsX10_saying) := goodIn_app (goodIn_of _ (by decide +kernel)) ggL_law_X10_saying
set_option maxRecDepth 20000 in
theorem ggL_law_X11_saying : GoodIn wsL_law wsX11_saying := goodIn_r _ [566, 133, 134, 567, 568, 569, 5, 570, 132, 166, 167, 168, 1012, 1013, 1014, 1015, 1016, 1017, 1018, 1019, 1020, 1021, 1022, 1023, 1024, 1025, 1026, 1027, 1028, 1029, 1030, 1031, 1032, 1033, 1034, 1035, 1036] (by decide +kernel) (by decide +kernel)
set_option maxRecDepth 20000 in
theorem gL_law_X11_saying : GoodIn wsL_law (wsV RL 54 RX11 yX11_saying wsX11_saying) := goodIn_app (goodIn_of _ (by decide +kernel)) ggL_law_X11_saying
set_option maxRecDepth 20000 in
theorem ggL_law_X10_alike : GoodIn wsL_law wsX10_alike := goodIn_r _ [574, 24, 551, 552, 553, 23, 554, 68, 555, 556, 557, 558, 65, 419, 203, 154, 204, 1000, 1001, 1002, 1003, 1004, 1005, 1006, 1007, 1008, 1009, 1010, 1011, 1043, 1044, 1045, 1046, 1047, 1048] (by decide +kernel) (by decide +kernel)
set_option maxRecDepth 20000 in
theorem gL_law_X10_alike : GoodIn wsL_law (wsV RL 55 RX10 yX10_alike wsX10_alike) := goodIn_app (goodIn_of _ (by decide +kernel)) ggL_law_X10_alike
set_option maxRecDepth 20000 in
theorem ggL_law_X11_alike : GoodIn wsL_law wsX11_alike := goodIn_r _ [578, 133, 567, 568, 569, 5, 570, 132, 166, 167, 168, 1012, 1013, 1014, 1015, 1016, 1017, 1018, 1019, 1020, 1021, 1022, 1023, 1024, 1025, 1026, 1027, 1028, 1029, 1030, 1031, 1032, 1033, 1034, 1035, 1036] (by decide +kernel) (by decide +kernel)
set_option maxRecDepth 20000 in
theorem gL_law_X11_alike : GoodIn wsL_law (wsV RL 58 RX11 yX11_alike wsX11_alike) := goodIn_app (goodIn_of _ (by decide +kernel)) ggL_law_X11_alike
set_option maxRecDepth 20000 in
theorem ggL_law_X10_shortest : GoodIn wsL_law wsX10_shortest := goodIn_r _ [582, 20, 495, 496, 497, 19, 498, 499, 386, 387, 388, 61, 583, 584, 585, 2, 586, 47, 38, 587, 588, 589, 37, 590, 109, 105, 108, 107, 591, 382, 383, 29, 384, 75, 592, 593, 153, 154, 155, 594, 595, 596, 597, 598, 403, 404, 405, 76, 406, 407, 408, 23, 409, 69, 410, 315, 316, 317, 58, 318, 319, 320, 321, 60, 322, 203, 204, 599, 412, 413, 414, 415, 416, 417, 418, 67, 419, 420, 421, 422, 423, 59, 600, 601, 602, 603, 106, 604, 605, 606, 607, 608, 609, 610, 611, 612, 1000, 1001, 1002, 1003, 1004, 1005, 1006, 1007, 1008, 1009, 1010, 1011, 1039, 1040, 1041, 1042, 1060, 1061, 1062, 1063, 1064, 1049, 1050, 1043, 1044, 1045, 1046, 1047, 1048] (by decide +kernel) (by decide +kernel)
set_option maxRecDepth 20000 in
theorem gL_law_X10_shortest : GoodIn wsL_law (wsV RL 59 RX10 yX10_shortest wsX10_shortest) := goodIn_app (goodIn_of _ (by decide +kernel)) ggL_law_X10_shortest
set_option maxRecDepth 20000 in
theorem ggL_law_X11_shortest : GoodIn wsL_law wsX11_shortest := goodIn_r _ [616, 509, 510, 511, 5, 512, 459, 460, 461, 462, 143, 166, 167, 168, 617, 618, 619, 620, 141, 621, 347, 130, 135, 136, 142, 467, 468, 469, 470, 471, 472, 473, 474, 622, 623, 624, 625, 626, 627, 628, 629, 1012, 1013, 1014, 1015, 1016, 1017, 1018, 1019, 1020, 1021, 1022, 1023, 1024, 1025, 1026, 1027, 1028, 1029, 1030, 1031, 1032, 1033, 1034, 1035, 1036] (by decide +kernel) (by decide +kernel)
set_option maxRecDepth 20000 in
theorem gL_law_X11_shortest : GoodIn wsL_law (wsV RL 62 RX11 yX11_shortest wsX11_shortest) := goodIn_app (goodIn_of _ (by decide +kernel)) ggL_law_X11_shortest
set_option maxRecDepth 20000 in
theorem ggL_law_X10_made : GoodIn wsL_law wsX10_made := goodIn_r _ [633, 20, 30, 38, 495, 496, 497, 19, 498, 499, 386, 387, 388, 61, 634, 635, 636, 29, 637, 638, 403, 404, 405, 76, 75, 406, 407, 408, 23, 409, 69, 410, 315, 316, 317, 58, 318, 319, 320, 321, 60, 322, 203, 154, 204, 639, 412, 413, 414, 415, 416, 417, 418, 67, 419, 420, 421, 422, 423, 59, 583, 584, 585, 2, 586, 47, 587, 588, 589, 37, 590, 109, 105, 108, 107, 591, 382, 383, 384, 592, 593, 153, 155, 594, 595, 596, 597, 598, 599, 600, 601, 602, 603, 106, 604, 605, 606, 607, 608, 640, 641, 642, 643, 644, 610, 611, 612, 645, 646, 647, 648, 649, 650, 651, 652, 653, 654, 655, 656, 657, 658, 659, 660, 661, 1000, 1001, 1002, 1003, 1004, 1005, 1006, 1007, 1008, 1009, 1010, 1011, 1039, 1040, 1041, 1042, 1049, 1050, 1043, 1044, 1045, 1046, 1047, 1048, 1060, 1061, 1062, 1063, 1064] (by decide +kernel) (by decide +kernel)
set_option maxRecDepth 20000 in
theorem gL_law_X10_made : GoodIn wsL_law (wsV RL 63 RX10 yX10_made wsX10_made) := goodIn_app (goodIn_of _ (by decide +kernel)) ggL_law_X10_made
set_option maxRecDepth 20000 in
theorem ggL_law_X11_made : GoodIn wsL_law wsX11_made := goodIn_r _ [665, 141, 509, 510, 511, 5, 512, 459, 460, 461, 462, 143, 166, 167, 168, 617, 618, 619, 620, 621, 347, 130, 135, 136, 142, 467, 468, 469, 470, 471, 472, 473, 474, 622, 623, 624, 625, 666, 667, 668, 669, 1012, 1013, 1014, 1015, 1016, 1017, 1018, 1019, 1020, 1021, 1022, 1023, 1024, 1025, 1026, 1027, 1028, 1029, 1030, 1031, 1032, 1033, 1034, 1035, 1036] (by decide +kernel) (by decide +kernel)
set_option maxRecDepth 20000 in
theorem gL_law_X11_made : GoodIn wsL_law (wsV RL 66 RX11 yX11_made wsX11_made) := goodIn_app (goodIn_of _ (by decide +kernel)) ggL_law_X11_made
set_option maxRecDepth 20000 in
theorem ggL_law_X10_terms : GoodIn wsL_law wsX10_terms := goodIn_r _ [673, 20, 495, 496, 497, 19, 498, 499, 386, 387, 388, 61, 674, 675, 676, 677, 678, 60, 679, 680, 681, 682, 538, 539, 540, 541, 314, 315, 316, 317, 58, 318, 319, 320, 321, 322, 203, 154, 204, 542, 421, 422, 423, 59, 1000, 1001, 1002, 1003, 1004, 1005, 1006, 1007, 1008, 1009, 1010, 1011, 1039, 1040, 1041, 1042] (by decide +kernel) (by decide +kernel)
set_option maxRecDepth 20000 in
theorem gL_law_X10_terms : GoodIn wsL_law (wsV RL 67 RX10 yX10_terms wsX10_terms) := goodIn_app (goodIn_of _ (by decide +kernel)) ggL_law_X10_terms
set_option maxRecDepth 20000 in
theorem ggL_law_X11_terms : GoodIn wsL_law wsX11_terms := goodIn_r _ [686, 509, 510, 511, 5, 512, 459, 460, 461, 462, 143, 166, 167, 168, 687, 688, 689, 690, 347, 130, 691, 692, 693, 694, 467, 468, 469, 470, 471, 472, 473, 474, 695, 696, 697, 698, 1012, 1013, 1014, 1015, 1016, 1017, 1018, 1019, 1020, 1021, 1022, 1023, 1024, 1025, 1026, 1027, 1028, 1029, 1030, 1031, 1032, 1033, 1034, 1035, 1036] (by decide +kernel) (by decide +kernel)
set_option maxRecDepth 20000 in
theorem gL_law_X11_terms : GoodIn wsL_law (wsV RL 70 RX11 yX11_terms wsX11_terms) := goodIn_app (goodIn_of _ (by decide +kernel)) ggL_law_X11_terms
set_option maxRecDepth 20000 in
theorem ggL_law_X10_refusal : GoodIn wsL_law wsX10_refusal := goodIn_r _ [702, 20, 495, 496, 497, 19, 498, 499, 386, 387, 388, 61, 583, 584, 585, 2, 586, 47, 38, 587, 588, 589, 37, 590, 109, 105, 108, 107, 591, 382, 383, 29, 384, 75, 592, 593, 153, 154, 155, 594, 595, 596, 597, 598, 403, 404, 405, 76, 406, 407, 408, 23, 409, 69, 410, 315, 316, 317, 58, 318, 319, 320, 321, 60, 322, 203, 204, 599, 412, 413, 414, 415, 416, 417, 418, 67, 419, 420, 421, 422, 423, 59, 600, 601, 602, 603, 106, 604, 605, 606, 607, 608, 703, 704, 705, 706, 609, 610, 611, 612, 1000, 1001, 1002, 1003, 1004, 1005, 1006, 1007, 1008, 1009, 1010, 1011, 1039, 1040, 1041, 1042, 1060, 1061, 1062, 1063, 1064, 1049, 1050, 1043, 1044, 1045, 1046, 1047, 1048] (by decide +kernel) (by decide +kernel)
set_option maxRecDepth 20000 in
theorem gL_law_X10_refusal : GoodIn wsL_law (wsV RL 71 RX10 yX10_refusal wsX10_refusal) := goodIn_app (goodIn_of _ (by decide +kernel)) ggL_law_X10_refusal
set_option maxRecDepth 20000 in
theorem ggL_law_X11_refusal : GoodIn wsL_law wsX11_refusal := goodIn_r _ [710, 509, 510, 511, 5, 512, 459, 460, 461, 462, 143, 166, 167, 168, 617, 618, 619, 620, 141, 621, 347, 130, 135, 136, 142, 467, 468, 469, 470, 471, 472, 473, 474, 622, 623, 624, 625, 626, 627, 628, 629, 1012, 1013, 1014, 1015, 1016, 1017, 1018, 1019, 1020, 1021, 1022, 1023, 1024, 1025, 1026, 1027, 1028, 1029, 1030, 1031, 1032, 1033, 1034, 1035, 1036] (by decide +kernel) (by decide +kernel)
set_option maxRecDepth 20000 in
theorem gL_law_X11_refusal : GoodIn wsL_law (wsV RL 74 RX11 yX11_refusal wsX11_refusal) := goodIn_app (goodIn_of _ (by decide +kernel)) ggL_law_X11_refusal
set_option maxRecDepth 20000 in
theorem ggL_law_X10_worst : GoodIn wsL_law wsX10_worst := goodIn_r _ [714, 20, 42, 335, 336, 337, 19, 338, 60, 583, 584, 585, 2, 586, 47, 38, 587, 588, 589, 37, 590, 109, 105, 108, 107, 591, 382, 383, 29, 384, 75, 592, 386, 387, 388, 61, 593, 153, 154, 155, 594, 595, 596, 597, 598, 403, 404, 405, 76, 406, 407, 408, 23, 409, 69, 410, 315, 316, 317, 58, 318, 319, 320, 321, 322, 203, 204, 599, 412, 413, 414, 415, 416, 417, 418, 67, 419, 420, 421, 422, 423, 59, 600, 601, 602, 603, 106, 604, 605, 606, 607, 608, 715, 716, 717, 41, 718, 117, 719, 720, 721, 722, 723, 724, 725, 726, 727, 728, 729, 730, 731, 732, 733, 734, 704, 705, 706, 499, 735, 610, 611, 612, 736, 1000, 1001, 1002, 1003, 1004, 1005, 1006, 1007, 1008, 1009, 1010, 1011, 1039, 1040, 1041, 1042, 1060, 1061, 1062, 1063, 1064, 1049, 1050, 1043, 1044, 1045, 1046, 1047, 1048, 1065, 1066, 1067, 1068, 1069] (by decide +kernel) (by decide +kernel)
set_option maxRecDepth 20000 in
theorem gL_law_X10_worst : GoodIn wsL_law (wsV RL 75 RX10 yX10_worst wsX10_worst) := goodIn_app (goodIn_of _ (by decide +kernel)) ggL_law_X10_worst
set_option maxRecDepth 20000 in
theorem ggL_law_X11_worst : GoodIn wsL_law wsX11_worst := goodIn_r _ [740, 347, 130, 166, 167, 5, 168, 617, 618, 619, 620, 141, 621, 135, 136, 142, 467, 468, 469, 470, 143, 471, 472, 473, 474, 622, 623, 624, 625, 459, 460, 461, 462, 626, 627, 628, 629, 1012, 1013, 1014, 1015, 1016, 1017, 1018, 1019, 1020, 1021, 1022, 1023, 1024, 1025, 1026, 1027, 1028, 1029, 1030, 1031, 1032, 1033, 1034, 1035, 1036] (by decide +kernel) (by decide +kernel)
set_option maxRecDepth 20000 in
theorem gL_law_X11_worst : GoodIn wsL_law (wsV RL 78 RX11 yX11_worst wsX11_worst) := goodIn_app (goodIn_of _ (by decide +kernel)) ggL_law_X11_worst
set_option maxRecDepth 20000 in
theorem ggL_law_X10_saves : GoodIn wsL_law wsX10_saves := goodIn_r _ [744, 24, 20, 42, 500, 407, 408, 23, 409, 69, 335, 336, 337, 19, 338, 60, 745, 746, 747, 41, 748, 117, 116, 118, 115, 114, 719, 720, 721, 722, 723, 724, 315, 316, 317, 58, 318, 319, 320, 321, 322, 203, 154, 204, 729, 730, 731, 732, 733, 421, 422, 423, 59, 734, 704, 705, 706, 499, 386, 387, 388, 61, 749, 588, 589, 37, 590, 109, 105, 108, 107, 591, 382, 383, 29, 384, 75, 592, 593, 153, 155, 594, 595, 596, 597, 598, 403, 404, 405, 76, 406, 410, 599, 412, 413, 414, 415, 416, 417, 418, 67, 419, 420, 600, 601, 602, 603, 106, 604, 605, 606, 607, 608, 750, 751, 752, 753, 735, 610, 611, 612, 754, 755, 756, 757, 758, 759, 760, 761, 1000, 1001, 1002, 1003, 1004, 1005, 1006, 1007, 1008, 1009, 1010, 1011, 1043, 1044, 1045, 1046, 1047, 1048, 1039, 1040, 1041, 1042, 1065, 1066, 1067, 1068, 1069, 1060, 1061, 1062, 1063, 1064, 1049, 1050] (by decide +kernel) (by decide +kernel)
set_option maxRecDepth 20000 in
theorem gL_law_X10_saves : GoodIn wsL_law (wsV RL 79 RX10 yX10_saves wsX10_saves) := goodIn_app (goodIn_of _ (by decide +kernel)) ggL_law_X10_saves
set_option maxRecDepth 20000 in
theorem ggL_law_X11_saves : GoodIn wsL_law wsX11_saves := goodIn_r _ [765, 135, 347, 130, 166, 167, 5, 168, 459, 460, 461, 462, 143, 467, 468, 469, 470, 471, 472, 473, 474, 617, 618, 619, 620, 141, 621, 136, 142, 622, 623, 624, 625, 766, 767, 768, 769, 626, 627, 628, 629, 1012, 1013, 1014, 1015, 1016, 1017, 1018, 1019, 1020, 1021, 1022, 1023, 1024, 1025, 1026, 1027, 1028, 1029, 1030, 1031, 1032, 1033, 1034, 1035, 1036] (by decide +kernel) (by decide +kernel)
set_option maxRecDepth 20000 in
theorem gL_law_X11_saves : GoodIn wsL_law (wsV RL 82 RX11 yX11_saves wsX11_saves) := goodIn_app (goodIn_of _ (by decide +kernel)) ggL_law_X11_saves
set_option maxRecDepth 20000 in
theorem ggL_law_X10_contract : GoodIn wsL_law wsX10_contract := goodIn_r _ [773, 774, 775, 776, 2, 777, 20, 24, 674, 386, 387, 19, 388, 61, 369, 370, 371, 23, 372, 68, 555, 556, 557, 558, 65, 419, 203, 154, 204, 1000, 1001, 1002, 1003, 1004, 1005, 1006, 1007, 1008, 1009, 1010, 1011, 1039, 1040, 1041, 1042, 1043, 1044, 1045, 1046, 1047, 1048] (by decide +kernel) (by decide +kernel)
set_option maxRecDepth 20000 in
theorem gL_law_X10_contract : GoodIn wsL_law (wsV RL 83 RX10 yX10_contract wsX10_contract) := goodIn_app (goodIn_of _ (by decide +kernel)) ggL_law_X10_contract
set_option maxRecDepth 20000 in
theorem ggL_law_X11_contract : GoodIn wsL_law wsX11_contract := goodIn_r _ [781, 782, 783, 784, 5, 785, 132, 133, 459, 460, 461, 462, 143, 1012, 1013, 1014, 1015, 1016, 1017, 1018, 1019, 1020, 1021, 1022, 1023, 1024, 1025, 1026, 1027, 1028, 1029, 1030, 1031, 1032, 1033, 1034, 1035, 1036] (by decide +kernel) (by decide +kernel)
set_option maxRecDepth 20000 in
theorem gL_law_X11_contract : GoodIn wsL_law (wsV RL 86 RX11 yX11_contract wsX11_contract) := goodIn_app (goodIn_of _ (by decide +kernel)) ggL_law_X11_contract
set_option maxRecDepth 20000 in
theorem ggL_law_X10_gap : GoodIn wsL_law wsX10_gap := goodIn_r _ [789, 20, 495, 496, 497, 19, 498, 499, 386, 387, 388, 61, 790, 771, 772, 2, 773, 774, 775, 776, 777, 24, 674, 369, 370, 371, 23, 372, 68, 555, 556, 557, 558, 65, 419, 203, 154, 204, 703, 704, 705, 706, 1000, 1001, 1002, 1003, 1004, 1005, 1006, 1007, 1008, 1009, 1010, 1011, 1039, 1040, 1041, 1042, 1043, 1044, 1045, 1046, 1047, 1048] (by decide +kernel) (by decide +kernel)
set_option maxRecDepth 20000 in
theorem gL_law_X10_gap : GoodIn wsL_law (wsV RL 87 RX10 yX10_gap wsX10_gap) := goodIn_app (goodIn_of _ (by decide +kernel)) ggL_law_X10_gap
set_option maxRecDepth 20000 in
theorem ggL_law_X11_gap : GoodIn wsL_law wsX11_gap := goodIn_r _ [794, 509, 510, 511, 5, 512, 459, 460, 461, 462, 143, 166, 167, 168, 782, 783, 784, 785, 132, 133, 1012, 1013, 1014, 1015, 1016, 1017, 1018, 1019, 1020, 1021, 1022, 1023, 1024, 1025, 1026, 1027, 1028, 1029, 1030, 1031, 1032, 1033, 1034, 1035, 1036] (by decide +kernel) (by decide +kernel)
set_option maxRecDepth 20000 in
theorem gL_law_X11_gap : GoodIn wsL_law (wsV RL 90 RX11 yX11_gap wsX11_gap) := goodIn_app (goodIn_of _ (by decide +kernel)) ggL_law_X11_gap
set_option maxRecDepth 20000 in
theorem ggL_law_X10_clause : GoodIn wsL_law wsX10_clause := goodIn_r _ [798, 20, 495, 496, 497, 19, 498, 499, 386, 387, 388, 61, 790, 771, 772, 2, 773, 774, 775, 776, 777, 24, 674, 369, 370, 371, 23, 372, 68, 555, 556, 557, 558, 65, 419, 203, 154, 204, 799, 800, 801, 802, 583, 584, 585, 586, 47, 38, 587, 588, 589, 37, 590, 109, 105, 108, 107, 591, 382, 383, 29, 384, 75, 592, 593, 153, 155, 594, 595, 596, 597, 598, 403, 404, 405, 76, 406, 407, 408, 409, 69, 410, 315, 316, 317, 58, 318, 319, 320, 321, 60, 322, 599, 412, 413, 414, 415, 416, 417, 418, 67, 420, 421, 422, 423, 59, 600, 601, 602, 603, 106, 604, 605, 606, 607, 608, 609, 610, 611, 612, 1000, 1001, 1002, 1003, 1004, 1005, 1006, 1007, 1008, 1009, 1010, 1011, 1039, 1040, 1041, 1042, 1043, 1044, 1045, 1046, 1047, 1048, 1060, 1061, 1062, 1063, 1064, 1049, 1050] (by decide +kernel) (by decide +kernel)
set_option maxRecDepth 20000 in
theorem gL_law_X10_clause : GoodIn wsL_law (wsV RL 91 RX10 yX10_clause wsX10_clause) := goodIn_app (goodIn_of _ (by decide +kernel)) ggL_law_X10_clause
set_option maxRecDepth 20000 in
theorem ggL_law_X11_clause : GoodIn wsL_law wsX11_clause := goodIn_r _ [806, 141, 509, 510, 511, 5, 512, 459, 460, 461, 462, 143, 166, 167, 168, 617, 618, 619, 620, 621, 347, 130, 135, 136, 142, 467, 468, 469, 470, 471, 472, 473, 474, 622, 623, 624, 625, 782, 783, 784, 785, 132, 133, 1012, 1013, 1014, 1015, 1016, 1017, 1018, 1019, 1020, 1021, 1022, 1023, 1024, 1025, 1026, 1027, 1028, 1029, 1030, 1031, 1032, 1033, 1034, 1035, 1036] (by decide +kernel) (by decide +kernel)
set_option maxRecDepth 20000 in
theorem gL_law_X11_clause : GoodIn wsL_law (wsV RL 94 RX11 yX11_clause wsX11_clause) := goodIn_app (goodIn_of _ (by decide +kernel)) ggL_law_X11_clause
set_option maxRecDepth 20000 in
theorem ggL_law_X10_lost : GoodIn wsL_law wsX10_lost := goodIn_r _ [810, 24, 551, 552, 553, 23, 554, 68, 811, 812, 813, 2, 814, 774, 775, 776, 777, 20, 674, 386, 387, 19, 388, 61, 369, 370, 371, 372, 555, 556, 557, 558, 65, 419, 203, 154, 204, 815, 816, 817, 818, 819, 820, 821, 790, 771, 772, 773, 1000, 1001, 1002, 1003, 1004, 1005, 1006, 1007, 1008, 1009, 1010, 1011, 1043, 1044, 1045, 1046, 1047, 1048, 1039, 1040, 1041, 1042] (by decide +kernel) (by decide +kernel)
set_option maxRecDepth 20000 in
theorem gL_law_X10_lost : GoodIn wsL_law (wsV RL 95 RX10 yX10_lost wsX10_lost) := goodIn_app (goodIn_of _ (by decide +kernel)) ggL_law_X10_lost
set_option maxRecDepth 20000 in
theorem ggL_law_X11_lost : GoodIn wsL_law wsX11_lost := goodIn_r _ [825, 567, 568, 569, 5, 570, 132, 166, 167, 168, 826, 827, 828, 829, 782, 783, 784, 785, 133, 459, 460, 461, 462, 143, 830, 831, 832, 1012, 1013, 1014, 1015, 1016, 1017, 1018, 1019, 1020, 1021, 1022, 1023, 1024, 1025, 1026, 1027, 1028, 1029, 1030, 1031, 1032, 1033, 1034, 1035, 1036] (by decide +kernel) (by decide +kernel)
set_option maxRecDepth 20000 in
theorem gL_law_X11_lost : GoodIn wsL_law (wsV RL 98 RX11 yX11_lost wsX11_lost) := goodIn_app (goodIn_of _ (by decide +kernel)) ggL_law_X11_lost
set_option maxRecDepth 20000 in
theorem ggL_law_X10_common : GoodIn wsL_law wsX10_common := goodIn_r _ [836, 20, 46, 837, 838, 2, 839, 529, 530, 531, 19, 532, 61, 790, 771, 772, 773, 774, 775, 776, 777, 24, 674, 386, 387, 388, 369, 370, 371, 23, 372, 68, 555, 556, 557, 558, 65, 419, 203, 154, 204, 840, 841, 842, 45, 843, 123, 844, 845, 846, 847, 848, 849, 850, 851, 852, 853, 854, 60, 499, 538, 539, 540, 541, 314, 315, 316, 317, 58, 318, 319, 320, 321, 322, 542, 421, 422, 423, 59, 1000, 1001, 1002, 1003, 1004, 1005, 1006, 1007, 1008, 1009, 1010, 1011, 1039, 1040, 1041, 1042, 1043, 1044, 1045, 1046, 1047, 1048, 1070] (by decide +kernel) (by decide +kernel)
set_option maxRecDepth 20000 in
theorem gL_law_X10_common : GoodIn wsL_law (wsV RL 99 RX10 yX10_common wsX10_common) := goodIn_app (goodIn_of _ (by decide +kernel)) ggL_law_X10_common
set_option maxRecDepth 20000 in
theorem ggL_law_X11_common : GoodIn wsL_law wsX11_common := goodIn_r _ [858, 143, 859, 860, 861, 5, 862, 166, 167, 168, 782, 783, 784, 785, 132, 133, 459, 460, 461, 462, 863, 864, 865, 866, 347, 471, 472, 473, 474, 130, 1012, 1013, 1014, 1015, 1016, 1017, 1018, 1019, 1020, 1021, 1022, 1023, 1024, 1025, 1026, 1027, 1028, 1029, 1030, 1031, 1032, 1033, 1034, 1035, 1036] (by decide +kernel) (by decide +kernel)
set_option maxRecDepth 20000 in
theorem gL_law_X11_common : GoodIn wsL_law (wsV RL 103 RX11 yX11_common wsX11_common) := goodIn_app (goodIn_of _ (by decide +kernel)) ggL_law_X11_common
set_option maxRecDepth 20000 in
theorem ggL_law_X10_talk : GoodIn wsL_law wsX10_talk := goodIn_r _ [870, 20, 46, 837, 838, 2, 839, 529, 530, 531, 19, 532, 61, 790, 771, 772, 773, 774, 775, 776, 777, 24, 674, 386, 387, 388, 369, 370, 371, 23, 372, 68, 555, 556, 557, 558, 65, 419, 203, 154, 204, 871, 849, 850, 872, 873, 874, 45, 875, 123, 851, 852, 853, 854, 60, 499, 538, 539, 540, 541, 314, 315, 316, 317, 58, 318, 319, 320, 321, 322, 542, 421, 422, 423, 59, 876, 816, 817, 818, 819, 820, 821, 877, 878, 879, 880, 844, 845, 846, 847, 848, 881, 1000, 1001, 1002, 1003, 1004, 1005, 1006, 1007, 1008, 1009, 1010, 1011, 1039, 1040, 1041, 1042, 1043, 1044, 1045, 1046, 1047, 1048, 1070] (by decide +kernel) (by decide +kernel)
set_option maxRecDepth 20000 in
theorem gL_law_X10_talk : GoodIn wsL_law (wsV RL 104 RX10 yX10_talk wsX10_talk) := goodIn_app (goodIn_of _ (by decide +kernel)) ggL_law_X10_talk
set_option maxRecDepth 20000 in
theorem ggL_law_X11_talk : GoodIn wsL_law wsX11_talk := goodIn_r _ [885, 143, 859, 860, 861, 5, 862, 166, 167, 168, 782, 783, 784, 785, 132, 133, 459, 460, 461, 462, 886, 887, 888, 889, 863, 864, 865, 866, 347, 471, 472, 473, 474, 130, 890, 891, 892, 893, 1012, 1013, 1014, 1015, 1016, 1017, 1018, 1019, 1020, 1021, 1022, 1023, 1024, 1025, 1026, 1027, 1028, 1029, 1030, 1031, 1032, 1033, 1034, 1035, 1036] (by decide +kernel) (by decide +kernel)
set_option maxRecDepth 20000 in
theorem gL_law_X11_talk : GoodIn wsL_law (wsV RL 107 RX11 yX11_talk wsX11_talk) := goodIn_app (goodIn_of _ (by decide +kernel)) ggL_law_X11_talk
set_option maxRecDepth 20000 in
theorem ggL_law_X10_silence : GoodIn wsL_law wsX10_silence := goodIn_r _ [897, 46, 837, 838, 2, 839, 790, 771, 772, 773, 774, 775, 776, 777, 20, 24, 674, 386, 387, 19, 388, 61, 369, 370, 371, 23, 372, 68, 555, 556, 557, 558, 65, 419, 203, 154, 204, 877, 878, 879, 45, 880, 123, 844, 845, 846, 847, 848, 849, 850, 881, 873, 874, 875, 851, 852, 853, 854, 60, 499, 538, 539, 540, 541, 314, 315, 316, 317, 58, 318, 319, 320, 321, 322, 542, 421, 422, 423, 59, 876, 816, 817, 818, 819, 820, 821, 1000, 1001, 1002, 1003, 1004, 1005, 1006, 1007, 1008, 1009, 1010, 1011, 1039, 1040, 1041, 1042, 1043, 1044, 1045, 1046, 1047, 1048, 1070] (by decide +kernel) (by decide +kernel)
set_option maxRecDepth 20000 in
theorem gL_law_X10_silence : GoodIn wsL_law (wsV RL 108 RX10 yX10_silence wsX10_silence) := goodIn_app (goodIn_of _ (by decide +kernel)) ggL_law_X10_silence
set_option maxRecDepth 20000 in
theorem ggL_law_X11_silence : GoodIn wsL_law wsX11_silence := goodIn_r _ [901, 859, 860, 861, 5, 862, 166, 167, 168, 782, 783, 784, 785, 132, 133, 459, 460, 461, 462, 143, 890, 891, 892, 893, 886, 887, 888, 889, 863, 864, 865, 866, 347, 471, 472, 473, 474, 130, 1012, 1013, 1014, 1015, 1016, 1017, 1018, 1019, 1020, 1021, 1022, 1023, 1024, 1025, 1026, 1027, 1028, 1029, 1030, 1031, 1032, 1033, 1034, 1035, 1036] (by decide +kernel) (by decide +kernel)
set_option maxRecDepth 20000 in
theorem gL_law_X11_silence : GoodIn wsL_law (wsV RL 111 RX11 yX11_silence wsX11_silence) := goodIn_app (goodIn_of _ (by decide +kernel)) ggL_law_X11_silence
set_option maxRecDepth 20000 in
theorem ggL_law_X10_mark : GoodIn wsL_law wsX10_mark := goodIn_r _ [905, 24, 906, 551, 552, 553, 23, 554, 68, 907, 908, 909, 2, 910, 48, 559, 560, 561, 562, 66, 419, 203, 154, 204, 911, 912, 913, 914, 915, 555, 556, 557, 558, 65, 815, 816, 817, 818, 819, 820, 821, 916, 917, 918, 919, 920, 921, 922, 923, 924, 925, 811, 812, 813, 814, 774, 775, 776, 777, 20, 674, 386, 387, 19, 388, 61, 369, 370, 371, 372, 790, 771, 772, 773, 926, 927, 928, 929, 930, 931, 932, 933, 934, 935, 936, 937, 938, 939, 583, 584, 585, 586, 47, 38, 587, 588, 589, 37, 590, 109, 105, 108, 107, 591, 382, 383, 29, 384, 75, 592, 593, 153, 155, 594, 595, 596, 597, 598, 403, 404, 405, 76, 406, 407, 408, 409, 69, 410, 315, 316, 317, 58, 318, 319, 320, 321, 60, 322, 599, 412, 413, 414, 415, 416, 417, 418, 67, 420, 421, 422, 423, 59, 600, 601, 602, 603, 106, 604, 605, 606, 607, 608, 609, 610, 611, 612, 1000, 1001, 1002, 1003, 1004, 1005, 1006, 1007, 1008, 1009, 1010, 1011, 1043, 1044, 1045, 1046, 1047, 1048, 1039, 1040, 1041, 1042, 1060, 1061, 1062, 1063, 1064, 1049, 1050] (by decide +kernel) (by decide +kernel)
set_option maxRecDepth 20000 in
theorem gL_law_X10_mark : GoodIn wsL_law (wsV RL 112 RX10 yX10_mark wsX10_mark) := goodIn_app (goodIn_of _ (by decide +kernel)) ggL_law_X10_mark
set_option maxRecDepth 20000 in
theorem ggL_law_X11_mark : GoodIn wsL_law wsX11_mark := goodIn_r _ [943, 944, 945, 134, 946, 133, 947, 948, 949, 950, 141, 166, 167, 5, 168, 567, 568, 569, 570, 132, 830, 831, 832, 826, 827, 828, 829, 782, 783, 784, 785, 459, 460, 461, 462, 143, 617, 618, 619, 620, 621, 347, 130, 135, 136, 142, 467, 468, 469, 470, 471, 472, 473, 474, 622, 623, 624, 625, 1012, 1013, 1014, 1015, 1016, 1017, 1018, 1019, 1020, 1021, 1022, 1023, 1024, 1025, 1026, 1027, 1028, 1029, 1030, 1031, 1032, 1033, 1034, 1035, 1036] (by decide +kernel) (by decide +kernel)
set_option maxRecDepth 20000 in
theorem gL_law_X11_mark : GoodIn wsL_law (wsV RL 115 RX11 yX11_mark wsX11_mark) := goodIn_app (goodIn_of _ (by decide +kernel)) ggL_law_X11_mark
set_option maxRecDepth 20000 in
theorem ggL_law_X10_keep : GoodIn wsL_law wsX10_keep := goodIn_r _ [954, 24, 955, 956, 957, 2, 958, 25, 26, 959, 960, 961, 23, 962, 65, 66, 67, 68, 69, 70, 419, 203, 154, 204, 448, 153, 155, 369, 370, 371, 372, 1000, 1001, 1002, 1003, 1004, 1005, 1006, 1007, 1008, 1009, 1010, 1011, 1043, 1044, 1045, 1046, 1047, 1048] (by decide +kernel) (by decide +kernel)
set_option maxRecDepth 20000 in
theorem gL_law_X10_keep : GoodIn wsL_law (wsV RL 116 RX10 yX10_keep wsX10_keep) := goodIn_app (goodIn_of _ (by decide +kernel)) ggL_law_X10_keep
set_option maxRecDepth 20000 in
theorem ggL_law_X11_keep : GoodIn wsL_law wsX11_keep := goodIn_r _ [966, 138, 132, 166, 167, 5, 168, 967, 968, 969, 970, 135, 133, 134, 136, 1012, 1013, 1014, 1015, 1016, 1017, 1018, 1019, 1020, 1021, 1022, 1023, 1024, 1025, 1026, 1027, 1028, 1029, 1030, 1031, 1032, 1033, 1034, 1035, 1036] (by decide +kernel) (by decide +kernel)
set_option maxRecDepth 20000 in
theorem gL_law_X11_keep : GoodIn wsL_law (wsV RL 119 RX11 yX11_keep wsX11_keep) := goodIn_app (goodIn_of _ (by decide +kernel)) ggL_law_X11_keep
set_option maxRecDepth 20000 in
theorem ggL_law_X10_back : GoodIn wsL_law wsX10_back := goodIn_r _ [974, 24, 955, 956, 957, 2, 958, 25, 26, 975, 976, 977, 23, 978, 70, 959, 960, 961, 962, 65, 66, 67, 68, 69, 419, 203, 154, 204, 448, 153, 155, 327, 328, 329, 330, 47, 42, 331, 332, 333, 41, 334, 116, 369, 370, 371, 372, 1000, 1001, 1002, 1003, 1004, 1005, 1006, 1007, 1008, 1009, 1010, 1011, 1043, 1044, 1045, 1046, 1047, 1048, 1065, 1066, 1067, 1068, 1069] (by decide +kernel) (by decide +kernel)
set_option maxRecDepth 20000 in
theorem gL_law_X10_back : GoodIn wsL_law (wsV RL 120 RX10 yX10_back wsX10_back) := goodIn_app (goodIn_of _ (by decide +kernel)) ggL_law_X10_back
set_option maxRecDepth 20000 in
theorem ggL_law_X11_back : GoodIn wsL_law wsX11_back := goodIn_r _ [982, 138, 132, 166, 167, 5, 168, 967, 968, 969, 970, 135, 133, 134, 136, 1012, 1013, 1014, 1015, 1016, 1017, 1018, 1019, 1020, 1021, 1022, 1023, 1024, 1025, 1026, 1027, 1028, 1029, 1030, 1031, 1032, 1033, 1034, 1035, 1036] (by decide +kernel) (by decide +kernel)
set_option maxRecDepth 20000 in
theorem gL_law_X11_back : GoodIn wsL_law (wsV RL 123 RX11 yX11_back wsX11_back) := goodIn_app (goodIn_of _ (by decide +kernel)) ggL_law_X11_back
set_option maxRecDepth 20000 in
theorem ggL_law_X10_count : GoodIn wsL_law wsX10_count := goodIn_r _ [986, 20, 24, 16, 335, 336, 337, 19, 338, 60, 987, 845, 846, 847, 61, 369, 370, 371, 23, 372, 68, 500, 407, 408, 409, 69, 156, 157, 158, 15, 159, 54, 1000, 1001, 1002, 1003, 1004, 1005, 1006, 1007, 1008, 1009, 1010, 1011, 1039, 1040, 1041, 1042, 1043, 1044, 1045, 1046, 1047, 1048, 1037, 1038] (by decide +kernel) (by decide +kernel)
set_option maxRecDepth 20000 in
theorem gL_law_X10_count : GoodIn wsL_law (wsV RL 124 RX10 yX10_count wsX10_count) := goodIn_app (goodIn_of _ (by decide +kernel)) ggL_law_X10_count
set_option maxRecDepth 20000 in
theorem ggL_law_X11_count : GoodIn wsL_law wsX11_count := goodIn_r _ [991, 347, 143, 132, 135, 164, 1012, 1013, 1014, 1015, 1016, 1017, 1018, 1019, 1020, 1021, 1022, 1023, 1024, 1025, 1026, 1027, 1028, 1029, 1030, 1031, 1032, 1033, 1034, 1035, 1036] (by decide +kernel) (by decide +kernel)
set_option maxRecDepth 20000 in
theorem gL_law_X11_count : GoodIn wsL_law (wsV RL 127 RX11 yX11_count wsX11_count) := goodIn_app (goodIn_of _ (by decide +kernel)) ggL_law_X11_count
set_option maxRecDepth 20000 in
theorem ggL_law_X10_trace : GoodIn wsL_law wsX10_trace := goodIn_r _ [995, 48, 1000, 1001, 1002, 1003, 1004, 1005, 1006, 1007, 1008, 1009, 1010, 1011] (by decide +kernel) (by decide +kernel)
set_option maxRecDepth 20000 in
theorem gL_law_X10_trace : GoodIn wsL_law (wsV RL 128 RX10 yX10_trace wsX10_trace) := goodIn_app (goodIn_of _ (by decide +kernel)) ggL_law_X10_trace
set_option maxRecDepth 20000 in
theorem ggL_law_X11_trace : GoodIn wsL_law wsX11_trace := goodIn_r _ [999, 945, 1012, 1013, 1014, 1015, 1016, 1017, 1018, 1019, 1020, 1021, 1022, 1023, 1024, 1025, 1026, 1027, 1028, 1029, 1030, 1031, 1032, 1033, 1034, 1035, 1036] (by decide +kernel) (by decide +kernel)
set_option maxRecDepth 20000 in
theorem gL_law_X11_trace : GoodIn wsL_law (wsV RL 132 RX11 yX11_trace wsX11_trace) := goodIn_app (goodIn_of _ (by decide +kernel)) ggL_law_X11_trace
