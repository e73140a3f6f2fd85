theorem dX0_init_0 : decode cX0_init 0 = .ok (.aload_n 0, 1) := by decide +kernel
theorem dX0_init_1 : decode cX0_init 1 = .ok (.invokespecial 1, 3) := by decide +kernel
theorem dX0_init_4 : decode cX0_init 4 = .ok (.aload_n 0, 1) := by decide +kernel
theorem dX0_init_5 : decode cX0_init 5 = .ok (.bipush 8, 2) := by decide +kernel
theorem dX0_init_7 : decode cX0_init 7 = .ok (.newarray .int, 2) := by decide +kernel
theorem dX0_init_9 : decode cX0_init 9 = .ok (.putfield 9, 3) := by decide +kernel
theorem dX0_init_12 : decode cX0_init 12 = .ok (.aload_n 0, 1) := by decide +kernel
theorem dX0_init_13 : decode cX0_init 13 = .ok (.bipush 8, 2) := by decide +kernel
theorem dX0_init_15 : decode cX0_init 15 = .ok (.newarray .int, 2) := by decide +kernel
theorem dX0_init_17 : decode cX0_init 17 = .ok (.putfield 13, 3) := by decide +kernel
theorem dX0_init_20 : decode cX0_init 20 = .ok (.aload_n 0, 1) := by decide +kernel
theorem dX0_init_21 : decode cX0_init 21 = .ok (.iconst 3, 1) := by decide +kernel
theorem dX0_init_22 : decode cX0_init 22 = .ok (.newarray .int, 2) := by decide +kernel
theorem dX0_init_24 : decode cX0_init 24 = .ok (.putfield 16, 3) := by decide +kernel
theorem dX0_init_27 : decode cX0_init 27 = .ok (.aload_n 0, 1) := by decide +kernel
theorem dX0_init_28 : decode cX0_init 28 = .ok (.iconst 0, 1) := by decide +kernel
theorem dX0_init_29 : decode cX0_init 29 = .ok (.putfield 19, 3) := by decide +kernel
theorem dX0_init_32 : decode cX0_init 32 = .ok (.aload_n 0, 1) := by decide +kernel
theorem dX0_init_33 : decode cX0_init 33 = .ok (.iconst 0, 1) := by decide +kernel
theorem dX0_init_34 : decode cX0_init 34 = .ok (.putfield 23, 3) := by decide +kernel
theorem dX0_init_37 : decode cX0_init 37 = .ok (.aload_n 0, 1) := by decide +kernel
theorem dX0_init_38 : decode cX0_init 38 = .ok (.iconst 0, 1) := by decide +kernel
theorem dX0_init_39 : decode cX0_init 39 = .ok (.putfield 26, 3) := by decide +kernel
theorem dX0_init_42 : decode cX0_init 42 = .ok (.return_, 1) := by decide +kernel
theorem dX0_forget_0 : decode cX0_forget 0 = .ok (.aload_n 0, 1) := by decide +kernel
theorem dX0_forget_1 : decode cX0_forget 1 = .ok (.iconst 0, 1) := by decide +kernel
theorem dX0_forget_2 : decode cX0_forget 2 = .ok (.putfield 19, 3) := by decide +kernel
theorem dX0_forget_5 : decode cX0_forget 5 = .ok (.aload_n 0, 1) := by decide +kernel
theorem dX0_forget_6 : decode cX0_forget 6 = .ok (.iconst 0, 1) := by decide +kernel
theorem dX0_forget_7 : decode cX0_forget 7 = .ok (.putfield 23, 3) := by decide +kernel
theorem dX0_forget_10 : decode cX0_forget 10 = .ok (.aload_n 0, 1) := by decide +kernel
theorem dX0_forget_11 : decode cX0_forget 11 = .ok (.iconst 0, 1) := by decide +kernel
theorem dX0_forget_12 : decode cX0_forget 12 = .ok (.putfield 26, 3) := by decide +kernel
theorem dX0_forget_15 : decode cX0_forget 15 = .ok (.return_, 1) := by decide +kernel
set_option maxRecDepth 20000 in
theorem ggX0_copy_X4_at : GoodIn wsX0_copy wsX4_at := goodIn_r _ [10] (by decide +kernel) (by decide +kernel)
set_option maxRecDepth 20000 in
theorem gX0_copy_X4_at : GoodIn wsX0_copy (va_wsS RX0 30 yX4_at wsX4_at) := goodIn_app (goodIn_of _ (by decide +kernel)) ggX0_copy_X4_at
set_option maxRecDepth 20000 in
theorem ggX0_copy_X4_put : GoodIn wsX0_copy wsX4_put := goodIn_r _ [13] (by decide +kernel) (by decide +kernel)
set_option maxRecDepth 20000 in
theorem gX0_copy_X4_put : GoodIn wsX0_copy (va_wsS RX0 36 yX4_put wsX4_put) := goodIn_app (goodIn_of _ (by decide +kernel)) ggX0_copy_X4_put
theorem dX0_copy_0 : decode cX0_copy 0 = .ok (.iconst 0, 1) := by decide +kernel
theorem dX0_copy_1 : decode cX0_copy 1 = .ok (.istore_n 2, 1) := by decide +kernel
theorem dX0_copy_2 : decode cX0_copy 2 = .ok (.iload_n 2, 1) := by decide +kernel
theorem dX0_copy_3 : decode cX0_copy 3 = .ok (.bipush 8, 2) := by decide +kernel
theorem dX0_copy_5 : decode cX0_copy 5 = .ok (.if_icmp .ge 41, 3) := by decide +kernel
theorem dX0_copy_8 : decode cX0_copy 8 = .ok (.aload_n 0, 1) := by decide +kernel
theorem dX0_copy_9 : decode cX0_copy 9 = .ok (.getfield 9, 3) := by decide +kernel
theorem dX0_copy_12 : decode cX0_copy 12 = .ok (.iload_n 2, 1) := by decide +kernel
theorem dX0_copy_13 : decode cX0_copy 13 = .ok (.aload_n 1, 1) := by decide +kernel
theorem dX0_copy_14 : decode cX0_copy 14 = .ok (.getfield 9, 3) := by decide +kernel
theorem dX0_copy_17 : decode cX0_copy 17 = .ok (.iload_n 2, 1) := by decide +kernel
theorem dX0_copy_18 : decode cX0_copy 18 = .ok (.invokestatic 30, 3) := by decide +kernel
theorem dX0_copy_21 : decode cX0_copy 21 = .ok (.invokestatic 36, 3) := by decide +kernel
theorem dX0_copy_24 : decode cX0_copy 24 = .ok (.aload_n 0, 1) := by decide +kernel
theorem dX0_copy_25 : decode cX0_copy 25 = .ok (.getfield 13, 3) := by decide +kernel
theorem dX0_copy_28 : decode cX0_copy 28 = .ok (.iload_n 2, 1) := by decide +kernel
theorem dX0_copy_29 : decode cX0_copy 29 = .ok (.aload_n 1, 1) := by decide +kernel
theorem dX0_copy_30 : decode cX0_copy 30 = .ok (.getfield 13, 3) := by decide +kernel
theorem dX0_copy_33 : decode cX0_copy 33 = .ok (.iload_n 2, 1) := by decide +kernel
theorem dX0_copy_34 : decode cX0_copy 34 = .ok (.invokestatic 30, 3) := by decide +kernel
theorem dX0_copy_37 : decode cX0_copy 37 = .ok (.invokestatic 36, 3) := by decide +kernel
theorem dX0_copy_40 : decode cX0_copy 40 = .ok (.iinc 2 1, 3) := by decide +kernel
theorem dX0_copy_43 : decode cX0_copy 43 = .ok (.goto (-41), 3) := by decide +kernel
theorem dX0_copy_46 : decode cX0_copy 46 = .ok (.iconst 0, 1) := by decide +kernel
theorem dX0_copy_47 : decode cX0_copy 47 = .ok (.istore_n 2, 1) := by decide +kernel
theorem dX0_copy_48 : decode cX0_copy 48 = .ok (.iload_n 2, 1) := by decide +kernel
theorem dX0_copy_49 : decode cX0_copy 49 = .ok (.iconst 3, 1) := by decide +kernel
theorem dX0_copy_50 : decode cX0_copy 50 = .ok (.if_icmp .ge 25, 3) := by decide +kernel
theorem dX0_copy_53 : decode cX0_copy 53 = .ok (.aload_n 0, 1) := by decide +kernel
theorem dX0_copy_54 : decode cX0_copy 54 = .ok (.getfield 16, 3) := by decide +kernel
theorem dX0_copy_57 : decode cX0_copy 57 = .ok (.iload_n 2, 1) := by decide +kernel
theorem dX0_copy_58 : decode cX0_copy 58 = .ok (.aload_n 1, 1) := by decide +kernel
theorem dX0_copy_59 : decode cX0_copy 59 = .ok (.getfield 16, 3) := by decide +kernel
theorem dX0_copy_62 : decode cX0_copy 62 = .ok (.iload_n 2, 1) := by decide +kernel
theorem dX0_copy_63 : decode cX0_copy 63 = .ok (.invokestatic 30, 3) := by decide +kernel
theorem dX0_copy_66 : decode cX0_copy 66 = .ok (.invokestatic 36, 3) := by decide +kernel
theorem dX0_copy_69 : decode cX0_copy 69 = .ok (.iinc 2 1, 3) := by decide +kernel
theorem dX0_copy_72 : decode cX0_copy 72 = .ok (.goto (-24), 3) := by decide +kernel
theorem dX0_copy_75 : decode cX0_copy 75 = .ok (.aload_n 0, 1) := by decide +kernel
theorem dX0_copy_76 : decode cX0_copy 76 = .ok (.aload_n 1, 1) := by decide +kernel
theorem dX0_copy_77 : decode cX0_copy 77 = .ok (.getfield 19, 3) := by decide +kernel
theorem dX0_copy_80 : decode cX0_copy 80 = .ok (.putfield 19, 3) := by decide +kernel
theorem dX0_copy_83 : decode cX0_copy 83 = .ok (.aload_n 0, 1) := by decide +kernel
theorem dX0_copy_84 : decode cX0_copy 84 = .ok (.aload_n 1, 1) := by decide +kernel
theorem dX0_copy_85 : decode cX0_copy 85 = .ok (.getfield 23, 3) := by decide +kernel
theorem dX0_copy_88 : decode cX0_copy 88 = .ok (.putfield 23, 3) := by decide +kernel
theorem dX0_copy_91 : decode cX0_copy 91 = .ok (.aload_n 0, 1) := by decide +kernel
theorem dX0_copy_92 : decode cX0_copy 92 = .ok (.iconst 1, 1) := by decide +kernel
theorem dX0_copy_93 : decode cX0_copy 93 = .ok (.putfield 26, 3) := by decide +kernel
theorem dX0_copy_96 : decode cX0_copy 96 = .ok (.return_, 1) := by decide +kernel
theorem dX0_isFilled_0 : decode cX0_isFilled 0 = .ok (.aload_n 0, 1) := by decide +kernel
theorem dX0_isFilled_1 : decode cX0_isFilled 1 = .ok (.getfield 26, 3) := by decide +kernel
theorem dX0_isFilled_4 : decode cX0_isFilled 4 = .ok (.ireturn, 1) := by decide +kernel
theorem dX0_sayings_0 : decode cX0_sayings 0 = .ok (.aload_n 0, 1) := by decide +kernel
theorem dX0_sayings_1 : decode cX0_sayings 1 = .ok (.getfield 19, 3) := by decide +kernel
theorem dX0_sayings_4 : decode cX0_sayings 4 = .ok (.ireturn, 1) := by decide +kernel
theorem dX0_isSaying_0 : decode cX0_isSaying 0 = .ok (.iload_n 1, 1) := by decide +kernel
theorem dX0_isSaying_1 : decode cX0_isSaying 1 = .ok (.ifCond .lt 15, 3) := by decide +kernel
theorem dX0_isSaying_4 : decode cX0_isSaying 4 = .ok (.iload_n 1, 1) := by decide +kernel
theorem dX0_isSaying_5 : decode cX0_isSaying 5 = .ok (.aload_n 0, 1) := by decide +kernel
theorem dX0_isSaying_6 : decode cX0_isSaying 6 = .ok (.getfield 19, 3) := by decide +kernel
theorem dX0_isSaying_9 : decode cX0_isSaying 9 = .ok (.if_icmp .ge 7, 3) := by decide +kernel
theorem dX0_isSaying_12 : decode cX0_isSaying 12 = .ok (.iconst 1, 1) := by decide +kernel
theorem dX0_isSaying_13 : decode cX0_isSaying 13 = .ok (.goto 4, 3) := by decide +kernel
theorem dX0_isSaying_16 : decode cX0_isSaying 16 = .ok (.iconst 0, 1) := by decide +kernel
theorem dX0_isSaying_17 : decode cX0_isSaying 17 = .ok (.ireturn, 1) := by decide +kernel
set_option maxRecDepth 20000 in
theorem ggX0_addSaying_X4_put : GoodIn wsX0_addSaying wsX4_put := goodIn_r _ [7] (by decide +kernel) (by decide +kernel)
set_option maxRecDepth 20000 in
theorem gX0_addSaying_X4_put : GoodIn wsX0_addSaying (va_wsS RX0 36 yX4_put wsX4_put) := goodIn_app (goodIn_of _ (by decide +kernel)) ggX0_addSaying_X4_put
theorem dX0_addSaying_0 : decode cX0_addSaying 0 = .ok (.aload_n 0, 1) := by decide +kernel
theorem dX0_addSaying_1 : decode cX0_addSaying 1 = .ok (.getfield 9, 3) := by decide +kernel
theorem dX0_addSaying_4 : decode cX0_addSaying 4 = .ok (.aload_n 0, 1) := by decide +kernel
theorem dX0_addSaying_5 : decode cX0_addSaying 5 = .ok (.getfield 19, 3) := by decide +kernel
theorem dX0_addSaying_8 : decode cX0_addSaying 8 = .ok (.iload_n 1, 1) := by decide +kernel
theorem dX0_addSaying_9 : decode cX0_addSaying 9 = .ok (.invokestatic 36, 3) := by decide +kernel
theorem dX0_addSaying_12 : decode cX0_addSaying 12 = .ok (.aload_n 0, 1) := by decide +kernel
theorem dX0_addSaying_13 : decode cX0_addSaying 13 = .ok (.getfield 13, 3) := by decide +kernel
theorem dX0_addSaying_16 : decode cX0_addSaying 16 = .ok (.aload_n 0, 1) := by decide +kernel
theorem dX0_addSaying_17 : decode cX0_addSaying 17 = .ok (.getfield 19, 3) := by decide +kernel
theorem dX0_addSaying_20 : decode cX0_addSaying 20 = .ok (.iload_n 2, 1) := by decide +kernel
theorem dX0_addSaying_21 : decode cX0_addSaying 21 = .ok (.invokestatic 36, 3) := by decide +kernel
theorem dX0_addSaying_24 : decode cX0_addSaying 24 = .ok (.aload_n 0, 1) := by decide +kernel
theorem dX0_addSaying_25 : decode cX0_addSaying 25 = .ok (.dup, 1) := by decide +kernel
theorem dX0_addSaying_26 : decode cX0_addSaying 26 = .ok (.getfield 19, 3) := by decide +kernel
theorem dX0_addSaying_29 : decode cX0_addSaying 29 = .ok (.iconst 1, 1) := by decide +kernel
theorem dX0_addSaying_30 : decode cX0_addSaying 30 = .ok (.iadd, 1) := by decide +kernel
theorem dX0_addSaying_31 : decode cX0_addSaying 31 = .ok (.putfield 19, 3) := by decide +kernel
theorem dX0_addSaying_34 : decode cX0_addSaying 34 = .ok (.return_, 1) := by decide +kernel
theorem dX0_dropSaying_0 : decode cX0_dropSaying 0 = .ok (.aload_n 0, 1) := by decide +kernel
theorem dX0_dropSaying_1 : decode cX0_dropSaying 1 = .ok (.dup, 1) := by decide +kernel
theorem dX0_dropSaying_2 : decode cX0_dropSaying 2 = .ok (.getfield 19, 3) := by decide +kernel
theorem dX0_dropSaying_5 : decode cX0_dropSaying 5 = .ok (.iconst 1, 1) := by decide +kernel
theorem dX0_dropSaying_6 : decode cX0_dropSaying 6 = .ok (.isub, 1) := by decide +kernel
theorem dX0_dropSaying_7 : decode cX0_dropSaying 7 = .ok (.putfield 19, 3) := by decide +kernel
theorem dX0_dropSaying_10 : decode cX0_dropSaying 10 = .ok (.return_, 1) := by decide +kernel
set_option maxRecDepth 20000 in
theorem ggX0_leftBy_X4_at : GoodIn wsX0_leftBy wsX4_at := goodIn_r _ [5] (by decide +kernel) (by decide +kernel)
set_option maxRecDepth 20000 in
theorem gX0_leftBy_X4_at : GoodIn wsX0_leftBy (va_wsS RX0 30 yX4_at wsX4_at) := goodIn_app (goodIn_of _ (by decide +kernel)) ggX0_leftBy_X4_at
theorem dX0_leftBy_0 : decode cX0_leftBy 0 = .ok (.aload_n 0, 1) := by decide +kernel
theorem dX0_leftBy_1 : decode cX0_leftBy 1 = .ok (.getfield 9, 3) := by decide +kernel
theorem dX0_leftBy_4 : decode cX0_leftBy 4 = .ok (.iload_n 1, 1) := by decide +kernel
theorem dX0_leftBy_5 : decode cX0_leftBy 5 = .ok (.invokestatic 30, 3) := by decide +kernel
theorem dX0_leftBy_8 : decode cX0_leftBy 8 = .ok (.ireturn, 1) := by decide +kernel
set_option maxRecDepth 20000 in
theorem ggX0_signsOf_X4_at : GoodIn wsX0_signsOf wsX4_at := goodIn_r _ [5] (by decide +kernel) (by decide +kernel)
set_option maxRecDepth 20000 in
theorem gX0_signsOf_X4_at : GoodIn wsX0_signsOf (va_wsS RX0 30 yX4_at wsX4_at) := goodIn_app (goodIn_of _ (by decide +kernel)) ggX0_signsOf_X4_at
theorem dX0_signsOf_0 : decode cX0_signsOf 0 = .ok (.aload_n 0, 1) := by decide +kernel
theorem dX0_signsOf_1 : decode cX0_signsOf 1 = .ok (.getfield 13, 3) := by decide +kernel
theorem dX0_signsOf_4 : decode cX0_signsOf 4 = .ok (.iload_n 1, 1) := by decide +kernel
theorem dX0_signsOf_5 : decode cX0_signsOf 5 = .ok (.invokestatic 30, 3) := by decide +kernel
theorem dX0_signsOf_8 : decode cX0_signsOf 8 = .ok (.ireturn, 1) := by decide +kernel
theorem dX0_words_0 : decode cX0_words 0 = .ok (.aload_n 0, 1) := by decide +kernel
theorem dX0_words_1 : decode cX0_words 1 = .ok (.getfield 23, 3) := by decide +kernel
theorem dX0_words_4 : decode cX0_words 4 = .ok (.ireturn, 1) := by decide +kernel
set_option maxRecDepth 20000 in
theorem ggX0_addWord_X4_put : GoodIn wsX0_addWord wsX4_put := goodIn_r _ [6] (by decide +kernel) (by decide +kernel)
set_option maxRecDepth 20000 in
theorem gX0_addWord_X4_put : GoodIn wsX0_addWord (va_wsS RX0 36 yX4_put wsX4_put) := goodIn_app (goodIn_of _ (by decide +kernel)) ggX0_addWord_X4_put
theorem dX0_addWord_0 : decode cX0_addWord 0 = .ok (.aload_n 0, 1) := by decide +kernel
theorem dX0_addWord_1 : decode cX0_addWord 1 = .ok (.getfield 16, 3) := by decide +kernel
theorem dX0_addWord_4 : decode cX0_addWord 4 = .ok (.aload_n 0, 1) := by decide +kernel
theorem dX0_addWord_5 : decode cX0_addWord 5 = .ok (.getfield 23, 3) := by decide +kernel
theorem dX0_addWord_8 : decode cX0_addWord 8 = .ok (.iload_n 1, 1) := by decide +kernel
theorem dX0_addWord_9 : decode cX0_addWord 9 = .ok (.invokestatic 36, 3) := by decide +kernel
theorem dX0_addWord_12 : decode cX0_addWord 12 = .ok (.aload_n 0, 1) := by decide +kernel
theorem dX0_addWord_13 : decode cX0_addWord 13 = .ok (.dup, 1) := by decide +kernel
theorem dX0_addWord_14 : decode cX0_addWord 14 = .ok (.getfield 23, 3) := by decide +kernel
theorem dX0_addWord_17 : decode cX0_addWord 17 = .ok (.iconst 1, 1) := by decide +kernel
theorem dX0_addWord_18 : decode cX0_addWord 18 = .ok (.iadd, 1) := by decide +kernel
theorem dX0_addWord_19 : decode cX0_addWord 19 = .ok (.putfield 23, 3) := by decide +kernel
theorem dX0_addWord_22 : decode cX0_addWord 22 = .ok (.return_, 1) := by decide +kernel
theorem dX0_dropWords_0 : decode cX0_dropWords 0 = .ok (.aload_n 0, 1) := by decide +kernel
theorem dX0_dropWords_1 : decode cX0_dropWords 1 = .ok (.iconst 0, 1) := by decide +kernel
theorem dX0_dropWords_2 : decode cX0_dropWords 2 = .ok (.putfield 23, 3) := by decide +kernel
theorem dX0_dropWords_5 : decode cX0_dropWords 5 = .ok (.return_, 1) := by decide +kernel
set_option maxRecDepth 20000 in
theorem ggX0_wordSet_X4_at : GoodIn wsX0_wordSet wsX4_at := goodIn_r _ [5] (by decide +kernel) (by decide +kernel)
set_option maxRecDepth 20000 in
theorem gX0_wordSet_X4_at : GoodIn wsX0_wordSet (va_wsS RX0 30 yX4_at wsX4_at) := goodIn_app (goodIn_of _ (by decide +kernel)) ggX0_wordSet_X4_at
theorem dX0_wordSet_0 : decode cX0_wordSet 0 = .ok (.aload_n 0, 1) := by decide +kernel
theorem dX0_wordSet_1 : decode cX0_wordSet 1 = .ok (.getfield 16, 3) := by decide +kernel
theorem dX0_wordSet_4 : decode cX0_wordSet 4 = .ok (.iload_n 1, 1) := by decide +kernel
theorem dX0_wordSet_5 : decode cX0_wordSet 5 = .ok (.invokestatic 30, 3) := by decide +kernel
theorem dX0_wordSet_8 : decode cX0_wordSet 8 = .ok (.ireturn, 1) := by decide +kernel
theorem dX1_init_0 : decode cX1_init 0 = .ok (.aload_n 0, 1) := by decide +kernel
theorem dX1_init_1 : decode cX1_init 1 = .ok (.invokespecial 5, 3) := by decide +kernel
theorem dX1_init_4 : decode cX1_init 4 = .ok (.aload_n 0, 1) := by decide +kernel
theorem dX1_init_5 : decode cX1_init 5 = .ok (.sipush 512, 3) := by decide +kernel
theorem dX1_init_8 : decode cX1_init 8 = .ok (.newarray .int, 2) := by decide +kernel
theorem dX1_init_10 : decode cX1_init 10 = .ok (.putfield 13, 3) := by decide +kernel
theorem dX1_init_13 : decode cX1_init 13 = .ok (.aload_n 0, 1) := by decide +kernel
theorem dX1_init_14 : decode cX1_init 14 = .ok (.sipush 512, 3) := by decide +kernel
theorem dX1_init_17 : decode cX1_init 17 = .ok (.newarray .int, 2) := by decide +kernel
theorem dX1_init_19 : decode cX1_init 19 = .ok (.putfield 17, 3) := by decide +kernel
theorem dX1_init_22 : decode cX1_init 22 = .ok (.aload_n 0, 1) := by decide +kernel
theorem dX1_init_23 : decode cX1_init 23 = .ok (.bipush 34, 2) := by decide +kernel
theorem dX1_init_25 : decode cX1_init 25 = .ok (.newarray .int, 2) := by decide +kernel
theorem dX1_init_27 : decode cX1_init 27 = .ok (.putfield 20, 3) := by decide +kernel
theorem dX1_init_30 : decode cX1_init 30 = .ok (.aload_n 0, 1) := by decide +kernel
theorem dX1_init_31 : decode cX1_init 31 = .ok (.iconst 0, 1) := by decide +kernel
theorem dX1_init_32 : decode cX1_init 32 = .ok (.putfield 23, 3) := by decide +kernel
theorem dX1_init_35 : decode cX1_init 35 = .ok (.aload_n 0, 1) := by decide +kernel
theorem dX1_init_36 : decode cX1_init 36 = .ok (.aload_n 1, 1) := by decide +kernel
theorem dX1_init_37 : decode cX1_init 37 = .ok (.putfield 27, 3) := by decide +kernel
theorem dX1_init_40 : decode cX1_init 40 = .ok (.return_, 1) := by decide +kernel
set_option maxRecDepth 20000 in
theorem ggX1_of_X4_at : GoodIn wsX1_of wsX4_at := goodIn_r _ [5] (by decide +kernel) (by decide +kernel)
set_option maxRecDepth 20000 in
theorem gX1_of_X4_at : GoodIn wsX1_of (va_wsS RX1 31 yX4_at wsX4_at) := goodIn_app (goodIn_of _ (by decide +kernel)) ggX1_of_X4_at
theorem dX1_of_0 : decode cX1_of 0 = .ok (.aload_n 0, 1) := by decide +kernel
theorem dX1_of_1 : decode cX1_of 1 = .ok (.getfield 13, 3) := by decide +kernel
theorem dX1_of_4 : decode cX1_of 4 = .ok (.iload_n 1, 1) := by decide +kernel
theorem dX1_of_5 : decode cX1_of 5 = .ok (.invokestatic 31, 3) := by decide +kernel
theorem dX1_of_8 : decode cX1_of 8 = .ok (.istore_n 2, 1) := by decide +kernel
theorem dX1_of_9 : decode cX1_of 9 = .ok (.iload_n 2, 1) := by decide +kernel
theorem dX1_of_10 : decode cX1_of 10 = .ok (.ifCond .le 7, 3) := by decide +kernel
theorem dX1_of_13 : decode cX1_of 13 = .ok (.iload_n 2, 1) := by decide +kernel
theorem dX1_of_14 : decode cX1_of 14 = .ok (.goto 5, 3) := by decide +kernel
theorem dX1_of_17 : decode cX1_of 17 = .ok (.bipush (-9), 2) := by decide +kernel
theorem dX1_of_19 : decode cX1_of 19 = .ok (.ireturn, 1) := by decide +kernel
set_option maxRecDepth 20000 in
theorem ggX1_measure_X5_speech : GoodIn wsX1_measure wsX5_speech := goodIn_r _ [9, 10, 80, 81] (by decide +kernel) (by decide +kernel)
set_option maxRecDepth 20000 in
theorem gX1_measure_X5_speech : GoodIn wsX1_measure (wsV RX1 37 RX5 yX5_speech wsX5_speech) := goodIn_app (goodIn_of _ (by decide +kernel)) ggX1_measure_X5_speech
set_option maxRecDepth 20000 in
theorem ggX1_measure_X8_all : GoodIn wsX1_measure wsX8_all := goodIn_r _ [15, 16, 82, 83, 84, 85] (by decide +kernel) (by decide +kernel)
set_option maxRecDepth 20000 in
theorem gX1_measure_X8_all : GoodIn wsX1_measure (wsV RX1 43 RX8 yX8_all wsX8_all) := goodIn_app (goodIn_of _ (by decide +kernel)) ggX1_measure_X8_all
set_option maxRecDepth 20000 in
theorem ggX1_measure_X4_put : GoodIn wsX1_measure wsX4_put := goodIn_r _ [20] (by decide +kernel) (by decide +kernel)
set_option maxRecDepth 20000 in
theorem gX1_measure_X4_put : GoodIn wsX1_measure (va_wsS RX1 47 yX4_put wsX4_put) := goodIn_app (goodIn_of _ (by decide +kernel)) ggX1_measure_X4_put
set_option maxRecDepth 20000 in
theorem ggX1_measure_X1_noteSigns : GoodIn wsX1_measure wsX1_noteSigns := goodIn_r _ [25, 1, 26, 27, 28, 8, 29, 30, 10, 31, 32, 33, 34, 35, 36, 37, 38, 39, 14, 40, 41, 42, 43, 44, 45, 46, 47, 48, 19, 49, 50, 51, 52, 53, 54, 55, 56, 57, 58, 59, 60, 61, 62, 63, 64, 65, 66, 67, 24, 68, 2, 69, 3, 70, 17, 18, 20, 75, 76, 77, 78, 79, 80, 81, 86, 87, 88, 89, 90, 91, 82, 83, 84, 85] (by decide +kernel) (by decide +kernel)
set_option maxRecDepth 20000 in
theorem gX1_measure_X1_noteSigns : GoodIn wsX1_measure (wsV RX1 51 RX1 yX1_noteSigns wsX1_noteSigns) := goodIn_app (goodIn_of _ (by decide +kernel)) ggX1_measure_X1_noteSigns
set_option maxRecDepth 20000 in
theorem ggX1_measure_X1_join : GoodIn wsX1_measure wsX1_join := goodIn_r _ [74, 4, 69, 70, 48, 19, 49, 65, 66, 67, 24, 68, 2, 3, 17, 18, 20, 75, 76, 77, 78, 79] (by decide +kernel) (by decide +kernel)
set_option maxRecDepth 20000 in
theorem gX1_measure_X1_join : GoodIn wsX1_measure (wsV RX1 55 RX1 yX1_join wsX1_join) := goodIn_app (goodIn_of _ (by decide +kernel)) ggX1_measure_X1_join
theorem dX1_measure_0 : decode cX1_measure 0 = .ok (.aload_n 0, 1) := by decide +kernel
theorem dX1_measure_1 : decode cX1_measure 1 = .ok (.getfield 27, 3) := by decide +kernel
theorem dX1_measure_4 : decode cX1_measure 4 = .ok (.invokevirtual 37, 3) := by decide +kernel
theorem dX1_measure_7 : decode cX1_measure 7 = .ok (.invokevirtual 43, 3) := by decide +kernel
theorem dX1_measure_10 : decode cX1_measure 10 = .ok (.istore_n 2, 1) := by decide +kernel
theorem dX1_measure_11 : decode cX1_measure 11 = .ok (.iconst 0, 1) := by decide +kernel
theorem dX1_measure_12 : decode cX1_measure 12 = .ok (.istore_n 3, 1) := by decide +kernel
theorem dX1_measure_13 : decode cX1_measure 13 = .ok (.iload_n 3, 1) := by decide +kernel
theorem dX1_measure_14 : decode cX1_measure 14 = .ok (.iload_n 2, 1) := by decide +kernel
theorem dX1_measure_15 : decode cX1_measure 15 = .ok (.if_icmp .gt 18, 3) := by decide +kernel
theorem dX1_measure_18 : decode cX1_measure 18 = .ok (.aload_n 0, 1) := by decide +kernel
theorem dX1_measure_19 : decode cX1_measure 19 = .ok (.getfield 13, 3) := by decide +kernel
theorem dX1_measure_22 : decode cX1_measure 22 = .ok (.iload_n 3, 1) := by decide +kernel
theorem dX1_measure_23 : decode cX1_measure 23 = .ok (.iconst 0, 1) := by decide +kernel
theorem dX1_measure_24 : decode cX1_measure 24 = .ok (.invokestatic 47, 3) := by decide +kernel
theorem dX1_measure_27 : decode cX1_measure 27 = .ok (.iinc 3 1, 3) := by decide +kernel
theorem dX1_measure_30 : decode cX1_measure 30 = .ok (.goto (-17), 3) := by decide +kernel
theorem dX1_measure_33 : decode cX1_measure 33 = .ok (.aload_n 0, 1) := by decide +kernel
theorem dX1_measure_34 : decode cX1_measure 34 = .ok (.iconst 0, 1) := by decide +kernel
theorem dX1_measure_35 : decode cX1_measure 35 = .ok (.putfield 23, 3) := by decide +kernel
theorem dX1_measure_38 : decode cX1_measure 38 = .ok (.aload_n 0, 1) := by decide +kernel
theorem dX1_measure_39 : decode cX1_measure 39 = .ok (.iload_n 1, 1) := by decide +kernel
theorem dX1_measure_40 : decode cX1_measure 40 = .ok (.invokevirtual 51, 3) := by decide +kernel
theorem dX1_measure_43 : decode cX1_measure 43 = .ok (.aload_n 0, 1) := by decide +kernel
theorem dX1_measure_44 : decode cX1_measure 44 = .ok (.getfield 20, 3) := by decide +kernel
theorem dX1_measure_47 : decode cX1_measure 47 = .ok (.iconst 1, 1) := by decide +kernel
theorem dX1_measure_48 : decode cX1_measure 48 = .ok (.iconst 0, 1) := by decide +kernel
theorem dX1_measure_49 : decode cX1_measure 49 = .ok (.invokestatic 47, 3) := by decide +kernel
theorem dX1_measure_52 : decode cX1_measure 52 = .ok (.aload_n 0, 1) := by decide +kernel
theorem dX1_measure_53 : decode cX1_measure 53 = .ok (.getfield 20, 3) := by decide +kernel
theorem dX1_measure_56 : decode cX1_measure 56 = .ok (.iconst 2, 1) := by decide +kernel
theorem dX1_measure_57 : decode cX1_measure 57 = .ok (.aload_n 0, 1) := by decide +kernel
theorem dX1_measure_58 : decode cX1_measure 58 = .ok (.getfield 23, 3) := by decide +kernel
theorem dX1_measure_61 : decode cX1_measure 61 = .ok (.invokestatic 47, 3) := by decide +kernel
theorem dX1_measure_64 : decode cX1_measure 64 = .ok (.iconst 2, 1) := by decide +kernel
theorem dX1_measure_65 : decode cX1_measure 65 = .ok (.istore_n 3, 1) := by decide +kernel
theorem dX1_measure_66 : decode cX1_measure 66 = .ok (.iload_n 3, 1) := by decide +kernel
theorem dX1_measure_67 : decode cX1_measure 67 = .ok (.bipush 32, 2) := by decide +kernel
theorem dX1_measure_69 : decode cX1_measure 69 = .ok (.if_icmp .gt 59, 3) := by decide +kernel
theorem dX1_measure_72 : decode cX1_measure 72 = .ok (.aload_n 0, 1) := by decide +kernel
theorem dX1_measure_73 : decode cX1_measure 73 = .ok (.getfield 23, 3) := by decide +kernel
theorem dX1_measure_76 : decode cX1_measure 76 = .ok (.iload_n 2, 1) := by decide +kernel
theorem dX1_measure_77 : decode cX1_measure 77 = .ok (.if_icmp .gt 51, 3) := by decide +kernel
theorem dX1_measure_80 : decode cX1_measure 80 = .ok (.iconst 1, 1) := by decide +kernel
theorem dX1_measure_81 : decode cX1_measure 81 = .ok (.istore 4, 2) := by decide +kernel
theorem dX1_measure_83 : decode cX1_measure 83 = .ok (.iload 4, 2) := by decide +kernel
theorem dX1_measure_85 : decode cX1_measure 85 = .ok (.iload_n 3, 1) := by decide +kernel
theorem dX1_measure_86 : decode cX1_measure 86 = .ok (.iload 4, 2) := by decide +kernel
theorem dX1_measure_88 : decode cX1_measure 88 = .ok (.isub, 1) := by decide +kernel
theorem dX1_measure_89 : decode cX1_measure 89 = .ok (.if_icmp .gt 19, 3) := by decide +kernel
theorem dX1_measure_92 : decode cX1_measure 92 = .ok (.aload_n 0, 1) := by decide +kernel
theorem dX1_measure_93 : decode cX1_measure 93 = .ok (.iload 4, 2) := by decide +kernel
theorem dX1_measure_95 : decode cX1_measure 95 = .ok (.iload_n 3, 1) := by decide +kernel
theorem dX1_measure_96 : decode cX1_measure 96 = .ok (.iload 4, 2) := by decide +kernel
theorem dX1_measure_98 : decode cX1_measure 98 = .ok (.isub, 1) := by decide +kernel
theorem dX1_measure_99 : decode cX1_measure 99 = .ok (.invokevirtual 55, 3) := by decide +kernel
theorem dX1_measure_102 : decode cX1_measure 102 = .ok (.iinc 4 1, 3) := by decide +kernel
theorem dX1_measure_105 : decode cX1_measure 105 = .ok (.goto (-22), 3) := by decide +kernel
theorem dX1_measure_108 : decode cX1_measure 108 = .ok (.aload_n 0, 1) := by decide +kernel
theorem dX1_measure_109 : decode cX1_measure 109 = .ok (.getfield 20, 3) := by decide +kernel
theorem dX1_measure_112 : decode cX1_measure 112 = .ok (.iload_n 3, 1) := by decide +kernel
theorem dX1_measure_113 : decode cX1_measure 113 = .ok (.iconst 1, 1) := by decide +kernel
theorem dX1_measure_114 : decode cX1_measure 114 = .ok (.iadd, 1) := by decide +kernel
theorem dX1_measure_115 : decode cX1_measure 115 = .ok (.aload_n 0, 1) := by decide +kernel
theorem dX1_measure_116 : decode cX1_measure 116 = .ok (.getfield 23, 3) := by decide +kernel
theorem dX1_measure_119 : decode cX1_measure 119 = .ok (.invokestatic 47, 3) := by decide +kernel
theorem dX1_measure_122 : decode cX1_measure 122 = .ok (.iinc 3 1, 3) := by decide +kernel
theorem dX1_measure_125 : decode cX1_measure 125 = .ok (.goto (-59), 3) := by decide +kernel
theorem dX1_measure_128 : decode cX1_measure 128 = .ok (.return_, 1) := by decide +kernel
set_option maxRecDepth 20000 in
theorem ggX1_firstPair_X1_of : GoodIn wsX1_firstPair wsX1_of := goodIn_r _ [6, 7, 8, 9, 10, 11, 32, 33, 34, 35, 36] (by decide +kernel) (by decide +kernel)
set_option maxRecDepth 20000 in
theorem gX1_firstPair_X1_of : GoodIn wsX1_firstPair (wsV RX1 59 RX1 yX1_of wsX1_of) := goodIn_app (goodIn_of _ (by decide +kernel)) ggX1_firstPair_X1_of
set_option maxRecDepth 20000 in
theorem ggX1_firstPair_X5_speech : GoodIn wsX1_firstPair wsX5_speech := goodIn_r _ [16, 17, 37, 38] (by decide +kernel) (by decide +kernel)
set_option maxRecDepth 20000 in
theorem gX1_firstPair_X5_speech : GoodIn wsX1_firstPair (wsV RX1 37 RX5 yX5_speech wsX5_speech) := goodIn_app (goodIn_of _ (by decide +kernel)) ggX1_firstPair_X5_speech
set_option maxRecDepth 20000 in
theorem ggX1_firstPair_X8_all : GoodIn wsX1_firstPair wsX8_all := goodIn_r _ [22, 23, 39, 40, 41, 42] (by decide +kernel) (by decide +kernel)
set_option maxRecDepth 20000 in
theorem gX1_firstPair_X8_all : GoodIn wsX1_firstPair (wsV RX1 43 RX8 yX8_all wsX8_all) := goodIn_app (goodIn_of _ (by decide +kernel)) ggX1_firstPair_X8_all
set_option maxRecDepth 20000 in
theorem ggX1_firstPair_X1_canStep : GoodIn wsX1_firstPair wsX1_canStep := goodIn_r _ [27, 2, 3, 4, 5, 6, 7, 8, 9, 10, 11, 32, 33, 34, 35, 36] (by decide +kernel) (by decide +kernel)
set_option maxRecDepth 20000 in
theorem gX1_firstPair_X1_canStep : GoodIn wsX1_firstPair (wsV RX1 63 RX1 yX1_canStep wsX1_canStep) := goodIn_app (goodIn_of _ (by decide +kernel)) ggX1_firstPair_X1_canStep
set_option maxRecDepth 20000 in
theorem ggX1_firstPair_X1_firstPartner : GoodIn wsX1_firstPair wsX1_firstPartner := goodIn_r _ [31, 1, 12, 13, 14, 15, 16, 17, 18, 19, 20, 21, 22, 23, 2, 3, 4, 5, 6, 7, 8, 9, 10, 11, 32, 33, 34, 35, 36, 37, 38, 39, 40, 41, 42] (by decide +kernel) (by decide +kernel)
set_option maxRecDepth 20000 in
theorem gX1_firstPair_X1_firstPartner : GoodIn wsX1_firstPair (wsV RX1 67 RX1 yX1_firstPartner wsX1_firstPartner) := goodIn_app (goodIn_of _ (by decide +kernel)) ggX1_firstPair_X1_firstPartner
theorem dX1_firstPair_0 : decode cX1_firstPair 0 = .ok (.aload_n 0, 1) := by decide +kernel
theorem dX1_firstPair_1 : decode cX1_firstPair 1 = .ok (.iload_n 1, 1) := by decide +kernel
theorem dX1_firstPair_2 : decode cX1_firstPair 2 = .ok (.invokevirtual 59, 3) := by decide +kernel
theorem dX1_firstPair_5 : decode cX1_firstPair 5 = .ok (.istore_n 3, 1) := by decide +kernel
theorem dX1_firstPair_6 : decode cX1_firstPair 6 = .ok (.aload_n 0, 1) := by decide +kernel
theorem dX1_firstPair_7 : decode cX1_firstPair 7 = .ok (.getfield 27, 3) := by decide +kernel
theorem dX1_firstPair_10 : decode cX1_firstPair 10 = .ok (.invokevirtual 37, 3) := by decide +kernel
theorem dX1_firstPair_13 : decode cX1_firstPair 13 = .ok (.invokevirtual 43, 3) := by decide +kernel
theorem dX1_firstPair_16 : decode cX1_firstPair 16 = .ok (.istore 4, 2) := by decide +kernel
theorem dX1_firstPair_18 : decode cX1_firstPair 18 = .ok (.iconst 0, 1) := by decide +kernel
theorem dX1_firstPair_19 : decode cX1_firstPair 19 = .ok (.istore 5, 2) := by decide +kernel
theorem dX1_firstPair_21 : decode cX1_firstPair 21 = .ok (.iload 5, 2) := by decide +kernel
theorem dX1_firstPair_23 : decode cX1_firstPair 23 = .ok (.iload 4, 2) := by decide +kernel
theorem dX1_firstPair_25 : decode cX1_firstPair 25 = .ok (.if_icmp .gt 68, 3) := by decide +kernel
theorem dX1_firstPair_28 : decode cX1_firstPair 28 = .ok (.aload_n 0, 1) := by decide +kernel
theorem dX1_firstPair_29 : decode cX1_firstPair 29 = .ok (.iload 5, 2) := by decide +kernel
theorem dX1_firstPair_31 : decode cX1_firstPair 31 = .ok (.iload_n 1, 1) := by decide +kernel
theorem dX1_firstPair_32 : decode cX1_firstPair 32 = .ok (.iload_n 2, 1) := by decide +kernel
theorem dX1_firstPair_33 : decode cX1_firstPair 33 = .ok (.invokevirtual 63, 3) := by decide +kernel
theorem dX1_firstPair_36 : decode cX1_firstPair 36 = .ok (.ifCond .eq 14, 3) := by decide +kernel
theorem dX1_firstPair_39 : decode cX1_firstPair 39 = .ok (.iload_n 3, 1) := by decide +kernel
theorem dX1_firstPair_40 : decode cX1_firstPair 40 = .ok (.aload_n 0, 1) := by decide +kernel
theorem dX1_firstPair_41 : decode cX1_firstPair 41 = .ok (.iload 5, 2) := by decide +kernel
theorem dX1_firstPair_43 : decode cX1_firstPair 43 = .ok (.invokevirtual 59, 3) := by decide +kernel
theorem dX1_firstPair_46 : decode cX1_firstPair 46 = .ok (.isub, 1) := by decide +kernel
theorem dX1_firstPair_47 : decode cX1_firstPair 47 = .ok (.goto 4, 3) := by decide +kernel
theorem dX1_firstPair_50 : decode cX1_firstPair 50 = .ok (.iconst 0, 1) := by decide +kernel
theorem dX1_firstPair_51 : decode cX1_firstPair 51 = .ok (.istore 6, 2) := by decide +kernel
theorem dX1_firstPair_53 : decode cX1_firstPair 53 = .ok (.iload 6, 2) := by decide +kernel
theorem dX1_firstPair_55 : decode cX1_firstPair 55 = .ok (.ifCond .le 32, 3) := by decide +kernel
theorem dX1_firstPair_58 : decode cX1_firstPair 58 = .ok (.aload_n 0, 1) := by decide +kernel
theorem dX1_firstPair_59 : decode cX1_firstPair 59 = .ok (.iload 5, 2) := by decide +kernel
theorem dX1_firstPair_61 : decode cX1_firstPair 61 = .ok (.iload 6, 2) := by decide +kernel
theorem dX1_firstPair_63 : decode cX1_firstPair 63 = .ok (.iload_n 1, 1) := by decide +kernel
theorem dX1_firstPair_64 : decode cX1_firstPair 64 = .ok (.iload_n 2, 1) := by decide +kernel
theorem dX1_firstPair_65 : decode cX1_firstPair 65 = .ok (.invokevirtual 67, 3) := by decide +kernel
theorem dX1_firstPair_68 : decode cX1_firstPair 68 = .ok (.istore 7, 2) := by decide +kernel
theorem dX1_firstPair_70 : decode cX1_firstPair 70 = .ok (.iload 7, 2) := by decide +kernel
theorem dX1_firstPair_72 : decode cX1_firstPair 72 = .ok (.bipush (-9), 2) := by decide +kernel
theorem dX1_firstPair_74 : decode cX1_firstPair 74 = .ok (.if_icmp .eq 13, 3) := by decide +kernel
theorem dX1_firstPair_77 : decode cX1_firstPair 77 = .ok (.iload 5, 2) := by decide +kernel
theorem dX1_firstPair_79 : decode cX1_firstPair 79 = .ok (.sipush 512, 3) := by decide +kernel
theorem dX1_firstPair_82 : decode cX1_firstPair 82 = .ok (.imul, 1) := by decide +kernel
theorem dX1_firstPair_83 : decode cX1_firstPair 83 = .ok (.iload 7, 2) := by decide +kernel
theorem dX1_firstPair_85 : decode cX1_firstPair 85 = .ok (.iadd, 1) := by decide +kernel
theorem dX1_firstPair_86 : decode cX1_firstPair 86 = .ok (.ireturn, 1) := by decide +kernel
theorem dX1_firstPair_87 : decode cX1_firstPair 87 = .ok (.iinc 5 1, 3) := by decide +kernel
theorem dX1_firstPair_90 : decode cX1_firstPair 90 = .ok (.goto (-69), 3) := by decide +kernel
theorem dX1_firstPair_93 : decode cX1_firstPair 93 = .ok (.bipush (-9), 2) := by decide +kernel
theorem dX1_firstPair_95 : decode cX1_firstPair 95 = .ok (.ireturn, 1) := by decide +kernel
theorem dX1_firstOf_0 : decode cX1_firstOf 0 = .ok (.iload_n 0, 1) := by decide +kernel
theorem dX1_firstOf_1 : decode cX1_firstOf 1 = .ok (.sipush 512, 3) := by decide +kernel
theorem dX1_firstOf_4 : decode cX1_firstOf 4 = .ok (.idiv, 1) := by decide +kernel
theorem dX1_firstOf_5 : decode cX1_firstOf 5 = .ok (.ireturn, 1) := by decide +kernel
theorem dX1_secondOf_0 : decode cX1_secondOf 0 = .ok (.iload_n 0, 1) := by decide +kernel
theorem dX1_secondOf_1 : decode cX1_secondOf 1 = .ok (.sipush 512, 3) := by decide +kernel
theorem dX1_secondOf_4 : decode cX1_secondOf 4 = .ok (.irem, 1) := by decide +kernel
theorem dX1_secondOf_5 : decode cX1_secondOf 5 = .ok (.ireturn, 1) := by decide +kernel
set_option maxRecDepth 20000 in
theorem ggX1_firstPartner_X5_speech : GoodIn wsX1_firstPartner wsX5_speech := goodIn_r _ [6, 7, 29, 30] (by decide +kernel) (by decide +kernel)
set_option maxRecDepth 20000 in
theorem gX1_firstPartner_X5_speech : GoodIn wsX1_firstPartner (wsV RX1 37 RX5 yX5_speech wsX5_speech) := goodIn_app (goodIn_of _ (by decide +kernel)) ggX1_firstPartner_X5_speech
set_option maxRecDepth 20000 in
theorem ggX1_firstPartner_X8_all : GoodIn wsX1_firstPartner wsX8_all := goodIn_r _ [12, 13, 31, 32, 33, 34] (by decide +kernel) (by decide +kernel)
set_option maxRecDepth 20000 in
theorem gX1_firstPartner_X8_all : GoodIn wsX1_firstPartner (wsV RX1 43 RX8 yX8_all wsX8_all) := goodIn_app (goodIn_of _ (by decide +kernel)) ggX1_firstPartner_X8_all
set_option maxRecDepth 20000 in
theorem ggX1_firstPartner_X1_of : GoodIn wsX1_firstPartner wsX1_of := goodIn_r _ [18, 19, 20, 21, 22, 23, 24, 25, 26, 27, 28] (by decide +kernel) (by decide +kernel)
set_option maxRecDepth 20000 in
theorem gX1_firstPartner_X1_of : GoodIn wsX1_firstPartner (wsV RX1 59 RX1 yX1_of wsX1_of) := goodIn_app (goodIn_of _ (by decide +kernel)) ggX1_firstPartner_X1_of
theorem dX1_firstPartner_0 : decode cX1_firstPartner 0 = .ok (.aload_n 0, 1) := by decide +kernel
theorem dX1_firstPartner_1 : decode cX1_firstPartner 1 = .ok (.getfield 27, 3) := by decide +kernel
theorem dX1_firstPartner_4 : decode cX1_firstPartner 4 = .ok (.invokevirtual 37, 3) := by decide +kernel
theorem dX1_firstPartner_7 : decode cX1_firstPartner 7 = .ok (.invokevirtual 43, 3) := by decide +kernel
theorem dX1_firstPartner_10 : decode cX1_firstPartner 10 = .ok (.istore 5, 2) := by decide +kernel
theorem dX1_firstPartner_12 : decode cX1_firstPartner 12 = .ok (.iconst 0, 1) := by decide +kernel
theorem dX1_firstPartner_13 : decode cX1_firstPartner 13 = .ok (.istore 6, 2) := by decide +kernel
theorem dX1_firstPartner_15 : decode cX1_firstPartner 15 = .ok (.iload 6, 2) := by decide +kernel
theorem dX1_firstPartner_17 : decode cX1_firstPartner 17 = .ok (.iload 5, 2) := by decide +kernel
theorem dX1_firstPartner_19 : decode cX1_firstPartner 19 = .ok (.if_icmp .gt 42, 3) := by decide +kernel
theorem dX1_firstPartner_22 : decode cX1_firstPartner 22 = .ok (.iload 4, 2) := by decide +kernel
theorem dX1_firstPartner_24 : decode cX1_firstPartner 24 = .ok (.ifCond .eq 10, 3) := by decide +kernel
theorem dX1_firstPartner_27 : decode cX1_firstPartner 27 = .ok (.iload_n 1, 1) := by decide +kernel
theorem dX1_firstPartner_28 : decode cX1_firstPartner 28 = .ok (.iload 6, 2) := by decide +kernel
theorem dX1_firstPartner_30 : decode cX1_firstPartner 30 = .ok (.iand, 1) := by decide +kernel
theorem dX1_firstPartner_31 : decode cX1_firstPartner 31 = .ok (.goto 7, 3) := by decide +kernel
theorem dX1_firstPartner_34 : decode cX1_firstPartner 34 = .ok (.iload_n 1, 1) := by decide +kernel
theorem dX1_firstPartner_35 : decode cX1_firstPartner 35 = .ok (.iload 6, 2) := by decide +kernel
theorem dX1_firstPartner_37 : decode cX1_firstPartner 37 = .ok (.ior, 1) := by decide +kernel
theorem dX1_firstPartner_38 : decode cX1_firstPartner 38 = .ok (.iload_n 3, 1) := by decide +kernel
theorem dX1_firstPartner_39 : decode cX1_firstPartner 39 = .ok (.if_icmp .ne 16, 3) := by decide +kernel
theorem dX1_firstPartner_42 : decode cX1_firstPartner 42 = .ok (.aload_n 0, 1) := by decide +kernel
theorem dX1_firstPartner_43 : decode cX1_firstPartner 43 = .ok (.iload 6, 2) := by decide +kernel
theorem dX1_firstPartner_45 : decode cX1_firstPartner 45 = .ok (.invokevirtual 59, 3) := by decide +kernel
theorem dX1_firstPartner_48 : decode cX1_firstPartner 48 = .ok (.iload_n 2, 1) := by decide +kernel
theorem dX1_firstPartner_49 : decode cX1_firstPartner 49 = .ok (.if_icmp .ne 6, 3) := by decide +kernel
theorem dX1_firstPartner_52 : decode cX1_firstPartner 52 = .ok (.iload 6, 2) := by decide +kernel
theorem dX1_firstPartner_54 : decode cX1_firstPartner 54 = .ok (.ireturn, 1) := by decide +kernel
theorem dX1_firstPartner_55 : decode cX1_firstPartner 55 = .ok (.iinc 6 1, 3) := by decide +kernel
theorem dX1_firstPartner_58 : decode cX1_firstPartner 58 = .ok (.goto (-43), 3) := by decide +kernel
theorem dX1_firstPartner_61 : decode cX1_firstPartner 61 = .ok (.bipush (-9), 2) := by decide +kernel
theorem dX1_firstPartner_63 : decode cX1_firstPartner 63 = .ok (.ireturn, 1) := by decide +kernel
set_option maxRecDepth 20000 in
theorem ggX1_canStep_X1_of : GoodIn wsX1_canStep wsX1_of := goodIn_r _ [5, 6, 7, 8, 9, 10, 11, 12, 13, 14, 15] (by decide +kernel) (by decide +kernel)
set_option maxRecDepth 20000 in
theorem gX1_canStep_X1_of : GoodIn wsX1_canStep (wsV RX1 59 RX1 yX1_of wsX1_of) := goodIn_app (goodIn_of _ (by decide +kernel)) ggX1_canStep_X1_of
theorem dX1_canStep_0 : decode cX1_canStep 0 = .ok (.iload_n 3, 1) := by decide +kernel
theorem dX1_canStep_1 : decode cX1_canStep 1 = .ok (.ifCond .eq 9, 3) := by decide +kernel
theorem dX1_canStep_4 : decode cX1_canStep 4 = .ok (.iload_n 1, 1) := by decide +kernel
theorem dX1_canStep_5 : decode cX1_canStep 5 = .ok (.iload_n 2, 1) := by decide +kernel
theorem dX1_canStep_6 : decode cX1_canStep 6 = .ok (.iand, 1) := by decide +kernel
theorem dX1_canStep_7 : decode cX1_canStep 7 = .ok (.goto 6, 3) := by decide +kernel
theorem dX1_canStep_10 : decode cX1_canStep 10 = .ok (.iload_n 1, 1) := by decide +kernel
theorem dX1_canStep_11 : decode cX1_canStep 11 = .ok (.iload_n 2, 1) := by decide +kernel
theorem dX1_canStep_12 : decode cX1_canStep 12 = .ok (.ior, 1) := by decide +kernel
theorem dX1_canStep_13 : decode cX1_canStep 13 = .ok (.iload_n 2, 1) := by decide +kernel
theorem dX1_canStep_14 : decode cX1_canStep 14 = .ok (.if_icmp .ne 17, 3) := by decide +kernel
theorem dX1_canStep_17 : decode cX1_canStep 17 = .ok (.aload_n 0, 1) := by decide +kernel
theorem dX1_canStep_18 : decode cX1_canStep 18 = .ok (.iload_n 1, 1) := by decide +kernel
theorem dX1_canStep_19 : decode cX1_canStep 19 = .ok (.invokevirtual 59, 3) := by decide +kernel
theorem dX1_canStep_22 : decode cX1_canStep 22 = .ok (.bipush (-9), 2) := by decide +kernel
theorem dX1_canStep_24 : decode cX1_canStep 24 = .ok (.if_icmp .eq 7, 3) := by decide +kernel
theorem dX1_canStep_27 : decode cX1_canStep 27 = .ok (.iconst 1, 1) := by decide +kernel
theorem dX1_canStep_28 : decode cX1_canStep 28 = .ok (.goto 4, 3) := by decide +kernel
theorem dX1_canStep_31 : decode cX1_canStep 31 = .ok (.iconst 0, 1) := by decide +kernel
theorem dX1_canStep_32 : decode cX1_canStep 32 = .ok (.ireturn, 1) := by decide +kernel
set_option maxRecDepth 20000 in
theorem ggX1_noteSigns_X5_many : GoodIn wsX1_noteSigns wsX5_many := goodIn_r _ [6, 7, 8, 9, 10, 11, 12, 13, 14, 15, 16, 17, 18, 19, 20, 21, 22, 23, 24, 25, 26, 27, 28, 29, 62, 63, 64, 65, 66, 67, 68, 69, 70, 71, 72, 73] (by decide +kernel) (by decide +kernel)
set_option maxRecDepth 20000 in
theorem gX1_noteSigns_X5_many : GoodIn wsX1_noteSigns (wsV RX1 71 RX5 yX5_many wsX5_many) := goodIn_app (goodIn_of _ (by decide +kernel)) ggX1_noteSigns_X5_many
set_option maxRecDepth 20000 in
theorem ggX1_noteSigns_X5_leftBy : GoodIn wsX1_noteSigns wsX5_leftBy := goodIn_r _ [33, 7, 8, 34, 35, 36, 12, 37, 38, 39, 27, 28, 29, 40, 41, 42, 18, 43, 44, 26, 62, 63, 64, 65, 66, 67, 68, 69, 70, 71, 72, 73] (by decide +kernel) (by decide +kernel)
set_option maxRecDepth 20000 in
theorem gX1_noteSigns_X5_leftBy : GoodIn wsX1_noteSigns (wsV RX1 74 RX5 yX5_leftBy wsX5_leftBy) := goodIn_app (goodIn_of _ (by decide +kernel)) ggX1_noteSigns_X5_leftBy
set_option maxRecDepth 20000 in
theorem ggX1_noteSigns_X1_note : GoodIn wsX1_noteSigns wsX1_note := goodIn_r _ [49, 50, 51, 52, 53, 27, 28, 29, 54, 55, 56, 57, 58, 59, 60, 61] (by decide +kernel) (by decide +kernel)
set_option maxRecDepth 20000 in
theorem gX1_noteSigns_X1_note : GoodIn wsX1_noteSigns (wsV RX1 78 RX1 yX1_note wsX1_note) := goodIn_app (goodIn_of _ (by decide +kernel)) ggX1_noteSigns_X1_note
theorem dX1_noteSigns_0 : decode cX1_noteSigns 0 = .ok (.iconst 0, 1) := by decide +kernel
theorem dX1_noteSigns_1 : decode cX1_noteSigns 1 = .ok (.istore_n 2, 1) := by decide +kernel
theorem dX1_noteSigns_2 : decode cX1_noteSigns 2 = .ok (.iload_n 2, 1) := by decide +kernel
theorem dX1_noteSigns_3 : decode cX1_noteSigns 3 = .ok (.iconst 3, 1) := by decide +kernel
theorem dX1_noteSigns_4 : decode cX1_noteSigns 4 = .ok (.if_icmp .gt 43, 3) := by decide +kernel
theorem dX1_noteSigns_7 : decode cX1_noteSigns 7 = .ok (.iconst 0, 1) := by decide +kernel
theorem dX1_noteSigns_8 : decode cX1_noteSigns 8 = .ok (.istore_n 3, 1) := by decide +kernel
theorem dX1_noteSigns_9 : decode cX1_noteSigns 9 = .ok (.iload_n 3, 1) := by decide +kernel
theorem dX1_noteSigns_10 : decode cX1_noteSigns 10 = .ok (.aload_n 0, 1) := by decide +kernel
theorem dX1_noteSigns_11 : decode cX1_noteSigns 11 = .ok (.getfield 27, 3) := by decide +kernel
theorem dX1_noteSigns_14 : decode cX1_noteSigns 14 = .ok (.iload_n 2, 1) := by decide +kernel
theorem dX1_noteSigns_15 : decode cX1_noteSigns 15 = .ok (.invokevirtual 71, 3) := by decide +kernel
theorem dX1_noteSigns_18 : decode cX1_noteSigns 18 = .ok (.if_icmp .ge 23, 3) := by decide +kernel
theorem dX1_noteSigns_21 : decode cX1_noteSigns 21 = .ok (.aload_n 0, 1) := by decide +kernel
theorem dX1_noteSigns_22 : decode cX1_noteSigns 22 = .ok (.aload_n 0, 1) := by decide +kernel
theorem dX1_noteSigns_23 : decode cX1_noteSigns 23 = .ok (.getfield 27, 3) := by decide +kernel
theorem dX1_noteSigns_26 : decode cX1_noteSigns 26 = .ok (.iload_n 2, 1) := by decide +kernel
theorem dX1_noteSigns_27 : decode cX1_noteSigns 27 = .ok (.iload_n 3, 1) := by decide +kernel
theorem dX1_noteSigns_28 : decode cX1_noteSigns 28 = .ok (.invokevirtual 74, 3) := by decide +kernel
theorem dX1_noteSigns_31 : decode cX1_noteSigns 31 = .ok (.iconst 1, 1) := by decide +kernel
theorem dX1_noteSigns_32 : decode cX1_noteSigns 32 = .ok (.invokevirtual 78, 3) := by decide +kernel
theorem dX1_noteSigns_35 : decode cX1_noteSigns 35 = .ok (.iinc 3 1, 3) := by decide +kernel
theorem dX1_noteSigns_38 : decode cX1_noteSigns 38 = .ok (.goto (-29), 3) := by decide +kernel
theorem dX1_noteSigns_41 : decode cX1_noteSigns 41 = .ok (.iinc 2 1, 3) := by decide +kernel
theorem dX1_noteSigns_44 : decode cX1_noteSigns 44 = .ok (.goto (-42), 3) := by decide +kernel
theorem dX1_noteSigns_47 : decode cX1_noteSigns 47 = .ok (.iload_n 1, 1) := by decide +kernel
theorem dX1_noteSigns_48 : decode cX1_noteSigns 48 = .ok (.iconst (-1), 1) := by decide +kernel
theorem dX1_noteSigns_49 : decode cX1_noteSigns 49 = .ok (.if_icmp .eq 9, 3) := by decide +kernel
theorem dX1_noteSigns_52 : decode cX1_noteSigns 52 = .ok (.aload_n 0, 1) := by decide +kernel
theorem dX1_noteSigns_53 : decode cX1_noteSigns 53 = .ok (.iload_n 1, 1) := by decide +kernel
theorem dX1_noteSigns_54 : decode cX1_noteSigns 54 = .ok (.iconst 1, 1) := by decide +kernel
theorem dX1_noteSigns_55 : decode cX1_noteSigns 55 = .ok (.invokevirtual 78, 3) := by decide +kernel
theorem dX1_noteSigns_58 : decode cX1_noteSigns 58 = .ok (.return_, 1) := by decide +kernel
set_option maxRecDepth 20000 in
theorem ggX1_join_X4_at : GoodIn wsX1_join wsX4_at := goodIn_r _ [6] (by decide +kernel) (by decide +kernel)
set_option maxRecDepth 20000 in
theorem gX1_join_X4_at : GoodIn wsX1_join (va_wsS RX1 31 yX4_at wsX4_at) := goodIn_app (goodIn_of _ (by decide +kernel)) ggX1_join_X4_at
set_option maxRecDepth 20000 in
theorem ggX1_join_X1_note : GoodIn wsX1_join wsX1_note := goodIn_r _ [11, 12, 2, 13, 3, 4, 5, 6, 14, 15, 16, 17, 18, 19, 20, 21] (by decide +kernel) (by decide +kernel)
set_option maxRecDepth 20000 in
theorem gX1_join_X1_note : GoodIn wsX1_join (wsV RX1 78 RX1 yX1_note wsX1_note) := goodIn_app (goodIn_of _ (by decide +kernel)) ggX1_join_X1_note
theorem dX1_join_0 : decode cX1_join 0 = .ok (.aload_n 0, 1) := by decide +kernel
theorem dX1_join_1 : decode cX1_join 1 = .ok (.getfield 20, 3) := by decide +kernel
theorem dX1_join_4 : decode cX1_join 4 = .ok (.iload_n 1, 1) := by decide +kernel
theorem dX1_join_5 : decode cX1_join 5 = .ok (.iconst 1, 1) := by decide +kernel
theorem dX1_join_6 : decode cX1_join 6 = .ok (.iadd, 1) := by decide +kernel
theorem dX1_join_7 : decode cX1_join 7 = .ok (.invokestatic 31, 3) := by decide +kernel
theorem dX1_join_10 : decode cX1_join 10 = .ok (.istore_n 3, 1) := by decide +kernel
theorem dX1_join_11 : decode cX1_join 11 = .ok (.aload_n 0, 1) := by decide +kernel
theorem dX1_join_12 : decode cX1_join 12 = .ok (.getfield 20, 3) := by decide +kernel
theorem dX1_join_15 : decode cX1_join 15 = .ok (.iload_n 2, 1) := by decide +kernel
theorem dX1_join_16 : decode cX1_join 16 = .ok (.iconst 1, 1) := by decide +kernel
theorem dX1_join_17 : decode cX1_join 17 = .ok (.iadd, 1) := by decide +kernel
theorem dX1_join_18 : decode cX1_join 18 = .ok (.invokestatic 31, 3) := by decide +kernel
theorem dX1_join_21 : decode cX1_join 21 = .ok (.istore 4, 2) := by decide +kernel
theorem dX1_join_23 : decode cX1_join 23 = .ok (.aload_n 0, 1) := by decide +kernel
theorem dX1_join_24 : decode cX1_join 24 = .ok (.getfield 20, 3) := by decide +kernel
theorem dX1_join_27 : decode cX1_join 27 = .ok (.iload_n 1, 1) := by decide +kernel
theorem dX1_join_28 : decode cX1_join 28 = .ok (.invokestatic 31, 3) := by decide +kernel
theorem dX1_join_31 : decode cX1_join 31 = .ok (.istore 5, 2) := by decide +kernel
theorem dX1_join_33 : decode cX1_join 33 = .ok (.iload 5, 2) := by decide +kernel
theorem dX1_join_35 : decode cX1_join 35 = .ok (.iload_n 3, 1) := by decide +kernel
theorem dX1_join_36 : decode cX1_join 36 = .ok (.if_icmp .ge 90, 3) := by decide +kernel
theorem dX1_join_39 : decode cX1_join 39 = .ok (.aload_n 0, 1) := by decide +kernel
theorem dX1_join_40 : decode cX1_join 40 = .ok (.getfield 17, 3) := by decide +kernel
theorem dX1_join_43 : decode cX1_join 43 = .ok (.iload 5, 2) := by decide +kernel
theorem dX1_join_45 : decode cX1_join 45 = .ok (.invokestatic 31, 3) := by decide +kernel
theorem dX1_join_48 : decode cX1_join 48 = .ok (.istore 6, 2) := by decide +kernel
theorem dX1_join_50 : decode cX1_join 50 = .ok (.iload_n 1, 1) := by decide +kernel
theorem dX1_join_51 : decode cX1_join 51 = .ok (.iload_n 2, 1) := by decide +kernel
theorem dX1_join_52 : decode cX1_join 52 = .ok (.if_icmp .ne 10, 3) := by decide +kernel
theorem dX1_join_55 : decode cX1_join 55 = .ok (.iload 5, 2) := by decide +kernel
theorem dX1_join_57 : decode cX1_join 57 = .ok (.iconst 1, 1) := by decide +kernel
theorem dX1_join_58 : decode cX1_join 58 = .ok (.iadd, 1) := by decide +kernel
theorem dX1_join_59 : decode cX1_join 59 = .ok (.goto 11, 3) := by decide +kernel
theorem dX1_join_62 : decode cX1_join 62 = .ok (.aload_n 0, 1) := by decide +kernel
theorem dX1_join_63 : decode cX1_join 63 = .ok (.getfield 20, 3) := by decide +kernel
theorem dX1_join_66 : decode cX1_join 66 = .ok (.iload_n 2, 1) := by decide +kernel
theorem dX1_join_67 : decode cX1_join 67 = .ok (.invokestatic 31, 3) := by decide +kernel
theorem dX1_join_70 : decode cX1_join 70 = .ok (.istore 7, 2) := by decide +kernel
theorem dX1_join_72 : decode cX1_join 72 = .ok (.iload 7, 2) := by decide +kernel
theorem dX1_join_74 : decode cX1_join 74 = .ok (.iload 4, 2) := by decide +kernel
theorem dX1_join_76 : decode cX1_join 76 = .ok (.if_icmp .ge 44, 3) := by decide +kernel
theorem dX1_join_79 : decode cX1_join 79 = .ok (.aload_n 0, 1) := by decide +kernel
theorem dX1_join_80 : decode cX1_join 80 = .ok (.getfield 17, 3) := by decide +kernel
theorem dX1_join_83 : decode cX1_join 83 = .ok (.iload 7, 2) := by decide +kernel
theorem dX1_join_85 : decode cX1_join 85 = .ok (.invokestatic 31, 3) := by decide +kernel
theorem dX1_join_88 : decode cX1_join 88 = .ok (.istore 8, 2) := by decide +kernel
theorem dX1_join_90 : decode cX1_join 90 = .ok (.aload_n 0, 1) := by decide +kernel
theorem dX1_join_91 : decode cX1_join 91 = .ok (.iload 6, 2) := by decide +kernel
theorem dX1_join_93 : decode cX1_join 93 = .ok (.iload 8, 2) := by decide +kernel
theorem dX1_join_95 : decode cX1_join 95 = .ok (.iand, 1) := by decide +kernel
theorem dX1_join_96 : decode cX1_join 96 = .ok (.iload_n 1, 1) := by decide +kernel
theorem dX1_join_97 : decode cX1_join 97 = .ok (.iload_n 2, 1) := by decide +kernel
theorem dX1_join_98 : decode cX1_join 98 = .ok (.iadd, 1) := by decide +kernel
theorem dX1_join_99 : decode cX1_join 99 = .ok (.invokevirtual 78, 3) := by decide +kernel
theorem dX1_join_102 : decode cX1_join 102 = .ok (.aload_n 0, 1) := by decide +kernel
theorem dX1_join_103 : decode cX1_join 103 = .ok (.iload 6, 2) := by decide +kernel
theorem dX1_join_105 : decode cX1_join 105 = .ok (.iload 8, 2) := by decide +kernel
theorem dX1_join_107 : decode cX1_join 107 = .ok (.ior, 1) := by decide +kernel
theorem dX1_join_108 : decode cX1_join 108 = .ok (.iload_n 1, 1) := by decide +kernel
theorem dX1_join_109 : decode cX1_join 109 = .ok (.iload_n 2, 1) := by decide +kernel
theorem dX1_join_110 : decode cX1_join 110 = .ok (.iadd, 1) := by decide +kernel
theorem dX1_join_111 : decode cX1_join 111 = .ok (.invokevirtual 78, 3) := by decide +kernel
theorem dX1_join_114 : decode cX1_join 114 = .ok (.iinc 7 1, 3) := by decide +kernel
theorem dX1_join_117 : decode cX1_join 117 = .ok (.goto (-45), 3) := by decide +kernel
theorem dX1_join_120 : decode cX1_join 120 = .ok (.iinc 5 1, 3) := by decide +kernel
theorem dX1_join_123 : decode cX1_join 123 = .ok (.goto (-90), 3) := by decide +kernel
theorem dX1_join_126 : decode cX1_join 126 = .ok (.return_, 1) := by decide +kernel
set_option maxRecDepth 20000 in
theorem ggX1_note_X4_at : GoodIn wsX1_note wsX4_at := goodIn_r _ [7] (by decide +kernel) (by decide +kernel)
set_option maxRecDepth 20000 in
theorem gX1_note_X4_at : GoodIn wsX1_note (va_wsS RX1 31 yX4_at wsX4_at) := goodIn_app (goodIn_of _ (by decide +kernel)) ggX1_note_X4_at
set_option maxRecDepth 20000 in
theorem ggX1_note_X4_put : GoodIn wsX1_note wsX4_put := goodIn_r _ [10] (by decide +kernel) (by decide +kernel)
set_option maxRecDepth 20000 in
theorem gX1_note_X4_put : GoodIn wsX1_note (va_wsS RX1 47 yX4_put wsX4_put) := goodIn_app (goodIn_of _ (by decide +kernel)) ggX1_note_X4_put
theorem dX1_note_0 : decode cX1_note 0 = .ok (.aload_n 0, 1) := by decide +kernel
theorem dX1_note_1 : decode cX1_note 1 = .ok (.getfield 13, 3) := by decide +kernel
theorem dX1_note_4 : decode cX1_note 4 = .ok (.iload_n 1, 1) := by decide +kernel
theorem dX1_note_5 : decode cX1_note 5 = .ok (.invokestatic 31, 3) := by decide +kernel
theorem dX1_note_8 : decode cX1_note 8 = .ok (.ifCond .ne 34, 3) := by decide +kernel
theorem dX1_note_11 : decode cX1_note 11 = .ok (.aload_n 0, 1) := by decide +kernel
theorem dX1_note_12 : decode cX1_note 12 = .ok (.getfield 13, 3) := by decide +kernel
theorem dX1_note_15 : decode cX1_note 15 = .ok (.iload_n 1, 1) := by decide +kernel
theorem dX1_note_16 : decode cX1_note 16 = .ok (.iload_n 2, 1) := by decide +kernel
theorem dX1_note_17 : decode cX1_note 17 = .ok (.invokestatic 47, 3) := by decide +kernel
theorem dX1_note_20 : decode cX1_note 20 = .ok (.aload_n 0, 1) := by decide +kernel
theorem dX1_note_21 : decode cX1_note 21 = .ok (.getfield 17, 3) := by decide +kernel
theorem dX1_note_24 : decode cX1_note 24 = .ok (.aload_n 0, 1) := by decide +kernel
theorem dX1_note_25 : decode cX1_note 25 = .ok (.getfield 23, 3) := by decide +kernel
theorem dX1_note_28 : decode cX1_note 28 = .ok (.iload_n 1, 1) := by decide +kernel
theorem dX1_note_29 : decode cX1_note 29 = .ok (.invokestatic 47, 3) := by decide +kernel
theorem dX1_note_32 : decode cX1_note 32 = .ok (.aload_n 0, 1) := by decide +kernel
theorem dX1_note_33 : decode cX1_note 33 = .ok (.dup, 1) := by decide +kernel
theorem dX1_note_34 : decode cX1_note 34 = .ok (.getfield 23, 3) := by decide +kernel
theorem dX1_note_37 : decode cX1_note 37 = .ok (.iconst 1, 1) := by decide +kernel
theorem dX1_note_38 : decode cX1_note 38 = .ok (.iadd, 1) := by decide +kernel
theorem dX1_note_39 : decode cX1_note 39 = .ok (.putfield 23, 3) := by decide +kernel
theorem dX1_note_42 : decode cX1_note 42 = .ok (.return_, 1) := by decide +kernel
set_option maxRecDepth 20000 in
theorem ggX2_init_X7_init : GoodIn wsX2_init wsX7_init := goodIn_r _ [19, 20, 2, 3, 21, 22, 23, 24, 34, 35, 36, 37] (by decide +kernel) (by decide +kernel)
set_option maxRecDepth 20000 in
theorem gX2_init_X7_init : GoodIn wsX2_init (wsX7_init) := ggX2_init_X7_init
theorem dX2_init_0 : decode cX2_init 0 = .ok (.aload_n 0, 1) := by decide +kernel
theorem dX2_init_1 : decode cX2_init 1 = .ok (.invokespecial 1, 3) := by decide +kernel
theorem dX2_init_4 : decode cX2_init 4 = .ok (.aload_n 0, 1) := by decide +kernel
theorem dX2_init_5 : decode cX2_init 5 = .ok (.iconst 3, 1) := by decide +kernel
theorem dX2_init_6 : decode cX2_init 6 = .ok (.newarray .int, 2) := by decide +kernel
theorem dX2_init_8 : decode cX2_init 8 = .ok (.putfield 9, 3) := by decide +kernel
theorem dX2_init_11 : decode cX2_init 11 = .ok (.aload_n 0, 1) := by decide +kernel
theorem dX2_init_12 : decode cX2_init 12 = .ok (.iconst 0, 1) := by decide +kernel
theorem dX2_init_13 : decode cX2_init 13 = .ok (.putfield 15, 3) := by decide +kernel
theorem dX2_init_16 : decode cX2_init 16 = .ok (.aload_n 0, 1) := by decide +kernel
theorem dX2_init_17 : decode cX2_init 17 = .ok (.bipush 10, 2) := by decide +kernel
theorem dX2_init_19 : decode cX2_init 19 = .ok (.newarray .int, 2) := by decide +kernel
theorem dX2_init_21 : decode cX2_init 21 = .ok (.putfield 19, 3) := by decide +kernel
theorem dX2_init_24 : decode cX2_init 24 = .ok (.aload_n 0, 1) := by decide +kernel
theorem dX2_init_25 : decode cX2_init 25 = .ok (.bipush 10, 2) := by decide +kernel
theorem dX2_init_27 : decode cX2_init 27 = .ok (.newarray .int, 2) := by decide +kernel
theorem dX2_init_29 : decode cX2_init 29 = .ok (.putfield 22, 3) := by decide +kernel
theorem dX2_init_32 : decode cX2_init 32 = .ok (.aload_n 0, 1) := by decide +kernel
theorem dX2_init_33 : decode cX2_init 33 = .ok (.iconst 0, 1) := by decide +kernel
theorem dX2_init_34 : decode cX2_init 34 = .ok (.putfield 25, 3) := by decide +kernel
theorem dX2_init_37 : decode cX2_init 37 = .ok (.aload_n 0, 1) := by decide +kernel
theorem dX2_init_38 : decode cX2_init 38 = .ok (.iconst 0, 1) := by decide +kernel
theorem dX2_init_39 : decode cX2_init 39 = .ok (.putfield 28, 3) := by decide +kernel
theorem dX2_init_42 : decode cX2_init 42 = .ok (.aload_n 0, 1) := by decide +kernel
theorem dX2_init_43 : decode cX2_init 43 = .ok (.iconst 1, 1) := by decide +kernel
theorem dX2_init_44 : decode cX2_init 44 = .ok (.putfield 31, 3) := by decide +kernel
theorem dX2_init_47 : decode cX2_init 47 = .ok (.aload_n 0, 1) := by decide +kernel
theorem dX2_init_48 : decode cX2_init 48 = .ok (.new 35, 3) := by decide +kernel
theorem dX2_init_51 : decode cX2_init 51 = .ok (.dup, 1) := by decide +kernel
theorem dX2_init_52 : decode cX2_init 52 = .ok (.aload_n 1, 1) := by decide +kernel
theorem dX2_init_53 : decode cX2_init 53 = .ok (.invokespecial 37, 3) := by decide +kernel
theorem dX2_init_56 : decode cX2_init 56 = .ok (.putfield 40, 3) := by decide +kernel
theorem dX2_init_59 : decode cX2_init 59 = .ok (.aload_n 0, 1) := by decide +kernel
theorem dX2_init_60 : decode cX2_init 60 = .ok (.aload_n 2, 1) := by decide +kernel
theorem dX2_init_61 : decode cX2_init 61 = .ok (.putfield 44, 3) := by decide +kernel
theorem dX2_init_64 : decode cX2_init 64 = .ok (.return_, 1) := by decide +kernel
theorem dX2_choicesRead_0 : decode cX2_choicesRead 0 = .ok (.aload_n 0, 1) := by decide +kernel
theorem dX2_choicesRead_1 : decode cX2_choicesRead 1 = .ok (.getfield 15, 3) := by decide +kernel
theorem dX2_choicesRead_4 : decode cX2_choicesRead 4 = .ok (.ireturn, 1) := by decide +kernel
set_option maxRecDepth 20000 in
theorem ggX2_valuesRead_X4_at : GoodIn wsX2_valuesRead wsX4_at := goodIn_r _ [5] (by decide +kernel) (by decide +kernel)
set_option maxRecDepth 20000 in
theorem gX2_valuesRead_X4_at : GoodIn wsX2_valuesRead (va_wsS RX2 48 yX4_at wsX4_at) := goodIn_app (goodIn_of _ (by decide +kernel)) ggX2_valuesRead_X4_at
theorem dX2_valuesRead_0 : decode cX2_valuesRead 0 = .ok (.aload_n 0, 1) := by decide +kernel
theorem dX2_valuesRead_1 : decode cX2_valuesRead 1 = .ok (.getfield 9, 3) := by decide +kernel
theorem dX2_valuesRead_4 : decode cX2_valuesRead 4 = .ok (.iload_n 1, 1) := by decide +kernel
theorem dX2_valuesRead_5 : decode cX2_valuesRead 5 = .ok (.invokestatic 48, 3) := by decide +kernel
theorem dX2_valuesRead_8 : decode cX2_valuesRead 8 = .ok (.ireturn, 1) := by decide +kernel
set_option maxRecDepth 20000 in
theorem ggX2_leftBySaying_X2_levelLeft : GoodIn wsX2_leftBySaying wsX2_levelLeft := goodIn_r _ [5, 6, 7, 8, 9, 10, 11, 12, 13, 14, 15, 16, 17, 18, 19, 20, 21] (by decide +kernel) (by decide +kernel)
set_option maxRecDepth 20000 in
theorem gX2_leftBySaying_X2_levelLeft : GoodIn wsX2_leftBySaying (wsV RX2 54 RX2 yX2_levelLeft wsX2_levelLeft) := goodIn_app (goodIn_of _ (by decide +kernel)) ggX2_leftBySaying_X2_levelLeft
theorem dX2_leftBySaying_0 : decode cX2_leftBySaying 0 = .ok (.aload_n 0, 1) := by decide +kernel
theorem dX2_leftBySaying_1 : decode cX2_leftBySaying 1 = .ok (.invokevirtual 54, 3) := by decide +kernel
theorem dX2_leftBySaying_4 : decode cX2_leftBySaying 4 = .ok (.ireturn, 1) := by decide +kernel
theorem dX2_signsRead_0 : decode cX2_signsRead 0 = .ok (.aload_n 0, 1) := by decide +kernel
theorem dX2_signsRead_1 : decode cX2_signsRead 1 = .ok (.getfield 28, 3) := by decide +kernel
theorem dX2_signsRead_4 : decode cX2_signsRead 4 = .ok (.ireturn, 1) := by decide +kernel
set_option maxRecDepth 20000 in
theorem ggX2_faultOfTongue_X7_begin : GoodIn wsX2_faultOfTongue wsX7_begin := goodIn_r _ [8, 9, 10, 11, 126, 127, 128, 129] (by decide +kernel) (by decide +kernel)
set_option maxRecDepth 20000 in
theorem gX2_faultOfTongue_X7_begin : GoodIn wsX2_faultOfTongue (wsV RX2 58 RX7 yX7_begin wsX7_begin) := goodIn_app (goodIn_of _ (by decide +kernel)) ggX2_faultOfTongue_X7_begin
set_option maxRecDepth 20000 in
theorem ggX2_faultOfTongue_X7_step : GoodIn wsX2_faultOfTongue wsX7_step := goodIn_r _ [15, 9, 16, 10, 11, 17, 18, 19, 20, 21, 22, 23, 24, 25, 26, 27, 28, 29, 30, 31, 32, 33, 7, 34, 35, 36, 37, 38, 39, 40, 41, 42, 43, 44, 45, 46, 47, 48, 126, 127, 128, 129, 130, 131] (by decide +kernel) (by decide +kernel)
set_option maxRecDepth 20000 in
theorem gX2_faultOfTongue_X7_step : GoodIn wsX2_faultOfTongue (wsV RX2 61 RX7 yX7_step wsX7_step) := goodIn_app (goodIn_of _ (by decide +kernel)) ggX2_faultOfTongue_X7_step
set_option maxRecDepth 20000 in
theorem ggX2_faultOfTongue_X7_is : GoodIn wsX2_faultOfTongue wsX7_is := goodIn_r _ [52, 11, 126, 127, 128, 129] (by decide +kernel) (by decide +kernel)
set_option maxRecDepth 20000 in
theorem gX2_faultOfTongue_X7_is : GoodIn wsX2_faultOfTongue (wsV RX2 64 RX7 yX7_is wsX7_is) := goodIn_app (goodIn_of _ (by decide +kernel)) ggX2_faultOfTongue_X7_is
set_option maxRecDepth 20000 in
theorem ggX2_faultOfTongue_X7_isChoice : GoodIn wsX2_faultOfTongue wsX7_isChoice := goodIn_r _ [56, 11, 9, 10, 16, 57, 58, 59, 60, 61, 62, 63, 64, 65, 66, 67, 68, 23, 24, 25, 20, 26, 22, 27, 28, 29, 30, 31, 69, 70, 71, 72, 73, 74, 75, 76, 77, 78, 79, 80, 81, 82, 83, 84, 85, 86, 87, 88, 89, 90, 91, 92, 93, 94, 95, 96, 97, 98, 99, 100, 101, 102, 103, 104, 105, 126, 127, 128, 129, 130, 131] (by decide +kernel) (by decide +kernel)
set_option maxRecDepth 20000 in
theorem gX2_faultOfTongue_X7_isChoice : GoodIn wsX2_faultOfTongue (wsV RX2 68 RX7 yX7_isChoice wsX7_isChoice) := goodIn_app (goodIn_of _ (by decide +kernel)) ggX2_faultOfTongue_X7_isChoice
set_option maxRecDepth 20000 in
theorem ggX2_faultOfTongue_X7_place : GoodIn wsX2_faultOfTongue wsX7_place := goodIn_r _ [109, 10, 126, 127, 128, 129] (by decide +kernel) (by decide +kernel)
set_option maxRecDepth 20000 in
theorem gX2_faultOfTongue_X7_place : GoodIn wsX2_faultOfTongue (wsV RX2 72 RX7 yX7_place wsX7_place) := goodIn_app (goodIn_of _ (by decide +kernel)) ggX2_faultOfTongue_X7_place
set_option maxRecDepth 20000 in
theorem ggX2_faultOfTongue_X7_number : GoodIn wsX2_faultOfTongue wsX7_number := goodIn_r _ [113, 9, 10, 11, 16, 23, 24, 25, 20, 26, 22, 27, 28, 29, 30, 31, 126, 127, 128, 129, 130, 131] (by decide +kernel) (by decide +kernel)
set_option maxRecDepth 20000 in
theorem gX2_faultOfTongue_X7_number : GoodIn wsX2_faultOfTongue (wsV RX2 75 RX7 yX7_number wsX7_number) := goodIn_app (goodIn_of _ (by decide +kernel)) ggX2_faultOfTongue_X7_number
set_option maxRecDepth 20000 in
theorem ggX2_faultOfTongue_X4_put : GoodIn wsX2_faultOfTongue wsX4_put := goodIn_r _ [116] (by decide +kernel) (by decide +kernel)
set_option maxRecDepth 20000 in
theorem gX2_faultOfTongue_X4_put : GoodIn wsX2_faultOfTongue (va_wsS RX2 78 yX4_put wsX4_put) := goodIn_app (goodIn_of _ (by decide +kernel)) ggX2_faultOfTongue_X4_put
theorem dX2_faultOfTongue_0 : decode cX2_faultOfTongue 0 = .ok (.aload_n 0, 1) := by decide +kernel
theorem dX2_faultOfTongue_1 : decode cX2_faultOfTongue 1 = .ok (.iconst 0, 1) := by decide +kernel
theorem dX2_faultOfTongue_2 : decode cX2_faultOfTongue 2 = .ok (.putfield 15, 3) := by decide +kernel
theorem dX2_faultOfTongue_5 : decode cX2_faultOfTongue 5 = .ok (.iconst 1, 1) := by decide +kernel
theorem dX2_faultOfTongue_6 : decode cX2_faultOfTongue 6 = .ok (.istore_n 1, 1) := by decide +kernel
theorem dX2_faultOfTongue_7 : decode cX2_faultOfTongue 7 = .ok (.aload_n 0, 1) := by decide +kernel
theorem dX2_faultOfTongue_8 : decode cX2_faultOfTongue 8 = .ok (.getfield 40, 3) := by decide +kernel
theorem dX2_faultOfTongue_11 : decode cX2_faultOfTongue 11 = .ok (.invokevirtual 58, 3) := by decide +kernel
theorem dX2_faultOfTongue_14 : decode cX2_faultOfTongue 14 = .ok (.iconst 0, 1) := by decide +kernel
theorem dX2_faultOfTongue_15 : decode cX2_faultOfTongue 15 = .ok (.istore_n 2, 1) := by decide +kernel
theorem dX2_faultOfTongue_16 : decode cX2_faultOfTongue 16 = .ok (.iload_n 2, 1) := by decide +kernel
theorem dX2_faultOfTongue_17 : decode cX2_faultOfTongue 17 = .ok (.iconst 3, 1) := by decide +kernel
theorem dX2_faultOfTongue_18 : decode cX2_faultOfTongue 18 = .ok (.if_icmp .gt 150, 3) := by decide +kernel
theorem dX2_faultOfTongue_21 : decode cX2_faultOfTongue 21 = .ok (.aload_n 0, 1) := by decide +kernel
theorem dX2_faultOfTongue_22 : decode cX2_faultOfTongue 22 = .ok (.getfield 40, 3) := by decide +kernel
theorem dX2_faultOfTongue_25 : decode cX2_faultOfTongue 25 = .ok (.invokevirtual 61, 3) := by decide +kernel
theorem dX2_faultOfTongue_28 : decode cX2_faultOfTongue 28 = .ok (.aload_n 0, 1) := by decide +kernel
theorem dX2_faultOfTongue_29 : decode cX2_faultOfTongue 29 = .ok (.getfield 40, 3) := by decide +kernel
theorem dX2_faultOfTongue_32 : decode cX2_faultOfTongue 32 = .ok (.iconst 0, 1) := by decide +kernel
theorem dX2_faultOfTongue_33 : decode cX2_faultOfTongue 33 = .ok (.invokevirtual 64, 3) := by decide +kernel
theorem dX2_faultOfTongue_36 : decode cX2_faultOfTongue 36 = .ok (.ifCond .eq 5, 3) := by decide +kernel
theorem dX2_faultOfTongue_39 : decode cX2_faultOfTongue 39 = .ok (.iconst (-1), 1) := by decide +kernel
theorem dX2_faultOfTongue_40 : decode cX2_faultOfTongue 40 = .ok (.ireturn, 1) := by decide +kernel
theorem dX2_faultOfTongue_41 : decode cX2_faultOfTongue 41 = .ok (.aload_n 0, 1) := by decide +kernel
theorem dX2_faultOfTongue_42 : decode cX2_faultOfTongue 42 = .ok (.getfield 40, 3) := by decide +kernel
theorem dX2_faultOfTongue_45 : decode cX2_faultOfTongue 45 = .ok (.invokevirtual 68, 3) := by decide +kernel
theorem dX2_faultOfTongue_48 : decode cX2_faultOfTongue 48 = .ok (.ifCond .eq 11, 3) := by decide +kernel
theorem dX2_faultOfTongue_51 : decode cX2_faultOfTongue 51 = .ok (.aload_n 0, 1) := by decide +kernel
theorem dX2_faultOfTongue_52 : decode cX2_faultOfTongue 52 = .ok (.getfield 15, 3) := by decide +kernel
theorem dX2_faultOfTongue_55 : decode cX2_faultOfTongue 55 = .ok (.iconst 3, 1) := by decide +kernel
theorem dX2_faultOfTongue_56 : decode cX2_faultOfTongue 56 = .ok (.if_icmp .ne 11, 3) := by decide +kernel
theorem dX2_faultOfTongue_59 : decode cX2_faultOfTongue 59 = .ok (.aload_n 0, 1) := by decide +kernel
theorem dX2_faultOfTongue_60 : decode cX2_faultOfTongue 60 = .ok (.getfield 40, 3) := by decide +kernel
theorem dX2_faultOfTongue_63 : decode cX2_faultOfTongue 63 = .ok (.invokevirtual 72, 3) := by decide +kernel
theorem dX2_faultOfTongue_66 : decode cX2_faultOfTongue 66 = .ok (.ireturn, 1) := by decide +kernel
theorem dX2_faultOfTongue_67 : decode cX2_faultOfTongue 67 = .ok (.aload_n 0, 1) := by decide +kernel
theorem dX2_faultOfTongue_68 : decode cX2_faultOfTongue 68 = .ok (.getfield 40, 3) := by decide +kernel
theorem dX2_faultOfTongue_71 : decode cX2_faultOfTongue 71 = .ok (.invokevirtual 61, 3) := by decide +kernel
theorem dX2_faultOfTongue_74 : decode cX2_faultOfTongue 74 = .ok (.aload_n 0, 1) := by decide +kernel
theorem dX2_faultOfTongue_75 : decode cX2_faultOfTongue 75 = .ok (.getfield 40, 3) := by decide +kernel
theorem dX2_faultOfTongue_78 : decode cX2_faultOfTongue 78 = .ok (.invokevirtual 75, 3) := by decide +kernel
theorem dX2_faultOfTongue_81 : decode cX2_faultOfTongue 81 = .ok (.istore_n 3, 1) := by decide +kernel
theorem dX2_faultOfTongue_82 : decode cX2_faultOfTongue 82 = .ok (.iload_n 3, 1) := by decide +kernel
theorem dX2_faultOfTongue_83 : decode cX2_faultOfTongue 83 = .ok (.iconst 2, 1) := by decide +kernel
theorem dX2_faultOfTongue_84 : decode cX2_faultOfTongue 84 = .ok (.if_icmp .lt 17, 3) := by decide +kernel
theorem dX2_faultOfTongue_87 : decode cX2_faultOfTongue 87 = .ok (.iload_n 3, 1) := by decide +kernel
theorem dX2_faultOfTongue_88 : decode cX2_faultOfTongue 88 = .ok (.bipush 9, 2) := by decide +kernel
theorem dX2_faultOfTongue_90 : decode cX2_faultOfTongue 90 = .ok (.if_icmp .gt 11, 3) := by decide +kernel
theorem dX2_faultOfTongue_93 : decode cX2_faultOfTongue 93 = .ok (.iload_n 1, 1) := by decide +kernel
theorem dX2_faultOfTongue_94 : decode cX2_faultOfTongue 94 = .ok (.iload_n 3, 1) := by decide +kernel
theorem dX2_faultOfTongue_95 : decode cX2_faultOfTongue 95 = .ok (.imul, 1) := by decide +kernel
theorem dX2_faultOfTongue_96 : decode cX2_faultOfTongue 96 = .ok (.bipush 9, 2) := by decide +kernel
theorem dX2_faultOfTongue_98 : decode cX2_faultOfTongue 98 = .ok (.if_icmp .le 11, 3) := by decide +kernel
theorem dX2_faultOfTongue_101 : decode cX2_faultOfTongue 101 = .ok (.aload_n 0, 1) := by decide +kernel
theorem dX2_faultOfTongue_102 : decode cX2_faultOfTongue 102 = .ok (.getfield 40, 3) := by decide +kernel
theorem dX2_faultOfTongue_105 : decode cX2_faultOfTongue 105 = .ok (.invokevirtual 72, 3) := by decide +kernel
theorem dX2_faultOfTongue_108 : decode cX2_faultOfTongue 108 = .ok (.ireturn, 1) := by decide +kernel
theorem dX2_faultOfTongue_109 : decode cX2_faultOfTongue 109 = .ok (.aload_n 0, 1) := by decide +kernel
theorem dX2_faultOfTongue_110 : decode cX2_faultOfTongue 110 = .ok (.getfield 40, 3) := by decide +kernel
theorem dX2_faultOfTongue_113 : decode cX2_faultOfTongue 113 = .ok (.invokevirtual 61, 3) := by decide +kernel
theorem dX2_faultOfTongue_116 : decode cX2_faultOfTongue 116 = .ok (.aload_n 0, 1) := by decide +kernel
theorem dX2_faultOfTongue_117 : decode cX2_faultOfTongue 117 = .ok (.getfield 40, 3) := by decide +kernel
theorem dX2_faultOfTongue_120 : decode cX2_faultOfTongue 120 = .ok (.bipush 59, 2) := by decide +kernel
theorem dX2_faultOfTongue_122 : decode cX2_faultOfTongue 122 = .ok (.invokevirtual 64, 3) := by decide +kernel
theorem dX2_faultOfTongue_125 : decode cX2_faultOfTongue 125 = .ok (.ifCond .ne 11, 3) := by decide +kernel
theorem dX2_faultOfTongue_128 : decode cX2_faultOfTongue 128 = .ok (.aload_n 0, 1) := by decide +kernel
theorem dX2_faultOfTongue_129 : decode cX2_faultOfTongue 129 = .ok (.getfield 40, 3) := by decide +kernel
theorem dX2_faultOfTongue_132 : decode cX2_faultOfTongue 132 = .ok (.invokevirtual 72, 3) := by decide +kernel
theorem dX2_faultOfTongue_135 : decode cX2_faultOfTongue 135 = .ok (.ireturn, 1) := by decide +kernel
theorem dX2_faultOfTongue_136 : decode cX2_faultOfTongue 136 = .ok (.aload_n 0, 1) := by decide +kernel
theorem dX2_faultOfTongue_137 : decode cX2_faultOfTongue 137 = .ok (.getfield 9, 3) := by decide +kernel
theorem dX2_faultOfTongue_140 : decode cX2_faultOfTongue 140 = .ok (.aload_n 0, 1) := by decide +kernel
theorem dX2_faultOfTongue_141 : decode cX2_faultOfTongue 141 = .ok (.getfield 15, 3) := by decide +kernel
theorem dX2_faultOfTongue_144 : decode cX2_faultOfTongue 144 = .ok (.iload_n 3, 1) := by decide +kernel
theorem dX2_faultOfTongue_145 : decode cX2_faultOfTongue 145 = .ok (.invokestatic 78, 3) := by decide +kernel
theorem dX2_faultOfTongue_148 : decode cX2_faultOfTongue 148 = .ok (.aload_n 0, 1) := by decide +kernel
theorem dX2_faultOfTongue_149 : decode cX2_faultOfTongue 149 = .ok (.dup, 1) := by decide +kernel
theorem dX2_faultOfTongue_150 : decode cX2_faultOfTongue 150 = .ok (.getfield 15, 3) := by decide +kernel
theorem dX2_faultOfTongue_153 : decode cX2_faultOfTongue 153 = .ok (.iconst 1, 1) := by decide +kernel
theorem dX2_faultOfTongue_154 : decode cX2_faultOfTongue 154 = .ok (.iadd, 1) := by decide +kernel
theorem dX2_faultOfTongue_155 : decode cX2_faultOfTongue 155 = .ok (.putfield 15, 3) := by decide +kernel
theorem dX2_faultOfTongue_158 : decode cX2_faultOfTongue 158 = .ok (.iload_n 1, 1) := by decide +kernel
theorem dX2_faultOfTongue_159 : decode cX2_faultOfTongue 159 = .ok (.iload_n 3, 1) := by decide +kernel
theorem dX2_faultOfTongue_160 : decode cX2_faultOfTongue 160 = .ok (.imul, 1) := by decide +kernel
theorem dX2_faultOfTongue_161 : decode cX2_faultOfTongue 161 = .ok (.istore_n 1, 1) := by decide +kernel
theorem dX2_faultOfTongue_162 : decode cX2_faultOfTongue 162 = .ok (.iinc 2 1, 3) := by decide +kernel
theorem dX2_faultOfTongue_165 : decode cX2_faultOfTongue 165 = .ok (.goto (-149), 3) := by decide +kernel
theorem dX2_faultOfTongue_168 : decode cX2_faultOfTongue 168 = .ok (.aload_n 0, 1) := by decide +kernel
theorem dX2_faultOfTongue_169 : decode cX2_faultOfTongue 169 = .ok (.getfield 40, 3) := by decide +kernel
theorem dX2_faultOfTongue_172 : decode cX2_faultOfTongue 172 = .ok (.invokevirtual 72, 3) := by decide +kernel
theorem dX2_faultOfTongue_175 : decode cX2_faultOfTongue 175 = .ok (.ireturn, 1) := by decide +kernel
set_option maxRecDepth 20000 in
theorem ggX2_faultOfSaying_X7_begin : GoodIn wsX2_faultOfSaying wsX7_begin := goodIn_r _ [9, 10, 11, 12, 157, 158, 159, 160] (by decide +kernel) (by decide +kernel)
set_option maxRecDepth 20000 in
theorem gX2_faultOfSaying_X7_begin : GoodIn wsX2_faultOfSaying (wsV RX2 58 RX7 yX7_begin wsX7_begin) := goodIn_app (goodIn_of _ (by decide +kernel)) ggX2_faultOfSaying_X7_begin
set_option maxRecDepth 20000 in
theorem ggX2_faultOfSaying_X2_openLevel : GoodIn wsX2_faultOfSaying wsX2_openLevel := goodIn_r _ [17, 18, 2, 19, 20, 4, 21, 22, 23, 24, 25, 26, 27, 28, 29, 30, 31, 32, 33, 34, 35, 36, 148, 149, 150, 151, 152, 153, 154, 155, 156, 161, 162, 163, 164, 165, 166] (by decide +kernel) (by decide +kernel)
set_option maxRecDepth 20000 in
theorem gX2_faultOfSaying_X2_openLevel : GoodIn wsX2_faultOfSaying (wsV RX2 82 RX2 yX2_openLevel wsX2_openLevel) := goodIn_app (goodIn_of _ (by decide +kernel)) ggX2_faultOfSaying_X2_openLevel
set_option maxRecDepth 20000 in
theorem ggX2_faultOfSaying_X7_step : GoodIn wsX2_faultOfSaying wsX7_step := goodIn_r _ [40, 10, 41, 11, 12, 42, 43, 44, 45, 46, 47, 48, 49, 50, 51, 52, 53, 54, 23, 55, 56, 57, 8, 58, 59, 60, 61, 62, 63, 64, 65, 66, 67, 68, 69, 70, 71, 72, 157, 158, 159, 160, 167, 168] (by decide +kernel) (by decide +kernel)
set_option maxRecDepth 20000 in
theorem gX2_faultOfSaying_X7_step : GoodIn wsX2_faultOfSaying (wsV RX2 61 RX7 yX7_step wsX7_step) := goodIn_app (goodIn_of _ (by decide +kernel)) ggX2_faultOfSaying_X7_step
set_option maxRecDepth 20000 in
theorem ggX2_faultOfSaying_X7_is : GoodIn wsX2_faultOfSaying wsX7_is := goodIn_r _ [76, 12, 157, 158, 159, 160] (by decide +kernel) (by decide +kernel)
set_option maxRecDepth 20000 in
theorem gX2_faultOfSaying_X7_is : GoodIn wsX2_faultOfSaying (wsV RX2 64 RX7 yX7_is wsX7_is) := goodIn_app (goodIn_of _ (by decide +kernel)) ggX2_faultOfSaying_X7_is
set_option maxRecDepth 20000 in
theorem ggX2_faultOfSaying_X2_readFactor : GoodIn wsX2_faultOfSaying wsX2_readFactor := goodIn_r _ [80, 1, 2, 20, 3, 73, 74, 75, 8, 76, 12, 13, 14, 15, 16, 17, 18, 19, 4, 21, 22, 23, 24, 25, 26, 27, 28, 29, 30, 31, 32, 33, 34, 35, 36, 81, 82, 83, 84, 10, 11, 41, 48, 49, 50, 45, 51, 47, 52, 53, 54, 55, 85, 86, 87, 88, 89, 90, 91, 92, 93, 37, 38, 39, 40, 42, 43, 44, 46, 56, 57, 58, 59, 60, 61, 62, 63, 64, 65, 66, 67, 68, 69, 70, 71, 72, 94, 95, 96, 97, 98, 99, 100, 101, 102, 103, 104, 105, 106, 107, 108, 109, 110, 111, 112, 113, 114, 115, 116, 117, 118, 119, 120, 121, 122, 123, 124, 125, 126, 127, 128, 129, 130, 131, 132, 133, 134, 135, 148, 149, 150, 151, 152, 153, 154, 155, 156, 157, 158, 159, 160, 161, 162, 163, 164, 165, 166, 167, 168, 169, 170, 171, 172, 173, 174] (by decide +kernel) (by decide +kernel)
set_option maxRecDepth 20000 in
theorem gX2_faultOfSaying_X2_readFactor : GoodIn wsX2_faultOfSaying (wsV RX2 87 RX2 yX2_readFactor wsX2_readFactor) := goodIn_app (goodIn_of _ (by decide +kernel)) ggX2_faultOfSaying_X2_readFactor
set_option maxRecDepth 20000 in
theorem ggX2_faultOfSaying_X2_readBehindFactor : GoodIn wsX2_faultOfSaying wsX2_readBehindFactor := goodIn_r _ [139, 1, 4, 18, 2, 19, 20, 73, 74, 75, 8, 76, 12, 140, 141, 142, 16, 143, 135, 54, 23, 55, 21, 22, 24, 25, 26, 27, 28, 29, 30, 31, 32, 33, 34, 35, 36, 131, 132, 133, 134, 148, 149, 150, 151, 152, 153, 154, 155, 156, 157, 158, 159, 160, 161, 162, 163, 164, 165, 166] (by decide +kernel) (by decide +kernel)
set_option maxRecDepth 20000 in
theorem gX2_faultOfSaying_X2_readBehindFactor : GoodIn wsX2_faultOfSaying (wsV RX2 90 RX2 yX2_readBehindFactor wsX2_readBehindFactor) := goodIn_app (goodIn_of _ (by decide +kernel)) ggX2_faultOfSaying_X2_readBehindFactor
set_option maxRecDepth 20000 in
theorem ggX2_faultOfSaying_X7_place : GoodIn wsX2_faultOfSaying wsX7_place := goodIn_r _ [147, 11, 157, 158, 159, 160] (by decide +kernel) (by decide +kernel)
set_option maxRecDepth 20000 in
theorem gX2_faultOfSaying_X7_place : GoodIn wsX2_faultOfSaying (wsV RX2 72 RX7 yX7_place wsX7_place) := goodIn_app (goodIn_of _ (by decide +kernel)) ggX2_faultOfSaying_X7_place
theorem dX2_faultOfSaying_0 : decode cX2_faultOfSaying 0 = .ok (.aload_n 0, 1) := by decide +kernel
theorem dX2_faultOfSaying_1 : decode cX2_faultOfSaying 1 = .ok (.getfield 40, 3) := by decide +kernel
theorem dX2_faultOfSaying_4 : decode cX2_faultOfSaying 4 = .ok (.invokevirtual 58, 3) := by decide +kernel
theorem dX2_faultOfSaying_7 : decode cX2_faultOfSaying 7 = .ok (.aload_n 0, 1) := by decide +kernel
theorem dX2_faultOfSaying_8 : decode cX2_faultOfSaying 8 = .ok (.iconst 0, 1) := by decide +kernel
theorem dX2_faultOfSaying_9 : decode cX2_faultOfSaying 9 = .ok (.putfield 25, 3) := by decide +kernel
theorem dX2_faultOfSaying_12 : decode cX2_faultOfSaying 12 = .ok (.aload_n 0, 1) := by decide +kernel
theorem dX2_faultOfSaying_13 : decode cX2_faultOfSaying 13 = .ok (.iconst 0, 1) := by decide +kernel
theorem dX2_faultOfSaying_14 : decode cX2_faultOfSaying 14 = .ok (.putfield 28, 3) := by decide +kernel
theorem dX2_faultOfSaying_17 : decode cX2_faultOfSaying 17 = .ok (.aload_n 0, 1) := by decide +kernel
theorem dX2_faultOfSaying_18 : decode cX2_faultOfSaying 18 = .ok (.invokevirtual 82, 3) := by decide +kernel
theorem dX2_faultOfSaying_21 : decode cX2_faultOfSaying 21 = .ok (.iconst 0, 1) := by decide +kernel
theorem dX2_faultOfSaying_22 : decode cX2_faultOfSaying 22 = .ok (.istore_n 1, 1) := by decide +kernel
theorem dX2_faultOfSaying_23 : decode cX2_faultOfSaying 23 = .ok (.iload_n 1, 1) := by decide +kernel
theorem dX2_faultOfSaying_24 : decode cX2_faultOfSaying 24 = .ok (.sipush 200, 3) := by decide +kernel
theorem dX2_faultOfSaying_27 : decode cX2_faultOfSaying 27 = .ok (.if_icmp .gt 74, 3) := by decide +kernel
theorem dX2_faultOfSaying_30 : decode cX2_faultOfSaying 30 = .ok (.aload_n 0, 1) := by decide +kernel
theorem dX2_faultOfSaying_31 : decode cX2_faultOfSaying 31 = .ok (.getfield 40, 3) := by decide +kernel
theorem dX2_faultOfSaying_34 : decode cX2_faultOfSaying 34 = .ok (.invokevirtual 61, 3) := by decide +kernel
theorem dX2_faultOfSaying_37 : decode cX2_faultOfSaying 37 = .ok (.aload_n 0, 1) := by decide +kernel
theorem dX2_faultOfSaying_38 : decode cX2_faultOfSaying 38 = .ok (.getfield 40, 3) := by decide +kernel
theorem dX2_faultOfSaying_41 : decode cX2_faultOfSaying 41 = .ok (.iconst 0, 1) := by decide +kernel
theorem dX2_faultOfSaying_42 : decode cX2_faultOfSaying 42 = .ok (.invokevirtual 64, 3) := by decide +kernel
theorem dX2_faultOfSaying_45 : decode cX2_faultOfSaying 45 = .ok (.ifCond .eq 19, 3) := by decide +kernel
theorem dX2_faultOfSaying_48 : decode cX2_faultOfSaying 48 = .ok (.aload_n 0, 1) := by decide +kernel
theorem dX2_faultOfSaying_49 : decode cX2_faultOfSaying 49 = .ok (.getfield 31, 3) := by decide +kernel
theorem dX2_faultOfSaying_52 : decode cX2_faultOfSaying 52 = .ok (.ifCond .ne 12, 3) := by decide +kernel
theorem dX2_faultOfSaying_55 : decode cX2_faultOfSaying 55 = .ok (.aload_n 0, 1) := by decide +kernel
theorem dX2_faultOfSaying_56 : decode cX2_faultOfSaying 56 = .ok (.getfield 25, 3) := by decide +kernel
theorem dX2_faultOfSaying_59 : decode cX2_faultOfSaying 59 = .ok (.ifCond .ne 5, 3) := by decide +kernel
theorem dX2_faultOfSaying_62 : decode cX2_faultOfSaying 62 = .ok (.iconst (-1), 1) := by decide +kernel
theorem dX2_faultOfSaying_63 : decode cX2_faultOfSaying 63 = .ok (.ireturn, 1) := by decide +kernel
theorem dX2_faultOfSaying_64 : decode cX2_faultOfSaying 64 = .ok (.aload_n 0, 1) := by decide +kernel
theorem dX2_faultOfSaying_65 : decode cX2_faultOfSaying 65 = .ok (.getfield 31, 3) := by decide +kernel
theorem dX2_faultOfSaying_68 : decode cX2_faultOfSaying 68 = .ok (.ifCond .eq 10, 3) := by decide +kernel
theorem dX2_faultOfSaying_71 : decode cX2_faultOfSaying 71 = .ok (.aload_n 0, 1) := by decide +kernel
theorem dX2_faultOfSaying_72 : decode cX2_faultOfSaying 72 = .ok (.invokevirtual 87, 3) := by decide +kernel
theorem dX2_faultOfSaying_75 : decode cX2_faultOfSaying 75 = .ok (.goto 7, 3) := by decide +kernel
theorem dX2_faultOfSaying_78 : decode cX2_faultOfSaying 78 = .ok (.aload_n 0, 1) := by decide +kernel
theorem dX2_faultOfSaying_79 : decode cX2_faultOfSaying 79 = .ok (.invokevirtual 90, 3) := by decide +kernel
theorem dX2_faultOfSaying_82 : decode cX2_faultOfSaying 82 = .ok (.istore_n 2, 1) := by decide +kernel
theorem dX2_faultOfSaying_83 : decode cX2_faultOfSaying 83 = .ok (.iload_n 2, 1) := by decide +kernel
theorem dX2_faultOfSaying_84 : decode cX2_faultOfSaying 84 = .ok (.ifCond .ne 11, 3) := by decide +kernel
theorem dX2_faultOfSaying_87 : decode cX2_faultOfSaying 87 = .ok (.aload_n 0, 1) := by decide +kernel
theorem dX2_faultOfSaying_88 : decode cX2_faultOfSaying 88 = .ok (.getfield 40, 3) := by decide +kernel
theorem dX2_faultOfSaying_91 : decode cX2_faultOfSaying 91 = .ok (.invokevirtual 72, 3) := by decide +kernel
theorem dX2_faultOfSaying_94 : decode cX2_faultOfSaying 94 = .ok (.ireturn, 1) := by decide +kernel
theorem dX2_faultOfSaying_95 : decode cX2_faultOfSaying 95 = .ok (.iinc 1 1, 3) := by decide +kernel
theorem dX2_faultOfSaying_98 : decode cX2_faultOfSaying 98 = .ok (.goto (-75), 3) := by decide +kernel
theorem dX2_faultOfSaying_101 : decode cX2_faultOfSaying 101 = .ok (.aload_n 0, 1) := by decide +kernel
theorem dX2_faultOfSaying_102 : decode cX2_faultOfSaying 102 = .ok (.getfield 40, 3) := by decide +kernel
theorem dX2_faultOfSaying_105 : decode cX2_faultOfSaying 105 = .ok (.invokevirtual 72, 3) := by decide +kernel
theorem dX2_faultOfSaying_108 : decode cX2_faultOfSaying 108 = .ok (.ireturn, 1) := by decide +kernel
set_option maxRecDepth 20000 in
theorem ggX2_readFactor_X7_is : GoodIn wsX2_readFactor wsX7_is := goodIn_r _ [9, 10, 137, 138, 139, 140] (by decide +kernel) (by decide +kernel)
set_option maxRecDepth 20000 in
theorem gX2_readFactor_X7_is : GoodIn wsX2_readFactor (wsV RX2 64 RX7 yX7_is wsX7_is) := goodIn_app (goodIn_of _ (by decide +kernel)) ggX2_readFactor_X7_is
set_option maxRecDepth 20000 in
theorem ggX2_readFactor_X2_openLevel : GoodIn wsX2_readFactor wsX2_openLevel := goodIn_r _ [15, 16, 2, 17, 3, 18, 19, 20, 21, 22, 23, 24, 25, 26, 27, 28, 29, 30, 31, 32, 33, 34, 128, 129, 130, 131, 132, 133, 134, 135, 136, 141, 142, 143, 144, 145, 146] (by decide +kernel) (by decide +kernel)
set_option maxRecDepth 20000 in
theorem gX2_readFactor_X2_openLevel : GoodIn wsX2_readFactor (wsV RX2 82 RX2 yX2_openLevel wsX2_openLevel) := goodIn_app (goodIn_of _ (by decide +kernel)) ggX2_readFactor_X2_openLevel
set_option maxRecDepth 20000 in
theorem ggX2_readFactor_X7_letter : GoodIn wsX2_readFactor wsX7_letter := goodIn_r _ [38, 10, 39, 40, 41, 42, 43, 44, 45, 46, 47, 48, 49, 50, 21, 51, 137, 138, 139, 140, 147, 148] (by decide +kernel) (by decide +kernel)
set_option maxRecDepth 20000 in
theorem gX2_readFactor_X7_letter : GoodIn wsX2_readFactor (wsV RX2 93 RX7 yX7_letter wsX7_letter) := goodIn_app (goodIn_of _ (by decide +kernel)) ggX2_readFactor_X7_letter
set_option maxRecDepth 20000 in
theorem ggX2_readFactor_X5_groupOf : GoodIn wsX2_readFactor wsX5_groupOf := goodIn_r _ [55, 28, 56, 57, 58, 32, 59, 60, 141, 142, 143, 144, 145, 146] (by decide +kernel) (by decide +kernel)
set_option maxRecDepth 20000 in
theorem gX2_readFactor_X5_groupOf : GoodIn wsX2_readFactor (wsV RX2 96 RX5 yX5_groupOf wsX5_groupOf) := goodIn_app (goodIn_of _ (by decide +kernel)) ggX2_readFactor_X5_groupOf
set_option maxRecDepth 20000 in
theorem ggX2_readFactor_X7_step : GoodIn wsX2_readFactor wsX7_step := goodIn_r _ [64, 39, 41, 40, 10, 65, 66, 67, 45, 68, 47, 42, 43, 44, 46, 48, 49, 50, 21, 51, 69, 70, 8, 71, 72, 73, 74, 75, 76, 77, 78, 79, 80, 81, 82, 83, 84, 85, 137, 138, 139, 140, 147, 148] (by decide +kernel) (by decide +kernel)
set_option maxRecDepth 20000 in
theorem gX2_readFactor_X7_step : GoodIn wsX2_readFactor (wsV RX2 61 RX7 yX7_step wsX7_step) := goodIn_app (goodIn_of _ (by decide +kernel)) ggX2_readFactor_X7_step
set_option maxRecDepth 20000 in
theorem ggX2_readFactor_X7_number : GoodIn wsX2_readFactor wsX7_number := goodIn_r _ [89, 39, 40, 10, 41, 42, 43, 44, 45, 46, 47, 48, 49, 50, 21, 51, 137, 138, 139, 140, 147, 148] (by decide +kernel) (by decide +kernel)
set_option maxRecDepth 20000 in
theorem gX2_readFactor_X7_number : GoodIn wsX2_readFactor (wsV RX2 75 RX7 yX7_number wsX7_number) := goodIn_app (goodIn_of _ (by decide +kernel)) ggX2_readFactor_X7_number
set_option maxRecDepth 20000 in
theorem ggX2_readFactor_X5_many : GoodIn wsX2_readFactor wsX5_many := goodIn_r _ [93, 94, 28, 95, 96, 97, 98, 99, 100, 101, 102, 103, 32, 104, 105, 106, 57, 58, 59, 60, 107, 50, 21, 51, 141, 142, 149, 150, 151, 152, 153, 154, 143, 144, 145, 146] (by decide +kernel) (by decide +kernel)
set_option maxRecDepth 20000 in
theorem gX2_readFactor_X5_many : GoodIn wsX2_readFactor (wsV RX2 102 RX5 yX5_many wsX5_many) := goodIn_app (goodIn_of _ (by decide +kernel)) ggX2_readFactor_X5_many
set_option maxRecDepth 20000 in
theorem ggX2_readFactor_X5_leftBy : GoodIn wsX2_readFactor wsX5_leftBy := goodIn_r _ [111, 94, 28, 112, 113, 114, 98, 115, 116, 117, 50, 21, 51, 118, 119, 120, 32, 121, 122, 107, 141, 142, 149, 150, 151, 152, 153, 154, 143, 144, 145, 146] (by decide +kernel) (by decide +kernel)
set_option maxRecDepth 20000 in
theorem gX2_readFactor_X5_leftBy : GoodIn wsX2_readFactor (wsV RX2 104 RX5 yX5_leftBy wsX5_leftBy) := goodIn_app (goodIn_of _ (by decide +kernel)) ggX2_readFactor_X5_leftBy
set_option maxRecDepth 20000 in
theorem ggX2_readFactor_X2_addFactor : GoodIn wsX2_readFactor wsX2_addFactor := goodIn_r _ [126, 17, 2, 18, 127, 50, 21, 51, 19, 20, 22, 128, 129, 130, 131, 132, 133, 134, 135, 136] (by decide +kernel) (by decide +kernel)
set_option maxRecDepth 20000 in
theorem gX2_readFactor_X2_addFactor : GoodIn wsX2_readFactor (wsV RX2 108 RX2 yX2_addFactor wsX2_addFactor) := goodIn_app (goodIn_of _ (by decide +kernel)) ggX2_readFactor_X2_addFactor
theorem dX2_readFactor_0 : decode cX2_readFactor 0 = .ok (.aload_n 0, 1) := by decide +kernel
theorem dX2_readFactor_1 : decode cX2_readFactor 1 = .ok (.getfield 40, 3) := by decide +kernel
theorem dX2_readFactor_4 : decode cX2_readFactor 4 = .ok (.bipush 40, 2) := by decide +kernel
theorem dX2_readFactor_6 : decode cX2_readFactor 6 = .ok (.invokevirtual 64, 3) := by decide +kernel
theorem dX2_readFactor_9 : decode cX2_readFactor 9 = .ok (.ifCond .eq 30, 3) := by decide +kernel
theorem dX2_readFactor_12 : decode cX2_readFactor 12 = .ok (.aload_n 0, 1) := by decide +kernel
theorem dX2_readFactor_13 : decode cX2_readFactor 13 = .ok (.getfield 25, 3) := by decide +kernel
theorem dX2_readFactor_16 : decode cX2_readFactor 16 = .ok (.bipush 9, 2) := by decide +kernel
theorem dX2_readFactor_18 : decode cX2_readFactor 18 = .ok (.if_icmp .ne 5, 3) := by decide +kernel
theorem dX2_readFactor_21 : decode cX2_readFactor 21 = .ok (.iconst 0, 1) := by decide +kernel
theorem dX2_readFactor_22 : decode cX2_readFactor 22 = .ok (.ireturn, 1) := by decide +kernel
theorem dX2_readFactor_23 : decode cX2_readFactor 23 = .ok (.aload_n 0, 1) := by decide +kernel
theorem dX2_readFactor_24 : decode cX2_readFactor 24 = .ok (.dup, 1) := by decide +kernel
theorem dX2_readFactor_25 : decode cX2_readFactor 25 = .ok (.getfield 25, 3) := by decide +kernel
theorem dX2_readFactor_28 : decode cX2_readFactor 28 = .ok (.iconst 1, 1) := by decide +kernel
theorem dX2_readFactor_29 : decode cX2_readFactor 29 = .ok (.iadd, 1) := by decide +kernel
theorem dX2_readFactor_30 : decode cX2_readFactor 30 = .ok (.putfield 25, 3) := by decide +kernel
theorem dX2_readFactor_33 : decode cX2_readFactor 33 = .ok (.aload_n 0, 1) := by decide +kernel
theorem dX2_readFactor_34 : decode cX2_readFactor 34 = .ok (.invokevirtual 82, 3) := by decide +kernel
theorem dX2_readFactor_37 : decode cX2_readFactor 37 = .ok (.iconst 1, 1) := by decide +kernel
theorem dX2_readFactor_38 : decode cX2_readFactor 38 = .ok (.ireturn, 1) := by decide +kernel
theorem dX2_readFactor_39 : decode cX2_readFactor 39 = .ok (.aload_n 0, 1) := by decide +kernel
theorem dX2_readFactor_40 : decode cX2_readFactor 40 = .ok (.getfield 44, 3) := by decide +kernel
theorem dX2_readFactor_43 : decode cX2_readFactor 43 = .ok (.aload_n 0, 1) := by decide +kernel
theorem dX2_readFactor_44 : decode cX2_readFactor 44 = .ok (.getfield 40, 3) := by decide +kernel
theorem dX2_readFactor_47 : decode cX2_readFactor 47 = .ok (.invokevirtual 93, 3) := by decide +kernel
theorem dX2_readFactor_50 : decode cX2_readFactor 50 = .ok (.invokevirtual 96, 3) := by decide +kernel
theorem dX2_readFactor_53 : decode cX2_readFactor 53 = .ok (.istore_n 1, 1) := by decide +kernel
theorem dX2_readFactor_54 : decode cX2_readFactor 54 = .ok (.iload_n 1, 1) := by decide +kernel
theorem dX2_readFactor_55 : decode cX2_readFactor 55 = .ok (.iconst (-1), 1) := by decide +kernel
theorem dX2_readFactor_56 : decode cX2_readFactor 56 = .ok (.if_icmp .ne 5, 3) := by decide +kernel
theorem dX2_readFactor_59 : decode cX2_readFactor 59 = .ok (.iconst 0, 1) := by decide +kernel
theorem dX2_readFactor_60 : decode cX2_readFactor 60 = .ok (.ireturn, 1) := by decide +kernel
theorem dX2_readFactor_61 : decode cX2_readFactor 61 = .ok (.aload_n 0, 1) := by decide +kernel
theorem dX2_readFactor_62 : decode cX2_readFactor 62 = .ok (.getfield 40, 3) := by decide +kernel
theorem dX2_readFactor_65 : decode cX2_readFactor 65 = .ok (.invokevirtual 61, 3) := by decide +kernel
theorem dX2_readFactor_68 : decode cX2_readFactor 68 = .ok (.aload_n 0, 1) := by decide +kernel
theorem dX2_readFactor_69 : decode cX2_readFactor 69 = .ok (.getfield 40, 3) := by decide +kernel
theorem dX2_readFactor_72 : decode cX2_readFactor 72 = .ok (.invokevirtual 75, 3) := by decide +kernel
theorem dX2_readFactor_75 : decode cX2_readFactor 75 = .ok (.istore_n 2, 1) := by decide +kernel
theorem dX2_readFactor_76 : decode cX2_readFactor 76 = .ok (.iload_n 2, 1) := by decide +kernel
theorem dX2_readFactor_77 : decode cX2_readFactor 77 = .ok (.ifCond .lt 15, 3) := by decide +kernel
theorem dX2_readFactor_80 : decode cX2_readFactor 80 = .ok (.iload_n 2, 1) := by decide +kernel
theorem dX2_readFactor_81 : decode cX2_readFactor 81 = .ok (.aload_n 0, 1) := by decide +kernel
theorem dX2_readFactor_82 : decode cX2_readFactor 82 = .ok (.getfield 44, 3) := by decide +kernel
theorem dX2_readFactor_85 : decode cX2_readFactor 85 = .ok (.iload_n 1, 1) := by decide +kernel
theorem dX2_readFactor_86 : decode cX2_readFactor 86 = .ok (.invokevirtual 102, 3) := by decide +kernel
theorem dX2_readFactor_89 : decode cX2_readFactor 89 = .ok (.if_icmp .lt 5, 3) := by decide +kernel
theorem dX2_readFactor_92 : decode cX2_readFactor 92 = .ok (.iconst 0, 1) := by decide +kernel
theorem dX2_readFactor_93 : decode cX2_readFactor 93 = .ok (.ireturn, 1) := by decide +kernel
theorem dX2_readFactor_94 : decode cX2_readFactor 94 = .ok (.aload_n 0, 1) := by decide +kernel
theorem dX2_readFactor_95 : decode cX2_readFactor 95 = .ok (.aload_n 0, 1) := by decide +kernel
theorem dX2_readFactor_96 : decode cX2_readFactor 96 = .ok (.getfield 44, 3) := by decide +kernel
theorem dX2_readFactor_99 : decode cX2_readFactor 99 = .ok (.iload_n 1, 1) := by decide +kernel
theorem dX2_readFactor_100 : decode cX2_readFactor 100 = .ok (.iload_n 2, 1) := by decide +kernel
theorem dX2_readFactor_101 : decode cX2_readFactor 101 = .ok (.invokevirtual 104, 3) := by decide +kernel
theorem dX2_readFactor_104 : decode cX2_readFactor 104 = .ok (.invokevirtual 108, 3) := by decide +kernel
theorem dX2_readFactor_107 : decode cX2_readFactor 107 = .ok (.aload_n 0, 1) := by decide +kernel
theorem dX2_readFactor_108 : decode cX2_readFactor 108 = .ok (.dup, 1) := by decide +kernel
theorem dX2_readFactor_109 : decode cX2_readFactor 109 = .ok (.getfield 28, 3) := by decide +kernel
theorem dX2_readFactor_112 : decode cX2_readFactor 112 = .ok (.iconst 1, 1) := by decide +kernel
theorem dX2_readFactor_113 : decode cX2_readFactor 113 = .ok (.iadd, 1) := by decide +kernel
theorem dX2_readFactor_114 : decode cX2_readFactor 114 = .ok (.putfield 28, 3) := by decide +kernel
theorem dX2_readFactor_117 : decode cX2_readFactor 117 = .ok (.iconst 1, 1) := by decide +kernel
theorem dX2_readFactor_118 : decode cX2_readFactor 118 = .ok (.ireturn, 1) := by decide +kernel
set_option maxRecDepth 20000 in
theorem ggX2_readBehindFactor_X7_is : GoodIn wsX2_readBehindFactor wsX7_is := goodIn_r _ [11, 12, 50, 51, 52, 53] (by decide +kernel) (by decide +kernel)
set_option maxRecDepth 20000 in
theorem gX2_readBehindFactor_X7_is : GoodIn wsX2_readBehindFactor (wsV RX2 64 RX7 yX7_is wsX7_is) := goodIn_app (goodIn_of _ (by decide +kernel)) ggX2_readBehindFactor_X7_is
set_option maxRecDepth 20000 in
theorem ggX2_readBehindFactor_X2_levelLeft : GoodIn wsX2_readBehindFactor wsX2_levelLeft := goodIn_r _ [17, 3, 4, 5, 18, 19, 20, 21, 41, 42, 43, 44, 45, 46, 47, 48, 49] (by decide +kernel) (by decide +kernel)
set_option maxRecDepth 20000 in
theorem gX2_readBehindFactor_X2_levelLeft : GoodIn wsX2_readBehindFactor (wsV RX2 54 RX2 yX2_levelLeft wsX2_levelLeft) := goodIn_app (goodIn_of _ (by decide +kernel)) ggX2_readBehindFactor_X2_levelLeft
set_option maxRecDepth 20000 in
theorem ggX2_readBehindFactor_X4_put : GoodIn wsX2_readBehindFactor wsX4_put := goodIn_r _ [24] (by decide +kernel) (by decide +kernel)
set_option maxRecDepth 20000 in
theorem gX2_readBehindFactor_X4_put : GoodIn wsX2_readBehindFactor (va_wsS RX2 78 yX4_put wsX4_put) := goodIn_app (goodIn_of _ (by decide +kernel)) ggX2_readBehindFactor_X4_put
set_option maxRecDepth 20000 in
theorem ggX2_readBehindFactor_X5_speech : GoodIn wsX2_readBehindFactor wsX5_speech := goodIn_r _ [29, 30, 54, 55] (by decide +kernel) (by decide +kernel)
set_option maxRecDepth 20000 in
theorem gX2_readBehindFactor_X5_speech : GoodIn wsX2_readBehindFactor (wsV RX2 112 RX5 yX5_speech wsX5_speech) := goodIn_app (goodIn_of _ (by decide +kernel)) ggX2_readBehindFactor_X5_speech
set_option maxRecDepth 20000 in
theorem ggX2_readBehindFactor_X8_all : GoodIn wsX2_readBehindFactor wsX8_all := goodIn_r _ [35, 36, 56, 57, 58, 59] (by decide +kernel) (by decide +kernel)
set_option maxRecDepth 20000 in
theorem gX2_readBehindFactor_X8_all : GoodIn wsX2_readBehindFactor (wsV RX2 116 RX8 yX8_all wsX8_all) := goodIn_app (goodIn_of _ (by decide +kernel)) ggX2_readBehindFactor_X8_all
set_option maxRecDepth 20000 in
theorem ggX2_readBehindFactor_X2_addFactor : GoodIn wsX2_readBehindFactor wsX2_addFactor := goodIn_r _ [40, 5, 4, 2, 18, 19, 20, 21, 22, 23, 24, 41, 42, 43, 44, 45, 46, 47, 48, 49] (by decide +kernel) (by decide +kernel)
set_option maxRecDepth 20000 in
theorem gX2_readBehindFactor_X2_addFactor : GoodIn wsX2_readBehindFactor (wsV RX2 108 RX2 yX2_addFactor wsX2_addFactor) := goodIn_app (goodIn_of _ (by decide +kernel)) ggX2_readBehindFactor_X2_addFactor
theorem dX2_readBehindFactor_0 : decode cX2_readBehindFactor 0 = .ok (.aload_n 0, 1) := by decide +kernel
theorem dX2_readBehindFactor_1 : decode cX2_readBehindFactor 1 = .ok (.getfield 40, 3) := by decide +kernel
theorem dX2_readBehindFactor_4 : decode cX2_readBehindFactor 4 = .ok (.bipush 38, 2) := by decide +kernel
theorem dX2_readBehindFactor_6 : decode cX2_readBehindFactor 6 = .ok (.invokevirtual 64, 3) := by decide +kernel
theorem dX2_readBehindFactor_9 : decode cX2_readBehindFactor 9 = .ok (.ifCond .eq 10, 3) := by decide +kernel
theorem dX2_readBehindFactor_12 : decode cX2_readBehindFactor 12 = .ok (.aload_n 0, 1) := by decide +kernel
theorem dX2_readBehindFactor_13 : decode cX2_readBehindFactor 13 = .ok (.iconst 1, 1) := by decide +kernel
theorem dX2_readBehindFactor_14 : decode cX2_readBehindFactor 14 = .ok (.putfield 31, 3) := by decide +kernel
theorem dX2_readBehindFactor_17 : decode cX2_readBehindFactor 17 = .ok (.iconst 1, 1) := by decide +kernel
theorem dX2_readBehindFactor_18 : decode cX2_readBehindFactor 18 = .ok (.ireturn, 1) := by decide +kernel
theorem dX2_readBehindFactor_19 : decode cX2_readBehindFactor 19 = .ok (.aload_n 0, 1) := by decide +kernel
theorem dX2_readBehindFactor_20 : decode cX2_readBehindFactor 20 = .ok (.getfield 40, 3) := by decide +kernel
theorem dX2_readBehindFactor_23 : decode cX2_readBehindFactor 23 = .ok (.bipush 124, 2) := by decide +kernel
theorem dX2_readBehindFactor_25 : decode cX2_readBehindFactor 25 = .ok (.invokevirtual 64, 3) := by decide +kernel
theorem dX2_readBehindFactor_28 : decode cX2_readBehindFactor 28 = .ok (.ifCond .eq 46, 3) := by decide +kernel
theorem dX2_readBehindFactor_31 : decode cX2_readBehindFactor 31 = .ok (.aload_n 0, 1) := by decide +kernel
theorem dX2_readBehindFactor_32 : decode cX2_readBehindFactor 32 = .ok (.getfield 19, 3) := by decide +kernel
theorem dX2_readBehindFactor_35 : decode cX2_readBehindFactor 35 = .ok (.aload_n 0, 1) := by decide +kernel
theorem dX2_readBehindFactor_36 : decode cX2_readBehindFactor 36 = .ok (.getfield 25, 3) := by decide +kernel
theorem dX2_readBehindFactor_39 : decode cX2_readBehindFactor 39 = .ok (.aload_n 0, 1) := by decide +kernel
theorem dX2_readBehindFactor_40 : decode cX2_readBehindFactor 40 = .ok (.invokevirtual 54, 3) := by decide +kernel
theorem dX2_readBehindFactor_43 : decode cX2_readBehindFactor 43 = .ok (.invokestatic 78, 3) := by decide +kernel
theorem dX2_readBehindFactor_46 : decode cX2_readBehindFactor 46 = .ok (.aload_n 0, 1) := by decide +kernel
theorem dX2_readBehindFactor_47 : decode cX2_readBehindFactor 47 = .ok (.getfield 22, 3) := by decide +kernel
theorem dX2_readBehindFactor_50 : decode cX2_readBehindFactor 50 = .ok (.aload_n 0, 1) := by decide +kernel
theorem dX2_readBehindFactor_51 : decode cX2_readBehindFactor 51 = .ok (.getfield 25, 3) := by decide +kernel
theorem dX2_readBehindFactor_54 : decode cX2_readBehindFactor 54 = .ok (.aload_n 0, 1) := by decide +kernel
theorem dX2_readBehindFactor_55 : decode cX2_readBehindFactor 55 = .ok (.getfield 44, 3) := by decide +kernel
theorem dX2_readBehindFactor_58 : decode cX2_readBehindFactor 58 = .ok (.invokevirtual 112, 3) := by decide +kernel
theorem dX2_readBehindFactor_61 : decode cX2_readBehindFactor 61 = .ok (.invokevirtual 116, 3) := by decide +kernel
theorem dX2_readBehindFactor_64 : decode cX2_readBehindFactor 64 = .ok (.invokestatic 78, 3) := by decide +kernel
theorem dX2_readBehindFactor_67 : decode cX2_readBehindFactor 67 = .ok (.aload_n 0, 1) := by decide +kernel
theorem dX2_readBehindFactor_68 : decode cX2_readBehindFactor 68 = .ok (.iconst 1, 1) := by decide +kernel
theorem dX2_readBehindFactor_69 : decode cX2_readBehindFactor 69 = .ok (.putfield 31, 3) := by decide +kernel
theorem dX2_readBehindFactor_72 : decode cX2_readBehindFactor 72 = .ok (.iconst 1, 1) := by decide +kernel
theorem dX2_readBehindFactor_73 : decode cX2_readBehindFactor 73 = .ok (.ireturn, 1) := by decide +kernel
theorem dX2_readBehindFactor_74 : decode cX2_readBehindFactor 74 = .ok (.aload_n 0, 1) := by decide +kernel
theorem dX2_readBehindFactor_75 : decode cX2_readBehindFactor 75 = .ok (.getfield 40, 3) := by decide +kernel
theorem dX2_readBehindFactor_78 : decode cX2_readBehindFactor 78 = .ok (.bipush 41, 2) := by decide +kernel
theorem dX2_readBehindFactor_80 : decode cX2_readBehindFactor 80 = .ok (.invokevirtual 64, 3) := by decide +kernel
theorem dX2_readBehindFactor_83 : decode cX2_readBehindFactor 83 = .ok (.ifCond .eq 32, 3) := by decide +kernel
theorem dX2_readBehindFactor_86 : decode cX2_readBehindFactor 86 = .ok (.aload_n 0, 1) := by decide +kernel
theorem dX2_readBehindFactor_87 : decode cX2_readBehindFactor 87 = .ok (.getfield 25, 3) := by decide +kernel
theorem dX2_readBehindFactor_90 : decode cX2_readBehindFactor 90 = .ok (.ifCond .le 25, 3) := by decide +kernel
theorem dX2_readBehindFactor_93 : decode cX2_readBehindFactor 93 = .ok (.aload_n 0, 1) := by decide +kernel
theorem dX2_readBehindFactor_94 : decode cX2_readBehindFactor 94 = .ok (.invokevirtual 54, 3) := by decide +kernel
theorem dX2_readBehindFactor_97 : decode cX2_readBehindFactor 97 = .ok (.istore_n 1, 1) := by decide +kernel
theorem dX2_readBehindFactor_98 : decode cX2_readBehindFactor 98 = .ok (.aload_n 0, 1) := by decide +kernel
theorem dX2_readBehindFactor_99 : decode cX2_readBehindFactor 99 = .ok (.dup, 1) := by decide +kernel
theorem dX2_readBehindFactor_100 : decode cX2_readBehindFactor 100 = .ok (.getfield 25, 3) := by decide +kernel
theorem dX2_readBehindFactor_103 : decode cX2_readBehindFactor 103 = .ok (.iconst 1, 1) := by decide +kernel
theorem dX2_readBehindFactor_104 : decode cX2_readBehindFactor 104 = .ok (.isub, 1) := by decide +kernel
theorem dX2_readBehindFactor_105 : decode cX2_readBehindFactor 105 = .ok (.putfield 25, 3) := by decide +kernel
theorem dX2_readBehindFactor_108 : decode cX2_readBehindFactor 108 = .ok (.aload_n 0, 1) := by decide +kernel
theorem dX2_readBehindFactor_109 : decode cX2_readBehindFactor 109 = .ok (.iload_n 1, 1) := by decide +kernel
theorem dX2_readBehindFactor_110 : decode cX2_readBehindFactor 110 = .ok (.invokevirtual 108, 3) := by decide +kernel
theorem dX2_readBehindFactor_113 : decode cX2_readBehindFactor 113 = .ok (.iconst 1, 1) := by decide +kernel
theorem dX2_readBehindFactor_114 : decode cX2_readBehindFactor 114 = .ok (.ireturn, 1) := by decide +kernel
theorem dX2_readBehindFactor_115 : decode cX2_readBehindFactor 115 = .ok (.iconst 0, 1) := by decide +kernel
theorem dX2_readBehindFactor_116 : decode cX2_readBehindFactor 116 = .ok (.ireturn, 1) := by decide +kernel
set_option maxRecDepth 20000 in
theorem ggX2_openLevel_X4_put : GoodIn wsX2_openLevel wsX4_put := goodIn_r _ [9] (by decide +kernel) (by decide +kernel)
set_option maxRecDepth 20000 in
theorem gX2_openLevel_X4_put : GoodIn wsX2_openLevel (va_wsS RX2 78 yX4_put wsX4_put) := goodIn_app (goodIn_of _ (by decide +kernel)) ggX2_openLevel_X4_put
set_option maxRecDepth 20000 in
theorem ggX2_openLevel_X5_speech : GoodIn wsX2_openLevel wsX5_speech := goodIn_r _ [14, 15, 31, 32] (by decide +kernel) (by decide +kernel)
set_option maxRecDepth 20000 in
theorem gX2_openLevel_X5_speech : GoodIn wsX2_openLevel (wsV RX2 112 RX5 yX5_speech wsX5_speech) := goodIn_app (goodIn_of _ (by decide +kernel)) ggX2_openLevel_X5_speech
set_option maxRecDepth 20000 in
theorem ggX2_openLevel_X8_all : GoodIn wsX2_openLevel wsX8_all := goodIn_r _ [20, 21, 33, 34, 35, 36] (by decide +kernel) (by decide +kernel)
set_option maxRecDepth 20000 in
theorem gX2_openLevel_X8_all : GoodIn wsX2_openLevel (wsV RX2 116 RX8 yX8_all wsX8_all) := goodIn_app (goodIn_of _ (by decide +kernel)) ggX2_openLevel_X8_all
