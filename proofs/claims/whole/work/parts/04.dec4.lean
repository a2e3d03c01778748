set_option maxRecDepth 20000 in
theorem ggX4_rule_X4_least : GoodIn wsX4_rule wsX4_least := goodIn_r _ [8] (by decide +kernel) (by decide +kernel)
set_option maxRecDepth 20000 in
theorem gX4_rule_X4_least : GoodIn wsX4_rule (va_wsS RX4 66 yX4_least wsX4_least) := goodIn_app (goodIn_of _ (by decide +kernel)) ggX4_rule_X4_least
set_option maxRecDepth 20000 in
theorem ggX4_rule_X4_most : GoodIn wsX4_rule wsX4_most := goodIn_r _ [11] (by decide +kernel) (by decide +kernel)
set_option maxRecDepth 20000 in
theorem gX4_rule_X4_most : GoodIn wsX4_rule (va_wsS RX4 70 yX4_most wsX4_most) := goodIn_app (goodIn_of _ (by decide +kernel)) ggX4_rule_X4_most
theorem dX4_rule_0 : decode cX4_rule 0 = .ok (.iload_n 1, 1) := by decide +kernel
theorem dX4_rule_1 : decode cX4_rule 1 = .ok (.iconst 0, 1) := by decide +kernel
theorem dX4_rule_2 : decode cX4_rule 2 = .ok (.bipush 8, 2) := by decide +kernel
theorem dX4_rule_4 : decode cX4_rule 4 = .ok (.invokestatic 41, 3) := by decide +kernel
theorem dX4_rule_7 : decode cX4_rule 7 = .ok (.ifCond .eq 18, 3) := by decide +kernel
theorem dX4_rule_10 : decode cX4_rule 10 = .ok (.iload_n 2, 1) := by decide +kernel
theorem dX4_rule_11 : decode cX4_rule 11 = .ok (.iload_n 1, 1) := by decide +kernel
theorem dX4_rule_12 : decode cX4_rule 12 = .ok (.invokestatic 66, 3) := by decide +kernel
theorem dX4_rule_15 : decode cX4_rule 15 = .ok (.iload_n 1, 1) := by decide +kernel
theorem dX4_rule_16 : decode cX4_rule 16 = .ok (.invokestatic 70, 3) := by decide +kernel
theorem dX4_rule_19 : decode cX4_rule 19 = .ok (.invokestatic 41, 3) := by decide +kernel
theorem dX4_rule_22 : decode cX4_rule 22 = .ok (.ifCond .ne 6, 3) := by decide +kernel
theorem dX4_rule_25 : decode cX4_rule 25 = .ok (.bipush (-2), 2) := by decide +kernel
theorem dX4_rule_27 : decode cX4_rule 27 = .ok (.ireturn, 1) := by decide +kernel
theorem dX4_rule_28 : decode cX4_rule 28 = .ok (.iload_n 1, 1) := by decide +kernel
theorem dX4_rule_29 : decode cX4_rule 29 = .ok (.ifCond .ne 14, 3) := by decide +kernel
theorem dX4_rule_32 : decode cX4_rule 32 = .ok (.iload_n 2, 1) := by decide +kernel
theorem dX4_rule_33 : decode cX4_rule 33 = .ok (.aload_n 0, 1) := by decide +kernel
theorem dX4_rule_34 : decode cX4_rule 34 = .ok (.getfield 7, 3) := by decide +kernel
theorem dX4_rule_37 : decode cX4_rule 37 = .ok (.bipush 123, 2) := by decide +kernel
theorem dX4_rule_39 : decode cX4_rule 39 = .ok (.iaload, 1) := by decide +kernel
theorem dX4_rule_40 : decode cX4_rule 40 = .ok (.if_icmp .le 19, 3) := by decide +kernel
theorem dX4_rule_43 : decode cX4_rule 43 = .ok (.iload_n 1, 1) := by decide +kernel
theorem dX4_rule_44 : decode cX4_rule 44 = .ok (.iconst 2, 1) := by decide +kernel
theorem dX4_rule_45 : decode cX4_rule 45 = .ok (.if_icmp .ne 17, 3) := by decide +kernel
theorem dX4_rule_48 : decode cX4_rule 48 = .ok (.iload_n 2, 1) := by decide +kernel
theorem dX4_rule_49 : decode cX4_rule 49 = .ok (.aload_n 0, 1) := by decide +kernel
theorem dX4_rule_50 : decode cX4_rule 50 = .ok (.getfield 7, 3) := by decide +kernel
theorem dX4_rule_53 : decode cX4_rule 53 = .ok (.bipush 121, 2) := by decide +kernel
theorem dX4_rule_55 : decode cX4_rule 55 = .ok (.iaload, 1) := by decide +kernel
theorem dX4_rule_56 : decode cX4_rule 56 = .ok (.if_icmp .lt 6, 3) := by decide +kernel
theorem dX4_rule_59 : decode cX4_rule 59 = .ok (.bipush (-2), 2) := by decide +kernel
theorem dX4_rule_61 : decode cX4_rule 61 = .ok (.ireturn, 1) := by decide +kernel
theorem dX4_rule_62 : decode cX4_rule 62 = .ok (.aload_n 0, 1) := by decide +kernel
theorem dX4_rule_63 : decode cX4_rule 63 = .ok (.getfield 7, 3) := by decide +kernel
theorem dX4_rule_66 : decode cX4_rule 66 = .ok (.bipush 121, 2) := by decide +kernel
theorem dX4_rule_68 : decode cX4_rule 68 = .ok (.iload_n 1, 1) := by decide +kernel
theorem dX4_rule_69 : decode cX4_rule 69 = .ok (.iadd, 1) := by decide +kernel
theorem dX4_rule_70 : decode cX4_rule 70 = .ok (.iaload, 1) := by decide +kernel
theorem dX4_rule_71 : decode cX4_rule 71 = .ok (.istore_n 3, 1) := by decide +kernel
theorem dX4_rule_72 : decode cX4_rule 72 = .ok (.aload_n 0, 1) := by decide +kernel
theorem dX4_rule_73 : decode cX4_rule 73 = .ok (.getfield 7, 3) := by decide +kernel
theorem dX4_rule_76 : decode cX4_rule 76 = .ok (.bipush 121, 2) := by decide +kernel
theorem dX4_rule_78 : decode cX4_rule 78 = .ok (.iload_n 1, 1) := by decide +kernel
theorem dX4_rule_79 : decode cX4_rule 79 = .ok (.iadd, 1) := by decide +kernel
theorem dX4_rule_80 : decode cX4_rule 80 = .ok (.iload_n 2, 1) := by decide +kernel
theorem dX4_rule_81 : decode cX4_rule 81 = .ok (.iastore, 1) := by decide +kernel
theorem dX4_rule_82 : decode cX4_rule 82 = .ok (.iload_n 3, 1) := by decide +kernel
theorem dX4_rule_83 : decode cX4_rule 83 = .ok (.ireturn, 1) := by decide +kernel
set_option maxRecDepth 20000 in
theorem ggX4_breaks_X4_many : GoodIn wsX4_breaks wsX4_many := goodIn_r _ [6, 1, 7, 8, 9, 10, 11, 12, 13, 14, 15, 16, 17, 18] (by decide +kernel) (by decide +kernel)
set_option maxRecDepth 20000 in
theorem gX4_breaks_X4_many : GoodIn wsX4_breaks (wsV RX4 45 RX4 yX4_many wsX4_many) := goodIn_app (goodIn_of _ (by decide +kernel)) ggX4_breaks_X4_many
theorem dX4_breaks_0 : decode cX4_breaks 0 = .ok (.iconst 0, 1) := by decide +kernel
theorem dX4_breaks_1 : decode cX4_breaks 1 = .ok (.istore_n 1, 1) := by decide +kernel
theorem dX4_breaks_2 : decode cX4_breaks 2 = .ok (.iconst 0, 1) := by decide +kernel
theorem dX4_breaks_3 : decode cX4_breaks 3 = .ok (.istore_n 2, 1) := by decide +kernel
theorem dX4_breaks_4 : decode cX4_breaks 4 = .ok (.iload_n 2, 1) := by decide +kernel
theorem dX4_breaks_5 : decode cX4_breaks 5 = .ok (.aload_n 0, 1) := by decide +kernel
theorem dX4_breaks_6 : decode cX4_breaks 6 = .ok (.invokevirtual 45, 3) := by decide +kernel
theorem dX4_breaks_9 : decode cX4_breaks 9 = .ok (.if_icmp .ge 21, 3) := by decide +kernel
theorem dX4_breaks_12 : decode cX4_breaks 12 = .ok (.iload_n 1, 1) := by decide +kernel
theorem dX4_breaks_13 : decode cX4_breaks 13 = .ok (.aload_n 0, 1) := by decide +kernel
theorem dX4_breaks_14 : decode cX4_breaks 14 = .ok (.getfield 7, 3) := by decide +kernel
theorem dX4_breaks_17 : decode cX4_breaks 17 = .ok (.bipush 60, 2) := by decide +kernel
theorem dX4_breaks_19 : decode cX4_breaks 19 = .ok (.iload_n 2, 1) := by decide +kernel
theorem dX4_breaks_20 : decode cX4_breaks 20 = .ok (.iadd, 1) := by decide +kernel
theorem dX4_breaks_21 : decode cX4_breaks 21 = .ok (.iaload, 1) := by decide +kernel
theorem dX4_breaks_22 : decode cX4_breaks 22 = .ok (.iadd, 1) := by decide +kernel
theorem dX4_breaks_23 : decode cX4_breaks 23 = .ok (.istore_n 1, 1) := by decide +kernel
theorem dX4_breaks_24 : decode cX4_breaks 24 = .ok (.iinc 2 1, 3) := by decide +kernel
theorem dX4_breaks_27 : decode cX4_breaks 27 = .ok (.goto (-23), 3) := by decide +kernel
theorem dX4_breaks_30 : decode cX4_breaks 30 = .ok (.iload_n 1, 1) := by decide +kernel
theorem dX4_breaks_31 : decode cX4_breaks 31 = .ok (.ireturn, 1) := by decide +kernel
set_option maxRecDepth 20000 in
theorem ggX4_cut_X4_many : GoodIn wsX4_cut wsX4_many := goodIn_r _ [6, 1, 14, 15, 16, 17, 18, 19, 20, 21, 22, 23, 24, 25] (by decide +kernel) (by decide +kernel)
set_option maxRecDepth 20000 in
theorem gX4_cut_X4_many : GoodIn wsX4_cut (wsV RX4 45 RX4 yX4_many wsX4_many) := goodIn_app (goodIn_of _ (by decide +kernel)) ggX4_cut_X4_many
set_option maxRecDepth 20000 in
theorem ggX4_cut_X4_in : GoodIn wsX4_cut wsX4_in := goodIn_r _ [9] (by decide +kernel) (by decide +kernel)
set_option maxRecDepth 20000 in
theorem gX4_cut_X4_in : GoodIn wsX4_cut (va_wsS RX4 41 yX4_in wsX4_in) := goodIn_app (goodIn_of _ (by decide +kernel)) ggX4_cut_X4_in
set_option maxRecDepth 20000 in
theorem ggX4_cut_X4_breaks : GoodIn wsX4_cut wsX4_breaks := goodIn_r _ [13, 1, 2, 3, 4, 5, 6, 14, 15, 16, 17, 18, 19, 20, 21, 22, 23, 24, 25] (by decide +kernel) (by decide +kernel)
set_option maxRecDepth 20000 in
theorem gX4_cut_X4_breaks : GoodIn wsX4_cut (wsV RX4 73 RX4 yX4_breaks wsX4_breaks) := goodIn_app (goodIn_of _ (by decide +kernel)) ggX4_cut_X4_breaks
theorem dX4_cut_0 : decode cX4_cut 0 = .ok (.iload_n 1, 1) := by decide +kernel
theorem dX4_cut_1 : decode cX4_cut 1 = .ok (.iconst 1, 1) := by decide +kernel
theorem dX4_cut_2 : decode cX4_cut 2 = .ok (.aload_n 0, 1) := by decide +kernel
theorem dX4_cut_3 : decode cX4_cut 3 = .ok (.invokevirtual 45, 3) := by decide +kernel
theorem dX4_cut_6 : decode cX4_cut 6 = .ok (.iconst 1, 1) := by decide +kernel
theorem dX4_cut_7 : decode cX4_cut 7 = .ok (.isub, 1) := by decide +kernel
theorem dX4_cut_8 : decode cX4_cut 8 = .ok (.invokestatic 41, 3) := by decide +kernel
theorem dX4_cut_11 : decode cX4_cut 11 = .ok (.ifCond .ne 5, 3) := by decide +kernel
theorem dX4_cut_14 : decode cX4_cut 14 = .ok (.iconst (-1), 1) := by decide +kernel
theorem dX4_cut_15 : decode cX4_cut 15 = .ok (.ireturn, 1) := by decide +kernel
theorem dX4_cut_16 : decode cX4_cut 16 = .ok (.iload_n 2, 1) := by decide +kernel
theorem dX4_cut_17 : decode cX4_cut 17 = .ok (.iconst 0, 1) := by decide +kernel
theorem dX4_cut_18 : decode cX4_cut 18 = .ok (.iconst 1, 1) := by decide +kernel
theorem dX4_cut_19 : decode cX4_cut 19 = .ok (.invokestatic 41, 3) := by decide +kernel
theorem dX4_cut_22 : decode cX4_cut 22 = .ok (.ifCond .ne 6, 3) := by decide +kernel
theorem dX4_cut_25 : decode cX4_cut 25 = .ok (.bipush (-2), 2) := by decide +kernel
theorem dX4_cut_27 : decode cX4_cut 27 = .ok (.ireturn, 1) := by decide +kernel
theorem dX4_cut_28 : decode cX4_cut 28 = .ok (.aload_n 0, 1) := by decide +kernel
theorem dX4_cut_29 : decode cX4_cut 29 = .ok (.getfield 7, 3) := by decide +kernel
theorem dX4_cut_32 : decode cX4_cut 32 = .ok (.bipush 60, 2) := by decide +kernel
theorem dX4_cut_34 : decode cX4_cut 34 = .ok (.iload_n 1, 1) := by decide +kernel
theorem dX4_cut_35 : decode cX4_cut 35 = .ok (.iadd, 1) := by decide +kernel
theorem dX4_cut_36 : decode cX4_cut 36 = .ok (.iload_n 2, 1) := by decide +kernel
theorem dX4_cut_37 : decode cX4_cut 37 = .ok (.iastore, 1) := by decide +kernel
theorem dX4_cut_38 : decode cX4_cut 38 = .ok (.aload_n 0, 1) := by decide +kernel
theorem dX4_cut_39 : decode cX4_cut 39 = .ok (.invokevirtual 73, 3) := by decide +kernel
theorem dX4_cut_42 : decode cX4_cut 42 = .ok (.ireturn, 1) := by decide +kernel
set_option maxRecDepth 20000 in
theorem ggX4_isNew_X4_isChapter : GoodIn wsX4_isNew wsX4_isChapter := goodIn_r _ [5, 6, 7, 4, 8] (by decide +kernel) (by decide +kernel)
set_option maxRecDepth 20000 in
theorem gX4_isNew_X4_isChapter : GoodIn wsX4_isNew (va_wsS RX4 53 yX4_isChapter wsX4_isChapter) := goodIn_app (goodIn_of _ (by decide +kernel)) ggX4_isNew_X4_isChapter
theorem dX4_isNew_0 : decode cX4_isNew 0 = .ok (.aload_n 0, 1) := by decide +kernel
theorem dX4_isNew_1 : decode cX4_isNew 1 = .ok (.getfield 7, 3) := by decide +kernel
theorem dX4_isNew_4 : decode cX4_isNew 4 = .ok (.iconst 0, 1) := by decide +kernel
theorem dX4_isNew_5 : decode cX4_isNew 5 = .ok (.iload_n 1, 1) := by decide +kernel
theorem dX4_isNew_6 : decode cX4_isNew 6 = .ok (.iadd, 1) := by decide +kernel
theorem dX4_isNew_7 : decode cX4_isNew 7 = .ok (.iaload, 1) := by decide +kernel
theorem dX4_isNew_8 : decode cX4_isNew 8 = .ok (.istore_n 3, 1) := by decide +kernel
theorem dX4_isNew_9 : decode cX4_isNew 9 = .ok (.iload_n 2, 1) := by decide +kernel
theorem dX4_isNew_10 : decode cX4_isNew 10 = .ok (.aload_n 0, 1) := by decide +kernel
theorem dX4_isNew_11 : decode cX4_isNew 11 = .ok (.getfield 7, 3) := by decide +kernel
theorem dX4_isNew_14 : decode cX4_isNew 14 = .ok (.bipush 121, 2) := by decide +kernel
theorem dX4_isNew_16 : decode cX4_isNew 16 = .ok (.iaload, 1) := by decide +kernel
theorem dX4_isNew_17 : decode cX4_isNew 17 = .ok (.if_icmp .eq 16, 3) := by decide +kernel
theorem dX4_isNew_20 : decode cX4_isNew 20 = .ok (.aload_n 0, 1) := by decide +kernel
theorem dX4_isNew_21 : decode cX4_isNew 21 = .ok (.getfield 7, 3) := by decide +kernel
theorem dX4_isNew_24 : decode cX4_isNew 24 = .ok (.bipush 60, 2) := by decide +kernel
theorem dX4_isNew_26 : decode cX4_isNew 26 = .ok (.iload_n 1, 1) := by decide +kernel
theorem dX4_isNew_27 : decode cX4_isNew 27 = .ok (.iadd, 1) := by decide +kernel
theorem dX4_isNew_28 : decode cX4_isNew 28 = .ok (.iaload, 1) := by decide +kernel
theorem dX4_isNew_29 : decode cX4_isNew 29 = .ok (.iconst 1, 1) := by decide +kernel
theorem dX4_isNew_30 : decode cX4_isNew 30 = .ok (.if_icmp .ne 5, 3) := by decide +kernel
theorem dX4_isNew_33 : decode cX4_isNew 33 = .ok (.iconst 1, 1) := by decide +kernel
theorem dX4_isNew_34 : decode cX4_isNew 34 = .ok (.ireturn, 1) := by decide +kernel
theorem dX4_isNew_35 : decode cX4_isNew 35 = .ok (.iload_n 3, 1) := by decide +kernel
theorem dX4_isNew_36 : decode cX4_isNew 36 = .ok (.invokestatic 53, 3) := by decide +kernel
theorem dX4_isNew_39 : decode cX4_isNew 39 = .ok (.ifCond .eq 15, 3) := by decide +kernel
theorem dX4_isNew_42 : decode cX4_isNew 42 = .ok (.aload_n 0, 1) := by decide +kernel
theorem dX4_isNew_43 : decode cX4_isNew 43 = .ok (.getfield 7, 3) := by decide +kernel
theorem dX4_isNew_46 : decode cX4_isNew 46 = .ok (.bipush 122, 2) := by decide +kernel
theorem dX4_isNew_48 : decode cX4_isNew 48 = .ok (.iaload, 1) := by decide +kernel
theorem dX4_isNew_49 : decode cX4_isNew 49 = .ok (.ifCond .le 5, 3) := by decide +kernel
theorem dX4_isNew_52 : decode cX4_isNew 52 = .ok (.iconst 1, 1) := by decide +kernel
theorem dX4_isNew_53 : decode cX4_isNew 53 = .ok (.ireturn, 1) := by decide +kernel
theorem dX4_isNew_54 : decode cX4_isNew 54 = .ok (.iload_n 3, 1) := by decide +kernel
theorem dX4_isNew_55 : decode cX4_isNew 55 = .ok (.ifCond .eq 28, 3) := by decide +kernel
theorem dX4_isNew_58 : decode cX4_isNew 58 = .ok (.aload_n 0, 1) := by decide +kernel
theorem dX4_isNew_59 : decode cX4_isNew 59 = .ok (.getfield 7, 3) := by decide +kernel
theorem dX4_isNew_62 : decode cX4_isNew 62 = .ok (.bipush 121, 2) := by decide +kernel
theorem dX4_isNew_64 : decode cX4_isNew 64 = .ok (.iaload, 1) := by decide +kernel
theorem dX4_isNew_65 : decode cX4_isNew 65 = .ok (.iload_n 2, 1) := by decide +kernel
theorem dX4_isNew_66 : decode cX4_isNew 66 = .ok (.isub, 1) := by decide +kernel
theorem dX4_isNew_67 : decode cX4_isNew 67 = .ok (.iconst 1, 1) := by decide +kernel
theorem dX4_isNew_68 : decode cX4_isNew 68 = .ok (.isub, 1) := by decide +kernel
theorem dX4_isNew_69 : decode cX4_isNew 69 = .ok (.aload_n 0, 1) := by decide +kernel
theorem dX4_isNew_70 : decode cX4_isNew 70 = .ok (.getfield 7, 3) := by decide +kernel
theorem dX4_isNew_73 : decode cX4_isNew 73 = .ok (.bipush 123, 2) := by decide +kernel
theorem dX4_isNew_75 : decode cX4_isNew 75 = .ok (.iaload, 1) := by decide +kernel
theorem dX4_isNew_76 : decode cX4_isNew 76 = .ok (.if_icmp .ge 7, 3) := by decide +kernel
theorem dX4_isNew_79 : decode cX4_isNew 79 = .ok (.iconst 1, 1) := by decide +kernel
theorem dX4_isNew_80 : decode cX4_isNew 80 = .ok (.goto 4, 3) := by decide +kernel
theorem dX4_isNew_83 : decode cX4_isNew 83 = .ok (.iconst 0, 1) := by decide +kernel
theorem dX4_isNew_84 : decode cX4_isNew 84 = .ok (.ireturn, 1) := by decide +kernel
theorem dX4_beginPage_0 : decode cX4_beginPage 0 = .ok (.aload_n 0, 1) := by decide +kernel
theorem dX4_beginPage_1 : decode cX4_beginPage 1 = .ok (.dup, 1) := by decide +kernel
theorem dX4_beginPage_2 : decode cX4_beginPage 2 = .ok (.getfield 76, 3) := by decide +kernel
theorem dX4_beginPage_5 : decode cX4_beginPage 5 = .ok (.iconst 1, 1) := by decide +kernel
theorem dX4_beginPage_6 : decode cX4_beginPage 6 = .ok (.iadd, 1) := by decide +kernel
theorem dX4_beginPage_7 : decode cX4_beginPage 7 = .ok (.putfield 76, 3) := by decide +kernel
theorem dX4_beginPage_10 : decode cX4_beginPage 10 = .ok (.aload_n 0, 1) := by decide +kernel
theorem dX4_beginPage_11 : decode cX4_beginPage 11 = .ok (.getfield 32, 3) := by decide +kernel
theorem dX4_beginPage_14 : decode cX4_beginPage 14 = .ok (.aload_n 0, 1) := by decide +kernel
theorem dX4_beginPage_15 : decode cX4_beginPage 15 = .ok (.getfield 76, 3) := by decide +kernel
theorem dX4_beginPage_18 : decode cX4_beginPage 18 = .ok (.bipush (-6), 2) := by decide +kernel
theorem dX4_beginPage_20 : decode cX4_beginPage 20 = .ok (.iastore, 1) := by decide +kernel
theorem dX4_beginPage_21 : decode cX4_beginPage 21 = .ok (.aload_n 0, 1) := by decide +kernel
theorem dX4_beginPage_22 : decode cX4_beginPage 22 = .ok (.getfield 35, 3) := by decide +kernel
theorem dX4_beginPage_25 : decode cX4_beginPage 25 = .ok (.aload_n 0, 1) := by decide +kernel
theorem dX4_beginPage_26 : decode cX4_beginPage 26 = .ok (.getfield 76, 3) := by decide +kernel
theorem dX4_beginPage_29 : decode cX4_beginPage 29 = .ok (.iconst 0, 1) := by decide +kernel
theorem dX4_beginPage_30 : decode cX4_beginPage 30 = .ok (.iastore, 1) := by decide +kernel
theorem dX4_beginPage_31 : decode cX4_beginPage 31 = .ok (.return_, 1) := by decide +kernel
set_option maxRecDepth 20000 in
theorem ggX4_layForce_X4_isChapter : GoodIn wsX4_layForce wsX4_isChapter := goodIn_r _ [6, 7, 8, 5, 9] (by decide +kernel) (by decide +kernel)
set_option maxRecDepth 20000 in
theorem gX4_layForce_X4_isChapter : GoodIn wsX4_layForce (va_wsS RX4 53 yX4_isChapter wsX4_isChapter) := goodIn_app (goodIn_of _ (by decide +kernel)) ggX4_layForce_X4_isChapter
theorem dX4_layForce_0 : decode cX4_layForce 0 = .ok (.aload_n 0, 1) := by decide +kernel
theorem dX4_layForce_1 : decode cX4_layForce 1 = .ok (.getfield 7, 3) := by decide +kernel
theorem dX4_layForce_4 : decode cX4_layForce 4 = .ok (.iconst 0, 1) := by decide +kernel
theorem dX4_layForce_5 : decode cX4_layForce 5 = .ok (.iload_n 1, 1) := by decide +kernel
theorem dX4_layForce_6 : decode cX4_layForce 6 = .ok (.iadd, 1) := by decide +kernel
theorem dX4_layForce_7 : decode cX4_layForce 7 = .ok (.iaload, 1) := by decide +kernel
theorem dX4_layForce_8 : decode cX4_layForce 8 = .ok (.istore_n 2, 1) := by decide +kernel
theorem dX4_layForce_9 : decode cX4_layForce 9 = .ok (.iconst 0, 1) := by decide +kernel
theorem dX4_layForce_10 : decode cX4_layForce 10 = .ok (.istore_n 3, 1) := by decide +kernel
theorem dX4_layForce_11 : decode cX4_layForce 11 = .ok (.iload_n 3, 1) := by decide +kernel
theorem dX4_layForce_12 : decode cX4_layForce 12 = .ok (.iconst 2, 1) := by decide +kernel
theorem dX4_layForce_13 : decode cX4_layForce 13 = .ok (.if_icmp .ge 40, 3) := by decide +kernel
theorem dX4_layForce_16 : decode cX4_layForce 16 = .ok (.aload_n 0, 1) := by decide +kernel
theorem dX4_layForce_17 : decode cX4_layForce 17 = .ok (.getfield 29, 3) := by decide +kernel
theorem dX4_layForce_20 : decode cX4_layForce 20 = .ok (.iconst 2, 1) := by decide +kernel
theorem dX4_layForce_21 : decode cX4_layForce 21 = .ok (.iload_n 1, 1) := by decide +kernel
theorem dX4_layForce_22 : decode cX4_layForce 22 = .ok (.imul, 1) := by decide +kernel
theorem dX4_layForce_23 : decode cX4_layForce 23 = .ok (.iload_n 3, 1) := by decide +kernel
theorem dX4_layForce_24 : decode cX4_layForce 24 = .ok (.iadd, 1) := by decide +kernel
theorem dX4_layForce_25 : decode cX4_layForce 25 = .ok (.iload_n 1, 1) := by decide +kernel
theorem dX4_layForce_26 : decode cX4_layForce 26 = .ok (.ifCond .le 18, 3) := by decide +kernel
theorem dX4_layForce_29 : decode cX4_layForce 29 = .ok (.aload_n 0, 1) := by decide +kernel
theorem dX4_layForce_30 : decode cX4_layForce 30 = .ok (.getfield 29, 3) := by decide +kernel
theorem dX4_layForce_33 : decode cX4_layForce 33 = .ok (.iconst 2, 1) := by decide +kernel
theorem dX4_layForce_34 : decode cX4_layForce 34 = .ok (.iload_n 1, 1) := by decide +kernel
theorem dX4_layForce_35 : decode cX4_layForce 35 = .ok (.imul, 1) := by decide +kernel
theorem dX4_layForce_36 : decode cX4_layForce 36 = .ok (.iconst 2, 1) := by decide +kernel
theorem dX4_layForce_37 : decode cX4_layForce 37 = .ok (.isub, 1) := by decide +kernel
theorem dX4_layForce_38 : decode cX4_layForce 38 = .ok (.iload_n 3, 1) := by decide +kernel
theorem dX4_layForce_39 : decode cX4_layForce 39 = .ok (.iadd, 1) := by decide +kernel
theorem dX4_layForce_40 : decode cX4_layForce 40 = .ok (.iaload, 1) := by decide +kernel
theorem dX4_layForce_41 : decode cX4_layForce 41 = .ok (.goto 5, 3) := by decide +kernel
theorem dX4_layForce_44 : decode cX4_layForce 44 = .ok (.bipush (-6), 2) := by decide +kernel
theorem dX4_layForce_46 : decode cX4_layForce 46 = .ok (.iastore, 1) := by decide +kernel
theorem dX4_layForce_47 : decode cX4_layForce 47 = .ok (.iinc 3 1, 3) := by decide +kernel
theorem dX4_layForce_50 : decode cX4_layForce 50 = .ok (.goto (-39), 3) := by decide +kernel
theorem dX4_layForce_53 : decode cX4_layForce 53 = .ok (.iload_n 2, 1) := by decide +kernel
theorem dX4_layForce_54 : decode cX4_layForce 54 = .ok (.invokestatic 53, 3) := by decide +kernel
theorem dX4_layForce_57 : decode cX4_layForce 57 = .ok (.ifCond .eq 51, 3) := by decide +kernel
theorem dX4_layForce_60 : decode cX4_layForce 60 = .ok (.aload_n 0, 1) := by decide +kernel
theorem dX4_layForce_61 : decode cX4_layForce 61 = .ok (.getfield 29, 3) := by decide +kernel
theorem dX4_layForce_64 : decode cX4_layForce 64 = .ok (.iconst 2, 1) := by decide +kernel
theorem dX4_layForce_65 : decode cX4_layForce 65 = .ok (.iload_n 1, 1) := by decide +kernel
theorem dX4_layForce_66 : decode cX4_layForce 66 = .ok (.imul, 1) := by decide +kernel
theorem dX4_layForce_67 : decode cX4_layForce 67 = .ok (.iload_n 2, 1) := by decide +kernel
theorem dX4_layForce_68 : decode cX4_layForce 68 = .ok (.iastore, 1) := by decide +kernel
theorem dX4_layForce_69 : decode cX4_layForce 69 = .ok (.aload_n 0, 1) := by decide +kernel
theorem dX4_layForce_70 : decode cX4_layForce 70 = .ok (.getfield 29, 3) := by decide +kernel
theorem dX4_layForce_73 : decode cX4_layForce 73 = .ok (.iconst 2, 1) := by decide +kernel
theorem dX4_layForce_74 : decode cX4_layForce 74 = .ok (.iload_n 1, 1) := by decide +kernel
theorem dX4_layForce_75 : decode cX4_layForce 75 = .ok (.imul, 1) := by decide +kernel
theorem dX4_layForce_76 : decode cX4_layForce 76 = .ok (.iconst 1, 1) := by decide +kernel
theorem dX4_layForce_77 : decode cX4_layForce 77 = .ok (.iadd, 1) := by decide +kernel
theorem dX4_layForce_78 : decode cX4_layForce 78 = .ok (.aload_n 0, 1) := by decide +kernel
theorem dX4_layForce_79 : decode cX4_layForce 79 = .ok (.getfield 7, 3) := by decide +kernel
theorem dX4_layForce_82 : decode cX4_layForce 82 = .ok (.bipush 124, 2) := by decide +kernel
theorem dX4_layForce_84 : decode cX4_layForce 84 = .ok (.iaload, 1) := by decide +kernel
theorem dX4_layForce_85 : decode cX4_layForce 85 = .ok (.iconst 1, 1) := by decide +kernel
theorem dX4_layForce_86 : decode cX4_layForce 86 = .ok (.if_icmp .ne 8, 3) := by decide +kernel
theorem dX4_layForce_89 : decode cX4_layForce 89 = .ok (.bipush (-6), 2) := by decide +kernel
theorem dX4_layForce_91 : decode cX4_layForce 91 = .ok (.goto 13, 3) := by decide +kernel
theorem dX4_layForce_94 : decode cX4_layForce 94 = .ok (.aload_n 0, 1) := by decide +kernel
theorem dX4_layForce_95 : decode cX4_layForce 95 = .ok (.getfield 29, 3) := by decide +kernel
theorem dX4_layForce_98 : decode cX4_layForce 98 = .ok (.iconst 2, 1) := by decide +kernel
theorem dX4_layForce_99 : decode cX4_layForce 99 = .ok (.iload_n 1, 1) := by decide +kernel
theorem dX4_layForce_100 : decode cX4_layForce 100 = .ok (.imul, 1) := by decide +kernel
theorem dX4_layForce_101 : decode cX4_layForce 101 = .ok (.iconst 1, 1) := by decide +kernel
theorem dX4_layForce_102 : decode cX4_layForce 102 = .ok (.iadd, 1) := by decide +kernel
theorem dX4_layForce_103 : decode cX4_layForce 103 = .ok (.iaload, 1) := by decide +kernel
theorem dX4_layForce_104 : decode cX4_layForce 104 = .ok (.iastore, 1) := by decide +kernel
theorem dX4_layForce_105 : decode cX4_layForce 105 = .ok (.goto 18, 3) := by decide +kernel
theorem dX4_layForce_108 : decode cX4_layForce 108 = .ok (.iload_n 2, 1) := by decide +kernel
theorem dX4_layForce_109 : decode cX4_layForce 109 = .ok (.ifCond .eq 14, 3) := by decide +kernel
theorem dX4_layForce_112 : decode cX4_layForce 112 = .ok (.aload_n 0, 1) := by decide +kernel
theorem dX4_layForce_113 : decode cX4_layForce 113 = .ok (.getfield 29, 3) := by decide +kernel
theorem dX4_layForce_116 : decode cX4_layForce 116 = .ok (.iconst 2, 1) := by decide +kernel
theorem dX4_layForce_117 : decode cX4_layForce 117 = .ok (.iload_n 1, 1) := by decide +kernel
theorem dX4_layForce_118 : decode cX4_layForce 118 = .ok (.imul, 1) := by decide +kernel
theorem dX4_layForce_119 : decode cX4_layForce 119 = .ok (.iconst 1, 1) := by decide +kernel
theorem dX4_layForce_120 : decode cX4_layForce 120 = .ok (.iadd, 1) := by decide +kernel
theorem dX4_layForce_121 : decode cX4_layForce 121 = .ok (.iload_n 2, 1) := by decide +kernel
theorem dX4_layForce_122 : decode cX4_layForce 122 = .ok (.iastore, 1) := by decide +kernel
theorem dX4_layForce_123 : decode cX4_layForce 123 = .ok (.return_, 1) := by decide +kernel
set_option maxRecDepth 20000 in
theorem ggX4_layPages_X4_many : GoodIn wsX4_layPages wsX4_many := goodIn_r _ [11, 3, 31, 32, 33, 34, 35, 36, 37, 38, 39, 40, 41, 42] (by decide +kernel) (by decide +kernel)
set_option maxRecDepth 20000 in
theorem gX4_layPages_X4_many : GoodIn wsX4_layPages (wsV RX4 45 RX4 yX4_many wsX4_many) := goodIn_app (goodIn_of _ (by decide +kernel)) ggX4_layPages_X4_many
set_option maxRecDepth 20000 in
theorem ggX4_layPages_X4_beginPage : GoodIn wsX4_layPages wsX4_beginPage := goodIn_r _ [15, 1, 6, 2, 31, 32, 33, 34, 35, 36, 37, 38, 39, 40, 41, 42] (by decide +kernel) (by decide +kernel)
set_option maxRecDepth 20000 in
theorem gX4_layPages_X4_beginPage : GoodIn wsX4_layPages (wsV RX4 79 RX4 yX4_beginPage wsX4_beginPage) := goodIn_app (goodIn_of _ (by decide +kernel)) ggX4_layPages_X4_beginPage
set_option maxRecDepth 20000 in
theorem ggX4_layPages_X4_isNew : GoodIn wsX4_layPages wsX4_isNew := goodIn_r _ [19, 3, 20, 21, 10, 22, 23, 24, 25, 31, 32, 33, 34, 35, 36, 37, 38, 39, 40, 41, 42] (by decide +kernel) (by decide +kernel)
set_option maxRecDepth 20000 in
theorem gX4_layPages_X4_isNew : GoodIn wsX4_layPages (wsV RX4 82 RX4 yX4_isNew wsX4_isNew) := goodIn_app (goodIn_of _ (by decide +kernel)) ggX4_layPages_X4_isNew
set_option maxRecDepth 20000 in
theorem ggX4_layPages_X4_isChapter : GoodIn wsX4_layPages wsX4_isChapter := goodIn_r _ [22, 23, 24, 10, 25] (by decide +kernel) (by decide +kernel)
set_option maxRecDepth 20000 in
theorem gX4_layPages_X4_isChapter : GoodIn wsX4_layPages (va_wsS RX4 53 yX4_isChapter wsX4_isChapter) := goodIn_app (goodIn_of _ (by decide +kernel)) ggX4_layPages_X4_isChapter
set_option maxRecDepth 20000 in
theorem ggX4_layPages_X4_layForce : GoodIn wsX4_layPages wsX4_layForce := goodIn_r _ [29, 3, 30, 20, 21, 10, 22, 23, 24, 25, 31, 32, 33, 34, 35, 36, 37, 38, 39, 40, 41, 42] (by decide +kernel) (by decide +kernel)
set_option maxRecDepth 20000 in
theorem gX4_layPages_X4_layForce : GoodIn wsX4_layPages (wsV RX4 86 RX4 yX4_layForce wsX4_layForce) := goodIn_app (goodIn_of _ (by decide +kernel)) ggX4_layPages_X4_layForce
theorem dX4_layPages_0 : decode cX4_layPages 0 = .ok (.aload_n 0, 1) := by decide +kernel
theorem dX4_layPages_1 : decode cX4_layPages 1 = .ok (.iconst 0, 1) := by decide +kernel
theorem dX4_layPages_2 : decode cX4_layPages 2 = .ok (.putfield 76, 3) := by decide +kernel
theorem dX4_layPages_5 : decode cX4_layPages 5 = .ok (.iconst 0, 1) := by decide +kernel
theorem dX4_layPages_6 : decode cX4_layPages 6 = .ok (.istore_n 1, 1) := by decide +kernel
theorem dX4_layPages_7 : decode cX4_layPages 7 = .ok (.iload_n 1, 1) := by decide +kernel
theorem dX4_layPages_8 : decode cX4_layPages 8 = .ok (.aload_n 0, 1) := by decide +kernel
theorem dX4_layPages_9 : decode cX4_layPages 9 = .ok (.invokevirtual 45, 3) := by decide +kernel
theorem dX4_layPages_12 : decode cX4_layPages 12 = .ok (.if_icmp .ge 156, 3) := by decide +kernel
theorem dX4_layPages_15 : decode cX4_layPages 15 = .ok (.iload_n 1, 1) := by decide +kernel
theorem dX4_layPages_16 : decode cX4_layPages 16 = .ok (.ifCond .ne 10, 3) := by decide +kernel
theorem dX4_layPages_19 : decode cX4_layPages 19 = .ok (.aload_n 0, 1) := by decide +kernel
theorem dX4_layPages_20 : decode cX4_layPages 20 = .ok (.invokevirtual 79, 3) := by decide +kernel
theorem dX4_layPages_23 : decode cX4_layPages 23 = .ok (.goto 62, 3) := by decide +kernel
theorem dX4_layPages_26 : decode cX4_layPages 26 = .ok (.aload_n 0, 1) := by decide +kernel
theorem dX4_layPages_27 : decode cX4_layPages 27 = .ok (.iload_n 1, 1) := by decide +kernel
theorem dX4_layPages_28 : decode cX4_layPages 28 = .ok (.aload_n 0, 1) := by decide +kernel
theorem dX4_layPages_29 : decode cX4_layPages 29 = .ok (.getfield 35, 3) := by decide +kernel
theorem dX4_layPages_32 : decode cX4_layPages 32 = .ok (.aload_n 0, 1) := by decide +kernel
theorem dX4_layPages_33 : decode cX4_layPages 33 = .ok (.getfield 76, 3) := by decide +kernel
theorem dX4_layPages_36 : decode cX4_layPages 36 = .ok (.iaload, 1) := by decide +kernel
theorem dX4_layPages_37 : decode cX4_layPages 37 = .ok (.invokevirtual 82, 3) := by decide +kernel
theorem dX4_layPages_40 : decode cX4_layPages 40 = .ok (.ifCond .eq 45, 3) := by decide +kernel
theorem dX4_layPages_43 : decode cX4_layPages 43 = .ok (.aload_n 0, 1) := by decide +kernel
theorem dX4_layPages_44 : decode cX4_layPages 44 = .ok (.invokevirtual 79, 3) := by decide +kernel
theorem dX4_layPages_47 : decode cX4_layPages 47 = .ok (.aload_n 0, 1) := by decide +kernel
theorem dX4_layPages_48 : decode cX4_layPages 48 = .ok (.getfield 7, 3) := by decide +kernel
theorem dX4_layPages_51 : decode cX4_layPages 51 = .ok (.bipush 122, 2) := by decide +kernel
theorem dX4_layPages_53 : decode cX4_layPages 53 = .ok (.iaload, 1) := by decide +kernel
theorem dX4_layPages_54 : decode cX4_layPages 54 = .ok (.iconst 2, 1) := by decide +kernel
theorem dX4_layPages_55 : decode cX4_layPages 55 = .ok (.if_icmp .ne 30, 3) := by decide +kernel
theorem dX4_layPages_58 : decode cX4_layPages 58 = .ok (.aload_n 0, 1) := by decide +kernel
theorem dX4_layPages_59 : decode cX4_layPages 59 = .ok (.getfield 7, 3) := by decide +kernel
theorem dX4_layPages_62 : decode cX4_layPages 62 = .ok (.iconst 0, 1) := by decide +kernel
theorem dX4_layPages_63 : decode cX4_layPages 63 = .ok (.iload_n 1, 1) := by decide +kernel
theorem dX4_layPages_64 : decode cX4_layPages 64 = .ok (.iadd, 1) := by decide +kernel
theorem dX4_layPages_65 : decode cX4_layPages 65 = .ok (.iaload, 1) := by decide +kernel
theorem dX4_layPages_66 : decode cX4_layPages 66 = .ok (.invokestatic 53, 3) := by decide +kernel
theorem dX4_layPages_69 : decode cX4_layPages 69 = .ok (.ifCond .eq 16, 3) := by decide +kernel
theorem dX4_layPages_72 : decode cX4_layPages 72 = .ok (.aload_n 0, 1) := by decide +kernel
theorem dX4_layPages_73 : decode cX4_layPages 73 = .ok (.getfield 76, 3) := by decide +kernel
theorem dX4_layPages_76 : decode cX4_layPages 76 = .ok (.iconst 2, 1) := by decide +kernel
theorem dX4_layPages_77 : decode cX4_layPages 77 = .ok (.irem, 1) := by decide +kernel
theorem dX4_layPages_78 : decode cX4_layPages 78 = .ok (.ifCond .ne 7, 3) := by decide +kernel
theorem dX4_layPages_81 : decode cX4_layPages 81 = .ok (.aload_n 0, 1) := by decide +kernel
theorem dX4_layPages_82 : decode cX4_layPages 82 = .ok (.invokevirtual 79, 3) := by decide +kernel
theorem dX4_layPages_85 : decode cX4_layPages 85 = .ok (.aload_n 0, 1) := by decide +kernel
theorem dX4_layPages_86 : decode cX4_layPages 86 = .ok (.getfield 23, 3) := by decide +kernel
theorem dX4_layPages_89 : decode cX4_layPages 89 = .ok (.iload_n 1, 1) := by decide +kernel
theorem dX4_layPages_90 : decode cX4_layPages 90 = .ok (.aload_n 0, 1) := by decide +kernel
theorem dX4_layPages_91 : decode cX4_layPages 91 = .ok (.getfield 76, 3) := by decide +kernel
theorem dX4_layPages_94 : decode cX4_layPages 94 = .ok (.iastore, 1) := by decide +kernel
theorem dX4_layPages_95 : decode cX4_layPages 95 = .ok (.aload_n 0, 1) := by decide +kernel
theorem dX4_layPages_96 : decode cX4_layPages 96 = .ok (.getfield 26, 3) := by decide +kernel
theorem dX4_layPages_99 : decode cX4_layPages 99 = .ok (.iload_n 1, 1) := by decide +kernel
theorem dX4_layPages_100 : decode cX4_layPages 100 = .ok (.aload_n 0, 1) := by decide +kernel
theorem dX4_layPages_101 : decode cX4_layPages 101 = .ok (.getfield 35, 3) := by decide +kernel
theorem dX4_layPages_104 : decode cX4_layPages 104 = .ok (.aload_n 0, 1) := by decide +kernel
theorem dX4_layPages_105 : decode cX4_layPages 105 = .ok (.getfield 76, 3) := by decide +kernel
theorem dX4_layPages_108 : decode cX4_layPages 108 = .ok (.iaload, 1) := by decide +kernel
theorem dX4_layPages_109 : decode cX4_layPages 109 = .ok (.iastore, 1) := by decide +kernel
theorem dX4_layPages_110 : decode cX4_layPages 110 = .ok (.aload_n 0, 1) := by decide +kernel
theorem dX4_layPages_111 : decode cX4_layPages 111 = .ok (.getfield 32, 3) := by decide +kernel
theorem dX4_layPages_114 : decode cX4_layPages 114 = .ok (.aload_n 0, 1) := by decide +kernel
theorem dX4_layPages_115 : decode cX4_layPages 115 = .ok (.getfield 76, 3) := by decide +kernel
theorem dX4_layPages_118 : decode cX4_layPages 118 = .ok (.aload_n 0, 1) := by decide +kernel
theorem dX4_layPages_119 : decode cX4_layPages 119 = .ok (.getfield 35, 3) := by decide +kernel
theorem dX4_layPages_122 : decode cX4_layPages 122 = .ok (.aload_n 0, 1) := by decide +kernel
theorem dX4_layPages_123 : decode cX4_layPages 123 = .ok (.getfield 76, 3) := by decide +kernel
theorem dX4_layPages_126 : decode cX4_layPages 126 = .ok (.iaload, 1) := by decide +kernel
theorem dX4_layPages_127 : decode cX4_layPages 127 = .ok (.ifCond .ne 7, 3) := by decide +kernel
theorem dX4_layPages_130 : decode cX4_layPages 130 = .ok (.iload_n 1, 1) := by decide +kernel
theorem dX4_layPages_131 : decode cX4_layPages 131 = .ok (.goto 12, 3) := by decide +kernel
theorem dX4_layPages_134 : decode cX4_layPages 134 = .ok (.aload_n 0, 1) := by decide +kernel
theorem dX4_layPages_135 : decode cX4_layPages 135 = .ok (.getfield 32, 3) := by decide +kernel
theorem dX4_layPages_138 : decode cX4_layPages 138 = .ok (.aload_n 0, 1) := by decide +kernel
theorem dX4_layPages_139 : decode cX4_layPages 139 = .ok (.getfield 76, 3) := by decide +kernel
theorem dX4_layPages_142 : decode cX4_layPages 142 = .ok (.iaload, 1) := by decide +kernel
theorem dX4_layPages_143 : decode cX4_layPages 143 = .ok (.iastore, 1) := by decide +kernel
theorem dX4_layPages_144 : decode cX4_layPages 144 = .ok (.aload_n 0, 1) := by decide +kernel
theorem dX4_layPages_145 : decode cX4_layPages 145 = .ok (.getfield 35, 3) := by decide +kernel
theorem dX4_layPages_148 : decode cX4_layPages 148 = .ok (.aload_n 0, 1) := by decide +kernel
theorem dX4_layPages_149 : decode cX4_layPages 149 = .ok (.getfield 76, 3) := by decide +kernel
theorem dX4_layPages_152 : decode cX4_layPages 152 = .ok (.dup2, 1) := by decide +kernel
theorem dX4_layPages_153 : decode cX4_layPages 153 = .ok (.iaload, 1) := by decide +kernel
theorem dX4_layPages_154 : decode cX4_layPages 154 = .ok (.iconst 1, 1) := by decide +kernel
theorem dX4_layPages_155 : decode cX4_layPages 155 = .ok (.iadd, 1) := by decide +kernel
theorem dX4_layPages_156 : decode cX4_layPages 156 = .ok (.iastore, 1) := by decide +kernel
theorem dX4_layPages_157 : decode cX4_layPages 157 = .ok (.aload_n 0, 1) := by decide +kernel
theorem dX4_layPages_158 : decode cX4_layPages 158 = .ok (.iload_n 1, 1) := by decide +kernel
theorem dX4_layPages_159 : decode cX4_layPages 159 = .ok (.invokevirtual 86, 3) := by decide +kernel
theorem dX4_layPages_162 : decode cX4_layPages 162 = .ok (.iinc 1 1, 3) := by decide +kernel
theorem dX4_layPages_165 : decode cX4_layPages 165 = .ok (.goto (-158), 3) := by decide +kernel
theorem dX4_layPages_168 : decode cX4_layPages 168 = .ok (.return_, 1) := by decide +kernel
set_option maxRecDepth 20000 in
theorem ggX4_isPage_X4_in : GoodIn wsX4_isPage wsX4_in := goodIn_r _ [5] (by decide +kernel) (by decide +kernel)
set_option maxRecDepth 20000 in
theorem gX4_isPage_X4_in : GoodIn wsX4_isPage (va_wsS RX4 41 yX4_in wsX4_in) := goodIn_app (goodIn_of _ (by decide +kernel)) ggX4_isPage_X4_in
theorem dX4_isPage_0 : decode cX4_isPage 0 = .ok (.iload_n 1, 1) := by decide +kernel
theorem dX4_isPage_1 : decode cX4_isPage 1 = .ok (.iconst 1, 1) := by decide +kernel
theorem dX4_isPage_2 : decode cX4_isPage 2 = .ok (.aload_n 0, 1) := by decide +kernel
theorem dX4_isPage_3 : decode cX4_isPage 3 = .ok (.getfield 76, 3) := by decide +kernel
theorem dX4_isPage_6 : decode cX4_isPage 6 = .ok (.invokestatic 41, 3) := by decide +kernel
theorem dX4_isPage_9 : decode cX4_isPage 9 = .ok (.ireturn, 1) := by decide +kernel
theorem dX4_breakMark_0 : decode cX4_breakMark 0 = .ok (.iload_n 1, 1) := by decide +kernel
theorem dX4_breakMark_1 : decode cX4_breakMark 1 = .ok (.ifCond .ge 8, 3) := by decide +kernel
theorem dX4_breakMark_4 : decode cX4_breakMark 4 = .ok (.bipush (-6), 2) := by decide +kernel
theorem dX4_breakMark_6 : decode cX4_breakMark 6 = .ok (.goto 13, 3) := by decide +kernel
theorem dX4_breakMark_9 : decode cX4_breakMark 9 = .ok (.aload_n 0, 1) := by decide +kernel
theorem dX4_breakMark_10 : decode cX4_breakMark 10 = .ok (.getfield 29, 3) := by decide +kernel
theorem dX4_breakMark_13 : decode cX4_breakMark 13 = .ok (.iconst 2, 1) := by decide +kernel
theorem dX4_breakMark_14 : decode cX4_breakMark 14 = .ok (.iload_n 1, 1) := by decide +kernel
theorem dX4_breakMark_15 : decode cX4_breakMark 15 = .ok (.imul, 1) := by decide +kernel
theorem dX4_breakMark_16 : decode cX4_breakMark 16 = .ok (.iload_n 2, 1) := by decide +kernel
theorem dX4_breakMark_17 : decode cX4_breakMark 17 = .ok (.iadd, 1) := by decide +kernel
theorem dX4_breakMark_18 : decode cX4_breakMark 18 = .ok (.iaload, 1) := by decide +kernel
theorem dX4_breakMark_19 : decode cX4_breakMark 19 = .ok (.ireturn, 1) := by decide +kernel
set_option maxRecDepth 20000 in
theorem ggX4_lineAhead_X4_many : GoodIn wsX4_lineAhead wsX4_many := goodIn_r _ [6, 7, 8, 9, 10, 11, 12, 13, 14, 15, 16, 17, 18, 19] (by decide +kernel) (by decide +kernel)
set_option maxRecDepth 20000 in
theorem gX4_lineAhead_X4_many : GoodIn wsX4_lineAhead (wsV RX4 45 RX4 yX4_many wsX4_many) := goodIn_app (goodIn_of _ (by decide +kernel)) ggX4_lineAhead_X4_many
theorem dX4_lineAhead_0 : decode cX4_lineAhead 0 = .ok (.iconst (-1), 1) := by decide +kernel
theorem dX4_lineAhead_1 : decode cX4_lineAhead 1 = .ok (.istore_n 2, 1) := by decide +kernel
theorem dX4_lineAhead_2 : decode cX4_lineAhead 2 = .ok (.iconst 0, 1) := by decide +kernel
theorem dX4_lineAhead_3 : decode cX4_lineAhead 3 = .ok (.istore_n 3, 1) := by decide +kernel
theorem dX4_lineAhead_4 : decode cX4_lineAhead 4 = .ok (.iload_n 3, 1) := by decide +kernel
theorem dX4_lineAhead_5 : decode cX4_lineAhead 5 = .ok (.aload_n 0, 1) := by decide +kernel
theorem dX4_lineAhead_6 : decode cX4_lineAhead 6 = .ok (.invokevirtual 45, 3) := by decide +kernel
theorem dX4_lineAhead_9 : decode cX4_lineAhead 9 = .ok (.if_icmp .ge 25, 3) := by decide +kernel
theorem dX4_lineAhead_12 : decode cX4_lineAhead 12 = .ok (.aload_n 0, 1) := by decide +kernel
theorem dX4_lineAhead_13 : decode cX4_lineAhead 13 = .ok (.getfield 23, 3) := by decide +kernel
theorem dX4_lineAhead_16 : decode cX4_lineAhead 16 = .ok (.iload_n 3, 1) := by decide +kernel
theorem dX4_lineAhead_17 : decode cX4_lineAhead 17 = .ok (.iaload, 1) := by decide +kernel
theorem dX4_lineAhead_18 : decode cX4_lineAhead 18 = .ok (.iload_n 1, 1) := by decide +kernel
theorem dX4_lineAhead_19 : decode cX4_lineAhead 19 = .ok (.if_icmp .ge 7, 3) := by decide +kernel
theorem dX4_lineAhead_22 : decode cX4_lineAhead 22 = .ok (.iload_n 3, 1) := by decide +kernel
theorem dX4_lineAhead_23 : decode cX4_lineAhead 23 = .ok (.goto 4, 3) := by decide +kernel
theorem dX4_lineAhead_26 : decode cX4_lineAhead 26 = .ok (.iload_n 2, 1) := by decide +kernel
theorem dX4_lineAhead_27 : decode cX4_lineAhead 27 = .ok (.istore_n 2, 1) := by decide +kernel
theorem dX4_lineAhead_28 : decode cX4_lineAhead 28 = .ok (.iinc 3 1, 3) := by decide +kernel
theorem dX4_lineAhead_31 : decode cX4_lineAhead 31 = .ok (.goto (-27), 3) := by decide +kernel
theorem dX4_lineAhead_34 : decode cX4_lineAhead 34 = .ok (.iload_n 2, 1) := by decide +kernel
theorem dX4_lineAhead_35 : decode cX4_lineAhead 35 = .ok (.ireturn, 1) := by decide +kernel
set_option maxRecDepth 20000 in
theorem ggX4_firstMark_X4_isChapter : GoodIn wsX4_firstMark wsX4_isChapter := goodIn_r _ [7, 8, 9, 6, 10] (by decide +kernel) (by decide +kernel)
set_option maxRecDepth 20000 in
theorem gX4_firstMark_X4_isChapter : GoodIn wsX4_firstMark (va_wsS RX4 53 yX4_isChapter wsX4_isChapter) := goodIn_app (goodIn_of _ (by decide +kernel)) ggX4_firstMark_X4_isChapter
set_option maxRecDepth 20000 in
theorem ggX4_firstMark_X4_isSection : GoodIn wsX4_firstMark wsX4_isSection := goodIn_r _ [13, 8, 9, 6, 10] (by decide +kernel) (by decide +kernel)
set_option maxRecDepth 20000 in
theorem gX4_firstMark_X4_isSection : GoodIn wsX4_firstMark (va_wsS RX4 57 yX4_isSection wsX4_isSection) := goodIn_app (goodIn_of _ (by decide +kernel)) ggX4_firstMark_X4_isSection
theorem dX4_firstMark_0 : decode cX4_firstMark 0 = .ok (.iconst 0, 1) := by decide +kernel
theorem dX4_firstMark_1 : decode cX4_firstMark 1 = .ok (.istore_n 3, 1) := by decide +kernel
theorem dX4_firstMark_2 : decode cX4_firstMark 2 = .ok (.iload_n 3, 1) := by decide +kernel
theorem dX4_firstMark_3 : decode cX4_firstMark 3 = .ok (.aload_n 0, 1) := by decide +kernel
theorem dX4_firstMark_4 : decode cX4_firstMark 4 = .ok (.getfield 35, 3) := by decide +kernel
theorem dX4_firstMark_7 : decode cX4_firstMark 7 = .ok (.iload_n 1, 1) := by decide +kernel
theorem dX4_firstMark_8 : decode cX4_firstMark 8 = .ok (.iaload, 1) := by decide +kernel
theorem dX4_firstMark_9 : decode cX4_firstMark 9 = .ok (.if_icmp .ge 52, 3) := by decide +kernel
theorem dX4_firstMark_12 : decode cX4_firstMark 12 = .ok (.aload_n 0, 1) := by decide +kernel
theorem dX4_firstMark_13 : decode cX4_firstMark 13 = .ok (.getfield 7, 3) := by decide +kernel
theorem dX4_firstMark_16 : decode cX4_firstMark 16 = .ok (.iconst 0, 1) := by decide +kernel
theorem dX4_firstMark_17 : decode cX4_firstMark 17 = .ok (.aload_n 0, 1) := by decide +kernel
theorem dX4_firstMark_18 : decode cX4_firstMark 18 = .ok (.getfield 32, 3) := by decide +kernel
theorem dX4_firstMark_21 : decode cX4_firstMark 21 = .ok (.iload_n 1, 1) := by decide +kernel
theorem dX4_firstMark_22 : decode cX4_firstMark 22 = .ok (.iaload, 1) := by decide +kernel
theorem dX4_firstMark_23 : decode cX4_firstMark 23 = .ok (.iadd, 1) := by decide +kernel
theorem dX4_firstMark_24 : decode cX4_firstMark 24 = .ok (.iload_n 3, 1) := by decide +kernel
theorem dX4_firstMark_25 : decode cX4_firstMark 25 = .ok (.iadd, 1) := by decide +kernel
theorem dX4_firstMark_26 : decode cX4_firstMark 26 = .ok (.iaload, 1) := by decide +kernel
theorem dX4_firstMark_27 : decode cX4_firstMark 27 = .ok (.istore 4, 2) := by decide +kernel
theorem dX4_firstMark_29 : decode cX4_firstMark 29 = .ok (.iload_n 2, 1) := by decide +kernel
theorem dX4_firstMark_30 : decode cX4_firstMark 30 = .ok (.ifCond .ne 14, 3) := by decide +kernel
theorem dX4_firstMark_33 : decode cX4_firstMark 33 = .ok (.iload 4, 2) := by decide +kernel
theorem dX4_firstMark_35 : decode cX4_firstMark 35 = .ok (.invokestatic 53, 3) := by decide +kernel
theorem dX4_firstMark_38 : decode cX4_firstMark 38 = .ok (.ifCond .eq 17, 3) := by decide +kernel
theorem dX4_firstMark_41 : decode cX4_firstMark 41 = .ok (.goto 11, 3) := by decide +kernel
theorem dX4_firstMark_44 : decode cX4_firstMark 44 = .ok (.iload 4, 2) := by decide +kernel
theorem dX4_firstMark_46 : decode cX4_firstMark 46 = .ok (.invokestatic 57, 3) := by decide +kernel
theorem dX4_firstMark_49 : decode cX4_firstMark 49 = .ok (.ifCond .eq 6, 3) := by decide +kernel
theorem dX4_firstMark_52 : decode cX4_firstMark 52 = .ok (.iload 4, 2) := by decide +kernel
theorem dX4_firstMark_54 : decode cX4_firstMark 54 = .ok (.ireturn, 1) := by decide +kernel
theorem dX4_firstMark_55 : decode cX4_firstMark 55 = .ok (.iinc 3 1, 3) := by decide +kernel
theorem dX4_firstMark_58 : decode cX4_firstMark 58 = .ok (.goto (-56), 3) := by decide +kernel
theorem dX4_firstMark_61 : decode cX4_firstMark 61 = .ok (.bipush (-6), 2) := by decide +kernel
theorem dX4_firstMark_63 : decode cX4_firstMark 63 = .ok (.ireturn, 1) := by decide +kernel
set_option maxRecDepth 20000 in
theorem ggX4_markOf_X4_lineAhead : GoodIn wsX4_markOf wsX4_lineAhead := goodIn_r _ [6, 7, 8, 9, 10, 5, 11, 12, 32, 33, 34, 35, 36, 37, 38, 39, 40, 41, 42, 43] (by decide +kernel) (by decide +kernel)
set_option maxRecDepth 20000 in
theorem gX4_markOf_X4_lineAhead : GoodIn wsX4_markOf (wsV RX4 90 RX4 yX4_lineAhead wsX4_lineAhead) := goodIn_app (goodIn_of _ (by decide +kernel)) ggX4_markOf_X4_lineAhead
set_option maxRecDepth 20000 in
theorem ggX4_markOf_X4_breakMark : GoodIn wsX4_markOf wsX4_breakMark := goodIn_r _ [16, 17, 32, 33, 34, 35, 36, 37, 38, 39, 40, 41, 42, 43] (by decide +kernel) (by decide +kernel)
set_option maxRecDepth 20000 in
theorem gX4_markOf_X4_breakMark : GoodIn wsX4_markOf (wsV RX4 93 RX4 yX4_breakMark wsX4_breakMark) := goodIn_app (goodIn_of _ (by decide +kernel)) ggX4_markOf_X4_breakMark
set_option maxRecDepth 20000 in
theorem ggX4_markOf_X4_firstMark : GoodIn wsX4_markOf wsX4_firstMark := goodIn_r _ [21, 1, 12, 22, 23, 24, 5, 25, 26, 27, 28, 29, 30, 31, 32, 33, 34, 35, 36, 37, 38, 39, 40, 41, 42, 43] (by decide +kernel) (by decide +kernel)
set_option maxRecDepth 20000 in
theorem gX4_markOf_X4_firstMark : GoodIn wsX4_markOf (wsV RX4 97 RX4 yX4_firstMark wsX4_firstMark) := goodIn_app (goodIn_of _ (by decide +kernel)) ggX4_markOf_X4_firstMark
theorem dX4_markOf_0 : decode cX4_markOf 0 = .ok (.aload_n 0, 1) := by decide +kernel
theorem dX4_markOf_1 : decode cX4_markOf 1 = .ok (.iload_n 1, 1) := by decide +kernel
theorem dX4_markOf_2 : decode cX4_markOf 2 = .ok (.invokevirtual 90, 3) := by decide +kernel
theorem dX4_markOf_5 : decode cX4_markOf 5 = .ok (.istore 4, 2) := by decide +kernel
theorem dX4_markOf_7 : decode cX4_markOf 7 = .ok (.iload_n 3, 1) := by decide +kernel
theorem dX4_markOf_8 : decode cX4_markOf 8 = .ok (.iconst 2, 1) := by decide +kernel
theorem dX4_markOf_9 : decode cX4_markOf 9 = .ok (.if_icmp .ne 18, 3) := by decide +kernel
theorem dX4_markOf_12 : decode cX4_markOf 12 = .ok (.aload_n 0, 1) := by decide +kernel
theorem dX4_markOf_13 : decode cX4_markOf 13 = .ok (.iload 4, 2) := by decide +kernel
theorem dX4_markOf_15 : decode cX4_markOf 15 = .ok (.aload_n 0, 1) := by decide +kernel
theorem dX4_markOf_16 : decode cX4_markOf 16 = .ok (.getfield 35, 3) := by decide +kernel
theorem dX4_markOf_19 : decode cX4_markOf 19 = .ok (.iload_n 1, 1) := by decide +kernel
theorem dX4_markOf_20 : decode cX4_markOf 20 = .ok (.iaload, 1) := by decide +kernel
theorem dX4_markOf_21 : decode cX4_markOf 21 = .ok (.iadd, 1) := by decide +kernel
theorem dX4_markOf_22 : decode cX4_markOf 22 = .ok (.iload_n 2, 1) := by decide +kernel
theorem dX4_markOf_23 : decode cX4_markOf 23 = .ok (.invokevirtual 93, 3) := by decide +kernel
theorem dX4_markOf_26 : decode cX4_markOf 26 = .ok (.ireturn, 1) := by decide +kernel
theorem dX4_markOf_27 : decode cX4_markOf 27 = .ok (.iload_n 3, 1) := by decide +kernel
theorem dX4_markOf_28 : decode cX4_markOf 28 = .ok (.iconst 1, 1) := by decide +kernel
theorem dX4_markOf_29 : decode cX4_markOf 29 = .ok (.if_icmp .ne 12, 3) := by decide +kernel
theorem dX4_markOf_32 : decode cX4_markOf 32 = .ok (.aload_n 0, 1) := by decide +kernel
theorem dX4_markOf_33 : decode cX4_markOf 33 = .ok (.iload_n 1, 1) := by decide +kernel
theorem dX4_markOf_34 : decode cX4_markOf 34 = .ok (.iload_n 2, 1) := by decide +kernel
theorem dX4_markOf_35 : decode cX4_markOf 35 = .ok (.invokevirtual 97, 3) := by decide +kernel
theorem dX4_markOf_38 : decode cX4_markOf 38 = .ok (.goto 5, 3) := by decide +kernel
theorem dX4_markOf_41 : decode cX4_markOf 41 = .ok (.bipush (-6), 2) := by decide +kernel
theorem dX4_markOf_43 : decode cX4_markOf 43 = .ok (.istore 5, 2) := by decide +kernel
theorem dX4_markOf_45 : decode cX4_markOf 45 = .ok (.iload 5, 2) := by decide +kernel
theorem dX4_markOf_47 : decode cX4_markOf 47 = .ok (.bipush (-6), 2) := by decide +kernel
theorem dX4_markOf_49 : decode cX4_markOf 49 = .ok (.if_icmp .ne 13, 3) := by decide +kernel
theorem dX4_markOf_52 : decode cX4_markOf 52 = .ok (.aload_n 0, 1) := by decide +kernel
theorem dX4_markOf_53 : decode cX4_markOf 53 = .ok (.iload 4, 2) := by decide +kernel
theorem dX4_markOf_55 : decode cX4_markOf 55 = .ok (.iload_n 2, 1) := by decide +kernel
theorem dX4_markOf_56 : decode cX4_markOf 56 = .ok (.invokevirtual 93, 3) := by decide +kernel
theorem dX4_markOf_59 : decode cX4_markOf 59 = .ok (.goto 5, 3) := by decide +kernel
theorem dX4_markOf_62 : decode cX4_markOf 62 = .ok (.iload 5, 2) := by decide +kernel
theorem dX4_markOf_64 : decode cX4_markOf 64 = .ok (.ireturn, 1) := by decide +kernel
set_option maxRecDepth 20000 in
theorem ggX4_headOf_X4_isChapter : GoodIn wsX4_headOf wsX4_isChapter := goodIn_r _ [7, 8, 9, 6, 10] (by decide +kernel) (by decide +kernel)
set_option maxRecDepth 20000 in
theorem gX4_headOf_X4_isChapter : GoodIn wsX4_headOf (va_wsS RX4 53 yX4_isChapter wsX4_isChapter) := goodIn_app (goodIn_of _ (by decide +kernel)) ggX4_headOf_X4_isChapter
set_option maxRecDepth 20000 in
theorem ggX4_headOf_X4_markOf : GoodIn wsX4_headOf wsX4_markOf := goodIn_r _ [14, 1, 15, 16, 17, 6, 18, 19, 20, 21, 22, 23, 2, 24, 25, 26, 27, 28, 29, 30, 31, 32, 3, 4, 5, 7, 8, 9, 10, 33, 34, 35, 36, 37, 38, 39, 40, 41, 42, 43, 44, 45, 46, 47] (by decide +kernel) (by decide +kernel)
set_option maxRecDepth 20000 in
theorem gX4_headOf_X4_markOf : GoodIn wsX4_headOf (wsV RX4 100 RX4 yX4_markOf wsX4_markOf) := goodIn_app (goodIn_of _ (by decide +kernel)) ggX4_headOf_X4_markOf
theorem dX4_headOf_0 : decode cX4_headOf 0 = .ok (.aload_n 0, 1) := by decide +kernel
theorem dX4_headOf_1 : decode cX4_headOf 1 = .ok (.getfield 35, 3) := by decide +kernel
theorem dX4_headOf_4 : decode cX4_headOf 4 = .ok (.iload_n 1, 1) := by decide +kernel
theorem dX4_headOf_5 : decode cX4_headOf 5 = .ok (.iaload, 1) := by decide +kernel
theorem dX4_headOf_6 : decode cX4_headOf 6 = .ok (.ifCond .eq 33, 3) := by decide +kernel
theorem dX4_headOf_9 : decode cX4_headOf 9 = .ok (.aload_n 0, 1) := by decide +kernel
theorem dX4_headOf_10 : decode cX4_headOf 10 = .ok (.getfield 7, 3) := by decide +kernel
theorem dX4_headOf_13 : decode cX4_headOf 13 = .ok (.bipush 125, 2) := by decide +kernel
theorem dX4_headOf_15 : decode cX4_headOf 15 = .ok (.iaload, 1) := by decide +kernel
theorem dX4_headOf_16 : decode cX4_headOf 16 = .ok (.iconst 1, 1) := by decide +kernel
theorem dX4_headOf_17 : decode cX4_headOf 17 = .ok (.if_icmp .ne 25, 3) := by decide +kernel
theorem dX4_headOf_20 : decode cX4_headOf 20 = .ok (.aload_n 0, 1) := by decide +kernel
theorem dX4_headOf_21 : decode cX4_headOf 21 = .ok (.getfield 7, 3) := by decide +kernel
theorem dX4_headOf_24 : decode cX4_headOf 24 = .ok (.iconst 0, 1) := by decide +kernel
theorem dX4_headOf_25 : decode cX4_headOf 25 = .ok (.aload_n 0, 1) := by decide +kernel
theorem dX4_headOf_26 : decode cX4_headOf 26 = .ok (.getfield 32, 3) := by decide +kernel
theorem dX4_headOf_29 : decode cX4_headOf 29 = .ok (.iload_n 1, 1) := by decide +kernel
theorem dX4_headOf_30 : decode cX4_headOf 30 = .ok (.iaload, 1) := by decide +kernel
theorem dX4_headOf_31 : decode cX4_headOf 31 = .ok (.iadd, 1) := by decide +kernel
theorem dX4_headOf_32 : decode cX4_headOf 32 = .ok (.iaload, 1) := by decide +kernel
theorem dX4_headOf_33 : decode cX4_headOf 33 = .ok (.invokestatic 53, 3) := by decide +kernel
theorem dX4_headOf_36 : decode cX4_headOf 36 = .ok (.ifCond .eq 6, 3) := by decide +kernel
theorem dX4_headOf_39 : decode cX4_headOf 39 = .ok (.bipush (-6), 2) := by decide +kernel
theorem dX4_headOf_41 : decode cX4_headOf 41 = .ok (.ireturn, 1) := by decide +kernel
theorem dX4_headOf_42 : decode cX4_headOf 42 = .ok (.iload_n 1, 1) := by decide +kernel
theorem dX4_headOf_43 : decode cX4_headOf 43 = .ok (.iconst 2, 1) := by decide +kernel
theorem dX4_headOf_44 : decode cX4_headOf 44 = .ok (.irem, 1) := by decide +kernel
theorem dX4_headOf_45 : decode cX4_headOf 45 = .ok (.istore_n 2, 1) := by decide +kernel
theorem dX4_headOf_46 : decode cX4_headOf 46 = .ok (.aload_n 0, 1) := by decide +kernel
theorem dX4_headOf_47 : decode cX4_headOf 47 = .ok (.iload_n 1, 1) := by decide +kernel
theorem dX4_headOf_48 : decode cX4_headOf 48 = .ok (.aload_n 0, 1) := by decide +kernel
theorem dX4_headOf_49 : decode cX4_headOf 49 = .ok (.getfield 7, 3) := by decide +kernel
theorem dX4_headOf_52 : decode cX4_headOf 52 = .ok (.bipush 126, 2) := by decide +kernel
theorem dX4_headOf_54 : decode cX4_headOf 54 = .ok (.iload_n 2, 1) := by decide +kernel
theorem dX4_headOf_55 : decode cX4_headOf 55 = .ok (.iadd, 1) := by decide +kernel
theorem dX4_headOf_56 : decode cX4_headOf 56 = .ok (.iaload, 1) := by decide +kernel
theorem dX4_headOf_57 : decode cX4_headOf 57 = .ok (.aload_n 0, 1) := by decide +kernel
theorem dX4_headOf_58 : decode cX4_headOf 58 = .ok (.getfield 7, 3) := by decide +kernel
theorem dX4_headOf_61 : decode cX4_headOf 61 = .ok (.sipush 128, 3) := by decide +kernel
theorem dX4_headOf_64 : decode cX4_headOf 64 = .ok (.iload_n 2, 1) := by decide +kernel
theorem dX4_headOf_65 : decode cX4_headOf 65 = .ok (.iadd, 1) := by decide +kernel
theorem dX4_headOf_66 : decode cX4_headOf 66 = .ok (.iaload, 1) := by decide +kernel
theorem dX4_headOf_67 : decode cX4_headOf 67 = .ok (.invokevirtual 100, 3) := by decide +kernel
theorem dX4_headOf_70 : decode cX4_headOf 70 = .ok (.ireturn, 1) := by decide +kernel
set_option maxRecDepth 20000 in
theorem ggX4_line_X4_isLine : GoodIn wsX4_line wsX4_isLine := goodIn_r _ [9, 10, 11, 12, 8, 13, 1, 14, 15, 16, 39, 40, 41, 42, 43, 44, 45, 46, 47, 48, 49, 50] (by decide +kernel) (by decide +kernel)
set_option maxRecDepth 20000 in
theorem gX4_line_X4_isLine : GoodIn wsX4_line (wsV RX4 104 RX4 yX4_isLine wsX4_isLine) := goodIn_app (goodIn_of _ (by decide +kernel)) ggX4_line_X4_isLine
set_option maxRecDepth 20000 in
theorem ggX4_line_X4_layPages : GoodIn wsX4_line wsX4_layPages := goodIn_r _ [20, 21, 22, 1, 2, 3, 23, 10, 11, 12, 8, 13, 24, 25, 26, 27, 28, 29, 30, 31, 32, 33, 34, 14, 15, 16, 35, 36, 37, 38, 4, 39, 40, 41, 42, 43, 44, 45, 46, 47, 48, 49, 50] (by decide +kernel) (by decide +kernel)
set_option maxRecDepth 20000 in
theorem gX4_line_X4_layPages : GoodIn wsX4_line (wsV RX4 107 RX4 yX4_layPages wsX4_layPages) := goodIn_app (goodIn_of _ (by decide +kernel)) ggX4_line_X4_layPages
theorem dX4_line_0 : decode cX4_line 0 = .ok (.aload_n 0, 1) := by decide +kernel
theorem dX4_line_1 : decode cX4_line 1 = .ok (.iload_n 1, 1) := by decide +kernel
theorem dX4_line_2 : decode cX4_line 2 = .ok (.invokevirtual 104, 3) := by decide +kernel
theorem dX4_line_5 : decode cX4_line 5 = .ok (.ifCond .ne 5, 3) := by decide +kernel
theorem dX4_line_8 : decode cX4_line 8 = .ok (.iconst (-1), 1) := by decide +kernel
theorem dX4_line_9 : decode cX4_line 9 = .ok (.ireturn, 1) := by decide +kernel
theorem dX4_line_10 : decode cX4_line 10 = .ok (.aload_n 0, 1) := by decide +kernel
theorem dX4_line_11 : decode cX4_line 11 = .ok (.invokevirtual 107, 3) := by decide +kernel
theorem dX4_line_14 : decode cX4_line 14 = .ok (.iload_n 2, 1) := by decide +kernel
theorem dX4_line_15 : decode cX4_line 15 = .ok (.tableswitch 99 0 5 #[37, 62, 69, 76, 86, 86], 37) := by decide +kernel
theorem dX4_line_52 : decode cX4_line 52 = .ok (.aload_n 0, 1) := by decide +kernel
theorem dX4_line_53 : decode cX4_line 53 = .ok (.getfield 7, 3) := by decide +kernel
theorem dX4_line_56 : decode cX4_line 56 = .ok (.iconst 0, 1) := by decide +kernel
theorem dX4_line_57 : decode cX4_line 57 = .ok (.iload_n 1, 1) := by decide +kernel
theorem dX4_line_58 : decode cX4_line 58 = .ok (.iadd, 1) := by decide +kernel
theorem dX4_line_59 : decode cX4_line 59 = .ok (.iaload, 1) := by decide +kernel
theorem dX4_line_60 : decode cX4_line 60 = .ok (.ifCond .ne 8, 3) := by decide +kernel
theorem dX4_line_63 : decode cX4_line 63 = .ok (.bipush (-6), 2) := by decide +kernel
theorem dX4_line_65 : decode cX4_line 65 = .ok (.goto 11, 3) := by decide +kernel
theorem dX4_line_68 : decode cX4_line 68 = .ok (.aload_n 0, 1) := by decide +kernel
theorem dX4_line_69 : decode cX4_line 69 = .ok (.getfield 7, 3) := by decide +kernel
theorem dX4_line_72 : decode cX4_line 72 = .ok (.iconst 0, 1) := by decide +kernel
theorem dX4_line_73 : decode cX4_line 73 = .ok (.iload_n 1, 1) := by decide +kernel
theorem dX4_line_74 : decode cX4_line 74 = .ok (.iadd, 1) := by decide +kernel
theorem dX4_line_75 : decode cX4_line 75 = .ok (.iaload, 1) := by decide +kernel
theorem dX4_line_76 : decode cX4_line 76 = .ok (.ireturn, 1) := by decide +kernel
theorem dX4_line_77 : decode cX4_line 77 = .ok (.aload_n 0, 1) := by decide +kernel
theorem dX4_line_78 : decode cX4_line 78 = .ok (.getfield 23, 3) := by decide +kernel
theorem dX4_line_81 : decode cX4_line 81 = .ok (.iload_n 1, 1) := by decide +kernel
theorem dX4_line_82 : decode cX4_line 82 = .ok (.iaload, 1) := by decide +kernel
theorem dX4_line_83 : decode cX4_line 83 = .ok (.ireturn, 1) := by decide +kernel
theorem dX4_line_84 : decode cX4_line 84 = .ok (.aload_n 0, 1) := by decide +kernel
theorem dX4_line_85 : decode cX4_line 85 = .ok (.getfield 26, 3) := by decide +kernel
theorem dX4_line_88 : decode cX4_line 88 = .ok (.iload_n 1, 1) := by decide +kernel
theorem dX4_line_89 : decode cX4_line 89 = .ok (.iaload, 1) := by decide +kernel
theorem dX4_line_90 : decode cX4_line 90 = .ok (.ireturn, 1) := by decide +kernel
theorem dX4_line_91 : decode cX4_line 91 = .ok (.aload_n 0, 1) := by decide +kernel
theorem dX4_line_92 : decode cX4_line 92 = .ok (.getfield 7, 3) := by decide +kernel
theorem dX4_line_95 : decode cX4_line 95 = .ok (.bipush 60, 2) := by decide +kernel
theorem dX4_line_97 : decode cX4_line 97 = .ok (.iload_n 1, 1) := by decide +kernel
theorem dX4_line_98 : decode cX4_line 98 = .ok (.iadd, 1) := by decide +kernel
theorem dX4_line_99 : decode cX4_line 99 = .ok (.iaload, 1) := by decide +kernel
theorem dX4_line_100 : decode cX4_line 100 = .ok (.ireturn, 1) := by decide +kernel
theorem dX4_line_101 : decode cX4_line 101 = .ok (.aload_n 0, 1) := by decide +kernel
theorem dX4_line_102 : decode cX4_line 102 = .ok (.getfield 29, 3) := by decide +kernel
theorem dX4_line_105 : decode cX4_line 105 = .ok (.iconst 2, 1) := by decide +kernel
theorem dX4_line_106 : decode cX4_line 106 = .ok (.iload_n 1, 1) := by decide +kernel
theorem dX4_line_107 : decode cX4_line 107 = .ok (.imul, 1) := by decide +kernel
theorem dX4_line_108 : decode cX4_line 108 = .ok (.iload_n 2, 1) := by decide +kernel
theorem dX4_line_109 : decode cX4_line 109 = .ok (.iadd, 1) := by decide +kernel
theorem dX4_line_110 : decode cX4_line 110 = .ok (.iconst 4, 1) := by decide +kernel
theorem dX4_line_111 : decode cX4_line 111 = .ok (.isub, 1) := by decide +kernel
theorem dX4_line_112 : decode cX4_line 112 = .ok (.iaload, 1) := by decide +kernel
theorem dX4_line_113 : decode cX4_line 113 = .ok (.ireturn, 1) := by decide +kernel
theorem dX4_line_114 : decode cX4_line 114 = .ok (.bipush (-2), 2) := by decide +kernel
theorem dX4_line_116 : decode cX4_line 116 = .ok (.ireturn, 1) := by decide +kernel
set_option maxRecDepth 20000 in
theorem ggX4_chapterOf_X4_isChapter : GoodIn wsX4_chapterOf wsX4_isChapter := goodIn_r _ [5, 6, 7, 4, 8] (by decide +kernel) (by decide +kernel)
set_option maxRecDepth 20000 in
theorem gX4_chapterOf_X4_isChapter : GoodIn wsX4_chapterOf (va_wsS RX4 53 yX4_isChapter wsX4_isChapter) := goodIn_app (goodIn_of _ (by decide +kernel)) ggX4_chapterOf_X4_isChapter
theorem dX4_chapterOf_0 : decode cX4_chapterOf 0 = .ok (.bipush (-6), 2) := by decide +kernel
theorem dX4_chapterOf_2 : decode cX4_chapterOf 2 = .ok (.istore_n 2, 1) := by decide +kernel
theorem dX4_chapterOf_3 : decode cX4_chapterOf 3 = .ok (.iconst 0, 1) := by decide +kernel
theorem dX4_chapterOf_4 : decode cX4_chapterOf 4 = .ok (.istore_n 3, 1) := by decide +kernel
theorem dX4_chapterOf_5 : decode cX4_chapterOf 5 = .ok (.iload_n 3, 1) := by decide +kernel
theorem dX4_chapterOf_6 : decode cX4_chapterOf 6 = .ok (.iload_n 1, 1) := by decide +kernel
theorem dX4_chapterOf_7 : decode cX4_chapterOf 7 = .ok (.if_icmp .gt 39, 3) := by decide +kernel
theorem dX4_chapterOf_10 : decode cX4_chapterOf 10 = .ok (.aload_n 0, 1) := by decide +kernel
theorem dX4_chapterOf_11 : decode cX4_chapterOf 11 = .ok (.getfield 7, 3) := by decide +kernel
theorem dX4_chapterOf_14 : decode cX4_chapterOf 14 = .ok (.iconst 0, 1) := by decide +kernel
theorem dX4_chapterOf_15 : decode cX4_chapterOf 15 = .ok (.iload_n 3, 1) := by decide +kernel
theorem dX4_chapterOf_16 : decode cX4_chapterOf 16 = .ok (.iadd, 1) := by decide +kernel
theorem dX4_chapterOf_17 : decode cX4_chapterOf 17 = .ok (.iaload, 1) := by decide +kernel
theorem dX4_chapterOf_18 : decode cX4_chapterOf 18 = .ok (.invokestatic 53, 3) := by decide +kernel
theorem dX4_chapterOf_21 : decode cX4_chapterOf 21 = .ok (.ifCond .eq 17, 3) := by decide +kernel
theorem dX4_chapterOf_24 : decode cX4_chapterOf 24 = .ok (.iload_n 2, 1) := by decide +kernel
theorem dX4_chapterOf_25 : decode cX4_chapterOf 25 = .ok (.ifCond .ge 7, 3) := by decide +kernel
theorem dX4_chapterOf_28 : decode cX4_chapterOf 28 = .ok (.iconst 0, 1) := by decide +kernel
theorem dX4_chapterOf_29 : decode cX4_chapterOf 29 = .ok (.goto 10, 3) := by decide +kernel
theorem dX4_chapterOf_32 : decode cX4_chapterOf 32 = .ok (.iload_n 2, 1) := by decide +kernel
theorem dX4_chapterOf_33 : decode cX4_chapterOf 33 = .ok (.iconst 1, 1) := by decide +kernel
theorem dX4_chapterOf_34 : decode cX4_chapterOf 34 = .ok (.iadd, 1) := by decide +kernel
theorem dX4_chapterOf_35 : decode cX4_chapterOf 35 = .ok (.goto 4, 3) := by decide +kernel
theorem dX4_chapterOf_38 : decode cX4_chapterOf 38 = .ok (.iload_n 2, 1) := by decide +kernel
theorem dX4_chapterOf_39 : decode cX4_chapterOf 39 = .ok (.istore_n 2, 1) := by decide +kernel
theorem dX4_chapterOf_40 : decode cX4_chapterOf 40 = .ok (.iinc 3 1, 3) := by decide +kernel
theorem dX4_chapterOf_43 : decode cX4_chapterOf 43 = .ok (.goto (-38), 3) := by decide +kernel
theorem dX4_chapterOf_46 : decode cX4_chapterOf 46 = .ok (.iload_n 2, 1) := by decide +kernel
theorem dX4_chapterOf_47 : decode cX4_chapterOf 47 = .ok (.ireturn, 1) := by decide +kernel
set_option maxRecDepth 20000 in
theorem ggX4_isShared_X4_chapterOf : GoodIn wsX4_isShared wsX4_chapterOf := goodIn_r _ [7, 8, 9, 10, 6, 11, 12, 13, 14, 15, 16, 17, 18, 19, 20, 21, 22, 23, 24, 25, 26] (by decide +kernel) (by decide +kernel)
set_option maxRecDepth 20000 in
theorem gX4_isShared_X4_chapterOf : GoodIn wsX4_isShared (wsV RX4 110 RX4 yX4_chapterOf wsX4_chapterOf) := goodIn_app (goodIn_of _ (by decide +kernel)) ggX4_isShared_X4_chapterOf
theorem dX4_isShared_0 : decode cX4_isShared 0 = .ok (.bipush (-6), 2) := by decide +kernel
theorem dX4_isShared_2 : decode cX4_isShared 2 = .ok (.istore_n 2, 1) := by decide +kernel
theorem dX4_isShared_3 : decode cX4_isShared 3 = .ok (.iconst 0, 1) := by decide +kernel
theorem dX4_isShared_4 : decode cX4_isShared 4 = .ok (.istore_n 3, 1) := by decide +kernel
theorem dX4_isShared_5 : decode cX4_isShared 5 = .ok (.iconst 0, 1) := by decide +kernel
theorem dX4_isShared_6 : decode cX4_isShared 6 = .ok (.istore 4, 2) := by decide +kernel
theorem dX4_isShared_8 : decode cX4_isShared 8 = .ok (.iload 4, 2) := by decide +kernel
theorem dX4_isShared_10 : decode cX4_isShared 10 = .ok (.aload_n 0, 1) := by decide +kernel
theorem dX4_isShared_11 : decode cX4_isShared 11 = .ok (.getfield 35, 3) := by decide +kernel
