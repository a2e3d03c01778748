theorem dX1_headOrNone_9 : decode cX1_headOrNone 9 = .ok (.getfield 32, 3) := by decide +kernel
theorem dX1_headOrNone_12 : decode cX1_headOrNone 12 = .ok (.iload_n 1, 1) := by decide +kernel
theorem dX1_headOrNone_13 : decode cX1_headOrNone 13 = .ok (.iaload, 1) := by decide +kernel
theorem dX1_headOrNone_14 : decode cX1_headOrNone 14 = .ok (.goto 5, 3) := by decide +kernel
theorem dX1_headOrNone_17 : decode cX1_headOrNone 17 = .ok (.bipush (-6), 2) := by decide +kernel
theorem dX1_headOrNone_19 : decode cX1_headOrNone 19 = .ok (.ireturn, 1) := by decide +kernel
theorem dX1_isShared_0 : decode cX1_isShared 0 = .ok (.aload_n 0, 1) := by decide +kernel
theorem dX1_isShared_1 : decode cX1_isShared 1 = .ok (.getfield 26, 3) := by decide +kernel
theorem dX1_isShared_4 : decode cX1_isShared 4 = .ok (.iload_n 1, 1) := by decide +kernel
theorem dX1_isShared_5 : decode cX1_isShared 5 = .ok (.iaload, 1) := by decide +kernel
theorem dX1_isShared_6 : decode cX1_isShared 6 = .ok (.ifCond .ne 5, 3) := by decide +kernel
theorem dX1_isShared_9 : decode cX1_isShared 9 = .ok (.iconst 0, 1) := by decide +kernel
theorem dX1_isShared_10 : decode cX1_isShared 10 = .ok (.ireturn, 1) := by decide +kernel
theorem dX1_isShared_11 : decode cX1_isShared 11 = .ok (.aload_n 0, 1) := by decide +kernel
theorem dX1_isShared_12 : decode cX1_isShared 12 = .ok (.getfield 23, 3) := by decide +kernel
theorem dX1_isShared_15 : decode cX1_isShared 15 = .ok (.iload_n 1, 1) := by decide +kernel
theorem dX1_isShared_16 : decode cX1_isShared 16 = .ok (.iaload, 1) := by decide +kernel
theorem dX1_isShared_17 : decode cX1_isShared 17 = .ok (.istore_n 2, 1) := by decide +kernel
theorem dX1_isShared_18 : decode cX1_isShared 18 = .ok (.iload_n 2, 1) := by decide +kernel
theorem dX1_isShared_19 : decode cX1_isShared 19 = .ok (.aload_n 0, 1) := by decide +kernel
theorem dX1_isShared_20 : decode cX1_isShared 20 = .ok (.getfield 26, 3) := by decide +kernel
theorem dX1_isShared_23 : decode cX1_isShared 23 = .ok (.iload_n 1, 1) := by decide +kernel
theorem dX1_isShared_24 : decode cX1_isShared 24 = .ok (.iaload, 1) := by decide +kernel
theorem dX1_isShared_25 : decode cX1_isShared 25 = .ok (.iadd, 1) := by decide +kernel
theorem dX1_isShared_26 : decode cX1_isShared 26 = .ok (.iconst 1, 1) := by decide +kernel
theorem dX1_isShared_27 : decode cX1_isShared 27 = .ok (.isub, 1) := by decide +kernel
theorem dX1_isShared_28 : decode cX1_isShared 28 = .ok (.istore_n 3, 1) := by decide +kernel
theorem dX1_isShared_29 : decode cX1_isShared 29 = .ok (.aload_n 0, 1) := by decide +kernel
theorem dX1_isShared_30 : decode cX1_isShared 30 = .ok (.getfield 15, 3) := by decide +kernel
theorem dX1_isShared_33 : decode cX1_isShared 33 = .ok (.iload_n 3, 1) := by decide +kernel
theorem dX1_isShared_34 : decode cX1_isShared 34 = .ok (.iaload, 1) := by decide +kernel
theorem dX1_isShared_35 : decode cX1_isShared 35 = .ok (.aload_n 0, 1) := by decide +kernel
theorem dX1_isShared_36 : decode cX1_isShared 36 = .ok (.getfield 15, 3) := by decide +kernel
theorem dX1_isShared_39 : decode cX1_isShared 39 = .ok (.iload_n 2, 1) := by decide +kernel
theorem dX1_isShared_40 : decode cX1_isShared 40 = .ok (.iaload, 1) := by decide +kernel
theorem dX1_isShared_41 : decode cX1_isShared 41 = .ok (.iconst 0, 1) := by decide +kernel
theorem dX1_isShared_42 : decode cX1_isShared 42 = .ok (.invokestatic 96, 3) := by decide +kernel
theorem dX1_isShared_45 : decode cX1_isShared 45 = .ok (.if_icmp .le 7, 3) := by decide +kernel
theorem dX1_isShared_48 : decode cX1_isShared 48 = .ok (.iconst 1, 1) := by decide +kernel
theorem dX1_isShared_49 : decode cX1_isShared 49 = .ok (.goto 4, 3) := by decide +kernel
theorem dX1_isShared_52 : decode cX1_isShared 52 = .ok (.iconst 0, 1) := by decide +kernel
theorem dX1_isShared_53 : decode cX1_isShared 53 = .ok (.ireturn, 1) := by decide +kernel
theorem dX1_titleLineOf_0 : decode cX1_titleLineOf 0 = .ok (.iconst 0, 1) := by decide +kernel
theorem dX1_titleLineOf_1 : decode cX1_titleLineOf 1 = .ok (.istore_n 2, 1) := by decide +kernel
theorem dX1_titleLineOf_2 : decode cX1_titleLineOf 2 = .ok (.iload_n 2, 1) := by decide +kernel
theorem dX1_titleLineOf_3 : decode cX1_titleLineOf 3 = .ok (.aload_n 0, 1) := by decide +kernel
theorem dX1_titleLineOf_4 : decode cX1_titleLineOf 4 = .ok (.getfield 35, 3) := by decide +kernel
theorem dX1_titleLineOf_7 : decode cX1_titleLineOf 7 = .ok (.iconst 1, 1) := by decide +kernel
theorem dX1_titleLineOf_8 : decode cX1_titleLineOf 8 = .ok (.isub, 1) := by decide +kernel
theorem dX1_titleLineOf_9 : decode cX1_titleLineOf 9 = .ok (.if_icmp .ge 19, 3) := by decide +kernel
theorem dX1_titleLineOf_12 : decode cX1_titleLineOf 12 = .ok (.aload_n 0, 1) := by decide +kernel
theorem dX1_titleLineOf_13 : decode cX1_titleLineOf 13 = .ok (.getfield 15, 3) := by decide +kernel
theorem dX1_titleLineOf_16 : decode cX1_titleLineOf 16 = .ok (.iload_n 2, 1) := by decide +kernel
theorem dX1_titleLineOf_17 : decode cX1_titleLineOf 17 = .ok (.iaload, 1) := by decide +kernel
theorem dX1_titleLineOf_18 : decode cX1_titleLineOf 18 = .ok (.iload_n 1, 1) := by decide +kernel
theorem dX1_titleLineOf_19 : decode cX1_titleLineOf 19 = .ok (.if_icmp .ge 9, 3) := by decide +kernel
theorem dX1_titleLineOf_22 : decode cX1_titleLineOf 22 = .ok (.iinc 2 1, 3) := by decide +kernel
theorem dX1_titleLineOf_25 : decode cX1_titleLineOf 25 = .ok (.goto (-23), 3) := by decide +kernel
theorem dX1_titleLineOf_28 : decode cX1_titleLineOf 28 = .ok (.iload_n 2, 1) := by decide +kernel
theorem dX1_titleLineOf_29 : decode cX1_titleLineOf 29 = .ok (.ireturn, 1) := by decide +kernel
theorem dX1_lastLineOf_0 : decode cX1_lastLineOf 0 = .ok (.aload_n 0, 1) := by decide +kernel
theorem dX1_lastLineOf_1 : decode cX1_lastLineOf 1 = .ok (.getfield 35, 3) := by decide +kernel
theorem dX1_lastLineOf_4 : decode cX1_lastLineOf 4 = .ok (.iconst 1, 1) := by decide +kernel
theorem dX1_lastLineOf_5 : decode cX1_lastLineOf 5 = .ok (.isub, 1) := by decide +kernel
theorem dX1_lastLineOf_6 : decode cX1_lastLineOf 6 = .ok (.istore_n 2, 1) := by decide +kernel
theorem dX1_lastLineOf_7 : decode cX1_lastLineOf 7 = .ok (.iload_n 2, 1) := by decide +kernel
theorem dX1_lastLineOf_8 : decode cX1_lastLineOf 8 = .ok (.ifCond .le 19, 3) := by decide +kernel
theorem dX1_lastLineOf_11 : decode cX1_lastLineOf 11 = .ok (.aload_n 0, 1) := by decide +kernel
theorem dX1_lastLineOf_12 : decode cX1_lastLineOf 12 = .ok (.getfield 15, 3) := by decide +kernel
theorem dX1_lastLineOf_15 : decode cX1_lastLineOf 15 = .ok (.iload_n 2, 1) := by decide +kernel
theorem dX1_lastLineOf_16 : decode cX1_lastLineOf 16 = .ok (.iaload, 1) := by decide +kernel
theorem dX1_lastLineOf_17 : decode cX1_lastLineOf 17 = .ok (.iload_n 1, 1) := by decide +kernel
theorem dX1_lastLineOf_18 : decode cX1_lastLineOf 18 = .ok (.if_icmp .le 9, 3) := by decide +kernel
theorem dX1_lastLineOf_21 : decode cX1_lastLineOf 21 = .ok (.iinc 2 (-1), 3) := by decide +kernel
theorem dX1_lastLineOf_24 : decode cX1_lastLineOf 24 = .ok (.goto (-17), 3) := by decide +kernel
theorem dX1_lastLineOf_27 : decode cX1_lastLineOf 27 = .ok (.iload_n 2, 1) := by decide +kernel
theorem dX1_lastLineOf_28 : decode cX1_lastLineOf 28 = .ok (.ireturn, 1) := by decide +kernel
theorem dX1_countChapters_0 : decode cX1_countChapters 0 = .ok (.aload_n 0, 1) := by decide +kernel
theorem dX1_countChapters_1 : decode cX1_countChapters 1 = .ok (.getfield 35, 3) := by decide +kernel
theorem dX1_countChapters_4 : decode cX1_countChapters 4 = .ok (.ifCond .ne 7, 3) := by decide +kernel
theorem dX1_countChapters_7 : decode cX1_countChapters 7 = .ok (.iconst 0, 1) := by decide +kernel
theorem dX1_countChapters_8 : decode cX1_countChapters 8 = .ok (.goto 16, 3) := by decide +kernel
theorem dX1_countChapters_11 : decode cX1_countChapters 11 = .ok (.aload_n 0, 1) := by decide +kernel
theorem dX1_countChapters_12 : decode cX1_countChapters 12 = .ok (.getfield 15, 3) := by decide +kernel
theorem dX1_countChapters_15 : decode cX1_countChapters 15 = .ok (.aload_n 0, 1) := by decide +kernel
theorem dX1_countChapters_16 : decode cX1_countChapters 16 = .ok (.getfield 35, 3) := by decide +kernel
theorem dX1_countChapters_19 : decode cX1_countChapters 19 = .ok (.iconst 1, 1) := by decide +kernel
theorem dX1_countChapters_20 : decode cX1_countChapters 20 = .ok (.isub, 1) := by decide +kernel
theorem dX1_countChapters_21 : decode cX1_countChapters 21 = .ok (.iaload, 1) := by decide +kernel
theorem dX1_countChapters_22 : decode cX1_countChapters 22 = .ok (.iconst 1, 1) := by decide +kernel
theorem dX1_countChapters_23 : decode cX1_countChapters 23 = .ok (.iadd, 1) := by decide +kernel
theorem dX1_countChapters_24 : decode cX1_countChapters 24 = .ok (.ireturn, 1) := by decide +kernel
theorem dX1_countBlank_0 : decode cX1_countBlank 0 = .ok (.iconst 0, 1) := by decide +kernel
theorem dX1_countBlank_1 : decode cX1_countBlank 1 = .ok (.istore_n 1, 1) := by decide +kernel
theorem dX1_countBlank_2 : decode cX1_countBlank 2 = .ok (.iconst 1, 1) := by decide +kernel
theorem dX1_countBlank_3 : decode cX1_countBlank 3 = .ok (.istore_n 2, 1) := by decide +kernel
theorem dX1_countBlank_4 : decode cX1_countBlank 4 = .ok (.iload_n 2, 1) := by decide +kernel
theorem dX1_countBlank_5 : decode cX1_countBlank 5 = .ok (.aload_n 0, 1) := by decide +kernel
theorem dX1_countBlank_6 : decode cX1_countBlank 6 = .ok (.getfield 39, 3) := by decide +kernel
theorem dX1_countBlank_9 : decode cX1_countBlank 9 = .ok (.if_icmp .gt 21, 3) := by decide +kernel
theorem dX1_countBlank_12 : decode cX1_countBlank 12 = .ok (.aload_n 0, 1) := by decide +kernel
theorem dX1_countBlank_13 : decode cX1_countBlank 13 = .ok (.getfield 26, 3) := by decide +kernel
theorem dX1_countBlank_16 : decode cX1_countBlank 16 = .ok (.iload_n 2, 1) := by decide +kernel
theorem dX1_countBlank_17 : decode cX1_countBlank 17 = .ok (.iaload, 1) := by decide +kernel
theorem dX1_countBlank_18 : decode cX1_countBlank 18 = .ok (.ifCond .ne 6, 3) := by decide +kernel
theorem dX1_countBlank_21 : decode cX1_countBlank 21 = .ok (.iinc 1 1, 3) := by decide +kernel
theorem dX1_countBlank_24 : decode cX1_countBlank 24 = .ok (.iinc 2 1, 3) := by decide +kernel
theorem dX1_countBlank_27 : decode cX1_countBlank 27 = .ok (.goto (-23), 3) := by decide +kernel
theorem dX1_countBlank_30 : decode cX1_countBlank 30 = .ok (.iload_n 1, 1) := by decide +kernel
theorem dX1_countBlank_31 : decode cX1_countBlank 31 = .ok (.ireturn, 1) := by decide +kernel
set_option maxRecDepth 20000 in
theorem ggX1_countShared_X1_isShared : GoodIn wsX1_countShared wsX1_isShared := goodIn_r _ [6, 7, 8, 9, 10, 11, 12, 13, 14, 15, 16, 17, 18, 19, 20, 21, 22] (by decide +kernel) (by decide +kernel)
set_option maxRecDepth 20000 in
theorem gX1_countShared_X1_isShared : GoodIn wsX1_countShared (wsV RX1 101 RX1 yX1_isShared wsX1_isShared) := goodIn_app (goodIn_of _ (by decide +kernel)) ggX1_countShared_X1_isShared
theorem dX1_countShared_0 : decode cX1_countShared 0 = .ok (.iconst 0, 1) := by decide +kernel
theorem dX1_countShared_1 : decode cX1_countShared 1 = .ok (.istore_n 1, 1) := by decide +kernel
theorem dX1_countShared_2 : decode cX1_countShared 2 = .ok (.iconst 1, 1) := by decide +kernel
theorem dX1_countShared_3 : decode cX1_countShared 3 = .ok (.istore_n 2, 1) := by decide +kernel
theorem dX1_countShared_4 : decode cX1_countShared 4 = .ok (.iload_n 2, 1) := by decide +kernel
theorem dX1_countShared_5 : decode cX1_countShared 5 = .ok (.aload_n 0, 1) := by decide +kernel
theorem dX1_countShared_6 : decode cX1_countShared 6 = .ok (.getfield 39, 3) := by decide +kernel
theorem dX1_countShared_9 : decode cX1_countShared 9 = .ok (.if_icmp .gt 20, 3) := by decide +kernel
theorem dX1_countShared_12 : decode cX1_countShared 12 = .ok (.aload_n 0, 1) := by decide +kernel
theorem dX1_countShared_13 : decode cX1_countShared 13 = .ok (.iload_n 2, 1) := by decide +kernel
theorem dX1_countShared_14 : decode cX1_countShared 14 = .ok (.invokevirtual 101, 3) := by decide +kernel
theorem dX1_countShared_17 : decode cX1_countShared 17 = .ok (.ifCond .eq 6, 3) := by decide +kernel
theorem dX1_countShared_20 : decode cX1_countShared 20 = .ok (.iinc 1 1, 3) := by decide +kernel
theorem dX1_countShared_23 : decode cX1_countShared 23 = .ok (.iinc 2 1, 3) := by decide +kernel
theorem dX1_countShared_26 : decode cX1_countShared 26 = .ok (.goto (-22), 3) := by decide +kernel
theorem dX1_countShared_29 : decode cX1_countShared 29 = .ok (.iload_n 1, 1) := by decide +kernel
theorem dX1_countShared_30 : decode cX1_countShared 30 = .ok (.ireturn, 1) := by decide +kernel
theorem dX1_countHeads_0 : decode cX1_countHeads 0 = .ok (.iconst 0, 1) := by decide +kernel
theorem dX1_countHeads_1 : decode cX1_countHeads 1 = .ok (.istore_n 1, 1) := by decide +kernel
theorem dX1_countHeads_2 : decode cX1_countHeads 2 = .ok (.iconst 1, 1) := by decide +kernel
theorem dX1_countHeads_3 : decode cX1_countHeads 3 = .ok (.istore_n 2, 1) := by decide +kernel
theorem dX1_countHeads_4 : decode cX1_countHeads 4 = .ok (.iload_n 2, 1) := by decide +kernel
theorem dX1_countHeads_5 : decode cX1_countHeads 5 = .ok (.aload_n 0, 1) := by decide +kernel
theorem dX1_countHeads_6 : decode cX1_countHeads 6 = .ok (.getfield 39, 3) := by decide +kernel
theorem dX1_countHeads_9 : decode cX1_countHeads 9 = .ok (.if_icmp .gt 23, 3) := by decide +kernel
theorem dX1_countHeads_12 : decode cX1_countHeads 12 = .ok (.aload_n 0, 1) := by decide +kernel
theorem dX1_countHeads_13 : decode cX1_countHeads 13 = .ok (.getfield 32, 3) := by decide +kernel
theorem dX1_countHeads_16 : decode cX1_countHeads 16 = .ok (.iload_n 2, 1) := by decide +kernel
theorem dX1_countHeads_17 : decode cX1_countHeads 17 = .ok (.iaload, 1) := by decide +kernel
theorem dX1_countHeads_18 : decode cX1_countHeads 18 = .ok (.bipush (-6), 2) := by decide +kernel
theorem dX1_countHeads_20 : decode cX1_countHeads 20 = .ok (.if_icmp .eq 6, 3) := by decide +kernel
theorem dX1_countHeads_23 : decode cX1_countHeads 23 = .ok (.iinc 1 1, 3) := by decide +kernel
theorem dX1_countHeads_26 : decode cX1_countHeads 26 = .ok (.iinc 2 1, 3) := by decide +kernel
theorem dX1_countHeads_29 : decode cX1_countHeads 29 = .ok (.goto (-25), 3) := by decide +kernel
theorem dX1_countHeads_32 : decode cX1_countHeads 32 = .ok (.iload_n 1, 1) := by decide +kernel
theorem dX1_countHeads_33 : decode cX1_countHeads 33 = .ok (.ireturn, 1) := by decide +kernel
theorem dX1_isLeft_0 : decode cX1_isLeft 0 = .ok (.iload_n 0, 1) := by decide +kernel
theorem dX1_isLeft_1 : decode cX1_isLeft 1 = .ok (.iconst 2, 1) := by decide +kernel
theorem dX1_isLeft_2 : decode cX1_isLeft 2 = .ok (.irem, 1) := by decide +kernel
theorem dX1_isLeft_3 : decode cX1_isLeft 3 = .ok (.ifCond .ne 7, 3) := by decide +kernel
theorem dX1_isLeft_6 : decode cX1_isLeft 6 = .ok (.iconst 1, 1) := by decide +kernel
theorem dX1_isLeft_7 : decode cX1_isLeft 7 = .ok (.goto 4, 3) := by decide +kernel
theorem dX1_isLeft_10 : decode cX1_isLeft 10 = .ok (.iconst 0, 1) := by decide +kernel
theorem dX1_isLeft_11 : decode cX1_isLeft 11 = .ok (.ireturn, 1) := by decide +kernel
theorem dX2_init_0 : decode cX2_init 0 = .ok (.aload_n 0, 1) := by decide +kernel
theorem dX2_init_1 : decode cX2_init 1 = .ok (.invokespecial 3, 3) := by decide +kernel
theorem dX2_init_4 : decode cX2_init 4 = .ok (.aload_n 0, 1) := by decide +kernel
theorem dX2_init_5 : decode cX2_init 5 = .ok (.bipush 60, 2) := by decide +kernel
theorem dX2_init_7 : decode cX2_init 7 = .ok (.newarray .int, 2) := by decide +kernel
theorem dX2_init_9 : decode cX2_init 9 = .ok (.putfield 9, 3) := by decide +kernel
theorem dX2_init_12 : decode cX2_init 12 = .ok (.aload_n 0, 1) := by decide +kernel
theorem dX2_init_13 : decode cX2_init 13 = .ok (.iconst 0, 1) := by decide +kernel
theorem dX2_init_14 : decode cX2_init 14 = .ok (.putfield 15, 3) := by decide +kernel
theorem dX2_init_17 : decode cX2_init 17 = .ok (.return_, 1) := by decide +kernel
theorem dX2_append_0 : decode cX2_append 0 = .ok (.aload_n 0, 1) := by decide +kernel
theorem dX2_append_1 : decode cX2_append 1 = .ok (.getfield 15, 3) := by decide +kernel
theorem dX2_append_4 : decode cX2_append 4 = .ok (.bipush 60, 2) := by decide +kernel
theorem dX2_append_6 : decode cX2_append 6 = .ok (.if_icmp .ge 23, 3) := by decide +kernel
theorem dX2_append_9 : decode cX2_append 9 = .ok (.aload_n 0, 1) := by decide +kernel
theorem dX2_append_10 : decode cX2_append 10 = .ok (.getfield 9, 3) := by decide +kernel
theorem dX2_append_13 : decode cX2_append 13 = .ok (.aload_n 0, 1) := by decide +kernel
theorem dX2_append_14 : decode cX2_append 14 = .ok (.getfield 15, 3) := by decide +kernel
theorem dX2_append_17 : decode cX2_append 17 = .ok (.iload_n 1, 1) := by decide +kernel
theorem dX2_append_18 : decode cX2_append 18 = .ok (.iastore, 1) := by decide +kernel
theorem dX2_append_19 : decode cX2_append 19 = .ok (.aload_n 0, 1) := by decide +kernel
theorem dX2_append_20 : decode cX2_append 20 = .ok (.dup, 1) := by decide +kernel
theorem dX2_append_21 : decode cX2_append 21 = .ok (.getfield 15, 3) := by decide +kernel
theorem dX2_append_24 : decode cX2_append 24 = .ok (.iconst 1, 1) := by decide +kernel
theorem dX2_append_25 : decode cX2_append 25 = .ok (.iadd, 1) := by decide +kernel
theorem dX2_append_26 : decode cX2_append 26 = .ok (.putfield 15, 3) := by decide +kernel
theorem dX2_append_29 : decode cX2_append 29 = .ok (.return_, 1) := by decide +kernel
set_option maxRecDepth 20000 in
theorem ggX2_faultPlace_X3_classOf : GoodIn wsX2_faultPlace wsX3_classOf := goodIn_r _ [5] (by decide +kernel) (by decide +kernel)
set_option maxRecDepth 20000 in
theorem gX2_faultPlace_X3_classOf_n19 : GoodIn wsX2_faultPlace (wsX3_classOf) := ggX2_faultPlace_X3_classOf
theorem dX2_faultPlace_0 : decode cX2_faultPlace 0 = .ok (.iconst 1, 1) := by decide +kernel
theorem dX2_faultPlace_1 : decode cX2_faultPlace 1 = .ok (.istore_n 1, 1) := by decide +kernel
theorem dX2_faultPlace_2 : decode cX2_faultPlace 2 = .ok (.iconst 0, 1) := by decide +kernel
theorem dX2_faultPlace_3 : decode cX2_faultPlace 3 = .ok (.istore_n 2, 1) := by decide +kernel
theorem dX2_faultPlace_4 : decode cX2_faultPlace 4 = .ok (.iload_n 2, 1) := by decide +kernel
theorem dX2_faultPlace_5 : decode cX2_faultPlace 5 = .ok (.aload_n 0, 1) := by decide +kernel
theorem dX2_faultPlace_6 : decode cX2_faultPlace 6 = .ok (.getfield 15, 3) := by decide +kernel
theorem dX2_faultPlace_9 : decode cX2_faultPlace 9 = .ok (.if_icmp .ge 78, 3) := by decide +kernel
theorem dX2_faultPlace_12 : decode cX2_faultPlace 12 = .ok (.aload_n 0, 1) := by decide +kernel
theorem dX2_faultPlace_13 : decode cX2_faultPlace 13 = .ok (.getfield 9, 3) := by decide +kernel
theorem dX2_faultPlace_16 : decode cX2_faultPlace 16 = .ok (.iload_n 2, 1) := by decide +kernel
theorem dX2_faultPlace_17 : decode cX2_faultPlace 17 = .ok (.iaload, 1) := by decide +kernel
theorem dX2_faultPlace_18 : decode cX2_faultPlace 18 = .ok (.bipush 47, 2) := by decide +kernel
theorem dX2_faultPlace_20 : decode cX2_faultPlace 20 = .ok (.if_icmp .ne 7, 3) := by decide +kernel
theorem dX2_faultPlace_23 : decode cX2_faultPlace 23 = .ok (.iconst 1, 1) := by decide +kernel
theorem dX2_faultPlace_24 : decode cX2_faultPlace 24 = .ok (.goto 4, 3) := by decide +kernel
theorem dX2_faultPlace_27 : decode cX2_faultPlace 27 = .ok (.iconst 0, 1) := by decide +kernel
theorem dX2_faultPlace_28 : decode cX2_faultPlace 28 = .ok (.istore_n 3, 1) := by decide +kernel
theorem dX2_faultPlace_29 : decode cX2_faultPlace 29 = .ok (.aload_n 0, 1) := by decide +kernel
theorem dX2_faultPlace_30 : decode cX2_faultPlace 30 = .ok (.getfield 9, 3) := by decide +kernel
theorem dX2_faultPlace_33 : decode cX2_faultPlace 33 = .ok (.iload_n 2, 1) := by decide +kernel
theorem dX2_faultPlace_34 : decode cX2_faultPlace 34 = .ok (.iaload, 1) := by decide +kernel
theorem dX2_faultPlace_35 : decode cX2_faultPlace 35 = .ok (.bipush 46, 2) := by decide +kernel
theorem dX2_faultPlace_37 : decode cX2_faultPlace 37 = .ok (.if_icmp .eq 17, 3) := by decide +kernel
theorem dX2_faultPlace_40 : decode cX2_faultPlace 40 = .ok (.aload_n 0, 1) := by decide +kernel
theorem dX2_faultPlace_41 : decode cX2_faultPlace 41 = .ok (.getfield 9, 3) := by decide +kernel
theorem dX2_faultPlace_44 : decode cX2_faultPlace 44 = .ok (.iload_n 2, 1) := by decide +kernel
theorem dX2_faultPlace_45 : decode cX2_faultPlace 45 = .ok (.iaload, 1) := by decide +kernel
theorem dX2_faultPlace_46 : decode cX2_faultPlace 46 = .ok (.invokestatic 19, 3) := by decide +kernel
theorem dX2_faultPlace_49 : decode cX2_faultPlace 49 = .ok (.bipush (-6), 2) := by decide +kernel
theorem dX2_faultPlace_51 : decode cX2_faultPlace 51 = .ok (.if_icmp .eq 7, 3) := by decide +kernel
theorem dX2_faultPlace_54 : decode cX2_faultPlace 54 = .ok (.iconst 1, 1) := by decide +kernel
theorem dX2_faultPlace_55 : decode cX2_faultPlace 55 = .ok (.goto 4, 3) := by decide +kernel
theorem dX2_faultPlace_58 : decode cX2_faultPlace 58 = .ok (.iconst 0, 1) := by decide +kernel
theorem dX2_faultPlace_59 : decode cX2_faultPlace 59 = .ok (.istore 4, 2) := by decide +kernel
theorem dX2_faultPlace_61 : decode cX2_faultPlace 61 = .ok (.iload_n 3, 1) := by decide +kernel
theorem dX2_faultPlace_62 : decode cX2_faultPlace 62 = .ok (.ifCond .eq 10, 3) := by decide +kernel
theorem dX2_faultPlace_65 : decode cX2_faultPlace 65 = .ok (.iload_n 1, 1) := by decide +kernel
theorem dX2_faultPlace_66 : decode cX2_faultPlace 66 = .ok (.ifCond .eq 13, 3) := by decide +kernel
theorem dX2_faultPlace_69 : decode cX2_faultPlace 69 = .ok (.goto 8, 3) := by decide +kernel
theorem dX2_faultPlace_72 : decode cX2_faultPlace 72 = .ok (.iload 4, 2) := by decide +kernel
theorem dX2_faultPlace_74 : decode cX2_faultPlace 74 = .ok (.ifCond .ne 5, 3) := by decide +kernel
theorem dX2_faultPlace_77 : decode cX2_faultPlace 77 = .ok (.iload_n 2, 1) := by decide +kernel
theorem dX2_faultPlace_78 : decode cX2_faultPlace 78 = .ok (.ireturn, 1) := by decide +kernel
theorem dX2_faultPlace_79 : decode cX2_faultPlace 79 = .ok (.iload_n 3, 1) := by decide +kernel
theorem dX2_faultPlace_80 : decode cX2_faultPlace 80 = .ok (.istore_n 1, 1) := by decide +kernel
theorem dX2_faultPlace_81 : decode cX2_faultPlace 81 = .ok (.iinc 2 1, 3) := by decide +kernel
theorem dX2_faultPlace_84 : decode cX2_faultPlace 84 = .ok (.goto (-80), 3) := by decide +kernel
theorem dX2_faultPlace_87 : decode cX2_faultPlace 87 = .ok (.aload_n 0, 1) := by decide +kernel
theorem dX2_faultPlace_88 : decode cX2_faultPlace 88 = .ok (.getfield 15, 3) := by decide +kernel
theorem dX2_faultPlace_91 : decode cX2_faultPlace 91 = .ok (.ifCond .le 14, 3) := by decide +kernel
theorem dX2_faultPlace_94 : decode cX2_faultPlace 94 = .ok (.iload_n 1, 1) := by decide +kernel
theorem dX2_faultPlace_95 : decode cX2_faultPlace 95 = .ok (.ifCond .eq 10, 3) := by decide +kernel
theorem dX2_faultPlace_98 : decode cX2_faultPlace 98 = .ok (.aload_n 0, 1) := by decide +kernel
theorem dX2_faultPlace_99 : decode cX2_faultPlace 99 = .ok (.getfield 15, 3) := by decide +kernel
theorem dX2_faultPlace_102 : decode cX2_faultPlace 102 = .ok (.goto 5, 3) := by decide +kernel
theorem dX2_faultPlace_105 : decode cX2_faultPlace 105 = .ok (.bipush (-6), 2) := by decide +kernel
theorem dX2_faultPlace_107 : decode cX2_faultPlace 107 = .ok (.ireturn, 1) := by decide +kernel
set_option maxRecDepth 20000 in
theorem ggX3_init_X2_init : GoodIn wsX3_init wsX2_init := goodIn_r _ [20, 21, 2, 3, 22, 23, 24, 51, 52] (by decide +kernel) (by decide +kernel)
set_option maxRecDepth 20000 in
theorem gX3_init_X2_init_n11 : GoodIn wsX3_init (wsX2_init) := ggX3_init_X2_init
set_option maxRecDepth 20000 in
theorem ggX3_init_X0_init : GoodIn wsX3_init wsX0_init := goodIn_r _ [26, 27, 2, 3, 22, 28, 29, 30, 31, 32, 33, 34, 35, 36, 37, 59, 60, 61, 62] (by decide +kernel) (by decide +kernel)
set_option maxRecDepth 20000 in
theorem gX3_init_X0_init_n18 : GoodIn wsX3_init (wsX0_init) := ggX3_init_X0_init
set_option maxRecDepth 20000 in
theorem ggX3_init_X1_init : GoodIn wsX3_init wsX1_init := goodIn_r _ [39, 40, 2, 3, 22, 41, 42, 43, 44, 45, 46, 47, 48, 49, 50, 63, 64, 65, 66, 67, 68, 69, 70, 71] (by decide +kernel) (by decide +kernel)
set_option maxRecDepth 20000 in
theorem gX3_init_X1_init_n33 : GoodIn wsX3_init (wsX1_init) := ggX3_init_X1_init
theorem dX3_init_0 : decode cX3_init 0 = .ok (.aload_n 0, 1) := by decide +kernel
theorem dX3_init_1 : decode cX3_init 1 = .ok (.invokespecial 3, 3) := by decide +kernel
theorem dX3_init_4 : decode cX3_init 4 = .ok (.aload_n 0, 1) := by decide +kernel
theorem dX3_init_5 : decode cX3_init 5 = .ok (.new 9, 3) := by decide +kernel
theorem dX3_init_8 : decode cX3_init 8 = .ok (.dup, 1) := by decide +kernel
theorem dX3_init_9 : decode cX3_init 9 = .ok (.invokespecial 11, 3) := by decide +kernel
theorem dX3_init_12 : decode cX3_init 12 = .ok (.putfield 12, 3) := by decide +kernel
theorem dX3_init_15 : decode cX3_init 15 = .ok (.aload_n 0, 1) := by decide +kernel
theorem dX3_init_16 : decode cX3_init 16 = .ok (.new 16, 3) := by decide +kernel
theorem dX3_init_19 : decode cX3_init 19 = .ok (.dup, 1) := by decide +kernel
theorem dX3_init_20 : decode cX3_init 20 = .ok (.invokespecial 18, 3) := by decide +kernel
theorem dX3_init_23 : decode cX3_init 23 = .ok (.putfield 19, 3) := by decide +kernel
theorem dX3_init_26 : decode cX3_init 26 = .ok (.aload_n 0, 1) := by decide +kernel
theorem dX3_init_27 : decode cX3_init 27 = .ok (.iconst 2, 1) := by decide +kernel
theorem dX3_init_28 : decode cX3_init 28 = .ok (.anewarray 16, 3) := by decide +kernel
theorem dX3_init_31 : decode cX3_init 31 = .ok (.putfield 23, 3) := by decide +kernel
theorem dX3_init_34 : decode cX3_init 34 = .ok (.iconst 0, 1) := by decide +kernel
theorem dX3_init_35 : decode cX3_init 35 = .ok (.istore_n 1, 1) := by decide +kernel
theorem dX3_init_36 : decode cX3_init 36 = .ok (.iload_n 1, 1) := by decide +kernel
theorem dX3_init_37 : decode cX3_init 37 = .ok (.iconst 2, 1) := by decide +kernel
theorem dX3_init_38 : decode cX3_init 38 = .ok (.if_icmp .ge 22, 3) := by decide +kernel
theorem dX3_init_41 : decode cX3_init 41 = .ok (.aload_n 0, 1) := by decide +kernel
theorem dX3_init_42 : decode cX3_init 42 = .ok (.getfield 23, 3) := by decide +kernel
theorem dX3_init_45 : decode cX3_init 45 = .ok (.iload_n 1, 1) := by decide +kernel
theorem dX3_init_46 : decode cX3_init 46 = .ok (.new 16, 3) := by decide +kernel
theorem dX3_init_49 : decode cX3_init 49 = .ok (.dup, 1) := by decide +kernel
theorem dX3_init_50 : decode cX3_init 50 = .ok (.invokespecial 18, 3) := by decide +kernel
theorem dX3_init_53 : decode cX3_init 53 = .ok (.aastore, 1) := by decide +kernel
theorem dX3_init_54 : decode cX3_init 54 = .ok (.iinc 1 1, 3) := by decide +kernel
theorem dX3_init_57 : decode cX3_init 57 = .ok (.goto (-21), 3) := by decide +kernel
theorem dX3_init_60 : decode cX3_init 60 = .ok (.aload_n 0, 1) := by decide +kernel
theorem dX3_init_61 : decode cX3_init 61 = .ok (.iconst 0, 1) := by decide +kernel
theorem dX3_init_62 : decode cX3_init 62 = .ok (.putfield 27, 3) := by decide +kernel
theorem dX3_init_65 : decode cX3_init 65 = .ok (.aload_n 0, 1) := by decide +kernel
theorem dX3_init_66 : decode cX3_init 66 = .ok (.new 31, 3) := by decide +kernel
theorem dX3_init_69 : decode cX3_init 69 = .ok (.dup, 1) := by decide +kernel
theorem dX3_init_70 : decode cX3_init 70 = .ok (.invokespecial 33, 3) := by decide +kernel
theorem dX3_init_73 : decode cX3_init 73 = .ok (.putfield 34, 3) := by decide +kernel
theorem dX3_init_76 : decode cX3_init 76 = .ok (.aload_n 0, 1) := by decide +kernel
theorem dX3_init_77 : decode cX3_init 77 = .ok (.new 31, 3) := by decide +kernel
theorem dX3_init_80 : decode cX3_init 80 = .ok (.dup, 1) := by decide +kernel
theorem dX3_init_81 : decode cX3_init 81 = .ok (.invokespecial 33, 3) := by decide +kernel
theorem dX3_init_84 : decode cX3_init 84 = .ok (.putfield 38, 3) := by decide +kernel
theorem dX3_init_87 : decode cX3_init 87 = .ok (.return_, 1) := by decide +kernel
set_option maxRecDepth 20000 in
theorem ggX3_say_X2_append : GoodIn wsX3_say wsX2_append := goodIn_r _ [7, 8, 9, 16, 17] (by decide +kernel) (by decide +kernel)
set_option maxRecDepth 20000 in
theorem gX3_say_X2_append : GoodIn wsX3_say (wsV RX3 44 RX2 yX2_append wsX2_append) := goodIn_app (goodIn_of _ (by decide +kernel)) ggX3_say_X2_append
theorem dX3_say_0 : decode cX3_say 0 = .ok (.iload_n 1, 1) := by decide +kernel
theorem dX3_say_1 : decode cX3_say 1 = .ok (.bipush 33, 2) := by decide +kernel
theorem dX3_say_3 : decode cX3_say 3 = .ok (.if_icmp .lt 9, 3) := by decide +kernel
theorem dX3_say_6 : decode cX3_say 6 = .ok (.iload_n 1, 1) := by decide +kernel
theorem dX3_say_7 : decode cX3_say 7 = .ok (.bipush 126, 2) := by decide +kernel
theorem dX3_say_9 : decode cX3_say 9 = .ok (.if_icmp .le 6, 3) := by decide +kernel
theorem dX3_say_12 : decode cX3_say 12 = .ok (.bipush (-2), 2) := by decide +kernel
theorem dX3_say_14 : decode cX3_say 14 = .ok (.ireturn, 1) := by decide +kernel
theorem dX3_say_15 : decode cX3_say 15 = .ok (.aload_n 0, 1) := by decide +kernel
theorem dX3_say_16 : decode cX3_say 16 = .ok (.getfield 12, 3) := by decide +kernel
theorem dX3_say_19 : decode cX3_say 19 = .ok (.getfield 41, 3) := by decide +kernel
theorem dX3_say_22 : decode cX3_say 22 = .ok (.bipush 60, 2) := by decide +kernel
theorem dX3_say_24 : decode cX3_say 24 = .ok (.if_icmp .lt 6, 3) := by decide +kernel
theorem dX3_say_27 : decode cX3_say 27 = .ok (.bipush (-4), 2) := by decide +kernel
theorem dX3_say_29 : decode cX3_say 29 = .ok (.ireturn, 1) := by decide +kernel
theorem dX3_say_30 : decode cX3_say 30 = .ok (.aload_n 0, 1) := by decide +kernel
theorem dX3_say_31 : decode cX3_say 31 = .ok (.getfield 12, 3) := by decide +kernel
theorem dX3_say_34 : decode cX3_say 34 = .ok (.iload_n 1, 1) := by decide +kernel
theorem dX3_say_35 : decode cX3_say 35 = .ok (.invokevirtual 44, 3) := by decide +kernel
theorem dX3_say_38 : decode cX3_say 38 = .ok (.aload_n 0, 1) := by decide +kernel
theorem dX3_say_39 : decode cX3_say 39 = .ok (.getfield 12, 3) := by decide +kernel
theorem dX3_say_42 : decode cX3_say 42 = .ok (.getfield 41, 3) := by decide +kernel
theorem dX3_say_45 : decode cX3_say 45 = .ok (.ireturn, 1) := by decide +kernel
theorem dX3_wipe_0 : decode cX3_wipe 0 = .ok (.aload_n 0, 1) := by decide +kernel
theorem dX3_wipe_1 : decode cX3_wipe 1 = .ok (.getfield 12, 3) := by decide +kernel
theorem dX3_wipe_4 : decode cX3_wipe 4 = .ok (.getfield 41, 3) := by decide +kernel
theorem dX3_wipe_7 : decode cX3_wipe 7 = .ok (.istore_n 1, 1) := by decide +kernel
theorem dX3_wipe_8 : decode cX3_wipe 8 = .ok (.aload_n 0, 1) := by decide +kernel
theorem dX3_wipe_9 : decode cX3_wipe 9 = .ok (.getfield 12, 3) := by decide +kernel
theorem dX3_wipe_12 : decode cX3_wipe 12 = .ok (.iconst 0, 1) := by decide +kernel
theorem dX3_wipe_13 : decode cX3_wipe 13 = .ok (.putfield 41, 3) := by decide +kernel
theorem dX3_wipe_16 : decode cX3_wipe 16 = .ok (.iload_n 1, 1) := by decide +kernel
theorem dX3_wipe_17 : decode cX3_wipe 17 = .ok (.ireturn, 1) := by decide +kernel
set_option maxRecDepth 20000 in
theorem ggX3_fault_X2_faultPlace : GoodIn wsX3_fault wsX2_faultPlace := goodIn_r _ [6, 7, 8, 9, 10, 11, 18, 19] (by decide +kernel) (by decide +kernel)
set_option maxRecDepth 20000 in
theorem gX3_fault_X2_faultPlace : GoodIn wsX3_fault (wsV RX3 48 RX2 yX2_faultPlace wsX2_faultPlace) := goodIn_app (goodIn_of _ (by decide +kernel)) ggX3_fault_X2_faultPlace
theorem dX3_fault_0 : decode cX3_fault 0 = .ok (.aload_n 0, 1) := by decide +kernel
theorem dX3_fault_1 : decode cX3_fault 1 = .ok (.getfield 12, 3) := by decide +kernel
theorem dX3_fault_4 : decode cX3_fault 4 = .ok (.invokevirtual 48, 3) := by decide +kernel
theorem dX3_fault_7 : decode cX3_fault 7 = .ok (.ireturn, 1) := by decide +kernel
set_option maxRecDepth 20000 in
theorem ggX3_read_X2_faultPlace : GoodIn wsX3_read wsX2_faultPlace := goodIn_r _ [9, 10, 11, 12, 13, 14, 90, 91] (by decide +kernel) (by decide +kernel)
set_option maxRecDepth 20000 in
theorem gX3_read_X2_faultPlace : GoodIn wsX3_read (wsV RX3 48 RX2 yX2_faultPlace wsX2_faultPlace) := goodIn_app (goodIn_of _ (by decide +kernel)) ggX3_read_X2_faultPlace
set_option maxRecDepth 20000 in
theorem ggX3_read_X0_takeText : GoodIn wsX3_read wsX0_takeText := goodIn_r _ [19, 20, 21, 22, 23, 24, 92, 93, 94, 95, 90, 91] (by decide +kernel) (by decide +kernel)
set_option maxRecDepth 20000 in
theorem gX3_read_X0_takeText : GoodIn wsX3_read (wsV RX3 52 RX0 yX0_takeText wsX0_takeText) := goodIn_app (goodIn_of _ (by decide +kernel)) ggX3_read_X0_takeText
set_option maxRecDepth 20000 in
theorem ggX3_read_X3_layNow : GoodIn wsX3_read wsX3_layNow := goodIn_r _ [28, 29, 2, 30, 31, 32, 33, 34, 35, 36, 37, 38, 39, 40, 41, 42, 43, 44, 45, 46, 47, 12, 13, 14, 48, 49, 50, 51, 52, 53, 54, 55, 56, 57, 58, 59, 60, 61, 62, 63, 64, 65, 66, 67, 68, 69, 70, 71, 72, 73, 74, 75, 76, 77, 78, 79, 80, 81, 82, 83, 84, 85, 86, 87, 88, 89, 92, 93, 94, 95, 96, 97, 98, 99, 100, 101, 102, 103, 104] (by decide +kernel) (by decide +kernel)
set_option maxRecDepth 20000 in
theorem gX3_read_X3_layNow : GoodIn wsX3_read (wsV RX3 56 RX3 yX3_layNow wsX3_layNow) := goodIn_app (goodIn_of _ (by decide +kernel)) ggX3_read_X3_layNow
theorem dX3_read_0 : decode cX3_read 0 = .ok (.aload_n 0, 1) := by decide +kernel
theorem dX3_read_1 : decode cX3_read 1 = .ok (.getfield 12, 3) := by decide +kernel
theorem dX3_read_4 : decode cX3_read 4 = .ok (.invokevirtual 48, 3) := by decide +kernel
theorem dX3_read_7 : decode cX3_read 7 = .ok (.bipush (-6), 2) := by decide +kernel
theorem dX3_read_9 : decode cX3_read 9 = .ok (.if_icmp .eq 6, 3) := by decide +kernel
theorem dX3_read_12 : decode cX3_read 12 = .ok (.bipush (-7), 2) := by decide +kernel
theorem dX3_read_14 : decode cX3_read 14 = .ok (.ireturn, 1) := by decide +kernel
theorem dX3_read_15 : decode cX3_read 15 = .ok (.aload_n 0, 1) := by decide +kernel
theorem dX3_read_16 : decode cX3_read 16 = .ok (.getfield 19, 3) := by decide +kernel
theorem dX3_read_19 : decode cX3_read 19 = .ok (.aload_n 0, 1) := by decide +kernel
theorem dX3_read_20 : decode cX3_read 20 = .ok (.getfield 12, 3) := by decide +kernel
theorem dX3_read_23 : decode cX3_read 23 = .ok (.invokevirtual 52, 3) := by decide +kernel
theorem dX3_read_26 : decode cX3_read 26 = .ok (.aload_n 0, 1) := by decide +kernel
theorem dX3_read_27 : decode cX3_read 27 = .ok (.getfield 12, 3) := by decide +kernel
theorem dX3_read_30 : decode cX3_read 30 = .ok (.iconst 0, 1) := by decide +kernel
theorem dX3_read_31 : decode cX3_read 31 = .ok (.putfield 41, 3) := by decide +kernel
theorem dX3_read_34 : decode cX3_read 34 = .ok (.aload_n 0, 1) := by decide +kernel
theorem dX3_read_35 : decode cX3_read 35 = .ok (.invokevirtual 56, 3) := by decide +kernel
theorem dX3_read_38 : decode cX3_read 38 = .ok (.aload_n 0, 1) := by decide +kernel
theorem dX3_read_39 : decode cX3_read 39 = .ok (.getfield 19, 3) := by decide +kernel
theorem dX3_read_42 : decode cX3_read 42 = .ok (.getfield 59, 3) := by decide +kernel
theorem dX3_read_45 : decode cX3_read 45 = .ok (.ireturn, 1) := by decide +kernel
set_option maxRecDepth 20000 in
theorem ggX3_rule_X0_mayRule : GoodIn wsX3_rule wsX0_mayRule := goodIn_r _ [7, 8, 76, 77, 78, 79] (by decide +kernel) (by decide +kernel)
set_option maxRecDepth 20000 in
theorem gX3_rule_X0_mayRule : GoodIn wsX3_rule (wsV RX3 62 RX0 yX0_mayRule wsX0_mayRule) := goodIn_app (goodIn_of _ (by decide +kernel)) ggX3_rule_X0_mayRule
set_option maxRecDepth 20000 in
theorem ggX3_rule_X3_layNow : GoodIn wsX3_rule wsX3_layNow := goodIn_r _ [13, 14, 1, 2, 15, 16, 17, 18, 19, 20, 21, 22, 23, 24, 25, 26, 27, 28, 29, 30, 31, 32, 12, 33, 34, 35, 36, 37, 38, 39, 40, 41, 42, 43, 44, 45, 46, 47, 48, 49, 50, 51, 52, 53, 54, 55, 56, 57, 58, 59, 60, 61, 62, 63, 64, 65, 66, 67, 68, 69, 70, 71, 72, 73, 74, 75, 76, 77, 78, 79, 80, 81, 82, 83, 84, 85, 86, 87, 88] (by decide +kernel) (by decide +kernel)
set_option maxRecDepth 20000 in
theorem gX3_rule_X3_layNow : GoodIn wsX3_rule (wsV RX3 56 RX3 yX3_layNow wsX3_layNow) := goodIn_app (goodIn_of _ (by decide +kernel)) ggX3_rule_X3_layNow
theorem dX3_rule_0 : decode cX3_rule 0 = .ok (.iload_n 1, 1) := by decide +kernel
theorem dX3_rule_1 : decode cX3_rule 1 = .ok (.ifCond .lt 21, 3) := by decide +kernel
theorem dX3_rule_4 : decode cX3_rule 4 = .ok (.iload_n 1, 1) := by decide +kernel
theorem dX3_rule_5 : decode cX3_rule 5 = .ok (.bipush 9, 2) := by decide +kernel
theorem dX3_rule_7 : decode cX3_rule 7 = .ok (.if_icmp .ge 15, 3) := by decide +kernel
theorem dX3_rule_10 : decode cX3_rule 10 = .ok (.aload_n 0, 1) := by decide +kernel
theorem dX3_rule_11 : decode cX3_rule 11 = .ok (.getfield 19, 3) := by decide +kernel
theorem dX3_rule_14 : decode cX3_rule 14 = .ok (.iload_n 1, 1) := by decide +kernel
theorem dX3_rule_15 : decode cX3_rule 15 = .ok (.iload_n 2, 1) := by decide +kernel
theorem dX3_rule_16 : decode cX3_rule 16 = .ok (.invokevirtual 62, 3) := by decide +kernel
theorem dX3_rule_19 : decode cX3_rule 19 = .ok (.ifCond .ne 6, 3) := by decide +kernel
theorem dX3_rule_22 : decode cX3_rule 22 = .ok (.bipush (-2), 2) := by decide +kernel
theorem dX3_rule_24 : decode cX3_rule 24 = .ok (.ireturn, 1) := by decide +kernel
theorem dX3_rule_25 : decode cX3_rule 25 = .ok (.aload_n 0, 1) := by decide +kernel
theorem dX3_rule_26 : decode cX3_rule 26 = .ok (.getfield 19, 3) := by decide +kernel
theorem dX3_rule_29 : decode cX3_rule 29 = .ok (.getfield 66, 3) := by decide +kernel
theorem dX3_rule_32 : decode cX3_rule 32 = .ok (.iload_n 1, 1) := by decide +kernel
theorem dX3_rule_33 : decode cX3_rule 33 = .ok (.iaload, 1) := by decide +kernel
theorem dX3_rule_34 : decode cX3_rule 34 = .ok (.istore_n 3, 1) := by decide +kernel
theorem dX3_rule_35 : decode cX3_rule 35 = .ok (.aload_n 0, 1) := by decide +kernel
theorem dX3_rule_36 : decode cX3_rule 36 = .ok (.getfield 19, 3) := by decide +kernel
theorem dX3_rule_39 : decode cX3_rule 39 = .ok (.getfield 66, 3) := by decide +kernel
theorem dX3_rule_42 : decode cX3_rule 42 = .ok (.iload_n 1, 1) := by decide +kernel
theorem dX3_rule_43 : decode cX3_rule 43 = .ok (.iload_n 2, 1) := by decide +kernel
theorem dX3_rule_44 : decode cX3_rule 44 = .ok (.iastore, 1) := by decide +kernel
theorem dX3_rule_45 : decode cX3_rule 45 = .ok (.aload_n 0, 1) := by decide +kernel
theorem dX3_rule_46 : decode cX3_rule 46 = .ok (.invokevirtual 56, 3) := by decide +kernel
theorem dX3_rule_49 : decode cX3_rule 49 = .ok (.iload_n 3, 1) := by decide +kernel
theorem dX3_rule_50 : decode cX3_rule 50 = .ok (.ireturn, 1) := by decide +kernel
set_option maxRecDepth 20000 in
theorem ggX3_cut_X0_canBreakAhead : GoodIn wsX3_cut wsX0_canBreakAhead := goodIn_r _ [7, 8, 82, 83, 84, 85] (by decide +kernel) (by decide +kernel)
set_option maxRecDepth 20000 in
theorem gX3_cut_X0_canBreakAhead : GoodIn wsX3_cut (wsV RX3 70 RX0 yX0_canBreakAhead wsX0_canBreakAhead) := goodIn_app (goodIn_of _ (by decide +kernel)) ggX3_cut_X0_canBreakAhead
set_option maxRecDepth 20000 in
theorem ggX3_cut_X3_layNow : GoodIn wsX3_cut wsX3_layNow := goodIn_r _ [13, 14, 1, 15, 16, 17, 18, 19, 20, 21, 22, 23, 24, 25, 26, 27, 28, 29, 30, 31, 32, 33, 12, 34, 35, 36, 37, 38, 39, 40, 41, 42, 43, 44, 45, 46, 47, 48, 49, 50, 51, 52, 53, 54, 55, 56, 57, 58, 59, 60, 61, 62, 63, 64, 65, 66, 67, 68, 69, 70, 76, 77, 78, 79, 80, 81, 82, 83, 84, 85, 86, 87, 88, 89, 90, 91, 92, 93, 94] (by decide +kernel) (by decide +kernel)
set_option maxRecDepth 20000 in
theorem gX3_cut_X3_layNow : GoodIn wsX3_cut (wsV RX3 56 RX3 yX3_layNow wsX3_layNow) := goodIn_app (goodIn_of _ (by decide +kernel)) ggX3_cut_X3_layNow
set_option maxRecDepth 20000 in
theorem ggX3_cut_X0_countBreaks : GoodIn wsX3_cut wsX0_countBreaks := goodIn_r _ [74, 8, 75, 82, 83, 84, 85] (by decide +kernel) (by decide +kernel)
set_option maxRecDepth 20000 in
theorem gX3_cut_X0_countBreaks : GoodIn wsX3_cut (wsV RX3 77 RX0 yX0_countBreaks wsX0_countBreaks) := goodIn_app (goodIn_of _ (by decide +kernel)) ggX3_cut_X0_countBreaks
theorem dX3_cut_0 : decode cX3_cut 0 = .ok (.aload_n 0, 1) := by decide +kernel
theorem dX3_cut_1 : decode cX3_cut 1 = .ok (.getfield 19, 3) := by decide +kernel
theorem dX3_cut_4 : decode cX3_cut 4 = .ok (.iload_n 1, 1) := by decide +kernel
theorem dX3_cut_5 : decode cX3_cut 5 = .ok (.invokevirtual 70, 3) := by decide +kernel
theorem dX3_cut_8 : decode cX3_cut 8 = .ok (.ifCond .ne 5, 3) := by decide +kernel
theorem dX3_cut_11 : decode cX3_cut 11 = .ok (.iconst (-1), 1) := by decide +kernel
theorem dX3_cut_12 : decode cX3_cut 12 = .ok (.ireturn, 1) := by decide +kernel
theorem dX3_cut_13 : decode cX3_cut 13 = .ok (.iload_n 2, 1) := by decide +kernel
theorem dX3_cut_14 : decode cX3_cut 14 = .ok (.ifCond .eq 11, 3) := by decide +kernel
theorem dX3_cut_17 : decode cX3_cut 17 = .ok (.iload_n 2, 1) := by decide +kernel
theorem dX3_cut_18 : decode cX3_cut 18 = .ok (.iconst 1, 1) := by decide +kernel
theorem dX3_cut_19 : decode cX3_cut 19 = .ok (.if_icmp .eq 6, 3) := by decide +kernel
theorem dX3_cut_22 : decode cX3_cut 22 = .ok (.bipush (-2), 2) := by decide +kernel
theorem dX3_cut_24 : decode cX3_cut 24 = .ok (.ireturn, 1) := by decide +kernel
theorem dX3_cut_25 : decode cX3_cut 25 = .ok (.aload_n 0, 1) := by decide +kernel
theorem dX3_cut_26 : decode cX3_cut 26 = .ok (.getfield 19, 3) := by decide +kernel
theorem dX3_cut_29 : decode cX3_cut 29 = .ok (.getfield 74, 3) := by decide +kernel
theorem dX3_cut_32 : decode cX3_cut 32 = .ok (.iload_n 1, 1) := by decide +kernel
theorem dX3_cut_33 : decode cX3_cut 33 = .ok (.iload_n 2, 1) := by decide +kernel
theorem dX3_cut_34 : decode cX3_cut 34 = .ok (.iastore, 1) := by decide +kernel
theorem dX3_cut_35 : decode cX3_cut 35 = .ok (.aload_n 0, 1) := by decide +kernel
theorem dX3_cut_36 : decode cX3_cut 36 = .ok (.invokevirtual 56, 3) := by decide +kernel
theorem dX3_cut_39 : decode cX3_cut 39 = .ok (.aload_n 0, 1) := by decide +kernel
theorem dX3_cut_40 : decode cX3_cut 40 = .ok (.getfield 19, 3) := by decide +kernel
theorem dX3_cut_43 : decode cX3_cut 43 = .ok (.invokevirtual 77, 3) := by decide +kernel
theorem dX3_cut_46 : decode cX3_cut 46 = .ok (.ireturn, 1) := by decide +kernel
set_option maxRecDepth 20000 in
theorem ggX3_line_X3_classOf : GoodIn wsX3_line wsX3_classOf := goodIn_r _ [12] (by decide +kernel) (by decide +kernel)
set_option maxRecDepth 20000 in
theorem gX3_line_X3_classOf : GoodIn wsX3_line (va_wsS RX3 83 yX3_classOf wsX3_classOf) := goodIn_app (goodIn_of _ (by decide +kernel)) ggX3_line_X3_classOf
theorem dX3_line_0 : decode cX3_line 0 = .ok (.iload_n 1, 1) := by decide +kernel
theorem dX3_line_1 : decode cX3_line 1 = .ok (.ifCond .lt 14, 3) := by decide +kernel
theorem dX3_line_4 : decode cX3_line 4 = .ok (.iload_n 1, 1) := by decide +kernel
theorem dX3_line_5 : decode cX3_line 5 = .ok (.aload_n 0, 1) := by decide +kernel
theorem dX3_line_6 : decode cX3_line 6 = .ok (.getfield 19, 3) := by decide +kernel
theorem dX3_line_9 : decode cX3_line 9 = .ok (.getfield 59, 3) := by decide +kernel
theorem dX3_line_12 : decode cX3_line 12 = .ok (.if_icmp .lt 5, 3) := by decide +kernel
theorem dX3_line_15 : decode cX3_line 15 = .ok (.iconst (-1), 1) := by decide +kernel
theorem dX3_line_16 : decode cX3_line 16 = .ok (.ireturn, 1) := by decide +kernel
theorem dX3_line_17 : decode cX3_line 17 = .ok (.iload_n 2, 1) := by decide +kernel
theorem dX3_line_18 : decode cX3_line 18 = .ok (.tableswitch 134 0 5 #[38, 70, 80, 100, 110, 122], 38) := by decide +kernel
theorem dX3_line_56 : decode cX3_line 56 = .ok (.aload_n 0, 1) := by decide +kernel
theorem dX3_line_57 : decode cX3_line 57 = .ok (.getfield 19, 3) := by decide +kernel
theorem dX3_line_60 : decode cX3_line 60 = .ok (.getfield 80, 3) := by decide +kernel
theorem dX3_line_63 : decode cX3_line 63 = .ok (.iload_n 1, 1) := by decide +kernel
theorem dX3_line_64 : decode cX3_line 64 = .ok (.iaload, 1) := by decide +kernel
theorem dX3_line_65 : decode cX3_line 65 = .ok (.invokestatic 83, 3) := by decide +kernel
theorem dX3_line_68 : decode cX3_line 68 = .ok (.bipush (-6), 2) := by decide +kernel
theorem dX3_line_70 : decode cX3_line 70 = .ok (.if_icmp .ne 8, 3) := by decide +kernel
theorem dX3_line_73 : decode cX3_line 73 = .ok (.bipush (-6), 2) := by decide +kernel
theorem dX3_line_75 : decode cX3_line 75 = .ok (.goto 12, 3) := by decide +kernel
theorem dX3_line_78 : decode cX3_line 78 = .ok (.aload_n 0, 1) := by decide +kernel
theorem dX3_line_79 : decode cX3_line 79 = .ok (.getfield 19, 3) := by decide +kernel
theorem dX3_line_82 : decode cX3_line 82 = .ok (.getfield 80, 3) := by decide +kernel
theorem dX3_line_85 : decode cX3_line 85 = .ok (.iload_n 1, 1) := by decide +kernel
theorem dX3_line_86 : decode cX3_line 86 = .ok (.iaload, 1) := by decide +kernel
theorem dX3_line_87 : decode cX3_line 87 = .ok (.ireturn, 1) := by decide +kernel
theorem dX3_line_88 : decode cX3_line 88 = .ok (.aload_n 0, 1) := by decide +kernel
theorem dX3_line_89 : decode cX3_line 89 = .ok (.getfield 34, 3) := by decide +kernel
theorem dX3_line_92 : decode cX3_line 92 = .ok (.getfield 87, 3) := by decide +kernel
theorem dX3_line_95 : decode cX3_line 95 = .ok (.iload_n 1, 1) := by decide +kernel
theorem dX3_line_96 : decode cX3_line 96 = .ok (.iaload, 1) := by decide +kernel
theorem dX3_line_97 : decode cX3_line 97 = .ok (.ireturn, 1) := by decide +kernel
theorem dX3_line_98 : decode cX3_line 98 = .ok (.iload_n 1, 1) := by decide +kernel
theorem dX3_line_99 : decode cX3_line 99 = .ok (.aload_n 0, 1) := by decide +kernel
theorem dX3_line_100 : decode cX3_line 100 = .ok (.getfield 34, 3) := by decide +kernel
theorem dX3_line_103 : decode cX3_line 103 = .ok (.getfield 90, 3) := by decide +kernel
theorem dX3_line_106 : decode cX3_line 106 = .ok (.aload_n 0, 1) := by decide +kernel
theorem dX3_line_107 : decode cX3_line 107 = .ok (.getfield 34, 3) := by decide +kernel
theorem dX3_line_110 : decode cX3_line 110 = .ok (.getfield 87, 3) := by decide +kernel
theorem dX3_line_113 : decode cX3_line 113 = .ok (.iload_n 1, 1) := by decide +kernel
theorem dX3_line_114 : decode cX3_line 114 = .ok (.iaload, 1) := by decide +kernel
theorem dX3_line_115 : decode cX3_line 115 = .ok (.iaload, 1) := by decide +kernel
theorem dX3_line_116 : decode cX3_line 116 = .ok (.isub, 1) := by decide +kernel
theorem dX3_line_117 : decode cX3_line 117 = .ok (.ireturn, 1) := by decide +kernel
theorem dX3_line_118 : decode cX3_line 118 = .ok (.aload_n 0, 1) := by decide +kernel
theorem dX3_line_119 : decode cX3_line 119 = .ok (.getfield 19, 3) := by decide +kernel
theorem dX3_line_122 : decode cX3_line 122 = .ok (.getfield 74, 3) := by decide +kernel
theorem dX3_line_125 : decode cX3_line 125 = .ok (.iload_n 1, 1) := by decide +kernel
theorem dX3_line_126 : decode cX3_line 126 = .ok (.iaload, 1) := by decide +kernel
theorem dX3_line_127 : decode cX3_line 127 = .ok (.ireturn, 1) := by decide +kernel
theorem dX3_line_128 : decode cX3_line 128 = .ok (.aload_n 0, 1) := by decide +kernel
theorem dX3_line_129 : decode cX3_line 129 = .ok (.getfield 34, 3) := by decide +kernel
theorem dX3_line_132 : decode cX3_line 132 = .ok (.getfield 93, 3) := by decide +kernel
theorem dX3_line_135 : decode cX3_line 135 = .ok (.iconst 0, 1) := by decide +kernel
theorem dX3_line_136 : decode cX3_line 136 = .ok (.aaload, 1) := by decide +kernel
theorem dX3_line_137 : decode cX3_line 137 = .ok (.iload_n 1, 1) := by decide +kernel
theorem dX3_line_138 : decode cX3_line 138 = .ok (.iaload, 1) := by decide +kernel
theorem dX3_line_139 : decode cX3_line 139 = .ok (.ireturn, 1) := by decide +kernel
theorem dX3_line_140 : decode cX3_line 140 = .ok (.aload_n 0, 1) := by decide +kernel
theorem dX3_line_141 : decode cX3_line 141 = .ok (.getfield 34, 3) := by decide +kernel
theorem dX3_line_144 : decode cX3_line 144 = .ok (.getfield 93, 3) := by decide +kernel
theorem dX3_line_147 : decode cX3_line 147 = .ok (.iconst 1, 1) := by decide +kernel
theorem dX3_line_148 : decode cX3_line 148 = .ok (.aaload, 1) := by decide +kernel
theorem dX3_line_149 : decode cX3_line 149 = .ok (.iload_n 1, 1) := by decide +kernel
theorem dX3_line_150 : decode cX3_line 150 = .ok (.iaload, 1) := by decide +kernel
theorem dX3_line_151 : decode cX3_line 151 = .ok (.ireturn, 1) := by decide +kernel
theorem dX3_line_152 : decode cX3_line 152 = .ok (.bipush (-2), 2) := by decide +kernel
theorem dX3_line_154 : decode cX3_line 154 = .ok (.ireturn, 1) := by decide +kernel
set_option maxRecDepth 20000 in
theorem ggX3_page_X1_hasPage : GoodIn wsX3_page wsX1_hasPage := goodIn_r _ [9, 10, 28, 29, 30, 31, 32, 33, 34, 35, 36] (by decide +kernel) (by decide +kernel)
set_option maxRecDepth 20000 in
theorem gX3_page_X1_hasPage : GoodIn wsX3_page (wsV RX3 97 RX1 yX1_hasPage wsX1_hasPage) := goodIn_app (goodIn_of _ (by decide +kernel)) ggX3_page_X1_hasPage
set_option maxRecDepth 20000 in
theorem ggX3_page_X1_isShared : GoodIn wsX3_page wsX1_isShared := goodIn_r _ [14, 15, 16, 17, 18, 19, 20, 21, 28, 29, 30, 31, 32, 33, 34, 35, 36] (by decide +kernel) (by decide +kernel)
set_option maxRecDepth 20000 in
theorem gX3_page_X1_isShared : GoodIn wsX3_page (wsV RX3 106 RX1 yX1_isShared wsX1_isShared) := goodIn_app (goodIn_of _ (by decide +kernel)) ggX3_page_X1_isShared
theorem dX3_page_0 : decode cX3_page 0 = .ok (.aload_n 0, 1) := by decide +kernel
theorem dX3_page_1 : decode cX3_page 1 = .ok (.getfield 34, 3) := by decide +kernel
theorem dX3_page_4 : decode cX3_page 4 = .ok (.iload_n 1, 1) := by decide +kernel
theorem dX3_page_5 : decode cX3_page 5 = .ok (.invokevirtual 97, 3) := by decide +kernel
theorem dX3_page_8 : decode cX3_page 8 = .ok (.ifCond .ne 5, 3) := by decide +kernel
theorem dX3_page_11 : decode cX3_page 11 = .ok (.iconst (-1), 1) := by decide +kernel
theorem dX3_page_12 : decode cX3_page 12 = .ok (.ireturn, 1) := by decide +kernel
theorem dX3_page_13 : decode cX3_page 13 = .ok (.iload_n 2, 1) := by decide +kernel
theorem dX3_page_14 : decode cX3_page 14 = .ok (.tableswitch 94 0 3 #[30, 40, 67, 77], 30) := by decide +kernel
theorem dX3_page_44 : decode cX3_page 44 = .ok (.aload_n 0, 1) := by decide +kernel
theorem dX3_page_45 : decode cX3_page 45 = .ok (.getfield 34, 3) := by decide +kernel
theorem dX3_page_48 : decode cX3_page 48 = .ok (.getfield 100, 3) := by decide +kernel
theorem dX3_page_51 : decode cX3_page 51 = .ok (.iload_n 1, 1) := by decide +kernel
theorem dX3_page_52 : decode cX3_page 52 = .ok (.iaload, 1) := by decide +kernel
theorem dX3_page_53 : decode cX3_page 53 = .ok (.ireturn, 1) := by decide +kernel
theorem dX3_page_54 : decode cX3_page 54 = .ok (.aload_n 0, 1) := by decide +kernel
theorem dX3_page_55 : decode cX3_page 55 = .ok (.getfield 34, 3) := by decide +kernel
theorem dX3_page_58 : decode cX3_page 58 = .ok (.getfield 100, 3) := by decide +kernel
theorem dX3_page_61 : decode cX3_page 61 = .ok (.iload_n 1, 1) := by decide +kernel
theorem dX3_page_62 : decode cX3_page 62 = .ok (.iaload, 1) := by decide +kernel
theorem dX3_page_63 : decode cX3_page 63 = .ok (.ifCond .ne 8, 3) := by decide +kernel
theorem dX3_page_66 : decode cX3_page 66 = .ok (.bipush (-6), 2) := by decide +kernel
theorem dX3_page_68 : decode cX3_page 68 = .ok (.goto 12, 3) := by decide +kernel
theorem dX3_page_71 : decode cX3_page 71 = .ok (.aload_n 0, 1) := by decide +kernel
theorem dX3_page_72 : decode cX3_page 72 = .ok (.getfield 34, 3) := by decide +kernel
theorem dX3_page_75 : decode cX3_page 75 = .ok (.getfield 90, 3) := by decide +kernel
theorem dX3_page_78 : decode cX3_page 78 = .ok (.iload_n 1, 1) := by decide +kernel
theorem dX3_page_79 : decode cX3_page 79 = .ok (.iaload, 1) := by decide +kernel
theorem dX3_page_80 : decode cX3_page 80 = .ok (.ireturn, 1) := by decide +kernel
theorem dX3_page_81 : decode cX3_page 81 = .ok (.aload_n 0, 1) := by decide +kernel
theorem dX3_page_82 : decode cX3_page 82 = .ok (.getfield 34, 3) := by decide +kernel
theorem dX3_page_85 : decode cX3_page 85 = .ok (.getfield 103, 3) := by decide +kernel
theorem dX3_page_88 : decode cX3_page 88 = .ok (.iload_n 1, 1) := by decide +kernel
theorem dX3_page_89 : decode cX3_page 89 = .ok (.iaload, 1) := by decide +kernel
theorem dX3_page_90 : decode cX3_page 90 = .ok (.ireturn, 1) := by decide +kernel
theorem dX3_page_91 : decode cX3_page 91 = .ok (.aload_n 0, 1) := by decide +kernel
theorem dX3_page_92 : decode cX3_page 92 = .ok (.getfield 34, 3) := by decide +kernel
theorem dX3_page_95 : decode cX3_page 95 = .ok (.iload_n 1, 1) := by decide +kernel
theorem dX3_page_96 : decode cX3_page 96 = .ok (.invokevirtual 106, 3) := by decide +kernel
theorem dX3_page_99 : decode cX3_page 99 = .ok (.ifCond .eq 7, 3) := by decide +kernel
theorem dX3_page_102 : decode cX3_page 102 = .ok (.iconst 1, 1) := by decide +kernel
theorem dX3_page_103 : decode cX3_page 103 = .ok (.goto 4, 3) := by decide +kernel
theorem dX3_page_106 : decode cX3_page 106 = .ok (.iconst 0, 1) := by decide +kernel
theorem dX3_page_107 : decode cX3_page 107 = .ok (.ireturn, 1) := by decide +kernel
theorem dX3_page_108 : decode cX3_page 108 = .ok (.bipush (-2), 2) := by decide +kernel
theorem dX3_page_110 : decode cX3_page 110 = .ok (.ireturn, 1) := by decide +kernel
set_option maxRecDepth 20000 in
theorem ggX3_mark_X1_hasPage : GoodIn wsX3_mark wsX1_hasPage := goodIn_r _ [6, 7, 26, 27, 28, 29, 30, 31, 32, 33, 34] (by decide +kernel) (by decide +kernel)
set_option maxRecDepth 20000 in
theorem gX3_mark_X1_hasPage : GoodIn wsX3_mark (wsV RX3 97 RX1 yX1_hasPage wsX1_hasPage) := goodIn_app (goodIn_of _ (by decide +kernel)) ggX3_mark_X1_hasPage
set_option maxRecDepth 20000 in
theorem ggX3_mark_X1_markOf : GoodIn wsX3_mark wsX1_markOf := goodIn_r _ [11, 12, 13, 14, 15, 16, 17, 5, 18, 19, 26, 27, 28, 29, 30, 31, 32, 33, 34] (by decide +kernel) (by decide +kernel)
set_option maxRecDepth 20000 in
theorem gX3_mark_X1_markOf : GoodIn wsX3_mark (wsV RX3 109 RX1 yX1_markOf wsX1_markOf) := goodIn_app (goodIn_of _ (by decide +kernel)) ggX3_mark_X1_markOf
theorem dX3_mark_0 : decode cX3_mark 0 = .ok (.aload_n 0, 1) := by decide +kernel
theorem dX3_mark_1 : decode cX3_mark 1 = .ok (.getfield 34, 3) := by decide +kernel
theorem dX3_mark_4 : decode cX3_mark 4 = .ok (.iload_n 1, 1) := by decide +kernel
theorem dX3_mark_5 : decode cX3_mark 5 = .ok (.invokevirtual 97, 3) := by decide +kernel
theorem dX3_mark_8 : decode cX3_mark 8 = .ok (.ifCond .ne 5, 3) := by decide +kernel
theorem dX3_mark_11 : decode cX3_mark 11 = .ok (.iconst (-1), 1) := by decide +kernel
theorem dX3_mark_12 : decode cX3_mark 12 = .ok (.ireturn, 1) := by decide +kernel
theorem dX3_mark_13 : decode cX3_mark 13 = .ok (.iload_n 2, 1) := by decide +kernel
theorem dX3_mark_14 : decode cX3_mark 14 = .ok (.ifCond .lt 17, 3) := by decide +kernel
theorem dX3_mark_17 : decode cX3_mark 17 = .ok (.iload_n 2, 1) := by decide +kernel
theorem dX3_mark_18 : decode cX3_mark 18 = .ok (.iconst 2, 1) := by decide +kernel
theorem dX3_mark_19 : decode cX3_mark 19 = .ok (.if_icmp .ge 12, 3) := by decide +kernel
theorem dX3_mark_22 : decode cX3_mark 22 = .ok (.iload_n 3, 1) := by decide +kernel
theorem dX3_mark_23 : decode cX3_mark 23 = .ok (.ifCond .lt 8, 3) := by decide +kernel
theorem dX3_mark_26 : decode cX3_mark 26 = .ok (.iload_n 3, 1) := by decide +kernel
theorem dX3_mark_27 : decode cX3_mark 27 = .ok (.iconst 2, 1) := by decide +kernel
theorem dX3_mark_28 : decode cX3_mark 28 = .ok (.if_icmp .le 6, 3) := by decide +kernel
theorem dX3_mark_31 : decode cX3_mark 31 = .ok (.bipush (-2), 2) := by decide +kernel
theorem dX3_mark_33 : decode cX3_mark 33 = .ok (.ireturn, 1) := by decide +kernel
theorem dX3_mark_34 : decode cX3_mark 34 = .ok (.aload_n 0, 1) := by decide +kernel
theorem dX3_mark_35 : decode cX3_mark 35 = .ok (.getfield 34, 3) := by decide +kernel
theorem dX3_mark_38 : decode cX3_mark 38 = .ok (.iload_n 1, 1) := by decide +kernel
theorem dX3_mark_39 : decode cX3_mark 39 = .ok (.iload_n 2, 1) := by decide +kernel
theorem dX3_mark_40 : decode cX3_mark 40 = .ok (.iload_n 3, 1) := by decide +kernel
theorem dX3_mark_41 : decode cX3_mark 41 = .ok (.invokevirtual 109, 3) := by decide +kernel
theorem dX3_mark_44 : decode cX3_mark 44 = .ok (.ireturn, 1) := by decide +kernel
set_option maxRecDepth 20000 in
theorem ggX3_headed_X3_classOf : GoodIn wsX3_headed wsX3_classOf := goodIn_r _ [7] (by decide +kernel) (by decide +kernel)
set_option maxRecDepth 20000 in
theorem gX3_headed_X3_classOf : GoodIn wsX3_headed (va_wsS RX3 83 yX3_classOf wsX3_classOf) := goodIn_app (goodIn_of _ (by decide +kernel)) ggX3_headed_X3_classOf
theorem dX3_headed_0 : decode cX3_headed 0 = .ok (.iload_n 1, 1) := by decide +kernel
theorem dX3_headed_1 : decode cX3_headed 1 = .ok (.invokestatic 83, 3) := by decide +kernel
theorem dX3_headed_4 : decode cX3_headed 4 = .ok (.bipush (-6), 2) := by decide +kernel
theorem dX3_headed_6 : decode cX3_headed 6 = .ok (.if_icmp .ne 6, 3) := by decide +kernel
theorem dX3_headed_9 : decode cX3_headed 9 = .ok (.bipush (-2), 2) := by decide +kernel
theorem dX3_headed_11 : decode cX3_headed 11 = .ok (.ireturn, 1) := by decide +kernel
theorem dX3_headed_12 : decode cX3_headed 12 = .ok (.iconst 0, 1) := by decide +kernel
theorem dX3_headed_13 : decode cX3_headed 13 = .ok (.istore_n 3, 1) := by decide +kernel
theorem dX3_headed_14 : decode cX3_headed 14 = .ok (.iconst 1, 1) := by decide +kernel
theorem dX3_headed_15 : decode cX3_headed 15 = .ok (.istore 4, 2) := by decide +kernel
theorem dX3_headed_17 : decode cX3_headed 17 = .ok (.iload 4, 2) := by decide +kernel
theorem dX3_headed_19 : decode cX3_headed 19 = .ok (.aload_n 0, 1) := by decide +kernel
theorem dX3_headed_20 : decode cX3_headed 20 = .ok (.getfield 34, 3) := by decide +kernel
theorem dX3_headed_23 : decode cX3_headed 23 = .ok (.getfield 113, 3) := by decide +kernel
theorem dX3_headed_26 : decode cX3_headed 26 = .ok (.if_icmp .gt 34, 3) := by decide +kernel
theorem dX3_headed_29 : decode cX3_headed 29 = .ok (.aload_n 0, 1) := by decide +kernel
theorem dX3_headed_30 : decode cX3_headed 30 = .ok (.getfield 34, 3) := by decide +kernel
theorem dX3_headed_33 : decode cX3_headed 33 = .ok (.getfield 103, 3) := by decide +kernel
theorem dX3_headed_36 : decode cX3_headed 36 = .ok (.iload 4, 2) := by decide +kernel
theorem dX3_headed_38 : decode cX3_headed 38 = .ok (.iaload, 1) := by decide +kernel
theorem dX3_headed_39 : decode cX3_headed 39 = .ok (.iload_n 1, 1) := by decide +kernel
theorem dX3_headed_40 : decode cX3_headed 40 = .ok (.if_icmp .ne 14, 3) := by decide +kernel
theorem dX3_headed_43 : decode cX3_headed 43 = .ok (.iload_n 3, 1) := by decide +kernel
theorem dX3_headed_44 : decode cX3_headed 44 = .ok (.iload_n 2, 1) := by decide +kernel
theorem dX3_headed_45 : decode cX3_headed 45 = .ok (.if_icmp .ne 6, 3) := by decide +kernel
theorem dX3_headed_48 : decode cX3_headed 48 = .ok (.iload 4, 2) := by decide +kernel
theorem dX3_headed_50 : decode cX3_headed 50 = .ok (.ireturn, 1) := by decide +kernel
theorem dX3_headed_51 : decode cX3_headed 51 = .ok (.iinc 3 1, 3) := by decide +kernel
theorem dX3_headed_54 : decode cX3_headed 54 = .ok (.iinc 4 1, 3) := by decide +kernel
theorem dX3_headed_57 : decode cX3_headed 57 = .ok (.goto (-40), 3) := by decide +kernel
theorem dX3_headed_60 : decode cX3_headed 60 = .ok (.iload_n 2, 1) := by decide +kernel
theorem dX3_headed_61 : decode cX3_headed 61 = .ok (.iconst (-1), 1) := by decide +kernel
theorem dX3_headed_62 : decode cX3_headed 62 = .ok (.if_icmp .ne 7, 3) := by decide +kernel
theorem dX3_headed_65 : decode cX3_headed 65 = .ok (.iload_n 3, 1) := by decide +kernel
theorem dX3_headed_66 : decode cX3_headed 66 = .ok (.goto 5, 3) := by decide +kernel
theorem dX3_headed_69 : decode cX3_headed 69 = .ok (.bipush (-6), 2) := by decide +kernel
theorem dX3_headed_71 : decode cX3_headed 71 = .ok (.ireturn, 1) := by decide +kernel
set_option maxRecDepth 20000 in
theorem ggX3_chapter_X1_countChapters : GoodIn wsX3_chapter wsX1_countChapters := goodIn_r _ [9, 10, 11, 39, 40, 41, 42, 43, 44, 45, 46, 47] (by decide +kernel) (by decide +kernel)
set_option maxRecDepth 20000 in
theorem gX3_chapter_X1_countChapters : GoodIn wsX3_chapter (wsV RX3 116 RX1 yX1_countChapters wsX1_countChapters) := goodIn_app (goodIn_of _ (by decide +kernel)) ggX3_chapter_X1_countChapters
set_option maxRecDepth 20000 in
theorem ggX3_chapter_X1_titleLineOf : GoodIn wsX3_chapter wsX1_titleLineOf := goodIn_r _ [15, 10, 11, 39, 40, 41, 42, 43, 44, 45, 46, 47] (by decide +kernel) (by decide +kernel)
set_option maxRecDepth 20000 in
theorem gX3_chapter_X1_titleLineOf : GoodIn wsX3_chapter (wsV RX3 119 RX1 yX1_titleLineOf wsX1_titleLineOf) := goodIn_app (goodIn_of _ (by decide +kernel)) ggX3_chapter_X1_titleLineOf
set_option maxRecDepth 20000 in
theorem ggX3_chapter_X1_lastLineOf : GoodIn wsX3_chapter wsX1_lastLineOf := goodIn_r _ [19, 10, 11, 39, 40, 41, 42, 43, 44, 45, 46, 47] (by decide +kernel) (by decide +kernel)
set_option maxRecDepth 20000 in
theorem gX3_chapter_X1_lastLineOf : GoodIn wsX3_chapter (wsV RX3 122 RX1 yX1_lastLineOf wsX1_lastLineOf) := goodIn_app (goodIn_of _ (by decide +kernel)) ggX3_chapter_X1_lastLineOf
set_option maxRecDepth 20000 in
theorem ggX3_chapter_X0_countSections : GoodIn wsX3_chapter wsX0_countSections := goodIn_r _ [24, 25, 26, 27, 28, 35, 36, 37, 38] (by decide +kernel) (by decide +kernel)
set_option maxRecDepth 20000 in
theorem gX3_chapter_X0_countSections : GoodIn wsX3_chapter (wsV RX3 125 RX0 yX0_countSections wsX0_countSections) := goodIn_app (goodIn_of _ (by decide +kernel)) ggX3_chapter_X0_countSections
theorem dX3_chapter_0 : decode cX3_chapter 0 = .ok (.iload_n 2, 1) := by decide +kernel
theorem dX3_chapter_1 : decode cX3_chapter 1 = .ok (.ifCond .lt 8, 3) := by decide +kernel
theorem dX3_chapter_4 : decode cX3_chapter 4 = .ok (.iload_n 2, 1) := by decide +kernel
theorem dX3_chapter_5 : decode cX3_chapter 5 = .ok (.iconst 4, 1) := by decide +kernel
theorem dX3_chapter_6 : decode cX3_chapter 6 = .ok (.if_icmp .le 6, 3) := by decide +kernel
theorem dX3_chapter_9 : decode cX3_chapter 9 = .ok (.bipush (-2), 2) := by decide +kernel
theorem dX3_chapter_11 : decode cX3_chapter 11 = .ok (.ireturn, 1) := by decide +kernel
theorem dX3_chapter_12 : decode cX3_chapter 12 = .ok (.iload_n 1, 1) := by decide +kernel
theorem dX3_chapter_13 : decode cX3_chapter 13 = .ok (.ifCond .lt 14, 3) := by decide +kernel
theorem dX3_chapter_16 : decode cX3_chapter 16 = .ok (.iload_n 1, 1) := by decide +kernel
theorem dX3_chapter_17 : decode cX3_chapter 17 = .ok (.aload_n 0, 1) := by decide +kernel
theorem dX3_chapter_18 : decode cX3_chapter 18 = .ok (.getfield 34, 3) := by decide +kernel
theorem dX3_chapter_21 : decode cX3_chapter 21 = .ok (.invokevirtual 116, 3) := by decide +kernel
theorem dX3_chapter_24 : decode cX3_chapter 24 = .ok (.if_icmp .lt 6, 3) := by decide +kernel
theorem dX3_chapter_27 : decode cX3_chapter 27 = .ok (.bipush (-6), 2) := by decide +kernel
theorem dX3_chapter_29 : decode cX3_chapter 29 = .ok (.ireturn, 1) := by decide +kernel
theorem dX3_chapter_30 : decode cX3_chapter 30 = .ok (.aload_n 0, 1) := by decide +kernel
theorem dX3_chapter_31 : decode cX3_chapter 31 = .ok (.getfield 34, 3) := by decide +kernel
theorem dX3_chapter_34 : decode cX3_chapter 34 = .ok (.iload_n 1, 1) := by decide +kernel
theorem dX3_chapter_35 : decode cX3_chapter 35 = .ok (.invokevirtual 119, 3) := by decide +kernel
theorem dX3_chapter_38 : decode cX3_chapter 38 = .ok (.istore_n 3, 1) := by decide +kernel
theorem dX3_chapter_39 : decode cX3_chapter 39 = .ok (.aload_n 0, 1) := by decide +kernel
theorem dX3_chapter_40 : decode cX3_chapter 40 = .ok (.getfield 34, 3) := by decide +kernel
theorem dX3_chapter_43 : decode cX3_chapter 43 = .ok (.iload_n 1, 1) := by decide +kernel
theorem dX3_chapter_44 : decode cX3_chapter 44 = .ok (.invokevirtual 122, 3) := by decide +kernel
