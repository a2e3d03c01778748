theorem dX4_isShared_14 : decode cX4_isShared 14 = .ok (.iload_n 1, 1) := by decide +kernel
theorem dX4_isShared_15 : decode cX4_isShared 15 = .ok (.iaload, 1) := by decide +kernel
theorem dX4_isShared_16 : decode cX4_isShared 16 = .ok (.if_icmp .ge 46, 3) := by decide +kernel
theorem dX4_isShared_19 : decode cX4_isShared 19 = .ok (.aload_n 0, 1) := by decide +kernel
theorem dX4_isShared_20 : decode cX4_isShared 20 = .ok (.aload_n 0, 1) := by decide +kernel
theorem dX4_isShared_21 : decode cX4_isShared 21 = .ok (.getfield 32, 3) := by decide +kernel
theorem dX4_isShared_24 : decode cX4_isShared 24 = .ok (.iload_n 1, 1) := by decide +kernel
theorem dX4_isShared_25 : decode cX4_isShared 25 = .ok (.iaload, 1) := by decide +kernel
theorem dX4_isShared_26 : decode cX4_isShared 26 = .ok (.iload 4, 2) := by decide +kernel
theorem dX4_isShared_28 : decode cX4_isShared 28 = .ok (.iadd, 1) := by decide +kernel
theorem dX4_isShared_29 : decode cX4_isShared 29 = .ok (.invokevirtual 110, 3) := by decide +kernel
theorem dX4_isShared_32 : decode cX4_isShared 32 = .ok (.istore 5, 2) := by decide +kernel
theorem dX4_isShared_34 : decode cX4_isShared 34 = .ok (.iload_n 3, 1) := by decide +kernel
theorem dX4_isShared_35 : decode cX4_isShared 35 = .ok (.iload 5, 2) := by decide +kernel
theorem dX4_isShared_37 : decode cX4_isShared 37 = .ok (.ifCond .lt 13, 3) := by decide +kernel
theorem dX4_isShared_40 : decode cX4_isShared 40 = .ok (.iload 5, 2) := by decide +kernel
theorem dX4_isShared_42 : decode cX4_isShared 42 = .ok (.iload_n 2, 1) := by decide +kernel
theorem dX4_isShared_43 : decode cX4_isShared 43 = .ok (.if_icmp .eq 7, 3) := by decide +kernel
theorem dX4_isShared_46 : decode cX4_isShared 46 = .ok (.iconst 1, 1) := by decide +kernel
theorem dX4_isShared_47 : decode cX4_isShared 47 = .ok (.goto 4, 3) := by decide +kernel
theorem dX4_isShared_50 : decode cX4_isShared 50 = .ok (.iconst 0, 1) := by decide +kernel
theorem dX4_isShared_51 : decode cX4_isShared 51 = .ok (.iadd, 1) := by decide +kernel
theorem dX4_isShared_52 : decode cX4_isShared 52 = .ok (.istore_n 3, 1) := by decide +kernel
theorem dX4_isShared_53 : decode cX4_isShared 53 = .ok (.iload 5, 2) := by decide +kernel
theorem dX4_isShared_55 : decode cX4_isShared 55 = .ok (.istore_n 2, 1) := by decide +kernel
theorem dX4_isShared_56 : decode cX4_isShared 56 = .ok (.iinc 4 1, 3) := by decide +kernel
theorem dX4_isShared_59 : decode cX4_isShared 59 = .ok (.goto (-51), 3) := by decide +kernel
theorem dX4_isShared_62 : decode cX4_isShared 62 = .ok (.iload_n 3, 1) := by decide +kernel
theorem dX4_isShared_63 : decode cX4_isShared 63 = .ok (.iconst 1, 1) := by decide +kernel
theorem dX4_isShared_64 : decode cX4_isShared 64 = .ok (.if_icmp .le 7, 3) := by decide +kernel
theorem dX4_isShared_67 : decode cX4_isShared 67 = .ok (.iconst 1, 1) := by decide +kernel
theorem dX4_isShared_68 : decode cX4_isShared 68 = .ok (.goto 4, 3) := by decide +kernel
theorem dX4_isShared_71 : decode cX4_isShared 71 = .ok (.iconst 0, 1) := by decide +kernel
theorem dX4_isShared_72 : decode cX4_isShared 72 = .ok (.ireturn, 1) := by decide +kernel
set_option maxRecDepth 20000 in
theorem ggX4_page_X4_layPages : GoodIn wsX4_page wsX4_layPages := goodIn_r _ [7, 8, 1, 9, 10, 11, 2, 12, 13, 14, 6, 15, 16, 17, 18, 19, 20, 21, 22, 23, 24, 25, 26, 27, 28, 29, 30, 31, 32, 33, 34, 70, 71, 72, 73, 74, 75, 76, 77, 78, 79, 80, 81] (by decide +kernel) (by decide +kernel)
set_option maxRecDepth 20000 in
theorem gX4_page_X4_layPages : GoodIn wsX4_page (wsV RX4 107 RX4 yX4_layPages wsX4_layPages) := goodIn_app (goodIn_of _ (by decide +kernel)) ggX4_page_X4_layPages
set_option maxRecDepth 20000 in
theorem ggX4_page_X4_isPage : GoodIn wsX4_page wsX4_isPage := goodIn_r _ [38, 8, 27, 28, 6, 29, 70, 71, 72, 73, 74, 75, 76, 77, 78, 79, 80, 81] (by decide +kernel) (by decide +kernel)
set_option maxRecDepth 20000 in
theorem gX4_page_X4_isPage : GoodIn wsX4_page (wsV RX4 113 RX4 yX4_isPage wsX4_isPage) := goodIn_app (goodIn_of _ (by decide +kernel)) ggX4_page_X4_isPage
set_option maxRecDepth 20000 in
theorem ggX4_page_X4_headOf : GoodIn wsX4_page wsX4_headOf := goodIn_r _ [42, 1, 9, 2, 24, 25, 6, 26, 27, 28, 29, 43, 44, 45, 46, 47, 48, 49, 50, 10, 12, 13, 14, 15, 51, 52, 53, 54, 34, 55, 56, 57, 58, 59, 60, 61, 70, 71, 72, 73, 74, 75, 76, 77, 78, 79, 80, 81] (by decide +kernel) (by decide +kernel)
set_option maxRecDepth 20000 in
theorem gX4_page_X4_headOf : GoodIn wsX4_page (wsV RX4 116 RX4 yX4_headOf wsX4_headOf) := goodIn_app (goodIn_of _ (by decide +kernel)) ggX4_page_X4_headOf
set_option maxRecDepth 20000 in
theorem ggX4_page_X4_isShared : GoodIn wsX4_page wsX4_isShared := goodIn_r _ [65, 1, 2, 66, 67, 68, 6, 69, 9, 24, 25, 26, 27, 28, 29, 70, 71, 72, 73, 74, 75, 76, 77, 78, 79, 80, 81] (by decide +kernel) (by decide +kernel)
set_option maxRecDepth 20000 in
theorem gX4_page_X4_isShared : GoodIn wsX4_page (wsV RX4 119 RX4 yX4_isShared wsX4_isShared) := goodIn_app (goodIn_of _ (by decide +kernel)) ggX4_page_X4_isShared
theorem dX4_page_0 : decode cX4_page 0 = .ok (.aload_n 0, 1) := by decide +kernel
theorem dX4_page_1 : decode cX4_page 1 = .ok (.invokevirtual 107, 3) := by decide +kernel
theorem dX4_page_4 : decode cX4_page 4 = .ok (.aload_n 0, 1) := by decide +kernel
theorem dX4_page_5 : decode cX4_page 5 = .ok (.iload_n 1, 1) := by decide +kernel
theorem dX4_page_6 : decode cX4_page 6 = .ok (.invokevirtual 113, 3) := by decide +kernel
theorem dX4_page_9 : decode cX4_page 9 = .ok (.ifCond .ne 5, 3) := by decide +kernel
theorem dX4_page_12 : decode cX4_page 12 = .ok (.iconst (-1), 1) := by decide +kernel
theorem dX4_page_13 : decode cX4_page 13 = .ok (.ireturn, 1) := by decide +kernel
theorem dX4_page_14 : decode cX4_page 14 = .ok (.iload_n 2, 1) := by decide +kernel
theorem dX4_page_15 : decode cX4_page 15 = .ok (.tableswitch 63 0 3 #[29, 36, 43, 49], 29) := by decide +kernel
theorem dX4_page_44 : decode cX4_page 44 = .ok (.aload_n 0, 1) := by decide +kernel
theorem dX4_page_45 : decode cX4_page 45 = .ok (.getfield 35, 3) := by decide +kernel
theorem dX4_page_48 : decode cX4_page 48 = .ok (.iload_n 1, 1) := by decide +kernel
theorem dX4_page_49 : decode cX4_page 49 = .ok (.iaload, 1) := by decide +kernel
theorem dX4_page_50 : decode cX4_page 50 = .ok (.ireturn, 1) := by decide +kernel
theorem dX4_page_51 : decode cX4_page 51 = .ok (.aload_n 0, 1) := by decide +kernel
theorem dX4_page_52 : decode cX4_page 52 = .ok (.getfield 32, 3) := by decide +kernel
theorem dX4_page_55 : decode cX4_page 55 = .ok (.iload_n 1, 1) := by decide +kernel
theorem dX4_page_56 : decode cX4_page 56 = .ok (.iaload, 1) := by decide +kernel
theorem dX4_page_57 : decode cX4_page 57 = .ok (.ireturn, 1) := by decide +kernel
theorem dX4_page_58 : decode cX4_page 58 = .ok (.aload_n 0, 1) := by decide +kernel
theorem dX4_page_59 : decode cX4_page 59 = .ok (.iload_n 1, 1) := by decide +kernel
theorem dX4_page_60 : decode cX4_page 60 = .ok (.invokevirtual 116, 3) := by decide +kernel
theorem dX4_page_63 : decode cX4_page 63 = .ok (.ireturn, 1) := by decide +kernel
theorem dX4_page_64 : decode cX4_page 64 = .ok (.aload_n 0, 1) := by decide +kernel
theorem dX4_page_65 : decode cX4_page 65 = .ok (.iload_n 1, 1) := by decide +kernel
theorem dX4_page_66 : decode cX4_page 66 = .ok (.invokevirtual 119, 3) := by decide +kernel
theorem dX4_page_69 : decode cX4_page 69 = .ok (.ifCond .eq 7, 3) := by decide +kernel
theorem dX4_page_72 : decode cX4_page 72 = .ok (.iconst 1, 1) := by decide +kernel
theorem dX4_page_73 : decode cX4_page 73 = .ok (.goto 4, 3) := by decide +kernel
theorem dX4_page_76 : decode cX4_page 76 = .ok (.iconst 0, 1) := by decide +kernel
theorem dX4_page_77 : decode cX4_page 77 = .ok (.ireturn, 1) := by decide +kernel
theorem dX4_page_78 : decode cX4_page 78 = .ok (.bipush (-2), 2) := by decide +kernel
theorem dX4_page_80 : decode cX4_page 80 = .ok (.ireturn, 1) := by decide +kernel
set_option maxRecDepth 20000 in
theorem ggX4_mark_X4_layPages : GoodIn wsX4_mark wsX4_layPages := goodIn_r _ [5, 6, 7, 8, 9, 10, 11, 12, 13, 14, 4, 15, 16, 17, 18, 19, 20, 21, 22, 23, 24, 25, 26, 27, 28, 29, 30, 31, 32, 33, 34, 58, 59, 60, 61, 62, 63, 64, 65, 66, 67, 68, 69] (by decide +kernel) (by decide +kernel)
set_option maxRecDepth 20000 in
theorem gX4_mark_X4_layPages : GoodIn wsX4_mark (wsV RX4 107 RX4 yX4_layPages wsX4_layPages) := goodIn_app (goodIn_of _ (by decide +kernel)) ggX4_mark_X4_layPages
set_option maxRecDepth 20000 in
theorem ggX4_mark_X4_isPage : GoodIn wsX4_mark wsX4_isPage := goodIn_r _ [38, 6, 27, 28, 4, 29, 58, 59, 60, 61, 62, 63, 64, 65, 66, 67, 68, 69] (by decide +kernel) (by decide +kernel)
set_option maxRecDepth 20000 in
theorem gX4_mark_X4_isPage : GoodIn wsX4_mark (wsV RX4 113 RX4 yX4_isPage wsX4_isPage) := goodIn_app (goodIn_of _ (by decide +kernel)) ggX4_mark_X4_isPage
set_option maxRecDepth 20000 in
theorem ggX4_mark_X4_in : GoodIn wsX4_mark wsX4_in := goodIn_r _ [29] (by decide +kernel) (by decide +kernel)
set_option maxRecDepth 20000 in
theorem gX4_mark_X4_in : GoodIn wsX4_mark (va_wsS RX4 41 yX4_in wsX4_in) := goodIn_app (goodIn_of _ (by decide +kernel)) ggX4_mark_X4_in
set_option maxRecDepth 20000 in
theorem ggX4_mark_X4_markOf : GoodIn wsX4_mark wsX4_markOf := goodIn_r _ [42, 7, 43, 44, 45, 4, 46, 9, 12, 13, 14, 15, 8, 47, 48, 49, 50, 34, 51, 52, 53, 54, 11, 24, 25, 26, 27, 28, 29, 55, 56, 57, 58, 59, 60, 61, 62, 63, 64, 65, 66, 67, 68, 69] (by decide +kernel) (by decide +kernel)
set_option maxRecDepth 20000 in
theorem gX4_mark_X4_markOf : GoodIn wsX4_mark (wsV RX4 100 RX4 yX4_markOf wsX4_markOf) := goodIn_app (goodIn_of _ (by decide +kernel)) ggX4_mark_X4_markOf
theorem dX4_mark_0 : decode cX4_mark 0 = .ok (.aload_n 0, 1) := by decide +kernel
theorem dX4_mark_1 : decode cX4_mark 1 = .ok (.invokevirtual 107, 3) := by decide +kernel
theorem dX4_mark_4 : decode cX4_mark 4 = .ok (.aload_n 0, 1) := by decide +kernel
theorem dX4_mark_5 : decode cX4_mark 5 = .ok (.iload_n 1, 1) := by decide +kernel
theorem dX4_mark_6 : decode cX4_mark 6 = .ok (.invokevirtual 113, 3) := by decide +kernel
theorem dX4_mark_9 : decode cX4_mark 9 = .ok (.ifCond .ne 5, 3) := by decide +kernel
theorem dX4_mark_12 : decode cX4_mark 12 = .ok (.iconst (-1), 1) := by decide +kernel
theorem dX4_mark_13 : decode cX4_mark 13 = .ok (.ireturn, 1) := by decide +kernel
theorem dX4_mark_14 : decode cX4_mark 14 = .ok (.iload_n 2, 1) := by decide +kernel
theorem dX4_mark_15 : decode cX4_mark 15 = .ok (.iconst 0, 1) := by decide +kernel
theorem dX4_mark_16 : decode cX4_mark 16 = .ok (.iconst 1, 1) := by decide +kernel
theorem dX4_mark_17 : decode cX4_mark 17 = .ok (.invokestatic 41, 3) := by decide +kernel
theorem dX4_mark_20 : decode cX4_mark 20 = .ok (.ifCond .eq 22, 3) := by decide +kernel
theorem dX4_mark_23 : decode cX4_mark 23 = .ok (.iload_n 3, 1) := by decide +kernel
theorem dX4_mark_24 : decode cX4_mark 24 = .ok (.iconst 0, 1) := by decide +kernel
theorem dX4_mark_25 : decode cX4_mark 25 = .ok (.iconst 2, 1) := by decide +kernel
theorem dX4_mark_26 : decode cX4_mark 26 = .ok (.invokestatic 41, 3) := by decide +kernel
theorem dX4_mark_29 : decode cX4_mark 29 = .ok (.ifCond .eq 13, 3) := by decide +kernel
theorem dX4_mark_32 : decode cX4_mark 32 = .ok (.aload_n 0, 1) := by decide +kernel
theorem dX4_mark_33 : decode cX4_mark 33 = .ok (.iload_n 1, 1) := by decide +kernel
theorem dX4_mark_34 : decode cX4_mark 34 = .ok (.iload_n 2, 1) := by decide +kernel
theorem dX4_mark_35 : decode cX4_mark 35 = .ok (.iload_n 3, 1) := by decide +kernel
theorem dX4_mark_36 : decode cX4_mark 36 = .ok (.invokevirtual 100, 3) := by decide +kernel
theorem dX4_mark_39 : decode cX4_mark 39 = .ok (.goto 5, 3) := by decide +kernel
theorem dX4_mark_42 : decode cX4_mark 42 = .ok (.bipush (-2), 2) := by decide +kernel
theorem dX4_mark_44 : decode cX4_mark 44 = .ok (.ireturn, 1) := by decide +kernel
set_option maxRecDepth 20000 in
theorem ggX4_headed_X4_isChapter : GoodIn wsX4_headed wsX4_isChapter := goodIn_r _ [5, 6, 7, 4, 8] (by decide +kernel) (by decide +kernel)
set_option maxRecDepth 20000 in
theorem gX4_headed_X4_isChapter : GoodIn wsX4_headed (va_wsS RX4 53 yX4_isChapter wsX4_isChapter) := goodIn_app (goodIn_of _ (by decide +kernel)) ggX4_headed_X4_isChapter
set_option maxRecDepth 20000 in
theorem ggX4_headed_X4_isSection : GoodIn wsX4_headed wsX4_isSection := goodIn_r _ [11, 6, 7, 4, 8] (by decide +kernel) (by decide +kernel)
set_option maxRecDepth 20000 in
theorem gX4_headed_X4_isSection : GoodIn wsX4_headed (va_wsS RX4 57 yX4_isSection wsX4_isSection) := goodIn_app (goodIn_of _ (by decide +kernel)) ggX4_headed_X4_isSection
set_option maxRecDepth 20000 in
theorem ggX4_headed_X4_layPages : GoodIn wsX4_headed wsX4_layPages := goodIn_r _ [15, 1, 16, 17, 18, 19, 20, 21, 22, 23, 4, 24, 25, 26, 27, 28, 29, 30, 31, 32, 2, 3, 5, 6, 7, 8, 33, 34, 35, 36, 37, 58, 59, 60, 61, 62, 63, 64, 65, 66, 67, 68, 69] (by decide +kernel) (by decide +kernel)
set_option maxRecDepth 20000 in
theorem gX4_headed_X4_layPages : GoodIn wsX4_headed (wsV RX4 107 RX4 yX4_layPages wsX4_layPages) := goodIn_app (goodIn_of _ (by decide +kernel)) ggX4_headed_X4_layPages
set_option maxRecDepth 20000 in
theorem ggX4_headed_X4_headOf : GoodIn wsX4_headed wsX4_headOf := goodIn_r _ [41, 16, 17, 20, 2, 3, 4, 5, 6, 7, 8, 42, 43, 44, 45, 46, 47, 48, 49, 18, 21, 22, 23, 24, 50, 51, 52, 53, 37, 54, 55, 56, 57, 9, 10, 11, 58, 59, 60, 61, 62, 63, 64, 65, 66, 67, 68, 69] (by decide +kernel) (by decide +kernel)
set_option maxRecDepth 20000 in
theorem gX4_headed_X4_headOf : GoodIn wsX4_headed (wsV RX4 116 RX4 yX4_headOf wsX4_headOf) := goodIn_app (goodIn_of _ (by decide +kernel)) ggX4_headed_X4_headOf
theorem dX4_headed_0 : decode cX4_headed 0 = .ok (.iload_n 1, 1) := by decide +kernel
theorem dX4_headed_1 : decode cX4_headed 1 = .ok (.invokestatic 53, 3) := by decide +kernel
theorem dX4_headed_4 : decode cX4_headed 4 = .ok (.ifCond .ne 13, 3) := by decide +kernel
theorem dX4_headed_7 : decode cX4_headed 7 = .ok (.iload_n 1, 1) := by decide +kernel
theorem dX4_headed_8 : decode cX4_headed 8 = .ok (.invokestatic 57, 3) := by decide +kernel
theorem dX4_headed_11 : decode cX4_headed 11 = .ok (.ifCond .ne 6, 3) := by decide +kernel
theorem dX4_headed_14 : decode cX4_headed 14 = .ok (.bipush (-2), 2) := by decide +kernel
theorem dX4_headed_16 : decode cX4_headed 16 = .ok (.ireturn, 1) := by decide +kernel
theorem dX4_headed_17 : decode cX4_headed 17 = .ok (.aload_n 0, 1) := by decide +kernel
theorem dX4_headed_18 : decode cX4_headed 18 = .ok (.invokevirtual 107, 3) := by decide +kernel
theorem dX4_headed_21 : decode cX4_headed 21 = .ok (.iconst 0, 1) := by decide +kernel
theorem dX4_headed_22 : decode cX4_headed 22 = .ok (.istore_n 3, 1) := by decide +kernel
theorem dX4_headed_23 : decode cX4_headed 23 = .ok (.iconst 1, 1) := by decide +kernel
theorem dX4_headed_24 : decode cX4_headed 24 = .ok (.istore 4, 2) := by decide +kernel
theorem dX4_headed_26 : decode cX4_headed 26 = .ok (.iload 4, 2) := by decide +kernel
theorem dX4_headed_28 : decode cX4_headed 28 = .ok (.aload_n 0, 1) := by decide +kernel
theorem dX4_headed_29 : decode cX4_headed 29 = .ok (.getfield 76, 3) := by decide +kernel
theorem dX4_headed_32 : decode cX4_headed 32 = .ok (.if_icmp .gt 30, 3) := by decide +kernel
theorem dX4_headed_35 : decode cX4_headed 35 = .ok (.aload_n 0, 1) := by decide +kernel
theorem dX4_headed_36 : decode cX4_headed 36 = .ok (.iload 4, 2) := by decide +kernel
theorem dX4_headed_38 : decode cX4_headed 38 = .ok (.invokevirtual 116, 3) := by decide +kernel
theorem dX4_headed_41 : decode cX4_headed 41 = .ok (.iload_n 1, 1) := by decide +kernel
theorem dX4_headed_42 : decode cX4_headed 42 = .ok (.if_icmp .ne 14, 3) := by decide +kernel
theorem dX4_headed_45 : decode cX4_headed 45 = .ok (.iload_n 3, 1) := by decide +kernel
theorem dX4_headed_46 : decode cX4_headed 46 = .ok (.iload_n 2, 1) := by decide +kernel
theorem dX4_headed_47 : decode cX4_headed 47 = .ok (.if_icmp .ne 6, 3) := by decide +kernel
theorem dX4_headed_50 : decode cX4_headed 50 = .ok (.iload 4, 2) := by decide +kernel
theorem dX4_headed_52 : decode cX4_headed 52 = .ok (.ireturn, 1) := by decide +kernel
theorem dX4_headed_53 : decode cX4_headed 53 = .ok (.iinc 3 1, 3) := by decide +kernel
theorem dX4_headed_56 : decode cX4_headed 56 = .ok (.iinc 4 1, 3) := by decide +kernel
theorem dX4_headed_59 : decode cX4_headed 59 = .ok (.goto (-33), 3) := by decide +kernel
theorem dX4_headed_62 : decode cX4_headed 62 = .ok (.iload_n 2, 1) := by decide +kernel
theorem dX4_headed_63 : decode cX4_headed 63 = .ok (.iconst (-1), 1) := by decide +kernel
theorem dX4_headed_64 : decode cX4_headed 64 = .ok (.if_icmp .ne 7, 3) := by decide +kernel
theorem dX4_headed_67 : decode cX4_headed 67 = .ok (.iload_n 3, 1) := by decide +kernel
theorem dX4_headed_68 : decode cX4_headed 68 = .ok (.goto 5, 3) := by decide +kernel
theorem dX4_headed_71 : decode cX4_headed 71 = .ok (.bipush (-6), 2) := by decide +kernel
theorem dX4_headed_73 : decode cX4_headed 73 = .ok (.ireturn, 1) := by decide +kernel
set_option maxRecDepth 20000 in
theorem ggX4_chapters_X4_many : GoodIn wsX4_chapters wsX4_many := goodIn_r _ [5, 6, 17, 18, 19, 20, 21, 22, 23, 24, 25, 26, 27, 28] (by decide +kernel) (by decide +kernel)
set_option maxRecDepth 20000 in
theorem gX4_chapters_X4_many : GoodIn wsX4_chapters (wsV RX4 45 RX4 yX4_many wsX4_many) := goodIn_app (goodIn_of _ (by decide +kernel)) ggX4_chapters_X4_many
set_option maxRecDepth 20000 in
theorem ggX4_chapters_X4_chapterOf : GoodIn wsX4_chapters wsX4_chapterOf := goodIn_r _ [10, 6, 11, 12, 4, 13, 14, 15, 16, 17, 18, 19, 20, 21, 22, 23, 24, 25, 26, 27, 28] (by decide +kernel) (by decide +kernel)
set_option maxRecDepth 20000 in
theorem gX4_chapters_X4_chapterOf : GoodIn wsX4_chapters (wsV RX4 110 RX4 yX4_chapterOf wsX4_chapterOf) := goodIn_app (goodIn_of _ (by decide +kernel)) ggX4_chapters_X4_chapterOf
theorem dX4_chapters_0 : decode cX4_chapters 0 = .ok (.aload_n 0, 1) := by decide +kernel
theorem dX4_chapters_1 : decode cX4_chapters 1 = .ok (.invokevirtual 45, 3) := by decide +kernel
theorem dX4_chapters_4 : decode cX4_chapters 4 = .ok (.ifCond .ne 7, 3) := by decide +kernel
theorem dX4_chapters_7 : decode cX4_chapters 7 = .ok (.iconst 0, 1) := by decide +kernel
theorem dX4_chapters_8 : decode cX4_chapters 8 = .ok (.goto 32, 3) := by decide +kernel
theorem dX4_chapters_11 : decode cX4_chapters 11 = .ok (.aload_n 0, 1) := by decide +kernel
theorem dX4_chapters_12 : decode cX4_chapters 12 = .ok (.aload_n 0, 1) := by decide +kernel
theorem dX4_chapters_13 : decode cX4_chapters 13 = .ok (.invokevirtual 45, 3) := by decide +kernel
theorem dX4_chapters_16 : decode cX4_chapters 16 = .ok (.iconst 1, 1) := by decide +kernel
theorem dX4_chapters_17 : decode cX4_chapters 17 = .ok (.isub, 1) := by decide +kernel
theorem dX4_chapters_18 : decode cX4_chapters 18 = .ok (.invokevirtual 110, 3) := by decide +kernel
theorem dX4_chapters_21 : decode cX4_chapters 21 = .ok (.ifCond .ge 7, 3) := by decide +kernel
theorem dX4_chapters_24 : decode cX4_chapters 24 = .ok (.iconst 0, 1) := by decide +kernel
theorem dX4_chapters_25 : decode cX4_chapters 25 = .ok (.goto 15, 3) := by decide +kernel
theorem dX4_chapters_28 : decode cX4_chapters 28 = .ok (.aload_n 0, 1) := by decide +kernel
theorem dX4_chapters_29 : decode cX4_chapters 29 = .ok (.aload_n 0, 1) := by decide +kernel
theorem dX4_chapters_30 : decode cX4_chapters 30 = .ok (.invokevirtual 45, 3) := by decide +kernel
theorem dX4_chapters_33 : decode cX4_chapters 33 = .ok (.iconst 1, 1) := by decide +kernel
theorem dX4_chapters_34 : decode cX4_chapters 34 = .ok (.isub, 1) := by decide +kernel
theorem dX4_chapters_35 : decode cX4_chapters 35 = .ok (.invokevirtual 110, 3) := by decide +kernel
theorem dX4_chapters_38 : decode cX4_chapters 38 = .ok (.iconst 1, 1) := by decide +kernel
theorem dX4_chapters_39 : decode cX4_chapters 39 = .ok (.iadd, 1) := by decide +kernel
theorem dX4_chapters_40 : decode cX4_chapters 40 = .ok (.ireturn, 1) := by decide +kernel
set_option maxRecDepth 20000 in
theorem ggX4_titleLine_X4_many : GoodIn wsX4_titleLine wsX4_many := goodIn_r _ [5, 6, 17, 18, 19, 20, 21, 22, 23, 24, 25, 26, 27, 28] (by decide +kernel) (by decide +kernel)
set_option maxRecDepth 20000 in
theorem gX4_titleLine_X4_many : GoodIn wsX4_titleLine (wsV RX4 45 RX4 yX4_many wsX4_many) := goodIn_app (goodIn_of _ (by decide +kernel)) ggX4_titleLine_X4_many
set_option maxRecDepth 20000 in
theorem ggX4_titleLine_X4_chapterOf : GoodIn wsX4_titleLine wsX4_chapterOf := goodIn_r _ [10, 6, 11, 12, 4, 13, 14, 15, 16, 17, 18, 19, 20, 21, 22, 23, 24, 25, 26, 27, 28] (by decide +kernel) (by decide +kernel)
set_option maxRecDepth 20000 in
theorem gX4_titleLine_X4_chapterOf : GoodIn wsX4_titleLine (wsV RX4 110 RX4 yX4_chapterOf wsX4_chapterOf) := goodIn_app (goodIn_of _ (by decide +kernel)) ggX4_titleLine_X4_chapterOf
theorem dX4_titleLine_0 : decode cX4_titleLine 0 = .ok (.bipush (-6), 2) := by decide +kernel
theorem dX4_titleLine_2 : decode cX4_titleLine 2 = .ok (.istore_n 2, 1) := by decide +kernel
theorem dX4_titleLine_3 : decode cX4_titleLine 3 = .ok (.aload_n 0, 1) := by decide +kernel
theorem dX4_titleLine_4 : decode cX4_titleLine 4 = .ok (.invokevirtual 45, 3) := by decide +kernel
theorem dX4_titleLine_7 : decode cX4_titleLine 7 = .ok (.iconst 1, 1) := by decide +kernel
theorem dX4_titleLine_8 : decode cX4_titleLine 8 = .ok (.isub, 1) := by decide +kernel
theorem dX4_titleLine_9 : decode cX4_titleLine 9 = .ok (.istore_n 3, 1) := by decide +kernel
theorem dX4_titleLine_10 : decode cX4_titleLine 10 = .ok (.iload_n 3, 1) := by decide +kernel
theorem dX4_titleLine_11 : decode cX4_titleLine 11 = .ok (.ifCond .lt 24, 3) := by decide +kernel
theorem dX4_titleLine_14 : decode cX4_titleLine 14 = .ok (.aload_n 0, 1) := by decide +kernel
theorem dX4_titleLine_15 : decode cX4_titleLine 15 = .ok (.iload_n 3, 1) := by decide +kernel
theorem dX4_titleLine_16 : decode cX4_titleLine 16 = .ok (.invokevirtual 110, 3) := by decide +kernel
theorem dX4_titleLine_19 : decode cX4_titleLine 19 = .ok (.iload_n 1, 1) := by decide +kernel
theorem dX4_titleLine_20 : decode cX4_titleLine 20 = .ok (.if_icmp .ne 7, 3) := by decide +kernel
theorem dX4_titleLine_23 : decode cX4_titleLine 23 = .ok (.iload_n 3, 1) := by decide +kernel
theorem dX4_titleLine_24 : decode cX4_titleLine 24 = .ok (.goto 4, 3) := by decide +kernel
theorem dX4_titleLine_27 : decode cX4_titleLine 27 = .ok (.iload_n 2, 1) := by decide +kernel
theorem dX4_titleLine_28 : decode cX4_titleLine 28 = .ok (.istore_n 2, 1) := by decide +kernel
theorem dX4_titleLine_29 : decode cX4_titleLine 29 = .ok (.iinc 3 (-1), 3) := by decide +kernel
theorem dX4_titleLine_32 : decode cX4_titleLine 32 = .ok (.goto (-22), 3) := by decide +kernel
theorem dX4_titleLine_35 : decode cX4_titleLine 35 = .ok (.iload_n 2, 1) := by decide +kernel
theorem dX4_titleLine_36 : decode cX4_titleLine 36 = .ok (.ireturn, 1) := by decide +kernel
set_option maxRecDepth 20000 in
theorem ggX4_linesOf_X4_many : GoodIn wsX4_linesOf wsX4_many := goodIn_r _ [6, 1, 20, 21, 22, 23, 24, 25, 26, 27, 28, 29, 30, 31] (by decide +kernel) (by decide +kernel)
set_option maxRecDepth 20000 in
theorem gX4_linesOf_X4_many : GoodIn wsX4_linesOf (wsV RX4 45 RX4 yX4_many wsX4_many) := goodIn_app (goodIn_of _ (by decide +kernel)) ggX4_linesOf_X4_many
set_option maxRecDepth 20000 in
theorem ggX4_linesOf_X4_chapterOf : GoodIn wsX4_linesOf wsX4_chapterOf := goodIn_r _ [10, 1, 11, 12, 5, 13, 14, 15, 16, 20, 21, 22, 23, 24, 25, 26, 27, 28, 29, 30, 31] (by decide +kernel) (by decide +kernel)
set_option maxRecDepth 20000 in
theorem gX4_linesOf_X4_chapterOf : GoodIn wsX4_linesOf (wsV RX4 110 RX4 yX4_chapterOf wsX4_chapterOf) := goodIn_app (goodIn_of _ (by decide +kernel)) ggX4_linesOf_X4_chapterOf
set_option maxRecDepth 20000 in
theorem ggX4_linesOf_X4_isSection : GoodIn wsX4_linesOf wsX4_isSection := goodIn_r _ [19, 14, 15, 5, 16] (by decide +kernel) (by decide +kernel)
set_option maxRecDepth 20000 in
theorem gX4_linesOf_X4_isSection : GoodIn wsX4_linesOf (va_wsS RX4 57 yX4_isSection wsX4_isSection) := goodIn_app (goodIn_of _ (by decide +kernel)) ggX4_linesOf_X4_isSection
theorem dX4_linesOf_0 : decode cX4_linesOf 0 = .ok (.iconst 0, 1) := by decide +kernel
theorem dX4_linesOf_1 : decode cX4_linesOf 1 = .ok (.istore_n 3, 1) := by decide +kernel
theorem dX4_linesOf_2 : decode cX4_linesOf 2 = .ok (.iconst 0, 1) := by decide +kernel
theorem dX4_linesOf_3 : decode cX4_linesOf 3 = .ok (.istore 4, 2) := by decide +kernel
theorem dX4_linesOf_5 : decode cX4_linesOf 5 = .ok (.iload 4, 2) := by decide +kernel
theorem dX4_linesOf_7 : decode cX4_linesOf 7 = .ok (.aload_n 0, 1) := by decide +kernel
theorem dX4_linesOf_8 : decode cX4_linesOf 8 = .ok (.invokevirtual 45, 3) := by decide +kernel
theorem dX4_linesOf_11 : decode cX4_linesOf 11 = .ok (.if_icmp .ge 46, 3) := by decide +kernel
theorem dX4_linesOf_14 : decode cX4_linesOf 14 = .ok (.iload_n 3, 1) := by decide +kernel
theorem dX4_linesOf_15 : decode cX4_linesOf 15 = .ok (.aload_n 0, 1) := by decide +kernel
theorem dX4_linesOf_16 : decode cX4_linesOf 16 = .ok (.iload 4, 2) := by decide +kernel
theorem dX4_linesOf_18 : decode cX4_linesOf 18 = .ok (.invokevirtual 110, 3) := by decide +kernel
theorem dX4_linesOf_21 : decode cX4_linesOf 21 = .ok (.iload_n 1, 1) := by decide +kernel
theorem dX4_linesOf_22 : decode cX4_linesOf 22 = .ok (.if_icmp .ne 26, 3) := by decide +kernel
theorem dX4_linesOf_25 : decode cX4_linesOf 25 = .ok (.iload_n 2, 1) := by decide +kernel
theorem dX4_linesOf_26 : decode cX4_linesOf 26 = .ok (.ifCond .eq 18, 3) := by decide +kernel
theorem dX4_linesOf_29 : decode cX4_linesOf 29 = .ok (.aload_n 0, 1) := by decide +kernel
theorem dX4_linesOf_30 : decode cX4_linesOf 30 = .ok (.getfield 7, 3) := by decide +kernel
theorem dX4_linesOf_33 : decode cX4_linesOf 33 = .ok (.iconst 0, 1) := by decide +kernel
theorem dX4_linesOf_34 : decode cX4_linesOf 34 = .ok (.iload 4, 2) := by decide +kernel
theorem dX4_linesOf_36 : decode cX4_linesOf 36 = .ok (.iadd, 1) := by decide +kernel
theorem dX4_linesOf_37 : decode cX4_linesOf 37 = .ok (.iaload, 1) := by decide +kernel
theorem dX4_linesOf_38 : decode cX4_linesOf 38 = .ok (.invokestatic 57, 3) := by decide +kernel
theorem dX4_linesOf_41 : decode cX4_linesOf 41 = .ok (.ifCond .eq 7, 3) := by decide +kernel
theorem dX4_linesOf_44 : decode cX4_linesOf 44 = .ok (.iconst 1, 1) := by decide +kernel
theorem dX4_linesOf_45 : decode cX4_linesOf 45 = .ok (.goto 4, 3) := by decide +kernel
theorem dX4_linesOf_48 : decode cX4_linesOf 48 = .ok (.iconst 0, 1) := by decide +kernel
theorem dX4_linesOf_49 : decode cX4_linesOf 49 = .ok (.iadd, 1) := by decide +kernel
theorem dX4_linesOf_50 : decode cX4_linesOf 50 = .ok (.istore_n 3, 1) := by decide +kernel
theorem dX4_linesOf_51 : decode cX4_linesOf 51 = .ok (.iinc 4 1, 3) := by decide +kernel
theorem dX4_linesOf_54 : decode cX4_linesOf 54 = .ok (.goto (-49), 3) := by decide +kernel
theorem dX4_linesOf_57 : decode cX4_linesOf 57 = .ok (.iload_n 3, 1) := by decide +kernel
theorem dX4_linesOf_58 : decode cX4_linesOf 58 = .ok (.ireturn, 1) := by decide +kernel
set_option maxRecDepth 20000 in
theorem ggX4_chapter_X4_in : GoodIn wsX4_chapter wsX4_in := goodIn_r _ [6] (by decide +kernel) (by decide +kernel)
set_option maxRecDepth 20000 in
theorem gX4_chapter_X4_in : GoodIn wsX4_chapter (va_wsS RX4 41 yX4_in wsX4_in) := goodIn_app (goodIn_of _ (by decide +kernel)) ggX4_chapter_X4_in
set_option maxRecDepth 20000 in
theorem ggX4_chapter_X4_chapters : GoodIn wsX4_chapter wsX4_chapters := goodIn_r _ [10, 11, 12, 13, 5, 14, 1, 15, 16, 17, 18, 19, 20, 21, 3, 4, 6, 54, 55, 56, 57, 58, 59, 60, 61, 62, 63, 64, 65] (by decide +kernel) (by decide +kernel)
set_option maxRecDepth 20000 in
theorem gX4_chapter_X4_chapters : GoodIn wsX4_chapter (wsV RX4 122 RX4 yX4_chapters wsX4_chapters) := goodIn_app (goodIn_of _ (by decide +kernel)) ggX4_chapter_X4_chapters
set_option maxRecDepth 20000 in
theorem ggX4_chapter_X4_layPages : GoodIn wsX4_chapter wsX4_layPages := goodIn_r _ [25, 26, 27, 1, 2, 28, 29, 11, 12, 13, 5, 14, 30, 31, 32, 33, 34, 35, 36, 37, 19, 20, 21, 3, 4, 6, 38, 39, 40, 41, 42, 54, 55, 56, 57, 58, 59, 60, 61, 62, 63, 64, 65] (by decide +kernel) (by decide +kernel)
set_option maxRecDepth 20000 in
theorem gX4_chapter_X4_layPages : GoodIn wsX4_chapter (wsV RX4 107 RX4 yX4_layPages wsX4_layPages) := goodIn_app (goodIn_of _ (by decide +kernel)) ggX4_chapter_X4_layPages
set_option maxRecDepth 20000 in
theorem ggX4_chapter_X4_titleLine : GoodIn wsX4_chapter wsX4_titleLine := goodIn_r _ [46, 11, 12, 13, 5, 14, 1, 15, 16, 17, 18, 19, 20, 21, 3, 4, 6, 54, 55, 56, 57, 58, 59, 60, 61, 62, 63, 64, 65] (by decide +kernel) (by decide +kernel)
set_option maxRecDepth 20000 in
theorem gX4_chapter_X4_titleLine : GoodIn wsX4_chapter (wsV RX4 125 RX4 yX4_titleLine wsX4_titleLine) := goodIn_app (goodIn_of _ (by decide +kernel)) ggX4_chapter_X4_titleLine
set_option maxRecDepth 20000 in
theorem ggX4_chapter_X4_linesOf : GoodIn wsX4_chapter wsX4_linesOf := goodIn_r _ [50, 1, 11, 12, 13, 5, 14, 15, 16, 17, 18, 19, 20, 21, 3, 4, 6, 51, 52, 53, 54, 55, 56, 57, 58, 59, 60, 61, 62, 63, 64, 65] (by decide +kernel) (by decide +kernel)
set_option maxRecDepth 20000 in
theorem gX4_chapter_X4_linesOf : GoodIn wsX4_chapter (wsV RX4 128 RX4 yX4_linesOf wsX4_linesOf) := goodIn_app (goodIn_of _ (by decide +kernel)) ggX4_chapter_X4_linesOf
theorem dX4_chapter_0 : decode cX4_chapter 0 = .ok (.iload_n 2, 1) := by decide +kernel
theorem dX4_chapter_1 : decode cX4_chapter 1 = .ok (.iconst 0, 1) := by decide +kernel
theorem dX4_chapter_2 : decode cX4_chapter 2 = .ok (.iconst 4, 1) := by decide +kernel
theorem dX4_chapter_3 : decode cX4_chapter 3 = .ok (.invokestatic 41, 3) := by decide +kernel
theorem dX4_chapter_6 : decode cX4_chapter 6 = .ok (.ifCond .ne 6, 3) := by decide +kernel
theorem dX4_chapter_9 : decode cX4_chapter 9 = .ok (.bipush (-2), 2) := by decide +kernel
theorem dX4_chapter_11 : decode cX4_chapter 11 = .ok (.ireturn, 1) := by decide +kernel
theorem dX4_chapter_12 : decode cX4_chapter 12 = .ok (.iload_n 1, 1) := by decide +kernel
theorem dX4_chapter_13 : decode cX4_chapter 13 = .ok (.iconst 0, 1) := by decide +kernel
theorem dX4_chapter_14 : decode cX4_chapter 14 = .ok (.aload_n 0, 1) := by decide +kernel
theorem dX4_chapter_15 : decode cX4_chapter 15 = .ok (.invokevirtual 122, 3) := by decide +kernel
theorem dX4_chapter_18 : decode cX4_chapter 18 = .ok (.iconst 1, 1) := by decide +kernel
theorem dX4_chapter_19 : decode cX4_chapter 19 = .ok (.isub, 1) := by decide +kernel
theorem dX4_chapter_20 : decode cX4_chapter 20 = .ok (.invokestatic 41, 3) := by decide +kernel
theorem dX4_chapter_23 : decode cX4_chapter 23 = .ok (.ifCond .ne 6, 3) := by decide +kernel
theorem dX4_chapter_26 : decode cX4_chapter 26 = .ok (.bipush (-6), 2) := by decide +kernel
theorem dX4_chapter_28 : decode cX4_chapter 28 = .ok (.ireturn, 1) := by decide +kernel
theorem dX4_chapter_29 : decode cX4_chapter 29 = .ok (.aload_n 0, 1) := by decide +kernel
theorem dX4_chapter_30 : decode cX4_chapter 30 = .ok (.invokevirtual 107, 3) := by decide +kernel
theorem dX4_chapter_33 : decode cX4_chapter 33 = .ok (.aload_n 0, 1) := by decide +kernel
theorem dX4_chapter_34 : decode cX4_chapter 34 = .ok (.iload_n 1, 1) := by decide +kernel
theorem dX4_chapter_35 : decode cX4_chapter 35 = .ok (.invokevirtual 125, 3) := by decide +kernel
theorem dX4_chapter_38 : decode cX4_chapter 38 = .ok (.istore_n 3, 1) := by decide +kernel
theorem dX4_chapter_39 : decode cX4_chapter 39 = .ok (.iload_n 2, 1) := by decide +kernel
theorem dX4_chapter_40 : decode cX4_chapter 40 = .ok (.tableswitch 71 0 3 #[32, 41, 48, 64], 32) := by decide +kernel
theorem dX4_chapter_72 : decode cX4_chapter 72 = .ok (.aload_n 0, 1) := by decide +kernel
theorem dX4_chapter_73 : decode cX4_chapter 73 = .ok (.getfield 7, 3) := by decide +kernel
theorem dX4_chapter_76 : decode cX4_chapter 76 = .ok (.iconst 0, 1) := by decide +kernel
theorem dX4_chapter_77 : decode cX4_chapter 77 = .ok (.iload_n 3, 1) := by decide +kernel
theorem dX4_chapter_78 : decode cX4_chapter 78 = .ok (.iadd, 1) := by decide +kernel
theorem dX4_chapter_79 : decode cX4_chapter 79 = .ok (.iaload, 1) := by decide +kernel
theorem dX4_chapter_80 : decode cX4_chapter 80 = .ok (.ireturn, 1) := by decide +kernel
theorem dX4_chapter_81 : decode cX4_chapter 81 = .ok (.aload_n 0, 1) := by decide +kernel
theorem dX4_chapter_82 : decode cX4_chapter 82 = .ok (.getfield 23, 3) := by decide +kernel
theorem dX4_chapter_85 : decode cX4_chapter 85 = .ok (.iload_n 3, 1) := by decide +kernel
theorem dX4_chapter_86 : decode cX4_chapter 86 = .ok (.iaload, 1) := by decide +kernel
theorem dX4_chapter_87 : decode cX4_chapter 87 = .ok (.ireturn, 1) := by decide +kernel
theorem dX4_chapter_88 : decode cX4_chapter 88 = .ok (.aload_n 0, 1) := by decide +kernel
theorem dX4_chapter_89 : decode cX4_chapter 89 = .ok (.getfield 23, 3) := by decide +kernel
theorem dX4_chapter_92 : decode cX4_chapter 92 = .ok (.iload_n 3, 1) := by decide +kernel
theorem dX4_chapter_93 : decode cX4_chapter 93 = .ok (.aload_n 0, 1) := by decide +kernel
theorem dX4_chapter_94 : decode cX4_chapter 94 = .ok (.iload_n 1, 1) := by decide +kernel
theorem dX4_chapter_95 : decode cX4_chapter 95 = .ok (.iconst 0, 1) := by decide +kernel
theorem dX4_chapter_96 : decode cX4_chapter 96 = .ok (.invokevirtual 128, 3) := by decide +kernel
theorem dX4_chapter_99 : decode cX4_chapter 99 = .ok (.iadd, 1) := by decide +kernel
theorem dX4_chapter_100 : decode cX4_chapter 100 = .ok (.iconst 1, 1) := by decide +kernel
theorem dX4_chapter_101 : decode cX4_chapter 101 = .ok (.isub, 1) := by decide +kernel
theorem dX4_chapter_102 : decode cX4_chapter 102 = .ok (.iaload, 1) := by decide +kernel
theorem dX4_chapter_103 : decode cX4_chapter 103 = .ok (.ireturn, 1) := by decide +kernel
theorem dX4_chapter_104 : decode cX4_chapter 104 = .ok (.aload_n 0, 1) := by decide +kernel
theorem dX4_chapter_105 : decode cX4_chapter 105 = .ok (.iload_n 1, 1) := by decide +kernel
theorem dX4_chapter_106 : decode cX4_chapter 106 = .ok (.iconst 0, 1) := by decide +kernel
theorem dX4_chapter_107 : decode cX4_chapter 107 = .ok (.invokevirtual 128, 3) := by decide +kernel
theorem dX4_chapter_110 : decode cX4_chapter 110 = .ok (.ireturn, 1) := by decide +kernel
theorem dX4_chapter_111 : decode cX4_chapter 111 = .ok (.aload_n 0, 1) := by decide +kernel
theorem dX4_chapter_112 : decode cX4_chapter 112 = .ok (.iload_n 1, 1) := by decide +kernel
theorem dX4_chapter_113 : decode cX4_chapter 113 = .ok (.iconst 1, 1) := by decide +kernel
theorem dX4_chapter_114 : decode cX4_chapter 114 = .ok (.invokevirtual 128, 3) := by decide +kernel
theorem dX4_chapter_117 : decode cX4_chapter 117 = .ok (.ireturn, 1) := by decide +kernel
set_option maxRecDepth 20000 in
theorem ggX4_layHeads_X4_layPages : GoodIn wsX4_layHeads wsX4_layPages := goodIn_r _ [7, 2, 8, 9, 10, 11, 12, 13, 14, 15, 6, 16, 17, 18, 19, 20, 21, 22, 23, 24, 25, 26, 27, 28, 29, 30, 31, 32, 33, 34, 35, 59, 60, 61, 62, 63, 64, 65, 66, 67, 68, 69, 70] (by decide +kernel) (by decide +kernel)
set_option maxRecDepth 20000 in
theorem gX4_layHeads_X4_layPages : GoodIn wsX4_layHeads (wsV RX4 107 RX4 yX4_layPages wsX4_layPages) := goodIn_app (goodIn_of _ (by decide +kernel)) ggX4_layHeads_X4_layPages
set_option maxRecDepth 20000 in
theorem ggX4_layHeads_X4_headOf : GoodIn wsX4_layHeads wsX4_headOf := goodIn_r _ [39, 8, 9, 12, 25, 26, 6, 27, 28, 29, 30, 40, 41, 42, 43, 44, 45, 46, 47, 10, 13, 14, 15, 16, 48, 49, 50, 51, 35, 52, 53, 54, 55, 56, 57, 58, 59, 60, 61, 62, 63, 64, 65, 66, 67, 68, 69, 70] (by decide +kernel) (by decide +kernel)
set_option maxRecDepth 20000 in
theorem gX4_layHeads_X4_headOf : GoodIn wsX4_layHeads (wsV RX4 116 RX4 yX4_headOf wsX4_headOf) := goodIn_app (goodIn_of _ (by decide +kernel)) ggX4_layHeads_X4_headOf
theorem dX4_layHeads_0 : decode cX4_layHeads 0 = .ok (.aload_n 0, 1) := by decide +kernel
theorem dX4_layHeads_1 : decode cX4_layHeads 1 = .ok (.invokevirtual 107, 3) := by decide +kernel
theorem dX4_layHeads_4 : decode cX4_layHeads 4 = .ok (.iconst 1, 1) := by decide +kernel
theorem dX4_layHeads_5 : decode cX4_layHeads 5 = .ok (.istore_n 1, 1) := by decide +kernel
theorem dX4_layHeads_6 : decode cX4_layHeads 6 = .ok (.iload_n 1, 1) := by decide +kernel
theorem dX4_layHeads_7 : decode cX4_layHeads 7 = .ok (.sipush 130, 3) := by decide +kernel
theorem dX4_layHeads_10 : decode cX4_layHeads 10 = .ok (.if_icmp .ge 33, 3) := by decide +kernel
theorem dX4_layHeads_13 : decode cX4_layHeads 13 = .ok (.aload_n 0, 1) := by decide +kernel
theorem dX4_layHeads_14 : decode cX4_layHeads 14 = .ok (.getfield 38, 3) := by decide +kernel
theorem dX4_layHeads_17 : decode cX4_layHeads 17 = .ok (.iload_n 1, 1) := by decide +kernel
theorem dX4_layHeads_18 : decode cX4_layHeads 18 = .ok (.iload_n 1, 1) := by decide +kernel
theorem dX4_layHeads_19 : decode cX4_layHeads 19 = .ok (.aload_n 0, 1) := by decide +kernel
theorem dX4_layHeads_20 : decode cX4_layHeads 20 = .ok (.getfield 76, 3) := by decide +kernel
theorem dX4_layHeads_23 : decode cX4_layHeads 23 = .ok (.if_icmp .gt 11, 3) := by decide +kernel
theorem dX4_layHeads_26 : decode cX4_layHeads 26 = .ok (.aload_n 0, 1) := by decide +kernel
theorem dX4_layHeads_27 : decode cX4_layHeads 27 = .ok (.iload_n 1, 1) := by decide +kernel
theorem dX4_layHeads_28 : decode cX4_layHeads 28 = .ok (.invokevirtual 116, 3) := by decide +kernel
theorem dX4_layHeads_31 : decode cX4_layHeads 31 = .ok (.goto 5, 3) := by decide +kernel
theorem dX4_layHeads_34 : decode cX4_layHeads 34 = .ok (.bipush (-6), 2) := by decide +kernel
theorem dX4_layHeads_36 : decode cX4_layHeads 36 = .ok (.iastore, 1) := by decide +kernel
theorem dX4_layHeads_37 : decode cX4_layHeads 37 = .ok (.iinc 1 1, 3) := by decide +kernel
theorem dX4_layHeads_40 : decode cX4_layHeads 40 = .ok (.goto (-34), 3) := by decide +kernel
theorem dX4_layHeads_43 : decode cX4_layHeads 43 = .ok (.return_, 1) := by decide +kernel
set_option maxRecDepth 20000 in
theorem ggX4_changedBy_X4_layPages : GoodIn wsX4_changedBy wsX4_layPages := goodIn_r _ [8, 3, 9, 1, 10, 11, 12, 13, 14, 15, 7, 16, 17, 18, 19, 20, 21, 22, 23, 24, 25, 26, 27, 28, 29, 30, 31, 32, 33, 34, 35, 59, 60, 61, 62, 63, 64, 65, 66, 67, 68, 69, 70] (by decide +kernel) (by decide +kernel)
set_option maxRecDepth 20000 in
theorem gX4_changedBy_X4_layPages : GoodIn wsX4_changedBy (wsV RX4 107 RX4 yX4_layPages wsX4_layPages) := goodIn_app (goodIn_of _ (by decide +kernel)) ggX4_changedBy_X4_layPages
set_option maxRecDepth 20000 in
theorem ggX4_changedBy_X4_headOf : GoodIn wsX4_changedBy wsX4_headOf := goodIn_r _ [39, 9, 1, 12, 25, 26, 7, 27, 28, 29, 30, 40, 41, 42, 43, 44, 45, 46, 47, 10, 13, 14, 15, 16, 48, 49, 50, 51, 35, 52, 53, 54, 55, 56, 57, 58, 59, 60, 61, 62, 63, 64, 65, 66, 67, 68, 69, 70] (by decide +kernel) (by decide +kernel)
set_option maxRecDepth 20000 in
theorem gX4_changedBy_X4_headOf : GoodIn wsX4_changedBy (wsV RX4 116 RX4 yX4_headOf wsX4_headOf) := goodIn_app (goodIn_of _ (by decide +kernel)) ggX4_changedBy_X4_headOf
theorem dX4_changedBy_0 : decode cX4_changedBy 0 = .ok (.aload_n 0, 1) := by decide +kernel
theorem dX4_changedBy_1 : decode cX4_changedBy 1 = .ok (.getfield 7, 3) := by decide +kernel
theorem dX4_changedBy_4 : decode cX4_changedBy 4 = .ok (.bipush 60, 2) := by decide +kernel
theorem dX4_changedBy_6 : decode cX4_changedBy 6 = .ok (.iload_n 1, 1) := by decide +kernel
theorem dX4_changedBy_7 : decode cX4_changedBy 7 = .ok (.iadd, 1) := by decide +kernel
theorem dX4_changedBy_8 : decode cX4_changedBy 8 = .ok (.iconst 1, 1) := by decide +kernel
theorem dX4_changedBy_9 : decode cX4_changedBy 9 = .ok (.aload_n 0, 1) := by decide +kernel
theorem dX4_changedBy_10 : decode cX4_changedBy 10 = .ok (.getfield 7, 3) := by decide +kernel
theorem dX4_changedBy_13 : decode cX4_changedBy 13 = .ok (.bipush 60, 2) := by decide +kernel
theorem dX4_changedBy_15 : decode cX4_changedBy 15 = .ok (.iload_n 1, 1) := by decide +kernel
theorem dX4_changedBy_16 : decode cX4_changedBy 16 = .ok (.iadd, 1) := by decide +kernel
theorem dX4_changedBy_17 : decode cX4_changedBy 17 = .ok (.iaload, 1) := by decide +kernel
theorem dX4_changedBy_18 : decode cX4_changedBy 18 = .ok (.isub, 1) := by decide +kernel
theorem dX4_changedBy_19 : decode cX4_changedBy 19 = .ok (.iastore, 1) := by decide +kernel
theorem dX4_changedBy_20 : decode cX4_changedBy 20 = .ok (.aload_n 0, 1) := by decide +kernel
theorem dX4_changedBy_21 : decode cX4_changedBy 21 = .ok (.invokevirtual 107, 3) := by decide +kernel
theorem dX4_changedBy_24 : decode cX4_changedBy 24 = .ok (.iconst 0, 1) := by decide +kernel
theorem dX4_changedBy_25 : decode cX4_changedBy 25 = .ok (.istore_n 2, 1) := by decide +kernel
theorem dX4_changedBy_26 : decode cX4_changedBy 26 = .ok (.iconst 1, 1) := by decide +kernel
theorem dX4_changedBy_27 : decode cX4_changedBy 27 = .ok (.istore_n 3, 1) := by decide +kernel
theorem dX4_changedBy_28 : decode cX4_changedBy 28 = .ok (.iload_n 3, 1) := by decide +kernel
theorem dX4_changedBy_29 : decode cX4_changedBy 29 = .ok (.sipush 130, 3) := by decide +kernel
theorem dX4_changedBy_32 : decode cX4_changedBy 32 = .ok (.if_icmp .ge 44, 3) := by decide +kernel
theorem dX4_changedBy_35 : decode cX4_changedBy 35 = .ok (.iload_n 2, 1) := by decide +kernel
theorem dX4_changedBy_36 : decode cX4_changedBy 36 = .ok (.aload_n 0, 1) := by decide +kernel
theorem dX4_changedBy_37 : decode cX4_changedBy 37 = .ok (.getfield 38, 3) := by decide +kernel
theorem dX4_changedBy_40 : decode cX4_changedBy 40 = .ok (.iload_n 3, 1) := by decide +kernel
theorem dX4_changedBy_41 : decode cX4_changedBy 41 = .ok (.iaload, 1) := by decide +kernel
theorem dX4_changedBy_42 : decode cX4_changedBy 42 = .ok (.iload_n 3, 1) := by decide +kernel
theorem dX4_changedBy_43 : decode cX4_changedBy 43 = .ok (.aload_n 0, 1) := by decide +kernel
theorem dX4_changedBy_44 : decode cX4_changedBy 44 = .ok (.getfield 76, 3) := by decide +kernel
theorem dX4_changedBy_47 : decode cX4_changedBy 47 = .ok (.if_icmp .gt 11, 3) := by decide +kernel
theorem dX4_changedBy_50 : decode cX4_changedBy 50 = .ok (.aload_n 0, 1) := by decide +kernel
theorem dX4_changedBy_51 : decode cX4_changedBy 51 = .ok (.iload_n 3, 1) := by decide +kernel
theorem dX4_changedBy_52 : decode cX4_changedBy 52 = .ok (.invokevirtual 116, 3) := by decide +kernel
theorem dX4_changedBy_55 : decode cX4_changedBy 55 = .ok (.goto 5, 3) := by decide +kernel
theorem dX4_changedBy_58 : decode cX4_changedBy 58 = .ok (.bipush (-6), 2) := by decide +kernel
theorem dX4_changedBy_60 : decode cX4_changedBy 60 = .ok (.if_icmp .ne 7, 3) := by decide +kernel
theorem dX4_changedBy_63 : decode cX4_changedBy 63 = .ok (.iconst 0, 1) := by decide +kernel
theorem dX4_changedBy_64 : decode cX4_changedBy 64 = .ok (.goto 4, 3) := by decide +kernel
theorem dX4_changedBy_67 : decode cX4_changedBy 67 = .ok (.iconst 1, 1) := by decide +kernel
theorem dX4_changedBy_68 : decode cX4_changedBy 68 = .ok (.iadd, 1) := by decide +kernel
theorem dX4_changedBy_69 : decode cX4_changedBy 69 = .ok (.istore_n 2, 1) := by decide +kernel
theorem dX4_changedBy_70 : decode cX4_changedBy 70 = .ok (.iinc 3 1, 3) := by decide +kernel
theorem dX4_changedBy_73 : decode cX4_changedBy 73 = .ok (.goto (-45), 3) := by decide +kernel
theorem dX4_changedBy_76 : decode cX4_changedBy 76 = .ok (.aload_n 0, 1) := by decide +kernel
theorem dX4_changedBy_77 : decode cX4_changedBy 77 = .ok (.getfield 7, 3) := by decide +kernel
theorem dX4_changedBy_80 : decode cX4_changedBy 80 = .ok (.bipush 60, 2) := by decide +kernel
theorem dX4_changedBy_82 : decode cX4_changedBy 82 = .ok (.iload_n 1, 1) := by decide +kernel
theorem dX4_changedBy_83 : decode cX4_changedBy 83 = .ok (.iadd, 1) := by decide +kernel
theorem dX4_changedBy_84 : decode cX4_changedBy 84 = .ok (.iconst 1, 1) := by decide +kernel
theorem dX4_changedBy_85 : decode cX4_changedBy 85 = .ok (.aload_n 0, 1) := by decide +kernel
theorem dX4_changedBy_86 : decode cX4_changedBy 86 = .ok (.getfield 7, 3) := by decide +kernel
theorem dX4_changedBy_89 : decode cX4_changedBy 89 = .ok (.bipush 60, 2) := by decide +kernel
theorem dX4_changedBy_91 : decode cX4_changedBy 91 = .ok (.iload_n 1, 1) := by decide +kernel
theorem dX4_changedBy_92 : decode cX4_changedBy 92 = .ok (.iadd, 1) := by decide +kernel
theorem dX4_changedBy_93 : decode cX4_changedBy 93 = .ok (.iaload, 1) := by decide +kernel
theorem dX4_changedBy_94 : decode cX4_changedBy 94 = .ok (.isub, 1) := by decide +kernel
theorem dX4_changedBy_95 : decode cX4_changedBy 95 = .ok (.iastore, 1) := by decide +kernel
theorem dX4_changedBy_96 : decode cX4_changedBy 96 = .ok (.iload_n 2, 1) := by decide +kernel
theorem dX4_changedBy_97 : decode cX4_changedBy 97 = .ok (.ireturn, 1) := by decide +kernel
set_option maxRecDepth 20000 in
theorem ggX4_changed_X4_many : GoodIn wsX4_changed wsX4_many := goodIn_r _ [5, 6, 67, 68, 69, 70, 71, 72, 73, 74, 75, 76, 77, 78] (by decide +kernel) (by decide +kernel)
set_option maxRecDepth 20000 in
theorem gX4_changed_X4_many : GoodIn wsX4_changed (wsV RX4 45 RX4 yX4_many wsX4_many) := goodIn_app (goodIn_of _ (by decide +kernel)) ggX4_changed_X4_many
set_option maxRecDepth 20000 in
theorem ggX4_changed_X4_in : GoodIn wsX4_changed wsX4_in := goodIn_r _ [9] (by decide +kernel) (by decide +kernel)
set_option maxRecDepth 20000 in
theorem gX4_changed_X4_in : GoodIn wsX4_changed (va_wsS RX4 41 yX4_in wsX4_in) := goodIn_app (goodIn_of _ (by decide +kernel)) ggX4_changed_X4_in
set_option maxRecDepth 20000 in
theorem ggX4_changed_X4_layHeads : GoodIn wsX4_changed wsX4_layHeads := goodIn_r _ [13, 14, 15, 16, 17, 18, 4, 19, 20, 6, 21, 22, 23, 1, 2, 3, 5, 24, 25, 26, 27, 28, 29, 30, 31, 32, 33, 34, 7, 8, 9, 35, 36, 37, 38, 39, 40, 41, 42, 43, 44, 45, 46, 47, 48, 49, 50, 51, 52, 53, 54, 55, 56, 57, 58, 59, 60, 61, 62, 67, 68, 69, 70, 71, 72, 73, 74, 75, 76, 77, 78] (by decide +kernel) (by decide +kernel)
set_option maxRecDepth 20000 in
theorem gX4_changed_X4_layHeads : GoodIn wsX4_changed (wsV RX4 132 RX4 yX4_layHeads wsX4_layHeads) := goodIn_app (goodIn_of _ (by decide +kernel)) ggX4_changed_X4_layHeads
set_option maxRecDepth 20000 in
theorem ggX4_changed_X4_changedBy : GoodIn wsX4_changed wsX4_changedBy := goodIn_r _ [66, 6, 14, 15, 16, 17, 18, 4, 19, 20, 21, 22, 23, 1, 2, 3, 5, 24, 25, 26, 27, 28, 29, 30, 31, 32, 33, 34, 7, 8, 9, 35, 36, 37, 38, 39, 40, 41, 42, 43, 44, 45, 46, 47, 48, 49, 50, 51, 52, 53, 54, 55, 56, 57, 58, 59, 60, 61, 62, 67, 68, 69, 70, 71, 72, 73, 74, 75, 76, 77, 78] (by decide +kernel) (by decide +kernel)
set_option maxRecDepth 20000 in
theorem gX4_changed_X4_changedBy : GoodIn wsX4_changed (wsV RX4 135 RX4 yX4_changedBy wsX4_changedBy) := goodIn_app (goodIn_of _ (by decide +kernel)) ggX4_changed_X4_changedBy
theorem dX4_changed_0 : decode cX4_changed 0 = .ok (.iload_n 1, 1) := by decide +kernel
theorem dX4_changed_1 : decode cX4_changed 1 = .ok (.iconst 1, 1) := by decide +kernel
theorem dX4_changed_2 : decode cX4_changed 2 = .ok (.aload_n 0, 1) := by decide +kernel
theorem dX4_changed_3 : decode cX4_changed 3 = .ok (.invokevirtual 45, 3) := by decide +kernel
theorem dX4_changed_6 : decode cX4_changed 6 = .ok (.iconst 1, 1) := by decide +kernel
theorem dX4_changed_7 : decode cX4_changed 7 = .ok (.isub, 1) := by decide +kernel
theorem dX4_changed_8 : decode cX4_changed 8 = .ok (.invokestatic 41, 3) := by decide +kernel
theorem dX4_changed_11 : decode cX4_changed 11 = .ok (.ifCond .ne 5, 3) := by decide +kernel
theorem dX4_changed_14 : decode cX4_changed 14 = .ok (.iconst (-1), 1) := by decide +kernel
theorem dX4_changed_15 : decode cX4_changed 15 = .ok (.ireturn, 1) := by decide +kernel
theorem dX4_changed_16 : decode cX4_changed 16 = .ok (.aload_n 0, 1) := by decide +kernel
theorem dX4_changed_17 : decode cX4_changed 17 = .ok (.invokevirtual 132, 3) := by decide +kernel
theorem dX4_changed_20 : decode cX4_changed 20 = .ok (.aload_n 0, 1) := by decide +kernel
theorem dX4_changed_21 : decode cX4_changed 21 = .ok (.iload_n 1, 1) := by decide +kernel
theorem dX4_changed_22 : decode cX4_changed 22 = .ok (.invokevirtual 135, 3) := by decide +kernel
theorem dX4_changed_25 : decode cX4_changed 25 = .ok (.ireturn, 1) := by decide +kernel
set_option maxRecDepth 20000 in
theorem ggX4_worst_X4_in : GoodIn wsX4_worst wsX4_in := goodIn_r _ [4] (by decide +kernel) (by decide +kernel)
set_option maxRecDepth 20000 in
theorem gX4_worst_X4_in : GoodIn wsX4_worst (va_wsS RX4 41 yX4_in wsX4_in) := goodIn_app (goodIn_of _ (by decide +kernel)) ggX4_worst_X4_in
set_option maxRecDepth 20000 in
theorem ggX4_worst_X4_layHeads : GoodIn wsX4_worst wsX4_layHeads := goodIn_r _ [8, 9, 10, 11, 12, 13, 3, 14, 15, 16, 17, 18, 19, 20, 21, 22, 23, 24, 25, 26, 27, 28, 29, 30, 31, 32, 33, 34, 1, 2, 4, 35, 36, 37, 38, 39, 40, 41, 42, 43, 44, 45, 46, 47, 48, 49, 50, 51, 52, 53, 54, 55, 56, 57, 58, 59, 60, 61, 62, 67, 68, 69, 70, 71, 72, 73, 74, 75, 76, 77, 78] (by decide +kernel) (by decide +kernel)
set_option maxRecDepth 20000 in
theorem gX4_worst_X4_layHeads : GoodIn wsX4_worst (wsV RX4 132 RX4 yX4_layHeads wsX4_layHeads) := goodIn_app (goodIn_of _ (by decide +kernel)) ggX4_worst_X4_layHeads
set_option maxRecDepth 20000 in
theorem ggX4_worst_X4_many : GoodIn wsX4_worst wsX4_many := goodIn_r _ [23, 16, 67, 68, 69, 70, 71, 72, 73, 74, 75, 76, 77, 78] (by decide +kernel) (by decide +kernel)
set_option maxRecDepth 20000 in
theorem gX4_worst_X4_many : GoodIn wsX4_worst (wsV RX4 45 RX4 yX4_many wsX4_many) := goodIn_app (goodIn_of _ (by decide +kernel)) ggX4_worst_X4_many
set_option maxRecDepth 20000 in
theorem ggX4_worst_X4_changedBy : GoodIn wsX4_worst wsX4_changedBy := goodIn_r _ [66, 16, 9, 10, 11, 12, 13, 3, 14, 15, 17, 18, 19, 20, 21, 22, 23, 24, 25, 26, 27, 28, 29, 30, 31, 32, 33, 34, 1, 2, 4, 35, 36, 37, 38, 39, 40, 41, 42, 43, 44, 45, 46, 47, 48, 49, 50, 51, 52, 53, 54, 55, 56, 57, 58, 59, 60, 61, 62, 67, 68, 69, 70, 71, 72, 73, 74, 75, 76, 77, 78] (by decide +kernel) (by decide +kernel)
set_option maxRecDepth 20000 in
theorem gX4_worst_X4_changedBy : GoodIn wsX4_worst (wsV RX4 135 RX4 yX4_changedBy wsX4_changedBy) := goodIn_app (goodIn_of _ (by decide +kernel)) ggX4_worst_X4_changedBy
theorem dX4_worst_0 : decode cX4_worst 0 = .ok (.iload_n 1, 1) := by decide +kernel
theorem dX4_worst_1 : decode cX4_worst 1 = .ok (.iconst 0, 1) := by decide +kernel
theorem dX4_worst_2 : decode cX4_worst 2 = .ok (.iconst 1, 1) := by decide +kernel
theorem dX4_worst_3 : decode cX4_worst 3 = .ok (.invokestatic 41, 3) := by decide +kernel
theorem dX4_worst_6 : decode cX4_worst 6 = .ok (.ifCond .ne 6, 3) := by decide +kernel
theorem dX4_worst_9 : decode cX4_worst 9 = .ok (.bipush (-2), 2) := by decide +kernel
theorem dX4_worst_11 : decode cX4_worst 11 = .ok (.ireturn, 1) := by decide +kernel
theorem dX4_worst_12 : decode cX4_worst 12 = .ok (.aload_n 0, 1) := by decide +kernel
theorem dX4_worst_13 : decode cX4_worst 13 = .ok (.invokevirtual 132, 3) := by decide +kernel
theorem dX4_worst_16 : decode cX4_worst 16 = .ok (.bipush (-6), 2) := by decide +kernel
theorem dX4_worst_18 : decode cX4_worst 18 = .ok (.istore_n 2, 1) := by decide +kernel
theorem dX4_worst_19 : decode cX4_worst 19 = .ok (.iconst 0, 1) := by decide +kernel
theorem dX4_worst_20 : decode cX4_worst 20 = .ok (.istore_n 3, 1) := by decide +kernel
theorem dX4_worst_21 : decode cX4_worst 21 = .ok (.iconst 1, 1) := by decide +kernel
theorem dX4_worst_22 : decode cX4_worst 22 = .ok (.istore 4, 2) := by decide +kernel
theorem dX4_worst_24 : decode cX4_worst 24 = .ok (.iload 4, 2) := by decide +kernel
theorem dX4_worst_26 : decode cX4_worst 26 = .ok (.aload_n 0, 1) := by decide +kernel
theorem dX4_worst_27 : decode cX4_worst 27 = .ok (.invokevirtual 45, 3) := by decide +kernel
theorem dX4_worst_30 : decode cX4_worst 30 = .ok (.if_icmp .ge 33, 3) := by decide +kernel
theorem dX4_worst_33 : decode cX4_worst 33 = .ok (.aload_n 0, 1) := by decide +kernel
theorem dX4_worst_34 : decode cX4_worst 34 = .ok (.iload 4, 2) := by decide +kernel
theorem dX4_worst_36 : decode cX4_worst 36 = .ok (.invokevirtual 135, 3) := by decide +kernel
theorem dX4_worst_39 : decode cX4_worst 39 = .ok (.istore 5, 2) := by decide +kernel
theorem dX4_worst_41 : decode cX4_worst 41 = .ok (.iload_n 2, 1) := by decide +kernel
theorem dX4_worst_42 : decode cX4_worst 42 = .ok (.ifCond .lt 9, 3) := by decide +kernel
theorem dX4_worst_45 : decode cX4_worst 45 = .ok (.iload 5, 2) := by decide +kernel
theorem dX4_worst_47 : decode cX4_worst 47 = .ok (.iload_n 3, 1) := by decide +kernel
theorem dX4_worst_48 : decode cX4_worst 48 = .ok (.if_icmp .le 9, 3) := by decide +kernel
theorem dX4_worst_51 : decode cX4_worst 51 = .ok (.iload 4, 2) := by decide +kernel
theorem dX4_worst_53 : decode cX4_worst 53 = .ok (.istore_n 2, 1) := by decide +kernel
theorem dX4_worst_54 : decode cX4_worst 54 = .ok (.iload 5, 2) := by decide +kernel
theorem dX4_worst_56 : decode cX4_worst 56 = .ok (.istore_n 3, 1) := by decide +kernel
theorem dX4_worst_57 : decode cX4_worst 57 = .ok (.iinc 4 1, 3) := by decide +kernel
theorem dX4_worst_60 : decode cX4_worst 60 = .ok (.goto (-36), 3) := by decide +kernel
theorem dX4_worst_63 : decode cX4_worst 63 = .ok (.iload_n 1, 1) := by decide +kernel
theorem dX4_worst_64 : decode cX4_worst 64 = .ok (.ifCond .ne 7, 3) := by decide +kernel
theorem dX4_worst_67 : decode cX4_worst 67 = .ok (.iload_n 2, 1) := by decide +kernel
theorem dX4_worst_68 : decode cX4_worst 68 = .ok (.goto 4, 3) := by decide +kernel
theorem dX4_worst_71 : decode cX4_worst 71 = .ok (.iload_n 3, 1) := by decide +kernel
theorem dX4_worst_72 : decode cX4_worst 72 = .ok (.ireturn, 1) := by decide +kernel
set_option maxRecDepth 20000 in
theorem ggX4_fit_X4_in : GoodIn wsX4_fit wsX4_in := goodIn_r _ [6] (by decide +kernel) (by decide +kernel)
set_option maxRecDepth 20000 in
theorem gX4_fit_X4_in : GoodIn wsX4_fit (va_wsS RX4 41 yX4_in wsX4_in) := goodIn_app (goodIn_of _ (by decide +kernel)) ggX4_fit_X4_in
set_option maxRecDepth 20000 in
theorem ggX4_fit_X4_layPages : GoodIn wsX4_fit wsX4_layPages := goodIn_r _ [10, 2, 11, 1, 12, 13, 14, 15, 16, 17, 5, 18, 19, 20, 21, 22, 23, 24, 25, 26, 27, 28, 29, 3, 4, 6, 30, 31, 32, 33, 34, 35, 36, 37, 38, 39, 40, 41, 42, 43, 44, 45, 46] (by decide +kernel) (by decide +kernel)
set_option maxRecDepth 20000 in
theorem gX4_fit_X4_layPages : GoodIn wsX4_fit (wsV RX4 107 RX4 yX4_layPages wsX4_layPages) := goodIn_app (goodIn_of _ (by decide +kernel)) ggX4_fit_X4_layPages
theorem dX4_fit_0 : decode cX4_fit 0 = .ok (.iload_n 1, 1) := by decide +kernel
theorem dX4_fit_1 : decode cX4_fit 1 = .ok (.iconst 0, 1) := by decide +kernel
theorem dX4_fit_2 : decode cX4_fit 2 = .ok (.bipush 99, 2) := by decide +kernel
theorem dX4_fit_4 : decode cX4_fit 4 = .ok (.invokestatic 41, 3) := by decide +kernel
theorem dX4_fit_7 : decode cX4_fit 7 = .ok (.ifCond .ne 6, 3) := by decide +kernel
theorem dX4_fit_10 : decode cX4_fit 10 = .ok (.bipush (-2), 2) := by decide +kernel
theorem dX4_fit_12 : decode cX4_fit 12 = .ok (.ireturn, 1) := by decide +kernel
theorem dX4_fit_13 : decode cX4_fit 13 = .ok (.aload_n 0, 1) := by decide +kernel
theorem dX4_fit_14 : decode cX4_fit 14 = .ok (.getfield 7, 3) := by decide +kernel
theorem dX4_fit_17 : decode cX4_fit 17 = .ok (.bipush 121, 2) := by decide +kernel
theorem dX4_fit_19 : decode cX4_fit 19 = .ok (.iaload, 1) := by decide +kernel
theorem dX4_fit_20 : decode cX4_fit 20 = .ok (.istore_n 2, 1) := by decide +kernel
theorem dX4_fit_21 : decode cX4_fit 21 = .ok (.bipush (-6), 2) := by decide +kernel
theorem dX4_fit_23 : decode cX4_fit 23 = .ok (.istore_n 3, 1) := by decide +kernel
theorem dX4_fit_24 : decode cX4_fit 24 = .ok (.bipush 9, 2) := by decide +kernel
theorem dX4_fit_26 : decode cX4_fit 26 = .ok (.istore 4, 2) := by decide +kernel
theorem dX4_fit_28 : decode cX4_fit 28 = .ok (.iload 4, 2) := by decide +kernel
theorem dX4_fit_30 : decode cX4_fit 30 = .ok (.iconst 2, 1) := by decide +kernel
theorem dX4_fit_31 : decode cX4_fit 31 = .ok (.if_icmp .lt 49, 3) := by decide +kernel
theorem dX4_fit_34 : decode cX4_fit 34 = .ok (.iload 4, 2) := by decide +kernel
theorem dX4_fit_36 : decode cX4_fit 36 = .ok (.aload_n 0, 1) := by decide +kernel
theorem dX4_fit_37 : decode cX4_fit 37 = .ok (.getfield 7, 3) := by decide +kernel
theorem dX4_fit_40 : decode cX4_fit 40 = .ok (.bipush 123, 2) := by decide +kernel
theorem dX4_fit_42 : decode cX4_fit 42 = .ok (.iaload, 1) := by decide +kernel
theorem dX4_fit_43 : decode cX4_fit 43 = .ok (.if_icmp .le 37, 3) := by decide +kernel
theorem dX4_fit_46 : decode cX4_fit 46 = .ok (.aload_n 0, 1) := by decide +kernel
theorem dX4_fit_47 : decode cX4_fit 47 = .ok (.getfield 7, 3) := by decide +kernel
theorem dX4_fit_50 : decode cX4_fit 50 = .ok (.bipush 121, 2) := by decide +kernel
theorem dX4_fit_52 : decode cX4_fit 52 = .ok (.iload 4, 2) := by decide +kernel
theorem dX4_fit_54 : decode cX4_fit 54 = .ok (.iastore, 1) := by decide +kernel
theorem dX4_fit_55 : decode cX4_fit 55 = .ok (.aload_n 0, 1) := by decide +kernel
theorem dX4_fit_56 : decode cX4_fit 56 = .ok (.invokevirtual 107, 3) := by decide +kernel
theorem dX4_fit_59 : decode cX4_fit 59 = .ok (.aload_n 0, 1) := by decide +kernel
theorem dX4_fit_60 : decode cX4_fit 60 = .ok (.getfield 76, 3) := by decide +kernel
theorem dX4_fit_63 : decode cX4_fit 63 = .ok (.iload_n 1, 1) := by decide +kernel
theorem dX4_fit_64 : decode cX4_fit 64 = .ok (.if_icmp .gt 8, 3) := by decide +kernel
theorem dX4_fit_67 : decode cX4_fit 67 = .ok (.iload 4, 2) := by decide +kernel
theorem dX4_fit_69 : decode cX4_fit 69 = .ok (.goto 4, 3) := by decide +kernel
theorem dX4_fit_72 : decode cX4_fit 72 = .ok (.iload_n 3, 1) := by decide +kernel
theorem dX4_fit_73 : decode cX4_fit 73 = .ok (.istore_n 3, 1) := by decide +kernel
theorem dX4_fit_74 : decode cX4_fit 74 = .ok (.iinc 4 (-1), 3) := by decide +kernel
theorem dX4_fit_77 : decode cX4_fit 77 = .ok (.goto (-49), 3) := by decide +kernel
theorem dX4_fit_80 : decode cX4_fit 80 = .ok (.aload_n 0, 1) := by decide +kernel
theorem dX4_fit_81 : decode cX4_fit 81 = .ok (.getfield 7, 3) := by decide +kernel
theorem dX4_fit_84 : decode cX4_fit 84 = .ok (.bipush 121, 2) := by decide +kernel
theorem dX4_fit_86 : decode cX4_fit 86 = .ok (.iload_n 2, 1) := by decide +kernel
theorem dX4_fit_87 : decode cX4_fit 87 = .ok (.iastore, 1) := by decide +kernel
theorem dX4_fit_88 : decode cX4_fit 88 = .ok (.iload_n 3, 1) := by decide +kernel
theorem dX4_fit_89 : decode cX4_fit 89 = .ok (.ireturn, 1) := by decide +kernel
set_option maxRecDepth 20000 in
theorem ggX4_image_X4_in : GoodIn wsX4_image wsX4_in := goodIn_r _ [7] (by decide +kernel) (by decide +kernel)
set_option maxRecDepth 20000 in
theorem gX4_image_X4_in : GoodIn wsX4_image (va_wsS RX4 41 yX4_in wsX4_in) := goodIn_app (goodIn_of _ (by decide +kernel)) ggX4_image_X4_in
theorem dX4_image_0 : decode cX4_image 0 = .ok (.iload_n 1, 1) := by decide +kernel
theorem dX4_image_1 : decode cX4_image 1 = .ok (.iconst 0, 1) := by decide +kernel
theorem dX4_image_2 : decode cX4_image 2 = .ok (.iconst 1, 1) := by decide +kernel
theorem dX4_image_3 : decode cX4_image 3 = .ok (.invokestatic 41, 3) := by decide +kernel
theorem dX4_image_6 : decode cX4_image 6 = .ok (.ifCond .ne 6, 3) := by decide +kernel
theorem dX4_image_9 : decode cX4_image 9 = .ok (.bipush (-2), 2) := by decide +kernel
theorem dX4_image_11 : decode cX4_image 11 = .ok (.ireturn, 1) := by decide +kernel
theorem dX4_image_12 : decode cX4_image 12 = .ok (.iconst 0, 1) := by decide +kernel
theorem dX4_image_13 : decode cX4_image 13 = .ok (.istore_n 2, 1) := by decide +kernel
theorem dX4_image_14 : decode cX4_image 14 = .ok (.iload_n 2, 1) := by decide +kernel
theorem dX4_image_15 : decode cX4_image 15 = .ok (.sipush 130, 3) := by decide +kernel
theorem dX4_image_18 : decode cX4_image 18 = .ok (.if_icmp .ge 27, 3) := by decide +kernel
theorem dX4_image_21 : decode cX4_image 21 = .ok (.aload_n 0, 1) := by decide +kernel
theorem dX4_image_22 : decode cX4_image 22 = .ok (.getfield 13, 3) := by decide +kernel
theorem dX4_image_25 : decode cX4_image 25 = .ok (.sipush 130, 3) := by decide +kernel
theorem dX4_image_28 : decode cX4_image 28 = .ok (.iload_n 1, 1) := by decide +kernel
theorem dX4_image_29 : decode cX4_image 29 = .ok (.imul, 1) := by decide +kernel
theorem dX4_image_30 : decode cX4_image 30 = .ok (.iload_n 2, 1) := by decide +kernel
theorem dX4_image_31 : decode cX4_image 31 = .ok (.iadd, 1) := by decide +kernel
theorem dX4_image_32 : decode cX4_image 32 = .ok (.aload_n 0, 1) := by decide +kernel
theorem dX4_image_33 : decode cX4_image 33 = .ok (.getfield 7, 3) := by decide +kernel
theorem dX4_image_36 : decode cX4_image 36 = .ok (.iload_n 2, 1) := by decide +kernel
theorem dX4_image_37 : decode cX4_image 37 = .ok (.iaload, 1) := by decide +kernel
theorem dX4_image_38 : decode cX4_image 38 = .ok (.iastore, 1) := by decide +kernel
theorem dX4_image_39 : decode cX4_image 39 = .ok (.iinc 2 1, 3) := by decide +kernel
theorem dX4_image_42 : decode cX4_image 42 = .ok (.goto (-28), 3) := by decide +kernel
theorem dX4_image_45 : decode cX4_image 45 = .ok (.aload_n 0, 1) := by decide +kernel
theorem dX4_image_46 : decode cX4_image 46 = .ok (.getfield 16, 3) := by decide +kernel
theorem dX4_image_49 : decode cX4_image 49 = .ok (.iload_n 1, 1) := by decide +kernel
theorem dX4_image_50 : decode cX4_image 50 = .ok (.iconst 1, 1) := by decide +kernel
theorem dX4_image_51 : decode cX4_image 51 = .ok (.bastore, 1) := by decide +kernel
theorem dX4_image_52 : decode cX4_image 52 = .ok (.iconst 1, 1) := by decide +kernel
theorem dX4_image_53 : decode cX4_image 53 = .ok (.ireturn, 1) := by decide +kernel
set_option maxRecDepth 20000 in
theorem ggX4_restore_X4_in : GoodIn wsX4_restore wsX4_in := goodIn_r _ [7] (by decide +kernel) (by decide +kernel)
set_option maxRecDepth 20000 in
theorem gX4_restore_X4_in : GoodIn wsX4_restore (va_wsS RX4 41 yX4_in wsX4_in) := goodIn_app (goodIn_of _ (by decide +kernel)) ggX4_restore_X4_in
theorem dX4_restore_0 : decode cX4_restore 0 = .ok (.iload_n 1, 1) := by decide +kernel
theorem dX4_restore_1 : decode cX4_restore 1 = .ok (.iconst 0, 1) := by decide +kernel
theorem dX4_restore_2 : decode cX4_restore 2 = .ok (.iconst 1, 1) := by decide +kernel
theorem dX4_restore_3 : decode cX4_restore 3 = .ok (.invokestatic 41, 3) := by decide +kernel
theorem dX4_restore_6 : decode cX4_restore 6 = .ok (.ifCond .ne 6, 3) := by decide +kernel
theorem dX4_restore_9 : decode cX4_restore 9 = .ok (.bipush (-2), 2) := by decide +kernel
theorem dX4_restore_11 : decode cX4_restore 11 = .ok (.ireturn, 1) := by decide +kernel
theorem dX4_restore_12 : decode cX4_restore 12 = .ok (.aload_n 0, 1) := by decide +kernel
theorem dX4_restore_13 : decode cX4_restore 13 = .ok (.getfield 16, 3) := by decide +kernel
theorem dX4_restore_16 : decode cX4_restore 16 = .ok (.iload_n 1, 1) := by decide +kernel
theorem dX4_restore_17 : decode cX4_restore 17 = .ok (.baload, 1) := by decide +kernel
theorem dX4_restore_18 : decode cX4_restore 18 = .ok (.ifCond .ne 6, 3) := by decide +kernel
theorem dX4_restore_21 : decode cX4_restore 21 = .ok (.bipush (-3), 2) := by decide +kernel
theorem dX4_restore_23 : decode cX4_restore 23 = .ok (.ireturn, 1) := by decide +kernel
theorem dX4_restore_24 : decode cX4_restore 24 = .ok (.iconst 0, 1) := by decide +kernel
theorem dX4_restore_25 : decode cX4_restore 25 = .ok (.istore_n 2, 1) := by decide +kernel
theorem dX4_restore_26 : decode cX4_restore 26 = .ok (.iload_n 2, 1) := by decide +kernel
theorem dX4_restore_27 : decode cX4_restore 27 = .ok (.sipush 130, 3) := by decide +kernel
theorem dX4_restore_30 : decode cX4_restore 30 = .ok (.if_icmp .ge 27, 3) := by decide +kernel
theorem dX4_restore_33 : decode cX4_restore 33 = .ok (.aload_n 0, 1) := by decide +kernel
theorem dX4_restore_34 : decode cX4_restore 34 = .ok (.getfield 7, 3) := by decide +kernel
theorem dX4_restore_37 : decode cX4_restore 37 = .ok (.iload_n 2, 1) := by decide +kernel
theorem dX4_restore_38 : decode cX4_restore 38 = .ok (.aload_n 0, 1) := by decide +kernel
theorem dX4_restore_39 : decode cX4_restore 39 = .ok (.getfield 13, 3) := by decide +kernel
theorem dX4_restore_42 : decode cX4_restore 42 = .ok (.sipush 130, 3) := by decide +kernel
theorem dX4_restore_45 : decode cX4_restore 45 = .ok (.iload_n 1, 1) := by decide +kernel
theorem dX4_restore_46 : decode cX4_restore 46 = .ok (.imul, 1) := by decide +kernel
theorem dX4_restore_47 : decode cX4_restore 47 = .ok (.iload_n 2, 1) := by decide +kernel
theorem dX4_restore_48 : decode cX4_restore 48 = .ok (.iadd, 1) := by decide +kernel
theorem dX4_restore_49 : decode cX4_restore 49 = .ok (.iaload, 1) := by decide +kernel
theorem dX4_restore_50 : decode cX4_restore 50 = .ok (.iastore, 1) := by decide +kernel
theorem dX4_restore_51 : decode cX4_restore 51 = .ok (.iinc 2 1, 3) := by decide +kernel
theorem dX4_restore_54 : decode cX4_restore 54 = .ok (.goto (-28), 3) := by decide +kernel
theorem dX4_restore_57 : decode cX4_restore 57 = .ok (.iconst 1, 1) := by decide +kernel
theorem dX4_restore_58 : decode cX4_restore 58 = .ok (.ireturn, 1) := by decide +kernel
set_option maxRecDepth 20000 in
theorem ggX4_pagesThat_X4_isShared : GoodIn wsX4_pagesThat wsX4_isShared := goodIn_r _ [7, 2, 8, 9, 10, 11, 6, 12, 13, 14, 15, 16, 17, 18, 19, 49, 50, 51, 52, 53, 54, 55, 56, 57, 58, 59, 60] (by decide +kernel) (by decide +kernel)
set_option maxRecDepth 20000 in
theorem gX4_pagesThat_X4_isShared : GoodIn wsX4_pagesThat (wsV RX4 119 RX4 yX4_isShared wsX4_isShared) := goodIn_app (goodIn_of _ (by decide +kernel)) ggX4_pagesThat_X4_isShared
set_option maxRecDepth 20000 in
theorem ggX4_pagesThat_X4_headOf : GoodIn wsX4_pagesThat wsX4_headOf := goodIn_r _ [23, 2, 13, 8, 14, 15, 6, 16, 17, 18, 19, 24, 25, 26, 27, 28, 29, 30, 31, 32, 33, 34, 35, 36, 37, 38, 39, 40, 41, 42, 43, 44, 45, 46, 47, 48, 49, 50, 51, 52, 53, 54, 55, 56, 57, 58, 59, 60] (by decide +kernel) (by decide +kernel)
set_option maxRecDepth 20000 in
theorem gX4_pagesThat_X4_headOf : GoodIn wsX4_pagesThat (wsV RX4 116 RX4 yX4_headOf wsX4_headOf) := goodIn_app (goodIn_of _ (by decide +kernel)) ggX4_pagesThat_X4_headOf
theorem dX4_pagesThat_0 : decode cX4_pagesThat 0 = .ok (.iconst 0, 1) := by decide +kernel
theorem dX4_pagesThat_1 : decode cX4_pagesThat 1 = .ok (.istore_n 2, 1) := by decide +kernel
theorem dX4_pagesThat_2 : decode cX4_pagesThat 2 = .ok (.iconst 1, 1) := by decide +kernel
theorem dX4_pagesThat_3 : decode cX4_pagesThat 3 = .ok (.istore_n 3, 1) := by decide +kernel
theorem dX4_pagesThat_4 : decode cX4_pagesThat 4 = .ok (.iload_n 3, 1) := by decide +kernel
theorem dX4_pagesThat_5 : decode cX4_pagesThat 5 = .ok (.aload_n 0, 1) := by decide +kernel
