theorem dX3_chapter_47 : decode cX3_chapter 47 = .ok (.istore 4, 2) := by decide +kernel
theorem dX3_chapter_49 : decode cX3_chapter 49 = .ok (.iload_n 2, 1) := by decide +kernel
theorem dX3_chapter_50 : decode cX3_chapter 50 = .ok (.tableswitch 68 0 3 #[30, 40, 50, 61], 30) := by decide +kernel
theorem dX3_chapter_80 : decode cX3_chapter 80 = .ok (.aload_n 0, 1) := by decide +kernel
theorem dX3_chapter_81 : decode cX3_chapter 81 = .ok (.getfield 19, 3) := by decide +kernel
theorem dX3_chapter_84 : decode cX3_chapter 84 = .ok (.getfield 80, 3) := by decide +kernel
theorem dX3_chapter_87 : decode cX3_chapter 87 = .ok (.iload_n 3, 1) := by decide +kernel
theorem dX3_chapter_88 : decode cX3_chapter 88 = .ok (.iaload, 1) := by decide +kernel
theorem dX3_chapter_89 : decode cX3_chapter 89 = .ok (.ireturn, 1) := by decide +kernel
theorem dX3_chapter_90 : decode cX3_chapter 90 = .ok (.aload_n 0, 1) := by decide +kernel
theorem dX3_chapter_91 : decode cX3_chapter 91 = .ok (.getfield 34, 3) := by decide +kernel
theorem dX3_chapter_94 : decode cX3_chapter 94 = .ok (.getfield 87, 3) := by decide +kernel
theorem dX3_chapter_97 : decode cX3_chapter 97 = .ok (.iload_n 3, 1) := by decide +kernel
theorem dX3_chapter_98 : decode cX3_chapter 98 = .ok (.iaload, 1) := by decide +kernel
theorem dX3_chapter_99 : decode cX3_chapter 99 = .ok (.ireturn, 1) := by decide +kernel
theorem dX3_chapter_100 : decode cX3_chapter 100 = .ok (.aload_n 0, 1) := by decide +kernel
theorem dX3_chapter_101 : decode cX3_chapter 101 = .ok (.getfield 34, 3) := by decide +kernel
theorem dX3_chapter_104 : decode cX3_chapter 104 = .ok (.getfield 87, 3) := by decide +kernel
theorem dX3_chapter_107 : decode cX3_chapter 107 = .ok (.iload 4, 2) := by decide +kernel
theorem dX3_chapter_109 : decode cX3_chapter 109 = .ok (.iaload, 1) := by decide +kernel
theorem dX3_chapter_110 : decode cX3_chapter 110 = .ok (.ireturn, 1) := by decide +kernel
theorem dX3_chapter_111 : decode cX3_chapter 111 = .ok (.iload 4, 2) := by decide +kernel
theorem dX3_chapter_113 : decode cX3_chapter 113 = .ok (.iload_n 3, 1) := by decide +kernel
theorem dX3_chapter_114 : decode cX3_chapter 114 = .ok (.isub, 1) := by decide +kernel
theorem dX3_chapter_115 : decode cX3_chapter 115 = .ok (.iconst 1, 1) := by decide +kernel
theorem dX3_chapter_116 : decode cX3_chapter 116 = .ok (.iadd, 1) := by decide +kernel
theorem dX3_chapter_117 : decode cX3_chapter 117 = .ok (.ireturn, 1) := by decide +kernel
theorem dX3_chapter_118 : decode cX3_chapter 118 = .ok (.aload_n 0, 1) := by decide +kernel
theorem dX3_chapter_119 : decode cX3_chapter 119 = .ok (.getfield 19, 3) := by decide +kernel
theorem dX3_chapter_122 : decode cX3_chapter 122 = .ok (.iload_n 3, 1) := by decide +kernel
theorem dX3_chapter_123 : decode cX3_chapter 123 = .ok (.iload 4, 2) := by decide +kernel
theorem dX3_chapter_125 : decode cX3_chapter 125 = .ok (.invokevirtual 125, 3) := by decide +kernel
theorem dX3_chapter_128 : decode cX3_chapter 128 = .ok (.ireturn, 1) := by decide +kernel
set_option maxRecDepth 20000 in
theorem ggX3_changed_X0_canBreakAhead : GoodIn wsX3_changed wsX0_canBreakAhead := goodIn_r _ [6, 7, 90, 91, 92, 93] (by decide +kernel) (by decide +kernel)
set_option maxRecDepth 20000 in
theorem gX3_changed_X0_canBreakAhead : GoodIn wsX3_changed (wsV RX3 70 RX0 yX0_canBreakAhead wsX0_canBreakAhead) := goodIn_app (goodIn_of _ (by decide +kernel)) ggX3_changed_X0_canBreakAhead
set_option maxRecDepth 20000 in
theorem ggX3_changed_X3_countChanged : GoodIn wsX3_changed wsX3_countChanged := goodIn_r _ [12, 13, 1, 14, 15, 16, 17, 18, 19, 20, 21, 22, 23, 24, 25, 26, 27, 28, 29, 30, 31, 32, 33, 34, 35, 36, 37, 38, 11, 39, 40, 41, 42, 43, 44, 45, 46, 47, 48, 49, 50, 51, 52, 53, 54, 55, 56, 57, 58, 59, 60, 61, 62, 63, 64, 65, 66, 67, 68, 69, 70, 71, 72, 73, 74, 75, 76, 77, 78, 79, 80, 81, 82, 83, 84, 85, 86, 87, 88, 89, 90, 91, 92, 93, 94, 95, 96, 97, 98, 99, 100, 101, 102] (by decide +kernel) (by decide +kernel)
set_option maxRecDepth 20000 in
theorem gX3_changed_X3_countChanged : GoodIn wsX3_changed (wsV RX3 129 RX3 yX3_countChanged wsX3_countChanged) := goodIn_app (goodIn_of _ (by decide +kernel)) ggX3_changed_X3_countChanged
theorem dX3_changed_0 : decode cX3_changed 0 = .ok (.aload_n 0, 1) := by decide +kernel
theorem dX3_changed_1 : decode cX3_changed 1 = .ok (.getfield 19, 3) := by decide +kernel
theorem dX3_changed_4 : decode cX3_changed 4 = .ok (.iload_n 1, 1) := by decide +kernel
theorem dX3_changed_5 : decode cX3_changed 5 = .ok (.invokevirtual 70, 3) := by decide +kernel
theorem dX3_changed_8 : decode cX3_changed 8 = .ok (.ifCond .eq 11, 3) := by decide +kernel
theorem dX3_changed_11 : decode cX3_changed 11 = .ok (.aload_n 0, 1) := by decide +kernel
theorem dX3_changed_12 : decode cX3_changed 12 = .ok (.iload_n 1, 1) := by decide +kernel
theorem dX3_changed_13 : decode cX3_changed 13 = .ok (.invokevirtual 129, 3) := by decide +kernel
theorem dX3_changed_16 : decode cX3_changed 16 = .ok (.goto 4, 3) := by decide +kernel
theorem dX3_changed_19 : decode cX3_changed 19 = .ok (.iconst (-1), 1) := by decide +kernel
theorem dX3_changed_20 : decode cX3_changed 20 = .ok (.ireturn, 1) := by decide +kernel
set_option maxRecDepth 20000 in
theorem ggX3_worst_X3_countChanged : GoodIn wsX3_worst wsX3_countChanged := goodIn_r _ [7, 8, 1, 9, 10, 11, 12, 13, 14, 15, 16, 17, 18, 19, 20, 21, 22, 23, 24, 25, 26, 27, 28, 29, 30, 31, 32, 33, 6, 34, 35, 36, 37, 38, 39, 40, 41, 42, 43, 44, 45, 46, 47, 48, 49, 50, 51, 52, 53, 54, 55, 56, 57, 58, 59, 60, 61, 62, 63, 64, 65, 66, 67, 68, 69, 70, 71, 72, 73, 74, 75, 76, 77, 78, 79, 80, 81, 82, 83, 84, 85, 86, 87, 88, 89, 90, 91, 92, 93, 94, 95, 96, 97] (by decide +kernel) (by decide +kernel)
set_option maxRecDepth 20000 in
theorem gX3_worst_X3_countChanged : GoodIn wsX3_worst (wsV RX3 129 RX3 yX3_countChanged wsX3_countChanged) := goodIn_app (goodIn_of _ (by decide +kernel)) ggX3_worst_X3_countChanged
theorem dX3_worst_0 : decode cX3_worst 0 = .ok (.iload_n 1, 1) := by decide +kernel
theorem dX3_worst_1 : decode cX3_worst 1 = .ok (.ifCond .eq 11, 3) := by decide +kernel
theorem dX3_worst_4 : decode cX3_worst 4 = .ok (.iload_n 1, 1) := by decide +kernel
theorem dX3_worst_5 : decode cX3_worst 5 = .ok (.iconst 1, 1) := by decide +kernel
theorem dX3_worst_6 : decode cX3_worst 6 = .ok (.if_icmp .eq 6, 3) := by decide +kernel
theorem dX3_worst_9 : decode cX3_worst 9 = .ok (.bipush (-2), 2) := by decide +kernel
theorem dX3_worst_11 : decode cX3_worst 11 = .ok (.ireturn, 1) := by decide +kernel
theorem dX3_worst_12 : decode cX3_worst 12 = .ok (.bipush (-6), 2) := by decide +kernel
theorem dX3_worst_14 : decode cX3_worst 14 = .ok (.istore_n 2, 1) := by decide +kernel
theorem dX3_worst_15 : decode cX3_worst 15 = .ok (.iconst 0, 1) := by decide +kernel
theorem dX3_worst_16 : decode cX3_worst 16 = .ok (.istore_n 3, 1) := by decide +kernel
theorem dX3_worst_17 : decode cX3_worst 17 = .ok (.iconst 1, 1) := by decide +kernel
theorem dX3_worst_18 : decode cX3_worst 18 = .ok (.istore 4, 2) := by decide +kernel
theorem dX3_worst_20 : decode cX3_worst 20 = .ok (.iload 4, 2) := by decide +kernel
theorem dX3_worst_22 : decode cX3_worst 22 = .ok (.aload_n 0, 1) := by decide +kernel
theorem dX3_worst_23 : decode cX3_worst 23 = .ok (.getfield 19, 3) := by decide +kernel
theorem dX3_worst_26 : decode cX3_worst 26 = .ok (.getfield 59, 3) := by decide +kernel
theorem dX3_worst_29 : decode cX3_worst 29 = .ok (.if_icmp .ge 35, 3) := by decide +kernel
theorem dX3_worst_32 : decode cX3_worst 32 = .ok (.aload_n 0, 1) := by decide +kernel
theorem dX3_worst_33 : decode cX3_worst 33 = .ok (.iload 4, 2) := by decide +kernel
theorem dX3_worst_35 : decode cX3_worst 35 = .ok (.invokevirtual 129, 3) := by decide +kernel
theorem dX3_worst_38 : decode cX3_worst 38 = .ok (.istore 5, 2) := by decide +kernel
theorem dX3_worst_40 : decode cX3_worst 40 = .ok (.iload_n 2, 1) := by decide +kernel
theorem dX3_worst_41 : decode cX3_worst 41 = .ok (.bipush (-6), 2) := by decide +kernel
theorem dX3_worst_43 : decode cX3_worst 43 = .ok (.if_icmp .eq 9, 3) := by decide +kernel
theorem dX3_worst_46 : decode cX3_worst 46 = .ok (.iload 5, 2) := by decide +kernel
theorem dX3_worst_48 : decode cX3_worst 48 = .ok (.iload_n 3, 1) := by decide +kernel
theorem dX3_worst_49 : decode cX3_worst 49 = .ok (.if_icmp .le 9, 3) := by decide +kernel
theorem dX3_worst_52 : decode cX3_worst 52 = .ok (.iload 4, 2) := by decide +kernel
theorem dX3_worst_54 : decode cX3_worst 54 = .ok (.istore_n 2, 1) := by decide +kernel
theorem dX3_worst_55 : decode cX3_worst 55 = .ok (.iload 5, 2) := by decide +kernel
theorem dX3_worst_57 : decode cX3_worst 57 = .ok (.istore_n 3, 1) := by decide +kernel
theorem dX3_worst_58 : decode cX3_worst 58 = .ok (.iinc 4 1, 3) := by decide +kernel
theorem dX3_worst_61 : decode cX3_worst 61 = .ok (.goto (-41), 3) := by decide +kernel
theorem dX3_worst_64 : decode cX3_worst 64 = .ok (.iload_n 1, 1) := by decide +kernel
theorem dX3_worst_65 : decode cX3_worst 65 = .ok (.ifCond .ne 7, 3) := by decide +kernel
theorem dX3_worst_68 : decode cX3_worst 68 = .ok (.iload_n 2, 1) := by decide +kernel
theorem dX3_worst_69 : decode cX3_worst 69 = .ok (.goto 4, 3) := by decide +kernel
theorem dX3_worst_72 : decode cX3_worst 72 = .ok (.iload_n 3, 1) := by decide +kernel
theorem dX3_worst_73 : decode cX3_worst 73 = .ok (.ireturn, 1) := by decide +kernel
set_option maxRecDepth 20000 in
theorem ggX3_fit_X1_lay : GoodIn wsX3_fit wsX1_lay := goodIn_r _ [15, 16, 17, 18, 19, 20, 21, 22, 23, 14, 24, 25, 26, 27, 28, 29, 30, 31, 32, 33, 34, 35, 36, 37, 38, 39, 40, 41, 42, 43, 44, 45, 46, 47, 48, 49, 50, 51, 52, 53, 54, 55, 56, 57, 58, 59, 60, 61, 62, 63, 64, 65, 66, 73, 74, 75, 76, 77, 78, 79, 80, 81, 82, 83, 84, 85] (by decide +kernel) (by decide +kernel)
set_option maxRecDepth 20000 in
theorem gX3_fit_X1_lay : GoodIn wsX3_fit (wsV RX3 143 RX1 yX1_lay wsX1_lay) := goodIn_app (goodIn_of _ (by decide +kernel)) ggX3_fit_X1_lay
theorem dX3_fit_0 : decode cX3_fit 0 = .ok (.iload_n 1, 1) := by decide +kernel
theorem dX3_fit_1 : decode cX3_fit 1 = .ok (.ifCond .lt 9, 3) := by decide +kernel
theorem dX3_fit_4 : decode cX3_fit 4 = .ok (.iload_n 1, 1) := by decide +kernel
theorem dX3_fit_5 : decode cX3_fit 5 = .ok (.bipush 99, 2) := by decide +kernel
theorem dX3_fit_7 : decode cX3_fit 7 = .ok (.if_icmp .le 6, 3) := by decide +kernel
theorem dX3_fit_10 : decode cX3_fit 10 = .ok (.bipush (-2), 2) := by decide +kernel
theorem dX3_fit_12 : decode cX3_fit 12 = .ok (.ireturn, 1) := by decide +kernel
theorem dX3_fit_13 : decode cX3_fit 13 = .ok (.getstatic 132, 3) := by decide +kernel
theorem dX3_fit_16 : decode cX3_fit 16 = .ok (.iconst 0, 1) := by decide +kernel
theorem dX3_fit_17 : decode cX3_fit 17 = .ok (.iaload, 1) := by decide +kernel
theorem dX3_fit_18 : decode cX3_fit 18 = .ok (.aload_n 0, 1) := by decide +kernel
theorem dX3_fit_19 : decode cX3_fit 19 = .ok (.getfield 19, 3) := by decide +kernel
theorem dX3_fit_22 : decode cX3_fit 22 = .ok (.getfield 66, 3) := by decide +kernel
theorem dX3_fit_25 : decode cX3_fit 25 = .ok (.iconst 2, 1) := by decide +kernel
theorem dX3_fit_26 : decode cX3_fit 26 = .ok (.iaload, 1) := by decide +kernel
theorem dX3_fit_27 : decode cX3_fit 27 = .ok (.iconst 1, 1) := by decide +kernel
theorem dX3_fit_28 : decode cX3_fit 28 = .ok (.iadd, 1) := by decide +kernel
theorem dX3_fit_29 : decode cX3_fit 29 = .ok (.invokestatic 135, 3) := by decide +kernel
theorem dX3_fit_32 : decode cX3_fit 32 = .ok (.istore_n 2, 1) := by decide +kernel
theorem dX3_fit_33 : decode cX3_fit 33 = .ok (.iload_n 2, 1) := by decide +kernel
theorem dX3_fit_34 : decode cX3_fit 34 = .ok (.istore_n 3, 1) := by decide +kernel
theorem dX3_fit_35 : decode cX3_fit 35 = .ok (.iload_n 3, 1) := by decide +kernel
theorem dX3_fit_36 : decode cX3_fit 36 = .ok (.getstatic 140, 3) := by decide +kernel
theorem dX3_fit_39 : decode cX3_fit 39 = .ok (.iconst 0, 1) := by decide +kernel
theorem dX3_fit_40 : decode cX3_fit 40 = .ok (.iaload, 1) := by decide +kernel
theorem dX3_fit_41 : decode cX3_fit 41 = .ok (.if_icmp .gt 35, 3) := by decide +kernel
theorem dX3_fit_44 : decode cX3_fit 44 = .ok (.aload_n 0, 1) := by decide +kernel
theorem dX3_fit_45 : decode cX3_fit 45 = .ok (.getfield 38, 3) := by decide +kernel
theorem dX3_fit_48 : decode cX3_fit 48 = .ok (.aload_n 0, 1) := by decide +kernel
theorem dX3_fit_49 : decode cX3_fit 49 = .ok (.getfield 19, 3) := by decide +kernel
theorem dX3_fit_52 : decode cX3_fit 52 = .ok (.iload_n 3, 1) := by decide +kernel
theorem dX3_fit_53 : decode cX3_fit 53 = .ok (.iconst (-1), 1) := by decide +kernel
theorem dX3_fit_54 : decode cX3_fit 54 = .ok (.invokevirtual 143, 3) := by decide +kernel
theorem dX3_fit_57 : decode cX3_fit 57 = .ok (.aload_n 0, 1) := by decide +kernel
theorem dX3_fit_58 : decode cX3_fit 58 = .ok (.getfield 38, 3) := by decide +kernel
theorem dX3_fit_61 : decode cX3_fit 61 = .ok (.getfield 113, 3) := by decide +kernel
theorem dX3_fit_64 : decode cX3_fit 64 = .ok (.iload_n 1, 1) := by decide +kernel
theorem dX3_fit_65 : decode cX3_fit 65 = .ok (.if_icmp .gt 5, 3) := by decide +kernel
theorem dX3_fit_68 : decode cX3_fit 68 = .ok (.iload_n 3, 1) := by decide +kernel
theorem dX3_fit_69 : decode cX3_fit 69 = .ok (.ireturn, 1) := by decide +kernel
theorem dX3_fit_70 : decode cX3_fit 70 = .ok (.iinc 3 1, 3) := by decide +kernel
theorem dX3_fit_73 : decode cX3_fit 73 = .ok (.goto (-38), 3) := by decide +kernel
theorem dX3_fit_76 : decode cX3_fit 76 = .ok (.bipush (-6), 2) := by decide +kernel
theorem dX3_fit_78 : decode cX3_fit 78 = .ok (.ireturn, 1) := by decide +kernel
set_option maxRecDepth 20000 in
theorem ggX3_image_X0_copyFrom : GoodIn wsX3_image wsX0_copyFrom := goodIn_r _ [8, 9, 10, 11, 12, 13, 14, 15, 16, 23, 24, 25, 26] (by decide +kernel) (by decide +kernel)
set_option maxRecDepth 20000 in
theorem gX3_image_X0_copyFrom : GoodIn wsX3_image (wsV RX3 147 RX0 yX0_copyFrom wsX0_copyFrom) := goodIn_app (goodIn_of _ (by decide +kernel)) ggX3_image_X0_copyFrom
theorem dX3_image_0 : decode cX3_image 0 = .ok (.iload_n 1, 1) := by decide +kernel
theorem dX3_image_1 : decode cX3_image 1 = .ok (.ifCond .lt 8, 3) := by decide +kernel
theorem dX3_image_4 : decode cX3_image 4 = .ok (.iload_n 1, 1) := by decide +kernel
theorem dX3_image_5 : decode cX3_image 5 = .ok (.iconst 2, 1) := by decide +kernel
theorem dX3_image_6 : decode cX3_image 6 = .ok (.if_icmp .lt 6, 3) := by decide +kernel
theorem dX3_image_9 : decode cX3_image 9 = .ok (.bipush (-2), 2) := by decide +kernel
theorem dX3_image_11 : decode cX3_image 11 = .ok (.ireturn, 1) := by decide +kernel
theorem dX3_image_12 : decode cX3_image 12 = .ok (.aload_n 0, 1) := by decide +kernel
theorem dX3_image_13 : decode cX3_image 13 = .ok (.getfield 23, 3) := by decide +kernel
theorem dX3_image_16 : decode cX3_image 16 = .ok (.iload_n 1, 1) := by decide +kernel
theorem dX3_image_17 : decode cX3_image 17 = .ok (.aaload, 1) := by decide +kernel
theorem dX3_image_18 : decode cX3_image 18 = .ok (.aload_n 0, 1) := by decide +kernel
theorem dX3_image_19 : decode cX3_image 19 = .ok (.getfield 19, 3) := by decide +kernel
theorem dX3_image_22 : decode cX3_image 22 = .ok (.invokevirtual 147, 3) := by decide +kernel
theorem dX3_image_25 : decode cX3_image 25 = .ok (.aload_n 0, 1) := by decide +kernel
theorem dX3_image_26 : decode cX3_image 26 = .ok (.dup, 1) := by decide +kernel
theorem dX3_image_27 : decode cX3_image 27 = .ok (.getfield 27, 3) := by decide +kernel
theorem dX3_image_30 : decode cX3_image 30 = .ok (.iconst 1, 1) := by decide +kernel
theorem dX3_image_31 : decode cX3_image 31 = .ok (.iload_n 1, 1) := by decide +kernel
theorem dX3_image_32 : decode cX3_image 32 = .ok (.ishl, 1) := by decide +kernel
theorem dX3_image_33 : decode cX3_image 33 = .ok (.ior, 1) := by decide +kernel
theorem dX3_image_34 : decode cX3_image 34 = .ok (.putfield 27, 3) := by decide +kernel
theorem dX3_image_37 : decode cX3_image 37 = .ok (.iconst 1, 1) := by decide +kernel
theorem dX3_image_38 : decode cX3_image 38 = .ok (.ireturn, 1) := by decide +kernel
set_option maxRecDepth 20000 in
theorem ggX3_restore_X0_copyFrom : GoodIn wsX3_restore wsX0_copyFrom := goodIn_r _ [8, 9, 10, 11, 12, 13, 14, 15, 16, 85, 86, 87, 88] (by decide +kernel) (by decide +kernel)
set_option maxRecDepth 20000 in
theorem gX3_restore_X0_copyFrom : GoodIn wsX3_restore (wsV RX3 147 RX0 yX0_copyFrom wsX0_copyFrom) := goodIn_app (goodIn_of _ (by decide +kernel)) ggX3_restore_X0_copyFrom
set_option maxRecDepth 20000 in
theorem ggX3_restore_X3_layNow : GoodIn wsX3_restore wsX3_layNow := goodIn_r _ [21, 22, 2, 23, 24, 25, 26, 27, 28, 29, 30, 31, 32, 33, 34, 35, 36, 37, 38, 39, 40, 41, 20, 42, 43, 44, 45, 46, 47, 48, 49, 50, 51, 52, 53, 54, 55, 56, 57, 58, 59, 60, 61, 62, 63, 64, 65, 66, 67, 68, 69, 70, 71, 72, 73, 74, 75, 76, 77, 78, 79, 80, 81, 82, 83, 84, 85, 86, 87, 88, 89, 90, 91, 92, 93, 94, 95, 96, 97] (by decide +kernel) (by decide +kernel)
set_option maxRecDepth 20000 in
theorem gX3_restore_X3_layNow : GoodIn wsX3_restore (wsV RX3 56 RX3 yX3_layNow wsX3_layNow) := goodIn_app (goodIn_of _ (by decide +kernel)) ggX3_restore_X3_layNow
theorem dX3_restore_0 : decode cX3_restore 0 = .ok (.iload_n 1, 1) := by decide +kernel
theorem dX3_restore_1 : decode cX3_restore 1 = .ok (.ifCond .lt 8, 3) := by decide +kernel
theorem dX3_restore_4 : decode cX3_restore 4 = .ok (.iload_n 1, 1) := by decide +kernel
theorem dX3_restore_5 : decode cX3_restore 5 = .ok (.iconst 2, 1) := by decide +kernel
theorem dX3_restore_6 : decode cX3_restore 6 = .ok (.if_icmp .lt 6, 3) := by decide +kernel
theorem dX3_restore_9 : decode cX3_restore 9 = .ok (.bipush (-2), 2) := by decide +kernel
theorem dX3_restore_11 : decode cX3_restore 11 = .ok (.ireturn, 1) := by decide +kernel
theorem dX3_restore_12 : decode cX3_restore 12 = .ok (.aload_n 0, 1) := by decide +kernel
theorem dX3_restore_13 : decode cX3_restore 13 = .ok (.getfield 27, 3) := by decide +kernel
theorem dX3_restore_16 : decode cX3_restore 16 = .ok (.iload_n 1, 1) := by decide +kernel
theorem dX3_restore_17 : decode cX3_restore 17 = .ok (.ishr, 1) := by decide +kernel
theorem dX3_restore_18 : decode cX3_restore 18 = .ok (.iconst 1, 1) := by decide +kernel
theorem dX3_restore_19 : decode cX3_restore 19 = .ok (.iand, 1) := by decide +kernel
theorem dX3_restore_20 : decode cX3_restore 20 = .ok (.ifCond .ne 6, 3) := by decide +kernel
theorem dX3_restore_23 : decode cX3_restore 23 = .ok (.bipush (-3), 2) := by decide +kernel
theorem dX3_restore_25 : decode cX3_restore 25 = .ok (.ireturn, 1) := by decide +kernel
theorem dX3_restore_26 : decode cX3_restore 26 = .ok (.aload_n 0, 1) := by decide +kernel
theorem dX3_restore_27 : decode cX3_restore 27 = .ok (.getfield 19, 3) := by decide +kernel
theorem dX3_restore_30 : decode cX3_restore 30 = .ok (.aload_n 0, 1) := by decide +kernel
theorem dX3_restore_31 : decode cX3_restore 31 = .ok (.getfield 23, 3) := by decide +kernel
theorem dX3_restore_34 : decode cX3_restore 34 = .ok (.iload_n 1, 1) := by decide +kernel
theorem dX3_restore_35 : decode cX3_restore 35 = .ok (.aaload, 1) := by decide +kernel
theorem dX3_restore_36 : decode cX3_restore 36 = .ok (.invokevirtual 147, 3) := by decide +kernel
theorem dX3_restore_39 : decode cX3_restore 39 = .ok (.aload_n 0, 1) := by decide +kernel
theorem dX3_restore_40 : decode cX3_restore 40 = .ok (.invokevirtual 56, 3) := by decide +kernel
theorem dX3_restore_43 : decode cX3_restore 43 = .ok (.iconst 1, 1) := by decide +kernel
theorem dX3_restore_44 : decode cX3_restore 44 = .ok (.ireturn, 1) := by decide +kernel
set_option maxRecDepth 20000 in
theorem ggX3_count_X1_countBlank : GoodIn wsX3_count wsX1_countBlank := goodIn_r _ [13, 14, 15, 57, 58, 59, 60, 61, 62, 63, 64, 65] (by decide +kernel) (by decide +kernel)
set_option maxRecDepth 20000 in
theorem gX3_count_X1_countBlank : GoodIn wsX3_count (wsV RX3 151 RX1 yX1_countBlank wsX1_countBlank) := goodIn_app (goodIn_of _ (by decide +kernel)) ggX3_count_X1_countBlank
set_option maxRecDepth 20000 in
theorem ggX3_count_X0_countBreaks : GoodIn wsX3_count wsX0_countBreaks := goodIn_r _ [20, 21, 22, 53, 54, 55, 56] (by decide +kernel) (by decide +kernel)
set_option maxRecDepth 20000 in
theorem gX3_count_X0_countBreaks : GoodIn wsX3_count (wsV RX3 77 RX0 yX0_countBreaks wsX0_countBreaks) := goodIn_app (goodIn_of _ (by decide +kernel)) ggX3_count_X0_countBreaks
set_option maxRecDepth 20000 in
theorem ggX3_count_X1_countChapters : GoodIn wsX3_count wsX1_countChapters := goodIn_r _ [26, 27, 28, 57, 58, 59, 60, 61, 62, 63, 64, 65] (by decide +kernel) (by decide +kernel)
set_option maxRecDepth 20000 in
theorem gX3_count_X1_countChapters : GoodIn wsX3_count (wsV RX3 116 RX1 yX1_countChapters wsX1_countChapters) := goodIn_app (goodIn_of _ (by decide +kernel)) ggX3_count_X1_countChapters
set_option maxRecDepth 20000 in
theorem ggX3_count_X1_countShared : GoodIn wsX3_count wsX1_countShared := goodIn_r _ [32, 14, 33, 34, 35, 12, 36, 15, 37, 28, 38, 39, 40, 41, 57, 58, 59, 60, 61, 62, 63, 64, 65] (by decide +kernel) (by decide +kernel)
set_option maxRecDepth 20000 in
theorem gX3_count_X1_countShared : GoodIn wsX3_count (wsV RX3 154 RX1 yX1_countShared wsX1_countShared) := goodIn_app (goodIn_of _ (by decide +kernel)) ggX3_count_X1_countShared
set_option maxRecDepth 20000 in
theorem ggX3_count_X1_countHeads : GoodIn wsX3_count wsX1_countHeads := goodIn_r _ [45, 14, 46, 57, 58, 59, 60, 61, 62, 63, 64, 65] (by decide +kernel) (by decide +kernel)
set_option maxRecDepth 20000 in
theorem gX3_count_X1_countHeads : GoodIn wsX3_count (wsV RX3 157 RX1 yX1_countHeads wsX1_countHeads) := goodIn_app (goodIn_of _ (by decide +kernel)) ggX3_count_X1_countHeads
theorem dX3_count_0 : decode cX3_count 0 = .ok (.iload_n 1, 1) := by decide +kernel
theorem dX3_count_1 : decode cX3_count 1 = .ok (.bipush 10, 2) := by decide +kernel
theorem dX3_count_3 : decode cX3_count 3 = .ok (.if_icmp .lt 22, 3) := by decide +kernel
theorem dX3_count_6 : decode cX3_count 6 = .ok (.iload_n 1, 1) := by decide +kernel
theorem dX3_count_7 : decode cX3_count 7 = .ok (.bipush 19, 2) := by decide +kernel
theorem dX3_count_9 : decode cX3_count 9 = .ok (.if_icmp .ge 16, 3) := by decide +kernel
theorem dX3_count_12 : decode cX3_count 12 = .ok (.aload_n 0, 1) := by decide +kernel
theorem dX3_count_13 : decode cX3_count 13 = .ok (.getfield 19, 3) := by decide +kernel
theorem dX3_count_16 : decode cX3_count 16 = .ok (.getfield 66, 3) := by decide +kernel
theorem dX3_count_19 : decode cX3_count 19 = .ok (.iload_n 1, 1) := by decide +kernel
theorem dX3_count_20 : decode cX3_count 20 = .ok (.bipush 10, 2) := by decide +kernel
theorem dX3_count_22 : decode cX3_count 22 = .ok (.isub, 1) := by decide +kernel
theorem dX3_count_23 : decode cX3_count 23 = .ok (.iaload, 1) := by decide +kernel
theorem dX3_count_24 : decode cX3_count 24 = .ok (.ireturn, 1) := by decide +kernel
theorem dX3_count_25 : decode cX3_count 25 = .ok (.iload_n 1, 1) := by decide +kernel
theorem dX3_count_26 : decode cX3_count 26 = .ok (.tableswitch 119 0 8 #[50, 58, 66, 74, 82, 90, 98, 106, 114], 50) := by decide +kernel
theorem dX3_count_76 : decode cX3_count 76 = .ok (.aload_n 0, 1) := by decide +kernel
theorem dX3_count_77 : decode cX3_count 77 = .ok (.getfield 19, 3) := by decide +kernel
theorem dX3_count_80 : decode cX3_count 80 = .ok (.getfield 59, 3) := by decide +kernel
theorem dX3_count_83 : decode cX3_count 83 = .ok (.ireturn, 1) := by decide +kernel
theorem dX3_count_84 : decode cX3_count 84 = .ok (.aload_n 0, 1) := by decide +kernel
theorem dX3_count_85 : decode cX3_count 85 = .ok (.getfield 34, 3) := by decide +kernel
theorem dX3_count_88 : decode cX3_count 88 = .ok (.getfield 113, 3) := by decide +kernel
theorem dX3_count_91 : decode cX3_count 91 = .ok (.ireturn, 1) := by decide +kernel
theorem dX3_count_92 : decode cX3_count 92 = .ok (.aload_n 0, 1) := by decide +kernel
theorem dX3_count_93 : decode cX3_count 93 = .ok (.getfield 34, 3) := by decide +kernel
theorem dX3_count_96 : decode cX3_count 96 = .ok (.invokevirtual 151, 3) := by decide +kernel
theorem dX3_count_99 : decode cX3_count 99 = .ok (.ireturn, 1) := by decide +kernel
theorem dX3_count_100 : decode cX3_count 100 = .ok (.aload_n 0, 1) := by decide +kernel
theorem dX3_count_101 : decode cX3_count 101 = .ok (.getfield 19, 3) := by decide +kernel
theorem dX3_count_104 : decode cX3_count 104 = .ok (.invokevirtual 77, 3) := by decide +kernel
theorem dX3_count_107 : decode cX3_count 107 = .ok (.ireturn, 1) := by decide +kernel
theorem dX3_count_108 : decode cX3_count 108 = .ok (.aload_n 0, 1) := by decide +kernel
theorem dX3_count_109 : decode cX3_count 109 = .ok (.getfield 34, 3) := by decide +kernel
theorem dX3_count_112 : decode cX3_count 112 = .ok (.invokevirtual 116, 3) := by decide +kernel
theorem dX3_count_115 : decode cX3_count 115 = .ok (.ireturn, 1) := by decide +kernel
theorem dX3_count_116 : decode cX3_count 116 = .ok (.aload_n 0, 1) := by decide +kernel
theorem dX3_count_117 : decode cX3_count 117 = .ok (.getfield 34, 3) := by decide +kernel
theorem dX3_count_120 : decode cX3_count 120 = .ok (.invokevirtual 154, 3) := by decide +kernel
theorem dX3_count_123 : decode cX3_count 123 = .ok (.ireturn, 1) := by decide +kernel
theorem dX3_count_124 : decode cX3_count 124 = .ok (.aload_n 0, 1) := by decide +kernel
theorem dX3_count_125 : decode cX3_count 125 = .ok (.getfield 34, 3) := by decide +kernel
theorem dX3_count_128 : decode cX3_count 128 = .ok (.invokevirtual 157, 3) := by decide +kernel
theorem dX3_count_131 : decode cX3_count 131 = .ok (.ireturn, 1) := by decide +kernel
theorem dX3_count_132 : decode cX3_count 132 = .ok (.aload_n 0, 1) := by decide +kernel
theorem dX3_count_133 : decode cX3_count 133 = .ok (.getfield 12, 3) := by decide +kernel
theorem dX3_count_136 : decode cX3_count 136 = .ok (.getfield 41, 3) := by decide +kernel
theorem dX3_count_139 : decode cX3_count 139 = .ok (.ireturn, 1) := by decide +kernel
theorem dX3_count_140 : decode cX3_count 140 = .ok (.aload_n 0, 1) := by decide +kernel
theorem dX3_count_141 : decode cX3_count 141 = .ok (.getfield 27, 3) := by decide +kernel
theorem dX3_count_144 : decode cX3_count 144 = .ok (.ireturn, 1) := by decide +kernel
theorem dX3_count_145 : decode cX3_count 145 = .ok (.bipush (-2), 2) := by decide +kernel
theorem dX3_count_147 : decode cX3_count 147 = .ok (.ireturn, 1) := by decide +kernel
set_option maxRecDepth 20000 in
theorem ggX3_layNow_X1_lay : GoodIn wsX3_layNow wsX1_lay := goodIn_r _ [8, 9, 10, 11, 12, 13, 14, 15, 16, 7, 17, 18, 19, 20, 21, 22, 23, 24, 25, 26, 27, 28, 29, 30, 31, 32, 33, 34, 35, 36, 37, 38, 39, 40, 41, 42, 43, 44, 45, 46, 47, 48, 49, 50, 51, 52, 53, 54, 55, 56, 57, 58, 59, 66, 67, 68, 69, 70, 71, 72, 73, 74, 75, 76, 77, 78] (by decide +kernel) (by decide +kernel)
set_option maxRecDepth 20000 in
theorem gX3_layNow_X1_lay : GoodIn wsX3_layNow (wsV RX3 143 RX1 yX1_lay wsX1_lay) := goodIn_app (goodIn_of _ (by decide +kernel)) ggX3_layNow_X1_lay
theorem dX3_layNow_0 : decode cX3_layNow 0 = .ok (.aload_n 0, 1) := by decide +kernel
theorem dX3_layNow_1 : decode cX3_layNow 1 = .ok (.getfield 34, 3) := by decide +kernel
theorem dX3_layNow_4 : decode cX3_layNow 4 = .ok (.aload_n 0, 1) := by decide +kernel
theorem dX3_layNow_5 : decode cX3_layNow 5 = .ok (.getfield 19, 3) := by decide +kernel
theorem dX3_layNow_8 : decode cX3_layNow 8 = .ok (.aload_n 0, 1) := by decide +kernel
theorem dX3_layNow_9 : decode cX3_layNow 9 = .ok (.getfield 19, 3) := by decide +kernel
theorem dX3_layNow_12 : decode cX3_layNow 12 = .ok (.getfield 66, 3) := by decide +kernel
theorem dX3_layNow_15 : decode cX3_layNow 15 = .ok (.iconst 0, 1) := by decide +kernel
theorem dX3_layNow_16 : decode cX3_layNow 16 = .ok (.iaload, 1) := by decide +kernel
theorem dX3_layNow_17 : decode cX3_layNow 17 = .ok (.iconst (-1), 1) := by decide +kernel
theorem dX3_layNow_18 : decode cX3_layNow 18 = .ok (.invokevirtual 143, 3) := by decide +kernel
theorem dX3_layNow_21 : decode cX3_layNow 21 = .ok (.return_, 1) := by decide +kernel
set_option maxRecDepth 20000 in
theorem ggX3_countChanged_X1_lay : GoodIn wsX3_countChanged wsX1_lay := goodIn_r _ [14, 15, 16, 17, 18, 19, 20, 21, 22, 13, 23, 24, 25, 26, 27, 28, 29, 30, 31, 32, 33, 34, 35, 36, 37, 38, 39, 40, 41, 42, 43, 44, 45, 46, 47, 48, 49, 50, 51, 52, 53, 54, 55, 56, 57, 58, 59, 60, 61, 62, 63, 64, 65, 80, 81, 82, 83, 84, 85, 86, 87, 88, 89, 90, 91, 92] (by decide +kernel) (by decide +kernel)
set_option maxRecDepth 20000 in
theorem gX3_countChanged_X1_lay : GoodIn wsX3_countChanged (wsV RX3 143 RX1 yX1_lay wsX1_lay) := goodIn_app (goodIn_of _ (by decide +kernel)) ggX3_countChanged_X1_lay
set_option maxRecDepth 20000 in
theorem ggX3_countChanged_X1_headOrNone : GoodIn wsX3_countChanged wsX1_headOrNone := goodIn_r _ [69, 19, 70, 71, 72, 13, 73, 17, 84, 85, 86, 87, 88, 89, 90, 91, 92] (by decide +kernel) (by decide +kernel)
set_option maxRecDepth 20000 in
theorem gX3_countChanged_X1_headOrNone : GoodIn wsX3_countChanged (wsV RX3 160 RX1 yX1_headOrNone wsX1_headOrNone) := goodIn_app (goodIn_of _ (by decide +kernel)) ggX3_countChanged_X1_headOrNone
theorem dX3_countChanged_0 : decode cX3_countChanged 0 = .ok (.aload_n 0, 1) := by decide +kernel
theorem dX3_countChanged_1 : decode cX3_countChanged 1 = .ok (.getfield 38, 3) := by decide +kernel
theorem dX3_countChanged_4 : decode cX3_countChanged 4 = .ok (.aload_n 0, 1) := by decide +kernel
theorem dX3_countChanged_5 : decode cX3_countChanged 5 = .ok (.getfield 19, 3) := by decide +kernel
theorem dX3_countChanged_8 : decode cX3_countChanged 8 = .ok (.aload_n 0, 1) := by decide +kernel
theorem dX3_countChanged_9 : decode cX3_countChanged 9 = .ok (.getfield 19, 3) := by decide +kernel
theorem dX3_countChanged_12 : decode cX3_countChanged 12 = .ok (.getfield 66, 3) := by decide +kernel
theorem dX3_countChanged_15 : decode cX3_countChanged 15 = .ok (.iconst 0, 1) := by decide +kernel
theorem dX3_countChanged_16 : decode cX3_countChanged 16 = .ok (.iaload, 1) := by decide +kernel
theorem dX3_countChanged_17 : decode cX3_countChanged 17 = .ok (.iload_n 1, 1) := by decide +kernel
theorem dX3_countChanged_18 : decode cX3_countChanged 18 = .ok (.invokevirtual 143, 3) := by decide +kernel
theorem dX3_countChanged_21 : decode cX3_countChanged 21 = .ok (.aload_n 0, 1) := by decide +kernel
theorem dX3_countChanged_22 : decode cX3_countChanged 22 = .ok (.getfield 34, 3) := by decide +kernel
theorem dX3_countChanged_25 : decode cX3_countChanged 25 = .ok (.getfield 113, 3) := by decide +kernel
theorem dX3_countChanged_28 : decode cX3_countChanged 28 = .ok (.aload_n 0, 1) := by decide +kernel
theorem dX3_countChanged_29 : decode cX3_countChanged 29 = .ok (.getfield 38, 3) := by decide +kernel
theorem dX3_countChanged_32 : decode cX3_countChanged 32 = .ok (.getfield 113, 3) := by decide +kernel
theorem dX3_countChanged_35 : decode cX3_countChanged 35 = .ok (.invokestatic 135, 3) := by decide +kernel
theorem dX3_countChanged_38 : decode cX3_countChanged 38 = .ok (.istore_n 2, 1) := by decide +kernel
theorem dX3_countChanged_39 : decode cX3_countChanged 39 = .ok (.iconst 0, 1) := by decide +kernel
theorem dX3_countChanged_40 : decode cX3_countChanged 40 = .ok (.istore_n 3, 1) := by decide +kernel
theorem dX3_countChanged_41 : decode cX3_countChanged 41 = .ok (.iconst 1, 1) := by decide +kernel
theorem dX3_countChanged_42 : decode cX3_countChanged 42 = .ok (.istore 4, 2) := by decide +kernel
theorem dX3_countChanged_44 : decode cX3_countChanged 44 = .ok (.iload 4, 2) := by decide +kernel
theorem dX3_countChanged_46 : decode cX3_countChanged 46 = .ok (.iload_n 2, 1) := by decide +kernel
theorem dX3_countChanged_47 : decode cX3_countChanged 47 = .ok (.if_icmp .gt 33, 3) := by decide +kernel
theorem dX3_countChanged_50 : decode cX3_countChanged 50 = .ok (.aload_n 0, 1) := by decide +kernel
theorem dX3_countChanged_51 : decode cX3_countChanged 51 = .ok (.getfield 34, 3) := by decide +kernel
theorem dX3_countChanged_54 : decode cX3_countChanged 54 = .ok (.iload 4, 2) := by decide +kernel
theorem dX3_countChanged_56 : decode cX3_countChanged 56 = .ok (.invokevirtual 160, 3) := by decide +kernel
theorem dX3_countChanged_59 : decode cX3_countChanged 59 = .ok (.aload_n 0, 1) := by decide +kernel
theorem dX3_countChanged_60 : decode cX3_countChanged 60 = .ok (.getfield 38, 3) := by decide +kernel
theorem dX3_countChanged_63 : decode cX3_countChanged 63 = .ok (.iload 4, 2) := by decide +kernel
theorem dX3_countChanged_65 : decode cX3_countChanged 65 = .ok (.invokevirtual 160, 3) := by decide +kernel
theorem dX3_countChanged_68 : decode cX3_countChanged 68 = .ok (.if_icmp .eq 6, 3) := by decide +kernel
theorem dX3_countChanged_71 : decode cX3_countChanged 71 = .ok (.iinc 3 1, 3) := by decide +kernel
theorem dX3_countChanged_74 : decode cX3_countChanged 74 = .ok (.iinc 4 1, 3) := by decide +kernel
theorem dX3_countChanged_77 : decode cX3_countChanged 77 = .ok (.goto (-33), 3) := by decide +kernel
theorem dX3_countChanged_80 : decode cX3_countChanged 80 = .ok (.iload_n 3, 1) := by decide +kernel
theorem dX3_countChanged_81 : decode cX3_countChanged 81 = .ok (.ireturn, 1) := by decide +kernel
theorem dX3_classOf_0 : decode cX3_classOf 0 = .ok (.iload_n 0, 1) := by decide +kernel
theorem dX3_classOf_1 : decode cX3_classOf 1 = .ok (.bipush 65, 2) := by decide +kernel
theorem dX3_classOf_3 : decode cX3_classOf 3 = .ok (.if_icmp .lt 11, 3) := by decide +kernel
theorem dX3_classOf_6 : decode cX3_classOf 6 = .ok (.iload_n 0, 1) := by decide +kernel
theorem dX3_classOf_7 : decode cX3_classOf 7 = .ok (.bipush 72, 2) := by decide +kernel
theorem dX3_classOf_9 : decode cX3_classOf 9 = .ok (.if_icmp .gt 5, 3) := by decide +kernel
theorem dX3_classOf_12 : decode cX3_classOf 12 = .ok (.iconst 0, 1) := by decide +kernel
theorem dX3_classOf_13 : decode cX3_classOf 13 = .ok (.ireturn, 1) := by decide +kernel
theorem dX3_classOf_14 : decode cX3_classOf 14 = .ok (.iload_n 0, 1) := by decide +kernel
theorem dX3_classOf_15 : decode cX3_classOf 15 = .ok (.bipush 97, 2) := by decide +kernel
theorem dX3_classOf_17 : decode cX3_classOf 17 = .ok (.if_icmp .lt 13, 3) := by decide +kernel
theorem dX3_classOf_20 : decode cX3_classOf 20 = .ok (.iload_n 0, 1) := by decide +kernel
theorem dX3_classOf_21 : decode cX3_classOf 21 = .ok (.bipush 104, 2) := by decide +kernel
theorem dX3_classOf_23 : decode cX3_classOf 23 = .ok (.if_icmp .gt 7, 3) := by decide +kernel
theorem dX3_classOf_26 : decode cX3_classOf 26 = .ok (.iconst 1, 1) := by decide +kernel
theorem dX3_classOf_27 : decode cX3_classOf 27 = .ok (.goto 5, 3) := by decide +kernel
theorem dX3_classOf_30 : decode cX3_classOf 30 = .ok (.bipush (-6), 2) := by decide +kernel
theorem dX3_classOf_32 : decode cX3_classOf 32 = .ok (.ireturn, 1) := by decide +kernel
theorem dX4_init_0 : decode cX4_init 0 = .ok (.aload_n 0, 1) := by decide +kernel
theorem dX4_init_1 : decode cX4_init 1 = .ok (.invokespecial 1, 3) := by decide +kernel
theorem dX4_init_4 : decode cX4_init 4 = .ok (.aload_n 0, 1) := by decide +kernel
theorem dX4_init_5 : decode cX4_init 5 = .ok (.sipush 130, 3) := by decide +kernel
theorem dX4_init_8 : decode cX4_init 8 = .ok (.newarray .int, 2) := by decide +kernel
theorem dX4_init_10 : decode cX4_init 10 = .ok (.putfield 7, 3) := by decide +kernel
theorem dX4_init_13 : decode cX4_init 13 = .ok (.aload_n 0, 1) := by decide +kernel
theorem dX4_init_14 : decode cX4_init 14 = .ok (.sipush 260, 3) := by decide +kernel
theorem dX4_init_17 : decode cX4_init 17 = .ok (.newarray .int, 2) := by decide +kernel
theorem dX4_init_19 : decode cX4_init 19 = .ok (.putfield 13, 3) := by decide +kernel
theorem dX4_init_22 : decode cX4_init 22 = .ok (.aload_n 0, 1) := by decide +kernel
theorem dX4_init_23 : decode cX4_init 23 = .ok (.iconst 2, 1) := by decide +kernel
theorem dX4_init_24 : decode cX4_init 24 = .ok (.newarray .boolean, 2) := by decide +kernel
theorem dX4_init_26 : decode cX4_init 26 = .ok (.putfield 16, 3) := by decide +kernel
theorem dX4_init_29 : decode cX4_init 29 = .ok (.aload_n 0, 1) := by decide +kernel
theorem dX4_init_30 : decode cX4_init 30 = .ok (.bipush 60, 2) := by decide +kernel
theorem dX4_init_32 : decode cX4_init 32 = .ok (.newarray .int, 2) := by decide +kernel
theorem dX4_init_34 : decode cX4_init 34 = .ok (.putfield 20, 3) := by decide +kernel
theorem dX4_init_37 : decode cX4_init 37 = .ok (.aload_n 0, 1) := by decide +kernel
theorem dX4_init_38 : decode cX4_init 38 = .ok (.bipush 60, 2) := by decide +kernel
theorem dX4_init_40 : decode cX4_init 40 = .ok (.newarray .int, 2) := by decide +kernel
theorem dX4_init_42 : decode cX4_init 42 = .ok (.putfield 23, 3) := by decide +kernel
theorem dX4_init_45 : decode cX4_init 45 = .ok (.aload_n 0, 1) := by decide +kernel
theorem dX4_init_46 : decode cX4_init 46 = .ok (.bipush 60, 2) := by decide +kernel
theorem dX4_init_48 : decode cX4_init 48 = .ok (.newarray .int, 2) := by decide +kernel
theorem dX4_init_50 : decode cX4_init 50 = .ok (.putfield 26, 3) := by decide +kernel
theorem dX4_init_53 : decode cX4_init 53 = .ok (.aload_n 0, 1) := by decide +kernel
theorem dX4_init_54 : decode cX4_init 54 = .ok (.bipush 120, 2) := by decide +kernel
theorem dX4_init_56 : decode cX4_init 56 = .ok (.newarray .int, 2) := by decide +kernel
theorem dX4_init_58 : decode cX4_init 58 = .ok (.putfield 29, 3) := by decide +kernel
theorem dX4_init_61 : decode cX4_init 61 = .ok (.aload_n 0, 1) := by decide +kernel
theorem dX4_init_62 : decode cX4_init 62 = .ok (.sipush 130, 3) := by decide +kernel
theorem dX4_init_65 : decode cX4_init 65 = .ok (.newarray .int, 2) := by decide +kernel
theorem dX4_init_67 : decode cX4_init 67 = .ok (.putfield 32, 3) := by decide +kernel
theorem dX4_init_70 : decode cX4_init 70 = .ok (.aload_n 0, 1) := by decide +kernel
theorem dX4_init_71 : decode cX4_init 71 = .ok (.sipush 130, 3) := by decide +kernel
theorem dX4_init_74 : decode cX4_init 74 = .ok (.newarray .int, 2) := by decide +kernel
theorem dX4_init_76 : decode cX4_init 76 = .ok (.putfield 35, 3) := by decide +kernel
theorem dX4_init_79 : decode cX4_init 79 = .ok (.aload_n 0, 1) := by decide +kernel
theorem dX4_init_80 : decode cX4_init 80 = .ok (.sipush 130, 3) := by decide +kernel
theorem dX4_init_83 : decode cX4_init 83 = .ok (.newarray .int, 2) := by decide +kernel
theorem dX4_init_85 : decode cX4_init 85 = .ok (.putfield 38, 3) := by decide +kernel
theorem dX4_init_88 : decode cX4_init 88 = .ok (.aload_n 0, 1) := by decide +kernel
theorem dX4_init_89 : decode cX4_init 89 = .ok (.getfield 7, 3) := by decide +kernel
theorem dX4_init_92 : decode cX4_init 92 = .ok (.bipush 121, 2) := by decide +kernel
theorem dX4_init_94 : decode cX4_init 94 = .ok (.iconst 5, 1) := by decide +kernel
theorem dX4_init_95 : decode cX4_init 95 = .ok (.iastore, 1) := by decide +kernel
theorem dX4_init_96 : decode cX4_init 96 = .ok (.aload_n 0, 1) := by decide +kernel
theorem dX4_init_97 : decode cX4_init 97 = .ok (.getfield 7, 3) := by decide +kernel
theorem dX4_init_100 : decode cX4_init 100 = .ok (.bipush 123, 2) := by decide +kernel
theorem dX4_init_102 : decode cX4_init 102 = .ok (.iconst 1, 1) := by decide +kernel
theorem dX4_init_103 : decode cX4_init 103 = .ok (.iastore, 1) := by decide +kernel
theorem dX4_init_104 : decode cX4_init 104 = .ok (.aload_n 0, 1) := by decide +kernel
theorem dX4_init_105 : decode cX4_init 105 = .ok (.getfield 7, 3) := by decide +kernel
theorem dX4_init_108 : decode cX4_init 108 = .ok (.bipush 124, 2) := by decide +kernel
theorem dX4_init_110 : decode cX4_init 110 = .ok (.iconst 1, 1) := by decide +kernel
theorem dX4_init_111 : decode cX4_init 111 = .ok (.iastore, 1) := by decide +kernel
theorem dX4_init_112 : decode cX4_init 112 = .ok (.aload_n 0, 1) := by decide +kernel
theorem dX4_init_113 : decode cX4_init 113 = .ok (.getfield 7, 3) := by decide +kernel
theorem dX4_init_116 : decode cX4_init 116 = .ok (.bipush 127, 2) := by decide +kernel
theorem dX4_init_118 : decode cX4_init 118 = .ok (.iconst 1, 1) := by decide +kernel
theorem dX4_init_119 : decode cX4_init 119 = .ok (.iastore, 1) := by decide +kernel
theorem dX4_init_120 : decode cX4_init 120 = .ok (.aload_n 0, 1) := by decide +kernel
theorem dX4_init_121 : decode cX4_init 121 = .ok (.getfield 7, 3) := by decide +kernel
theorem dX4_init_124 : decode cX4_init 124 = .ok (.sipush 128, 3) := by decide +kernel
theorem dX4_init_127 : decode cX4_init 127 = .ok (.iconst 1, 1) := by decide +kernel
theorem dX4_init_128 : decode cX4_init 128 = .ok (.iastore, 1) := by decide +kernel
theorem dX4_init_129 : decode cX4_init 129 = .ok (.aload_n 0, 1) := by decide +kernel
theorem dX4_init_130 : decode cX4_init 130 = .ok (.getfield 7, 3) := by decide +kernel
theorem dX4_init_133 : decode cX4_init 133 = .ok (.sipush 129, 3) := by decide +kernel
theorem dX4_init_136 : decode cX4_init 136 = .ok (.iconst 2, 1) := by decide +kernel
theorem dX4_init_137 : decode cX4_init 137 = .ok (.iastore, 1) := by decide +kernel
theorem dX4_init_138 : decode cX4_init 138 = .ok (.return_, 1) := by decide +kernel
theorem dX4_in_0 : decode cX4_in 0 = .ok (.iload_n 0, 1) := by decide +kernel
theorem dX4_in_1 : decode cX4_in 1 = .ok (.iload_n 1, 1) := by decide +kernel
theorem dX4_in_2 : decode cX4_in 2 = .ok (.if_icmp .lt 12, 3) := by decide +kernel
theorem dX4_in_5 : decode cX4_in 5 = .ok (.iload_n 0, 1) := by decide +kernel
theorem dX4_in_6 : decode cX4_in 6 = .ok (.iload_n 2, 1) := by decide +kernel
theorem dX4_in_7 : decode cX4_in 7 = .ok (.if_icmp .gt 7, 3) := by decide +kernel
theorem dX4_in_10 : decode cX4_in 10 = .ok (.iconst 1, 1) := by decide +kernel
theorem dX4_in_11 : decode cX4_in 11 = .ok (.goto 4, 3) := by decide +kernel
theorem dX4_in_14 : decode cX4_in 14 = .ok (.iconst 0, 1) := by decide +kernel
theorem dX4_in_15 : decode cX4_in 15 = .ok (.ireturn, 1) := by decide +kernel
set_option maxRecDepth 20000 in
theorem ggX4_isChapter_X4_in : GoodIn wsX4_isChapter wsX4_in := goodIn_r _ [4] (by decide +kernel) (by decide +kernel)
set_option maxRecDepth 20000 in
theorem gX4_isChapter_X4_in : GoodIn wsX4_isChapter (va_wsS RX4 41 yX4_in wsX4_in) := goodIn_app (goodIn_of _ (by decide +kernel)) ggX4_isChapter_X4_in
theorem dX4_isChapter_0 : decode cX4_isChapter 0 = .ok (.iload_n 0, 1) := by decide +kernel
theorem dX4_isChapter_1 : decode cX4_isChapter 1 = .ok (.bipush 65, 2) := by decide +kernel
theorem dX4_isChapter_3 : decode cX4_isChapter 3 = .ok (.bipush 72, 2) := by decide +kernel
theorem dX4_isChapter_5 : decode cX4_isChapter 5 = .ok (.invokestatic 41, 3) := by decide +kernel
theorem dX4_isChapter_8 : decode cX4_isChapter 8 = .ok (.ireturn, 1) := by decide +kernel
set_option maxRecDepth 20000 in
theorem ggX4_isSection_X4_in : GoodIn wsX4_isSection wsX4_in := goodIn_r _ [4] (by decide +kernel) (by decide +kernel)
set_option maxRecDepth 20000 in
theorem gX4_isSection_X4_in : GoodIn wsX4_isSection (va_wsS RX4 41 yX4_in wsX4_in) := goodIn_app (goodIn_of _ (by decide +kernel)) ggX4_isSection_X4_in
theorem dX4_isSection_0 : decode cX4_isSection 0 = .ok (.iload_n 0, 1) := by decide +kernel
theorem dX4_isSection_1 : decode cX4_isSection 1 = .ok (.bipush 97, 2) := by decide +kernel
theorem dX4_isSection_3 : decode cX4_isSection 3 = .ok (.bipush 104, 2) := by decide +kernel
theorem dX4_isSection_5 : decode cX4_isSection 5 = .ok (.invokestatic 41, 3) := by decide +kernel
theorem dX4_isSection_8 : decode cX4_isSection 8 = .ok (.ireturn, 1) := by decide +kernel
theorem dX4_many_0 : decode cX4_many 0 = .ok (.aload_n 0, 1) := by decide +kernel
theorem dX4_many_1 : decode cX4_many 1 = .ok (.getfield 7, 3) := by decide +kernel
theorem dX4_many_4 : decode cX4_many 4 = .ok (.bipush 120, 2) := by decide +kernel
theorem dX4_many_6 : decode cX4_many 6 = .ok (.iaload, 1) := by decide +kernel
theorem dX4_many_7 : decode cX4_many 7 = .ok (.ireturn, 1) := by decide +kernel
set_option maxRecDepth 20000 in
theorem ggX4_isLine_X4_many : GoodIn wsX4_isLine wsX4_many := goodIn_r _ [5, 6, 10, 11, 12, 13, 14, 15, 16, 17, 18, 19, 20, 21] (by decide +kernel) (by decide +kernel)
set_option maxRecDepth 20000 in
theorem gX4_isLine_X4_many : GoodIn wsX4_isLine (wsV RX4 45 RX4 yX4_many wsX4_many) := goodIn_app (goodIn_of _ (by decide +kernel)) ggX4_isLine_X4_many
set_option maxRecDepth 20000 in
theorem ggX4_isLine_X4_in : GoodIn wsX4_isLine wsX4_in := goodIn_r _ [9] (by decide +kernel) (by decide +kernel)
set_option maxRecDepth 20000 in
theorem gX4_isLine_X4_in : GoodIn wsX4_isLine (va_wsS RX4 41 yX4_in wsX4_in) := goodIn_app (goodIn_of _ (by decide +kernel)) ggX4_isLine_X4_in
theorem dX4_isLine_0 : decode cX4_isLine 0 = .ok (.iload_n 1, 1) := by decide +kernel
theorem dX4_isLine_1 : decode cX4_isLine 1 = .ok (.iconst 0, 1) := by decide +kernel
theorem dX4_isLine_2 : decode cX4_isLine 2 = .ok (.aload_n 0, 1) := by decide +kernel
theorem dX4_isLine_3 : decode cX4_isLine 3 = .ok (.invokevirtual 45, 3) := by decide +kernel
theorem dX4_isLine_6 : decode cX4_isLine 6 = .ok (.iconst 1, 1) := by decide +kernel
theorem dX4_isLine_7 : decode cX4_isLine 7 = .ok (.isub, 1) := by decide +kernel
theorem dX4_isLine_8 : decode cX4_isLine 8 = .ok (.invokestatic 41, 3) := by decide +kernel
theorem dX4_isLine_11 : decode cX4_isLine 11 = .ok (.ireturn, 1) := by decide +kernel
set_option maxRecDepth 20000 in
theorem ggX4_say_X4_in : GoodIn wsX4_say wsX4_in := goodIn_r _ [6] (by decide +kernel) (by decide +kernel)
set_option maxRecDepth 20000 in
theorem gX4_say_X4_in : GoodIn wsX4_say (va_wsS RX4 41 yX4_in wsX4_in) := goodIn_app (goodIn_of _ (by decide +kernel)) ggX4_say_X4_in
theorem dX4_say_0 : decode cX4_say 0 = .ok (.iload_n 1, 1) := by decide +kernel
theorem dX4_say_1 : decode cX4_say 1 = .ok (.bipush 33, 2) := by decide +kernel
theorem dX4_say_3 : decode cX4_say 3 = .ok (.bipush 126, 2) := by decide +kernel
theorem dX4_say_5 : decode cX4_say 5 = .ok (.invokestatic 41, 3) := by decide +kernel
theorem dX4_say_8 : decode cX4_say 8 = .ok (.ifCond .ne 6, 3) := by decide +kernel
theorem dX4_say_11 : decode cX4_say 11 = .ok (.bipush (-2), 2) := by decide +kernel
theorem dX4_say_13 : decode cX4_say 13 = .ok (.ireturn, 1) := by decide +kernel
theorem dX4_say_14 : decode cX4_say 14 = .ok (.aload_n 0, 1) := by decide +kernel
theorem dX4_say_15 : decode cX4_say 15 = .ok (.getfield 49, 3) := by decide +kernel
theorem dX4_say_18 : decode cX4_say 18 = .ok (.bipush 60, 2) := by decide +kernel
theorem dX4_say_20 : decode cX4_say 20 = .ok (.if_icmp .ne 6, 3) := by decide +kernel
theorem dX4_say_23 : decode cX4_say 23 = .ok (.bipush (-4), 2) := by decide +kernel
theorem dX4_say_25 : decode cX4_say 25 = .ok (.ireturn, 1) := by decide +kernel
theorem dX4_say_26 : decode cX4_say 26 = .ok (.aload_n 0, 1) := by decide +kernel
theorem dX4_say_27 : decode cX4_say 27 = .ok (.getfield 20, 3) := by decide +kernel
theorem dX4_say_30 : decode cX4_say 30 = .ok (.aload_n 0, 1) := by decide +kernel
theorem dX4_say_31 : decode cX4_say 31 = .ok (.getfield 49, 3) := by decide +kernel
theorem dX4_say_34 : decode cX4_say 34 = .ok (.iload_n 1, 1) := by decide +kernel
theorem dX4_say_35 : decode cX4_say 35 = .ok (.iastore, 1) := by decide +kernel
theorem dX4_say_36 : decode cX4_say 36 = .ok (.aload_n 0, 1) := by decide +kernel
theorem dX4_say_37 : decode cX4_say 37 = .ok (.dup, 1) := by decide +kernel
theorem dX4_say_38 : decode cX4_say 38 = .ok (.getfield 49, 3) := by decide +kernel
theorem dX4_say_41 : decode cX4_say 41 = .ok (.iconst 1, 1) := by decide +kernel
theorem dX4_say_42 : decode cX4_say 42 = .ok (.iadd, 1) := by decide +kernel
theorem dX4_say_43 : decode cX4_say 43 = .ok (.putfield 49, 3) := by decide +kernel
theorem dX4_say_46 : decode cX4_say 46 = .ok (.aload_n 0, 1) := by decide +kernel
theorem dX4_say_47 : decode cX4_say 47 = .ok (.getfield 49, 3) := by decide +kernel
theorem dX4_say_50 : decode cX4_say 50 = .ok (.ireturn, 1) := by decide +kernel
theorem dX4_wipe_0 : decode cX4_wipe 0 = .ok (.aload_n 0, 1) := by decide +kernel
theorem dX4_wipe_1 : decode cX4_wipe 1 = .ok (.getfield 49, 3) := by decide +kernel
theorem dX4_wipe_4 : decode cX4_wipe 4 = .ok (.istore_n 1, 1) := by decide +kernel
theorem dX4_wipe_5 : decode cX4_wipe 5 = .ok (.aload_n 0, 1) := by decide +kernel
theorem dX4_wipe_6 : decode cX4_wipe 6 = .ok (.iconst 0, 1) := by decide +kernel
theorem dX4_wipe_7 : decode cX4_wipe 7 = .ok (.putfield 49, 3) := by decide +kernel
theorem dX4_wipe_10 : decode cX4_wipe 10 = .ok (.iload_n 1, 1) := by decide +kernel
theorem dX4_wipe_11 : decode cX4_wipe 11 = .ok (.ireturn, 1) := by decide +kernel
set_option maxRecDepth 20000 in
theorem ggX4_canStand_X4_isChapter : GoodIn wsX4_canStand wsX4_isChapter := goodIn_r _ [5, 6, 7, 4, 8] (by decide +kernel) (by decide +kernel)
set_option maxRecDepth 20000 in
theorem gX4_canStand_X4_isChapter : GoodIn wsX4_canStand (va_wsS RX4 53 yX4_isChapter wsX4_isChapter) := goodIn_app (goodIn_of _ (by decide +kernel)) ggX4_canStand_X4_isChapter
set_option maxRecDepth 20000 in
theorem ggX4_canStand_X4_isSection : GoodIn wsX4_canStand wsX4_isSection := goodIn_r _ [11, 6, 7, 4, 8] (by decide +kernel) (by decide +kernel)
set_option maxRecDepth 20000 in
theorem gX4_canStand_X4_isSection : GoodIn wsX4_canStand (va_wsS RX4 57 yX4_isSection wsX4_isSection) := goodIn_app (goodIn_of _ (by decide +kernel)) ggX4_canStand_X4_isSection
theorem dX4_canStand_0 : decode cX4_canStand 0 = .ok (.aload_n 0, 1) := by decide +kernel
theorem dX4_canStand_1 : decode cX4_canStand 1 = .ok (.getfield 20, 3) := by decide +kernel
theorem dX4_canStand_4 : decode cX4_canStand 4 = .ok (.iload_n 1, 1) := by decide +kernel
theorem dX4_canStand_5 : decode cX4_canStand 5 = .ok (.iaload, 1) := by decide +kernel
theorem dX4_canStand_6 : decode cX4_canStand 6 = .ok (.bipush 47, 2) := by decide +kernel
theorem dX4_canStand_8 : decode cX4_canStand 8 = .ok (.if_icmp .ne 26, 3) := by decide +kernel
theorem dX4_canStand_11 : decode cX4_canStand 11 = .ok (.iload_n 1, 1) := by decide +kernel
theorem dX4_canStand_12 : decode cX4_canStand 12 = .ok (.ifCond .le 20, 3) := by decide +kernel
theorem dX4_canStand_15 : decode cX4_canStand 15 = .ok (.aload_n 0, 1) := by decide +kernel
theorem dX4_canStand_16 : decode cX4_canStand 16 = .ok (.getfield 20, 3) := by decide +kernel
theorem dX4_canStand_19 : decode cX4_canStand 19 = .ok (.iload_n 1, 1) := by decide +kernel
theorem dX4_canStand_20 : decode cX4_canStand 20 = .ok (.iconst 1, 1) := by decide +kernel
theorem dX4_canStand_21 : decode cX4_canStand 21 = .ok (.isub, 1) := by decide +kernel
theorem dX4_canStand_22 : decode cX4_canStand 22 = .ok (.iaload, 1) := by decide +kernel
theorem dX4_canStand_23 : decode cX4_canStand 23 = .ok (.bipush 47, 2) := by decide +kernel
theorem dX4_canStand_25 : decode cX4_canStand 25 = .ok (.if_icmp .eq 7, 3) := by decide +kernel
theorem dX4_canStand_28 : decode cX4_canStand 28 = .ok (.iconst 1, 1) := by decide +kernel
theorem dX4_canStand_29 : decode cX4_canStand 29 = .ok (.goto 4, 3) := by decide +kernel
theorem dX4_canStand_32 : decode cX4_canStand 32 = .ok (.iconst 0, 1) := by decide +kernel
theorem dX4_canStand_33 : decode cX4_canStand 33 = .ok (.ireturn, 1) := by decide +kernel
theorem dX4_canStand_34 : decode cX4_canStand 34 = .ok (.aload_n 0, 1) := by decide +kernel
theorem dX4_canStand_35 : decode cX4_canStand 35 = .ok (.getfield 20, 3) := by decide +kernel
theorem dX4_canStand_38 : decode cX4_canStand 38 = .ok (.iload_n 1, 1) := by decide +kernel
theorem dX4_canStand_39 : decode cX4_canStand 39 = .ok (.iaload, 1) := by decide +kernel
theorem dX4_canStand_40 : decode cX4_canStand 40 = .ok (.bipush 46, 2) := by decide +kernel
theorem dX4_canStand_42 : decode cX4_canStand 42 = .ok (.if_icmp .eq 27, 3) := by decide +kernel
theorem dX4_canStand_45 : decode cX4_canStand 45 = .ok (.aload_n 0, 1) := by decide +kernel
theorem dX4_canStand_46 : decode cX4_canStand 46 = .ok (.getfield 20, 3) := by decide +kernel
theorem dX4_canStand_49 : decode cX4_canStand 49 = .ok (.iload_n 1, 1) := by decide +kernel
theorem dX4_canStand_50 : decode cX4_canStand 50 = .ok (.iaload, 1) := by decide +kernel
theorem dX4_canStand_51 : decode cX4_canStand 51 = .ok (.invokestatic 53, 3) := by decide +kernel
theorem dX4_canStand_54 : decode cX4_canStand 54 = .ok (.ifCond .ne 15, 3) := by decide +kernel
theorem dX4_canStand_57 : decode cX4_canStand 57 = .ok (.aload_n 0, 1) := by decide +kernel
theorem dX4_canStand_58 : decode cX4_canStand 58 = .ok (.getfield 20, 3) := by decide +kernel
theorem dX4_canStand_61 : decode cX4_canStand 61 = .ok (.iload_n 1, 1) := by decide +kernel
theorem dX4_canStand_62 : decode cX4_canStand 62 = .ok (.iaload, 1) := by decide +kernel
theorem dX4_canStand_63 : decode cX4_canStand 63 = .ok (.invokestatic 57, 3) := by decide +kernel
theorem dX4_canStand_66 : decode cX4_canStand 66 = .ok (.ifCond .eq 7, 3) := by decide +kernel
theorem dX4_canStand_69 : decode cX4_canStand 69 = .ok (.iconst 1, 1) := by decide +kernel
theorem dX4_canStand_70 : decode cX4_canStand 70 = .ok (.goto 4, 3) := by decide +kernel
theorem dX4_canStand_73 : decode cX4_canStand 73 = .ok (.iconst 0, 1) := by decide +kernel
theorem dX4_canStand_74 : decode cX4_canStand 74 = .ok (.ireturn, 1) := by decide +kernel
set_option maxRecDepth 20000 in
theorem ggX4_fault_X4_canStand : GoodIn wsX4_fault wsX4_canStand := goodIn_r _ [7, 2, 8, 9, 6, 10, 11, 12, 13, 14, 15, 16, 17, 18, 19, 20, 21, 22, 23, 24, 25, 26, 27, 28] (by decide +kernel) (by decide +kernel)
set_option maxRecDepth 20000 in
theorem gX4_fault_X4_canStand : GoodIn wsX4_fault (wsV RX4 60 RX4 yX4_canStand wsX4_canStand) := goodIn_app (goodIn_of _ (by decide +kernel)) ggX4_fault_X4_canStand
theorem dX4_fault_0 : decode cX4_fault 0 = .ok (.iconst 0, 1) := by decide +kernel
theorem dX4_fault_1 : decode cX4_fault 1 = .ok (.istore_n 1, 1) := by decide +kernel
theorem dX4_fault_2 : decode cX4_fault 2 = .ok (.iload_n 1, 1) := by decide +kernel
theorem dX4_fault_3 : decode cX4_fault 3 = .ok (.aload_n 0, 1) := by decide +kernel
theorem dX4_fault_4 : decode cX4_fault 4 = .ok (.getfield 49, 3) := by decide +kernel
theorem dX4_fault_7 : decode cX4_fault 7 = .ok (.if_icmp .ge 19, 3) := by decide +kernel
theorem dX4_fault_10 : decode cX4_fault 10 = .ok (.aload_n 0, 1) := by decide +kernel
theorem dX4_fault_11 : decode cX4_fault 11 = .ok (.iload_n 1, 1) := by decide +kernel
theorem dX4_fault_12 : decode cX4_fault 12 = .ok (.invokevirtual 60, 3) := by decide +kernel
theorem dX4_fault_15 : decode cX4_fault 15 = .ok (.ifCond .ne 5, 3) := by decide +kernel
theorem dX4_fault_18 : decode cX4_fault 18 = .ok (.iload_n 1, 1) := by decide +kernel
theorem dX4_fault_19 : decode cX4_fault 19 = .ok (.ireturn, 1) := by decide +kernel
theorem dX4_fault_20 : decode cX4_fault 20 = .ok (.iinc 1 1, 3) := by decide +kernel
theorem dX4_fault_23 : decode cX4_fault 23 = .ok (.goto (-21), 3) := by decide +kernel
theorem dX4_fault_26 : decode cX4_fault 26 = .ok (.aload_n 0, 1) := by decide +kernel
theorem dX4_fault_27 : decode cX4_fault 27 = .ok (.getfield 49, 3) := by decide +kernel
theorem dX4_fault_30 : decode cX4_fault 30 = .ok (.ifCond .le 26, 3) := by decide +kernel
theorem dX4_fault_33 : decode cX4_fault 33 = .ok (.aload_n 0, 1) := by decide +kernel
theorem dX4_fault_34 : decode cX4_fault 34 = .ok (.getfield 20, 3) := by decide +kernel
theorem dX4_fault_37 : decode cX4_fault 37 = .ok (.aload_n 0, 1) := by decide +kernel
theorem dX4_fault_38 : decode cX4_fault 38 = .ok (.getfield 49, 3) := by decide +kernel
theorem dX4_fault_41 : decode cX4_fault 41 = .ok (.iconst 1, 1) := by decide +kernel
theorem dX4_fault_42 : decode cX4_fault 42 = .ok (.isub, 1) := by decide +kernel
theorem dX4_fault_43 : decode cX4_fault 43 = .ok (.iaload, 1) := by decide +kernel
theorem dX4_fault_44 : decode cX4_fault 44 = .ok (.bipush 47, 2) := by decide +kernel
theorem dX4_fault_46 : decode cX4_fault 46 = .ok (.if_icmp .ne 10, 3) := by decide +kernel
theorem dX4_fault_49 : decode cX4_fault 49 = .ok (.aload_n 0, 1) := by decide +kernel
theorem dX4_fault_50 : decode cX4_fault 50 = .ok (.getfield 49, 3) := by decide +kernel
theorem dX4_fault_53 : decode cX4_fault 53 = .ok (.goto 5, 3) := by decide +kernel
theorem dX4_fault_56 : decode cX4_fault 56 = .ok (.bipush (-6), 2) := by decide +kernel
theorem dX4_fault_58 : decode cX4_fault 58 = .ok (.ireturn, 1) := by decide +kernel
set_option maxRecDepth 20000 in
theorem ggX4_read_X4_fault : GoodIn wsX4_read wsX4_fault := goodIn_r _ [8, 1, 2, 9, 10, 11, 7, 12, 13, 14, 15, 16, 17, 18, 19, 20, 21, 22, 23, 24, 25, 26, 27, 28, 29, 30, 31, 32, 33] (by decide +kernel) (by decide +kernel)
set_option maxRecDepth 20000 in
theorem gX4_read_X4_fault : GoodIn wsX4_read (wsV RX4 63 RX4 yX4_fault wsX4_fault) := goodIn_app (goodIn_of _ (by decide +kernel)) ggX4_read_X4_fault
theorem dX4_read_0 : decode cX4_read 0 = .ok (.aload_n 0, 1) := by decide +kernel
theorem dX4_read_1 : decode cX4_read 1 = .ok (.invokevirtual 63, 3) := by decide +kernel
theorem dX4_read_4 : decode cX4_read 4 = .ok (.ifCond .lt 6, 3) := by decide +kernel
theorem dX4_read_7 : decode cX4_read 7 = .ok (.bipush (-7), 2) := by decide +kernel
theorem dX4_read_9 : decode cX4_read 9 = .ok (.ireturn, 1) := by decide +kernel
theorem dX4_read_10 : decode cX4_read 10 = .ok (.iconst 0, 1) := by decide +kernel
theorem dX4_read_11 : decode cX4_read 11 = .ok (.istore_n 1, 1) := by decide +kernel
theorem dX4_read_12 : decode cX4_read 12 = .ok (.iconst 0, 1) := by decide +kernel
theorem dX4_read_13 : decode cX4_read 13 = .ok (.istore_n 2, 1) := by decide +kernel
theorem dX4_read_14 : decode cX4_read 14 = .ok (.iload_n 2, 1) := by decide +kernel
theorem dX4_read_15 : decode cX4_read 15 = .ok (.aload_n 0, 1) := by decide +kernel
theorem dX4_read_16 : decode cX4_read 16 = .ok (.getfield 49, 3) := by decide +kernel
theorem dX4_read_19 : decode cX4_read 19 = .ok (.if_icmp .ge 83, 3) := by decide +kernel
theorem dX4_read_22 : decode cX4_read 22 = .ok (.aload_n 0, 1) := by decide +kernel
theorem dX4_read_23 : decode cX4_read 23 = .ok (.getfield 20, 3) := by decide +kernel
theorem dX4_read_26 : decode cX4_read 26 = .ok (.iload_n 2, 1) := by decide +kernel
theorem dX4_read_27 : decode cX4_read 27 = .ok (.iaload, 1) := by decide +kernel
theorem dX4_read_28 : decode cX4_read 28 = .ok (.bipush 47, 2) := by decide +kernel
theorem dX4_read_30 : decode cX4_read 30 = .ok (.if_icmp .eq 66, 3) := by decide +kernel
theorem dX4_read_33 : decode cX4_read 33 = .ok (.aload_n 0, 1) := by decide +kernel
theorem dX4_read_34 : decode cX4_read 34 = .ok (.getfield 7, 3) := by decide +kernel
theorem dX4_read_37 : decode cX4_read 37 = .ok (.iconst 0, 1) := by decide +kernel
theorem dX4_read_38 : decode cX4_read 38 = .ok (.iload_n 1, 1) := by decide +kernel
theorem dX4_read_39 : decode cX4_read 39 = .ok (.iadd, 1) := by decide +kernel
theorem dX4_read_40 : decode cX4_read 40 = .ok (.aload_n 0, 1) := by decide +kernel
theorem dX4_read_41 : decode cX4_read 41 = .ok (.getfield 20, 3) := by decide +kernel
theorem dX4_read_44 : decode cX4_read 44 = .ok (.iload_n 2, 1) := by decide +kernel
theorem dX4_read_45 : decode cX4_read 45 = .ok (.iaload, 1) := by decide +kernel
theorem dX4_read_46 : decode cX4_read 46 = .ok (.bipush 46, 2) := by decide +kernel
theorem dX4_read_48 : decode cX4_read 48 = .ok (.if_icmp .ne 7, 3) := by decide +kernel
theorem dX4_read_51 : decode cX4_read 51 = .ok (.iconst 0, 1) := by decide +kernel
theorem dX4_read_52 : decode cX4_read 52 = .ok (.goto 9, 3) := by decide +kernel
theorem dX4_read_55 : decode cX4_read 55 = .ok (.aload_n 0, 1) := by decide +kernel
theorem dX4_read_56 : decode cX4_read 56 = .ok (.getfield 20, 3) := by decide +kernel
theorem dX4_read_59 : decode cX4_read 59 = .ok (.iload_n 2, 1) := by decide +kernel
theorem dX4_read_60 : decode cX4_read 60 = .ok (.iaload, 1) := by decide +kernel
theorem dX4_read_61 : decode cX4_read 61 = .ok (.iastore, 1) := by decide +kernel
theorem dX4_read_62 : decode cX4_read 62 = .ok (.aload_n 0, 1) := by decide +kernel
theorem dX4_read_63 : decode cX4_read 63 = .ok (.getfield 7, 3) := by decide +kernel
theorem dX4_read_66 : decode cX4_read 66 = .ok (.bipush 60, 2) := by decide +kernel
theorem dX4_read_68 : decode cX4_read 68 = .ok (.iload_n 1, 1) := by decide +kernel
theorem dX4_read_69 : decode cX4_read 69 = .ok (.iadd, 1) := by decide +kernel
theorem dX4_read_70 : decode cX4_read 70 = .ok (.iload_n 2, 1) := by decide +kernel
theorem dX4_read_71 : decode cX4_read 71 = .ok (.ifCond .le 20, 3) := by decide +kernel
theorem dX4_read_74 : decode cX4_read 74 = .ok (.aload_n 0, 1) := by decide +kernel
theorem dX4_read_75 : decode cX4_read 75 = .ok (.getfield 20, 3) := by decide +kernel
theorem dX4_read_78 : decode cX4_read 78 = .ok (.iload_n 2, 1) := by decide +kernel
theorem dX4_read_79 : decode cX4_read 79 = .ok (.iconst 1, 1) := by decide +kernel
theorem dX4_read_80 : decode cX4_read 80 = .ok (.isub, 1) := by decide +kernel
theorem dX4_read_81 : decode cX4_read 81 = .ok (.iaload, 1) := by decide +kernel
theorem dX4_read_82 : decode cX4_read 82 = .ok (.bipush 47, 2) := by decide +kernel
theorem dX4_read_84 : decode cX4_read 84 = .ok (.if_icmp .ne 7, 3) := by decide +kernel
theorem dX4_read_87 : decode cX4_read 87 = .ok (.iconst 1, 1) := by decide +kernel
theorem dX4_read_88 : decode cX4_read 88 = .ok (.goto 4, 3) := by decide +kernel
theorem dX4_read_91 : decode cX4_read 91 = .ok (.iconst 0, 1) := by decide +kernel
theorem dX4_read_92 : decode cX4_read 92 = .ok (.iastore, 1) := by decide +kernel
theorem dX4_read_93 : decode cX4_read 93 = .ok (.iinc 1 1, 3) := by decide +kernel
theorem dX4_read_96 : decode cX4_read 96 = .ok (.iinc 2 1, 3) := by decide +kernel
theorem dX4_read_99 : decode cX4_read 99 = .ok (.goto (-85), 3) := by decide +kernel
theorem dX4_read_102 : decode cX4_read 102 = .ok (.aload_n 0, 1) := by decide +kernel
theorem dX4_read_103 : decode cX4_read 103 = .ok (.getfield 7, 3) := by decide +kernel
theorem dX4_read_106 : decode cX4_read 106 = .ok (.bipush 120, 2) := by decide +kernel
theorem dX4_read_108 : decode cX4_read 108 = .ok (.iload_n 1, 1) := by decide +kernel
theorem dX4_read_109 : decode cX4_read 109 = .ok (.iastore, 1) := by decide +kernel
theorem dX4_read_110 : decode cX4_read 110 = .ok (.aload_n 0, 1) := by decide +kernel
theorem dX4_read_111 : decode cX4_read 111 = .ok (.iconst 0, 1) := by decide +kernel
theorem dX4_read_112 : decode cX4_read 112 = .ok (.putfield 49, 3) := by decide +kernel
theorem dX4_read_115 : decode cX4_read 115 = .ok (.iload_n 1, 1) := by decide +kernel
theorem dX4_read_116 : decode cX4_read 116 = .ok (.ireturn, 1) := by decide +kernel
theorem dX4_least_0 : decode cX4_least 0 = .ok (.iload_n 0, 1) := by decide +kernel
theorem dX4_least_1 : decode cX4_least 1 = .ok (.ifCond .ne 7, 3) := by decide +kernel
theorem dX4_least_4 : decode cX4_least 4 = .ok (.iconst 2, 1) := by decide +kernel
theorem dX4_least_5 : decode cX4_least 5 = .ok (.goto 4, 3) := by decide +kernel
theorem dX4_least_8 : decode cX4_least 8 = .ok (.iconst 0, 1) := by decide +kernel
theorem dX4_least_9 : decode cX4_least 9 = .ok (.ireturn, 1) := by decide +kernel
theorem dX4_most_0 : decode cX4_most 0 = .ok (.iload_n 0, 1) := by decide +kernel
theorem dX4_most_1 : decode cX4_most 1 = .ok (.tableswitch 56 0 8 #[51, 54, 54, 56, 56, 56, 56, 54, 54], 51) := by decide +kernel
theorem dX4_most_52 : decode cX4_most 52 = .ok (.bipush 9, 2) := by decide +kernel
theorem dX4_most_54 : decode cX4_most 54 = .ok (.ireturn, 1) := by decide +kernel
theorem dX4_most_55 : decode cX4_most 55 = .ok (.iconst 2, 1) := by decide +kernel
theorem dX4_most_56 : decode cX4_most 56 = .ok (.ireturn, 1) := by decide +kernel
theorem dX4_most_57 : decode cX4_most 57 = .ok (.iconst 1, 1) := by decide +kernel
theorem dX4_most_58 : decode cX4_most 58 = .ok (.ireturn, 1) := by decide +kernel
set_option maxRecDepth 20000 in
theorem ggX4_rule_X4_in : GoodIn wsX4_rule wsX4_in := goodIn_r _ [5] (by decide +kernel) (by decide +kernel)
set_option maxRecDepth 20000 in
theorem gX4_rule_X4_in : GoodIn wsX4_rule (va_wsS RX4 41 yX4_in wsX4_in) := goodIn_app (goodIn_of _ (by decide +kernel)) ggX4_rule_X4_in
