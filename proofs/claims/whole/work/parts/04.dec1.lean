theorem dX0_init_1 : decode cX0_init 1 = .ok (.invokespecial 3, 3) := by decide +kernel
theorem dX0_init_4 : decode cX0_init 4 = .ok (.aload_n 0, 1) := by decide +kernel
theorem dX0_init_5 : decode cX0_init 5 = .ok (.bipush 60, 2) := by decide +kernel
theorem dX0_init_7 : decode cX0_init 7 = .ok (.newarray .int, 2) := by decide +kernel
theorem dX0_init_9 : decode cX0_init 9 = .ok (.putfield 9, 3) := by decide +kernel
theorem dX0_init_12 : decode cX0_init 12 = .ok (.aload_n 0, 1) := by decide +kernel
theorem dX0_init_13 : decode cX0_init 13 = .ok (.bipush 60, 2) := by decide +kernel
theorem dX0_init_15 : decode cX0_init 15 = .ok (.newarray .int, 2) := by decide +kernel
theorem dX0_init_17 : decode cX0_init 17 = .ok (.putfield 15, 3) := by decide +kernel
theorem dX0_init_20 : decode cX0_init 20 = .ok (.aload_n 0, 1) := by decide +kernel
theorem dX0_init_21 : decode cX0_init 21 = .ok (.getstatic 18, 3) := by decide +kernel
theorem dX0_init_24 : decode cX0_init 24 = .ok (.invokevirtual 21, 3) := by decide +kernel
theorem dX0_init_27 : decode cX0_init 27 = .ok (.checkcast 22, 3) := by decide +kernel
theorem dX0_init_30 : decode cX0_init 30 = .ok (.putfield 26, 3) := by decide +kernel
theorem dX0_init_33 : decode cX0_init 33 = .ok (.aload_n 0, 1) := by decide +kernel
theorem dX0_init_34 : decode cX0_init 34 = .ok (.iconst 0, 1) := by decide +kernel
theorem dX0_init_35 : decode cX0_init 35 = .ok (.putfield 29, 3) := by decide +kernel
theorem dX0_init_38 : decode cX0_init 38 = .ok (.return_, 1) := by decide +kernel
theorem dX0_takeText_0 : decode cX0_takeText 0 = .ok (.aload_n 0, 1) := by decide +kernel
theorem dX0_takeText_1 : decode cX0_takeText 1 = .ok (.iconst 0, 1) := by decide +kernel
theorem dX0_takeText_2 : decode cX0_takeText 2 = .ok (.putfield 29, 3) := by decide +kernel
theorem dX0_takeText_5 : decode cX0_takeText 5 = .ok (.iconst 0, 1) := by decide +kernel
theorem dX0_takeText_6 : decode cX0_takeText 6 = .ok (.istore_n 2, 1) := by decide +kernel
theorem dX0_takeText_7 : decode cX0_takeText 7 = .ok (.iconst 0, 1) := by decide +kernel
theorem dX0_takeText_8 : decode cX0_takeText 8 = .ok (.istore_n 3, 1) := by decide +kernel
theorem dX0_takeText_9 : decode cX0_takeText 9 = .ok (.iload_n 3, 1) := by decide +kernel
theorem dX0_takeText_10 : decode cX0_takeText 10 = .ok (.aload_n 1, 1) := by decide +kernel
theorem dX0_takeText_11 : decode cX0_takeText 11 = .ok (.getfield 33, 3) := by decide +kernel
theorem dX0_takeText_14 : decode cX0_takeText 14 = .ok (.if_icmp .ge 62, 3) := by decide +kernel
theorem dX0_takeText_17 : decode cX0_takeText 17 = .ok (.aload_n 1, 1) := by decide +kernel
theorem dX0_takeText_18 : decode cX0_takeText 18 = .ok (.getfield 38, 3) := by decide +kernel
theorem dX0_takeText_21 : decode cX0_takeText 21 = .ok (.iload_n 3, 1) := by decide +kernel
theorem dX0_takeText_22 : decode cX0_takeText 22 = .ok (.iaload, 1) := by decide +kernel
theorem dX0_takeText_23 : decode cX0_takeText 23 = .ok (.bipush 47, 2) := by decide +kernel
theorem dX0_takeText_25 : decode cX0_takeText 25 = .ok (.if_icmp .ne 8, 3) := by decide +kernel
theorem dX0_takeText_28 : decode cX0_takeText 28 = .ok (.iconst 1, 1) := by decide +kernel
theorem dX0_takeText_29 : decode cX0_takeText 29 = .ok (.istore_n 2, 1) := by decide +kernel
theorem dX0_takeText_30 : decode cX0_takeText 30 = .ok (.goto 40, 3) := by decide +kernel
theorem dX0_takeText_33 : decode cX0_takeText 33 = .ok (.aload_n 0, 1) := by decide +kernel
theorem dX0_takeText_34 : decode cX0_takeText 34 = .ok (.getfield 9, 3) := by decide +kernel
theorem dX0_takeText_37 : decode cX0_takeText 37 = .ok (.aload_n 0, 1) := by decide +kernel
theorem dX0_takeText_38 : decode cX0_takeText 38 = .ok (.getfield 29, 3) := by decide +kernel
theorem dX0_takeText_41 : decode cX0_takeText 41 = .ok (.aload_n 1, 1) := by decide +kernel
theorem dX0_takeText_42 : decode cX0_takeText 42 = .ok (.getfield 38, 3) := by decide +kernel
theorem dX0_takeText_45 : decode cX0_takeText 45 = .ok (.iload_n 3, 1) := by decide +kernel
theorem dX0_takeText_46 : decode cX0_takeText 46 = .ok (.iaload, 1) := by decide +kernel
theorem dX0_takeText_47 : decode cX0_takeText 47 = .ok (.iastore, 1) := by decide +kernel
theorem dX0_takeText_48 : decode cX0_takeText 48 = .ok (.aload_n 0, 1) := by decide +kernel
theorem dX0_takeText_49 : decode cX0_takeText 49 = .ok (.getfield 15, 3) := by decide +kernel
theorem dX0_takeText_52 : decode cX0_takeText 52 = .ok (.aload_n 0, 1) := by decide +kernel
theorem dX0_takeText_53 : decode cX0_takeText 53 = .ok (.getfield 29, 3) := by decide +kernel
theorem dX0_takeText_56 : decode cX0_takeText 56 = .ok (.iload_n 2, 1) := by decide +kernel
theorem dX0_takeText_57 : decode cX0_takeText 57 = .ok (.iastore, 1) := by decide +kernel
theorem dX0_takeText_58 : decode cX0_takeText 58 = .ok (.aload_n 0, 1) := by decide +kernel
theorem dX0_takeText_59 : decode cX0_takeText 59 = .ok (.dup, 1) := by decide +kernel
theorem dX0_takeText_60 : decode cX0_takeText 60 = .ok (.getfield 29, 3) := by decide +kernel
theorem dX0_takeText_63 : decode cX0_takeText 63 = .ok (.iconst 1, 1) := by decide +kernel
theorem dX0_takeText_64 : decode cX0_takeText 64 = .ok (.iadd, 1) := by decide +kernel
theorem dX0_takeText_65 : decode cX0_takeText 65 = .ok (.putfield 29, 3) := by decide +kernel
theorem dX0_takeText_68 : decode cX0_takeText 68 = .ok (.iconst 0, 1) := by decide +kernel
theorem dX0_takeText_69 : decode cX0_takeText 69 = .ok (.istore_n 2, 1) := by decide +kernel
theorem dX0_takeText_70 : decode cX0_takeText 70 = .ok (.iinc 3 1, 3) := by decide +kernel
theorem dX0_takeText_73 : decode cX0_takeText 73 = .ok (.goto (-64), 3) := by decide +kernel
theorem dX0_takeText_76 : decode cX0_takeText 76 = .ok (.return_, 1) := by decide +kernel
theorem dX0_copyFrom_0 : decode cX0_copyFrom 0 = .ok (.aload_n 1, 1) := by decide +kernel
theorem dX0_copyFrom_1 : decode cX0_copyFrom 1 = .ok (.getfield 9, 3) := by decide +kernel
theorem dX0_copyFrom_4 : decode cX0_copyFrom 4 = .ok (.iconst 0, 1) := by decide +kernel
theorem dX0_copyFrom_5 : decode cX0_copyFrom 5 = .ok (.aload_n 0, 1) := by decide +kernel
theorem dX0_copyFrom_6 : decode cX0_copyFrom 6 = .ok (.getfield 9, 3) := by decide +kernel
theorem dX0_copyFrom_9 : decode cX0_copyFrom 9 = .ok (.iconst 0, 1) := by decide +kernel
theorem dX0_copyFrom_10 : decode cX0_copyFrom 10 = .ok (.bipush 60, 2) := by decide +kernel
theorem dX0_copyFrom_12 : decode cX0_copyFrom 12 = .ok (.invokestatic 39, 3) := by decide +kernel
theorem dX0_copyFrom_15 : decode cX0_copyFrom 15 = .ok (.aload_n 1, 1) := by decide +kernel
theorem dX0_copyFrom_16 : decode cX0_copyFrom 16 = .ok (.getfield 15, 3) := by decide +kernel
theorem dX0_copyFrom_19 : decode cX0_copyFrom 19 = .ok (.iconst 0, 1) := by decide +kernel
theorem dX0_copyFrom_20 : decode cX0_copyFrom 20 = .ok (.aload_n 0, 1) := by decide +kernel
theorem dX0_copyFrom_21 : decode cX0_copyFrom 21 = .ok (.getfield 15, 3) := by decide +kernel
theorem dX0_copyFrom_24 : decode cX0_copyFrom 24 = .ok (.iconst 0, 1) := by decide +kernel
theorem dX0_copyFrom_25 : decode cX0_copyFrom 25 = .ok (.bipush 60, 2) := by decide +kernel
theorem dX0_copyFrom_27 : decode cX0_copyFrom 27 = .ok (.invokestatic 39, 3) := by decide +kernel
theorem dX0_copyFrom_30 : decode cX0_copyFrom 30 = .ok (.aload_n 1, 1) := by decide +kernel
theorem dX0_copyFrom_31 : decode cX0_copyFrom 31 = .ok (.getfield 26, 3) := by decide +kernel
theorem dX0_copyFrom_34 : decode cX0_copyFrom 34 = .ok (.iconst 0, 1) := by decide +kernel
theorem dX0_copyFrom_35 : decode cX0_copyFrom 35 = .ok (.aload_n 0, 1) := by decide +kernel
theorem dX0_copyFrom_36 : decode cX0_copyFrom 36 = .ok (.getfield 26, 3) := by decide +kernel
theorem dX0_copyFrom_39 : decode cX0_copyFrom 39 = .ok (.iconst 0, 1) := by decide +kernel
theorem dX0_copyFrom_40 : decode cX0_copyFrom 40 = .ok (.bipush 9, 2) := by decide +kernel
theorem dX0_copyFrom_42 : decode cX0_copyFrom 42 = .ok (.invokestatic 39, 3) := by decide +kernel
theorem dX0_copyFrom_45 : decode cX0_copyFrom 45 = .ok (.aload_n 0, 1) := by decide +kernel
theorem dX0_copyFrom_46 : decode cX0_copyFrom 46 = .ok (.aload_n 1, 1) := by decide +kernel
theorem dX0_copyFrom_47 : decode cX0_copyFrom 47 = .ok (.getfield 29, 3) := by decide +kernel
theorem dX0_copyFrom_50 : decode cX0_copyFrom 50 = .ok (.putfield 29, 3) := by decide +kernel
theorem dX0_copyFrom_53 : decode cX0_copyFrom 53 = .ok (.return_, 1) := by decide +kernel
theorem dX0_mayRule_0 : decode cX0_mayRule 0 = .ok (.iload_n 2, 1) := by decide +kernel
theorem dX0_mayRule_1 : decode cX0_mayRule 1 = .ok (.getstatic 45, 3) := by decide +kernel
theorem dX0_mayRule_4 : decode cX0_mayRule 4 = .ok (.iload_n 1, 1) := by decide +kernel
theorem dX0_mayRule_5 : decode cX0_mayRule 5 = .ok (.iaload, 1) := by decide +kernel
theorem dX0_mayRule_6 : decode cX0_mayRule 6 = .ok (.if_icmp .lt 12, 3) := by decide +kernel
theorem dX0_mayRule_9 : decode cX0_mayRule 9 = .ok (.iload_n 2, 1) := by decide +kernel
theorem dX0_mayRule_10 : decode cX0_mayRule 10 = .ok (.getstatic 48, 3) := by decide +kernel
theorem dX0_mayRule_13 : decode cX0_mayRule 13 = .ok (.iload_n 1, 1) := by decide +kernel
theorem dX0_mayRule_14 : decode cX0_mayRule 14 = .ok (.iaload, 1) := by decide +kernel
theorem dX0_mayRule_15 : decode cX0_mayRule 15 = .ok (.if_icmp .le 5, 3) := by decide +kernel
theorem dX0_mayRule_18 : decode cX0_mayRule 18 = .ok (.iconst 0, 1) := by decide +kernel
theorem dX0_mayRule_19 : decode cX0_mayRule 19 = .ok (.ireturn, 1) := by decide +kernel
theorem dX0_mayRule_20 : decode cX0_mayRule 20 = .ok (.iload_n 1, 1) := by decide +kernel
theorem dX0_mayRule_21 : decode cX0_mayRule 21 = .ok (.ifCond .ne 7, 3) := by decide +kernel
theorem dX0_mayRule_24 : decode cX0_mayRule 24 = .ok (.iload_n 2, 1) := by decide +kernel
theorem dX0_mayRule_25 : decode cX0_mayRule 25 = .ok (.goto 9, 3) := by decide +kernel
theorem dX0_mayRule_28 : decode cX0_mayRule 28 = .ok (.aload_n 0, 1) := by decide +kernel
theorem dX0_mayRule_29 : decode cX0_mayRule 29 = .ok (.getfield 26, 3) := by decide +kernel
theorem dX0_mayRule_32 : decode cX0_mayRule 32 = .ok (.iconst 0, 1) := by decide +kernel
theorem dX0_mayRule_33 : decode cX0_mayRule 33 = .ok (.iaload, 1) := by decide +kernel
theorem dX0_mayRule_34 : decode cX0_mayRule 34 = .ok (.istore_n 3, 1) := by decide +kernel
theorem dX0_mayRule_35 : decode cX0_mayRule 35 = .ok (.iload_n 1, 1) := by decide +kernel
theorem dX0_mayRule_36 : decode cX0_mayRule 36 = .ok (.iconst 2, 1) := by decide +kernel
theorem dX0_mayRule_37 : decode cX0_mayRule 37 = .ok (.if_icmp .ne 7, 3) := by decide +kernel
theorem dX0_mayRule_40 : decode cX0_mayRule 40 = .ok (.iload_n 2, 1) := by decide +kernel
theorem dX0_mayRule_41 : decode cX0_mayRule 41 = .ok (.goto 9, 3) := by decide +kernel
theorem dX0_mayRule_44 : decode cX0_mayRule 44 = .ok (.aload_n 0, 1) := by decide +kernel
theorem dX0_mayRule_45 : decode cX0_mayRule 45 = .ok (.getfield 26, 3) := by decide +kernel
theorem dX0_mayRule_48 : decode cX0_mayRule 48 = .ok (.iconst 2, 1) := by decide +kernel
theorem dX0_mayRule_49 : decode cX0_mayRule 49 = .ok (.iaload, 1) := by decide +kernel
theorem dX0_mayRule_50 : decode cX0_mayRule 50 = .ok (.istore 4, 2) := by decide +kernel
theorem dX0_mayRule_52 : decode cX0_mayRule 52 = .ok (.iload 4, 2) := by decide +kernel
theorem dX0_mayRule_54 : decode cX0_mayRule 54 = .ok (.iload_n 3, 1) := by decide +kernel
theorem dX0_mayRule_55 : decode cX0_mayRule 55 = .ok (.if_icmp .ge 7, 3) := by decide +kernel
theorem dX0_mayRule_58 : decode cX0_mayRule 58 = .ok (.iconst 1, 1) := by decide +kernel
theorem dX0_mayRule_59 : decode cX0_mayRule 59 = .ok (.goto 4, 3) := by decide +kernel
theorem dX0_mayRule_62 : decode cX0_mayRule 62 = .ok (.iconst 0, 1) := by decide +kernel
theorem dX0_mayRule_63 : decode cX0_mayRule 63 = .ok (.ireturn, 1) := by decide +kernel
theorem dX0_canBreakAhead_0 : decode cX0_canBreakAhead 0 = .ok (.iload_n 1, 1) := by decide +kernel
theorem dX0_canBreakAhead_1 : decode cX0_canBreakAhead 1 = .ok (.iconst 1, 1) := by decide +kernel
theorem dX0_canBreakAhead_2 : decode cX0_canBreakAhead 2 = .ok (.if_icmp .lt 15, 3) := by decide +kernel
theorem dX0_canBreakAhead_5 : decode cX0_canBreakAhead 5 = .ok (.iload_n 1, 1) := by decide +kernel
theorem dX0_canBreakAhead_6 : decode cX0_canBreakAhead 6 = .ok (.aload_n 0, 1) := by decide +kernel
theorem dX0_canBreakAhead_7 : decode cX0_canBreakAhead 7 = .ok (.getfield 29, 3) := by decide +kernel
theorem dX0_canBreakAhead_10 : decode cX0_canBreakAhead 10 = .ok (.if_icmp .ge 7, 3) := by decide +kernel
theorem dX0_canBreakAhead_13 : decode cX0_canBreakAhead 13 = .ok (.iconst 1, 1) := by decide +kernel
theorem dX0_canBreakAhead_14 : decode cX0_canBreakAhead 14 = .ok (.goto 4, 3) := by decide +kernel
theorem dX0_canBreakAhead_17 : decode cX0_canBreakAhead 17 = .ok (.iconst 0, 1) := by decide +kernel
theorem dX0_canBreakAhead_18 : decode cX0_canBreakAhead 18 = .ok (.ireturn, 1) := by decide +kernel
theorem dX0_countBreaks_0 : decode cX0_countBreaks 0 = .ok (.iconst 0, 1) := by decide +kernel
theorem dX0_countBreaks_1 : decode cX0_countBreaks 1 = .ok (.istore_n 1, 1) := by decide +kernel
theorem dX0_countBreaks_2 : decode cX0_countBreaks 2 = .ok (.iconst 0, 1) := by decide +kernel
theorem dX0_countBreaks_3 : decode cX0_countBreaks 3 = .ok (.istore_n 2, 1) := by decide +kernel
theorem dX0_countBreaks_4 : decode cX0_countBreaks 4 = .ok (.iload_n 2, 1) := by decide +kernel
theorem dX0_countBreaks_5 : decode cX0_countBreaks 5 = .ok (.aload_n 0, 1) := by decide +kernel
theorem dX0_countBreaks_6 : decode cX0_countBreaks 6 = .ok (.getfield 29, 3) := by decide +kernel
theorem dX0_countBreaks_9 : decode cX0_countBreaks 9 = .ok (.if_icmp .ge 18, 3) := by decide +kernel
theorem dX0_countBreaks_12 : decode cX0_countBreaks 12 = .ok (.iload_n 1, 1) := by decide +kernel
theorem dX0_countBreaks_13 : decode cX0_countBreaks 13 = .ok (.aload_n 0, 1) := by decide +kernel
theorem dX0_countBreaks_14 : decode cX0_countBreaks 14 = .ok (.getfield 15, 3) := by decide +kernel
theorem dX0_countBreaks_17 : decode cX0_countBreaks 17 = .ok (.iload_n 2, 1) := by decide +kernel
theorem dX0_countBreaks_18 : decode cX0_countBreaks 18 = .ok (.iaload, 1) := by decide +kernel
theorem dX0_countBreaks_19 : decode cX0_countBreaks 19 = .ok (.iadd, 1) := by decide +kernel
theorem dX0_countBreaks_20 : decode cX0_countBreaks 20 = .ok (.istore_n 1, 1) := by decide +kernel
theorem dX0_countBreaks_21 : decode cX0_countBreaks 21 = .ok (.iinc 2 1, 3) := by decide +kernel
theorem dX0_countBreaks_24 : decode cX0_countBreaks 24 = .ok (.goto (-20), 3) := by decide +kernel
theorem dX0_countBreaks_27 : decode cX0_countBreaks 27 = .ok (.iload_n 1, 1) := by decide +kernel
theorem dX0_countBreaks_28 : decode cX0_countBreaks 28 = .ok (.ireturn, 1) := by decide +kernel
set_option maxRecDepth 20000 in
theorem ggX0_countSections_X3_classOf : GoodIn wsX0_countSections wsX3_classOf := goodIn_r _ [4] (by decide +kernel) (by decide +kernel)
set_option maxRecDepth 20000 in
theorem gX0_countSections_X3_classOf_n51 : GoodIn wsX0_countSections (wsX3_classOf) := ggX0_countSections_X3_classOf
theorem dX0_countSections_0 : decode cX0_countSections 0 = .ok (.iconst 0, 1) := by decide +kernel
theorem dX0_countSections_1 : decode cX0_countSections 1 = .ok (.istore_n 3, 1) := by decide +kernel
theorem dX0_countSections_2 : decode cX0_countSections 2 = .ok (.iload_n 1, 1) := by decide +kernel
theorem dX0_countSections_3 : decode cX0_countSections 3 = .ok (.istore 4, 2) := by decide +kernel
theorem dX0_countSections_5 : decode cX0_countSections 5 = .ok (.iload 4, 2) := by decide +kernel
theorem dX0_countSections_7 : decode cX0_countSections 7 = .ok (.iload_n 2, 1) := by decide +kernel
theorem dX0_countSections_8 : decode cX0_countSections 8 = .ok (.if_icmp .gt 26, 3) := by decide +kernel
theorem dX0_countSections_11 : decode cX0_countSections 11 = .ok (.aload_n 0, 1) := by decide +kernel
theorem dX0_countSections_12 : decode cX0_countSections 12 = .ok (.getfield 9, 3) := by decide +kernel
theorem dX0_countSections_15 : decode cX0_countSections 15 = .ok (.iload 4, 2) := by decide +kernel
theorem dX0_countSections_17 : decode cX0_countSections 17 = .ok (.iaload, 1) := by decide +kernel
theorem dX0_countSections_18 : decode cX0_countSections 18 = .ok (.invokestatic 51, 3) := by decide +kernel
theorem dX0_countSections_21 : decode cX0_countSections 21 = .ok (.iconst 1, 1) := by decide +kernel
theorem dX0_countSections_22 : decode cX0_countSections 22 = .ok (.if_icmp .ne 6, 3) := by decide +kernel
theorem dX0_countSections_25 : decode cX0_countSections 25 = .ok (.iinc 3 1, 3) := by decide +kernel
theorem dX0_countSections_28 : decode cX0_countSections 28 = .ok (.iinc 4 1, 3) := by decide +kernel
theorem dX0_countSections_31 : decode cX0_countSections 31 = .ok (.goto (-26), 3) := by decide +kernel
theorem dX0_countSections_34 : decode cX0_countSections 34 = .ok (.iload_n 3, 1) := by decide +kernel
theorem dX0_countSections_35 : decode cX0_countSections 35 = .ok (.ireturn, 1) := by decide +kernel
theorem dX1_init_0 : decode cX1_init 0 = .ok (.aload_n 0, 1) := by decide +kernel
theorem dX1_init_1 : decode cX1_init 1 = .ok (.invokespecial 3, 3) := by decide +kernel
theorem dX1_init_4 : decode cX1_init 4 = .ok (.aload_n 0, 1) := by decide +kernel
theorem dX1_init_5 : decode cX1_init 5 = .ok (.bipush 60, 2) := by decide +kernel
theorem dX1_init_7 : decode cX1_init 7 = .ok (.newarray .int, 2) := by decide +kernel
theorem dX1_init_9 : decode cX1_init 9 = .ok (.putfield 9, 3) := by decide +kernel
theorem dX1_init_12 : decode cX1_init 12 = .ok (.aload_n 0, 1) := by decide +kernel
theorem dX1_init_13 : decode cX1_init 13 = .ok (.bipush 60, 2) := by decide +kernel
theorem dX1_init_15 : decode cX1_init 15 = .ok (.newarray .int, 2) := by decide +kernel
theorem dX1_init_17 : decode cX1_init 17 = .ok (.putfield 15, 3) := by decide +kernel
theorem dX1_init_20 : decode cX1_init 20 = .ok (.aload_n 0, 1) := by decide +kernel
theorem dX1_init_21 : decode cX1_init 21 = .ok (.iconst 2, 1) := by decide +kernel
theorem dX1_init_22 : decode cX1_init 22 = .ok (.bipush 60, 2) := by decide +kernel
theorem dX1_init_24 : decode cX1_init 24 = .ok (.multianewarray 18 2, 4) := by decide +kernel
theorem dX1_init_28 : decode cX1_init 28 = .ok (.putfield 20, 3) := by decide +kernel
theorem dX1_init_31 : decode cX1_init 31 = .ok (.aload_n 0, 1) := by decide +kernel
theorem dX1_init_32 : decode cX1_init 32 = .ok (.bipush 120, 2) := by decide +kernel
theorem dX1_init_34 : decode cX1_init 34 = .ok (.newarray .int, 2) := by decide +kernel
theorem dX1_init_36 : decode cX1_init 36 = .ok (.putfield 23, 3) := by decide +kernel
theorem dX1_init_39 : decode cX1_init 39 = .ok (.aload_n 0, 1) := by decide +kernel
theorem dX1_init_40 : decode cX1_init 40 = .ok (.bipush 120, 2) := by decide +kernel
theorem dX1_init_42 : decode cX1_init 42 = .ok (.newarray .int, 2) := by decide +kernel
theorem dX1_init_44 : decode cX1_init 44 = .ok (.putfield 26, 3) := by decide +kernel
theorem dX1_init_47 : decode cX1_init 47 = .ok (.aload_n 0, 1) := by decide +kernel
theorem dX1_init_48 : decode cX1_init 48 = .ok (.iconst 2, 1) := by decide +kernel
theorem dX1_init_49 : decode cX1_init 49 = .ok (.bipush 120, 2) := by decide +kernel
theorem dX1_init_51 : decode cX1_init 51 = .ok (.multianewarray 18 2, 4) := by decide +kernel
theorem dX1_init_55 : decode cX1_init 55 = .ok (.putfield 29, 3) := by decide +kernel
theorem dX1_init_58 : decode cX1_init 58 = .ok (.aload_n 0, 1) := by decide +kernel
theorem dX1_init_59 : decode cX1_init 59 = .ok (.bipush 120, 2) := by decide +kernel
theorem dX1_init_61 : decode cX1_init 61 = .ok (.newarray .int, 2) := by decide +kernel
theorem dX1_init_63 : decode cX1_init 63 = .ok (.putfield 32, 3) := by decide +kernel
theorem dX1_init_66 : decode cX1_init 66 = .ok (.aload_n 0, 1) := by decide +kernel
theorem dX1_init_67 : decode cX1_init 67 = .ok (.iconst 0, 1) := by decide +kernel
theorem dX1_init_68 : decode cX1_init 68 = .ok (.putfield 35, 3) := by decide +kernel
theorem dX1_init_71 : decode cX1_init 71 = .ok (.aload_n 0, 1) := by decide +kernel
theorem dX1_init_72 : decode cX1_init 72 = .ok (.iconst 0, 1) := by decide +kernel
theorem dX1_init_73 : decode cX1_init 73 = .ok (.putfield 39, 3) := by decide +kernel
theorem dX1_init_76 : decode cX1_init 76 = .ok (.return_, 1) := by decide +kernel
set_option maxRecDepth 20000 in
theorem ggX1_lay_X1_opensPage : GoodIn wsX1_lay wsX1_opensPage := goodIn_r _ [10, 11, 12, 3, 13, 14, 15, 16, 53, 54, 55, 56, 57, 58, 59, 60, 61, 62, 63, 64, 65] (by decide +kernel) (by decide +kernel)
set_option maxRecDepth 20000 in
theorem gX1_lay_X1_opensPage : GoodIn wsX1_lay (wsV RX1 48 RX1 yX1_opensPage wsX1_opensPage) := goodIn_app (goodIn_of _ (by decide +kernel)) ggX1_lay_X1_opensPage
set_option maxRecDepth 20000 in
theorem ggX1_lay_X1_turnPage : GoodIn wsX1_lay wsX1_turnPage := goodIn_r _ [20, 13, 11, 3, 21, 22, 23, 9, 24, 25, 12, 26, 14, 15, 16, 27, 28, 29, 53, 54, 55, 56, 57, 58, 59, 60, 61, 62, 63, 64, 65] (by decide +kernel) (by decide +kernel)
set_option maxRecDepth 20000 in
theorem gX1_lay_X1_turnPage : GoodIn wsX1_lay (wsV RX1 52 RX1 yX1_turnPage wsX1_turnPage) := goodIn_app (goodIn_of _ (by decide +kernel)) ggX1_lay_X1_turnPage
set_option maxRecDepth 20000 in
theorem ggX1_lay_X1_putLine : GoodIn wsX1_lay wsX1_putLine := goodIn_r _ [33, 34, 3, 12, 35, 36, 11, 37, 38, 39, 9, 40, 14, 15, 16, 41, 42, 43, 44, 26, 13, 57, 58, 59, 60, 61, 62, 63, 64, 65, 53, 54, 55, 56] (by decide +kernel) (by decide +kernel)
set_option maxRecDepth 20000 in
theorem gX1_lay_X1_putLine : GoodIn wsX1_lay (wsV RX1 56 RX1 yX1_putLine wsX1_putLine) := goodIn_app (goodIn_of _ (by decide +kernel)) ggX1_lay_X1_putLine
set_option maxRecDepth 20000 in
theorem ggX1_lay_X1_headOf : GoodIn wsX1_lay wsX1_headOf := goodIn_r _ [48, 12, 13, 11, 25, 14, 15, 16, 27, 28, 9, 29, 49, 50, 51, 52, 26, 37, 38, 39, 40, 36, 57, 58, 59, 60, 61, 62, 63, 64, 65, 53, 54, 55, 56] (by decide +kernel) (by decide +kernel)
set_option maxRecDepth 20000 in
theorem gX1_lay_X1_headOf : GoodIn wsX1_lay (wsV RX1 59 RX1 yX1_headOf wsX1_headOf) := goodIn_app (goodIn_of _ (by decide +kernel)) ggX1_lay_X1_headOf
theorem dX1_lay_0 : decode cX1_lay 0 = .ok (.aload_n 0, 1) := by decide +kernel
theorem dX1_lay_1 : decode cX1_lay 1 = .ok (.aload_n 1, 1) := by decide +kernel
theorem dX1_lay_2 : decode cX1_lay 2 = .ok (.getfield 42, 3) := by decide +kernel
theorem dX1_lay_5 : decode cX1_lay 5 = .ok (.putfield 35, 3) := by decide +kernel
theorem dX1_lay_8 : decode cX1_lay 8 = .ok (.aload_n 0, 1) := by decide +kernel
theorem dX1_lay_9 : decode cX1_lay 9 = .ok (.iconst 0, 1) := by decide +kernel
theorem dX1_lay_10 : decode cX1_lay 10 = .ok (.putfield 39, 3) := by decide +kernel
theorem dX1_lay_13 : decode cX1_lay 13 = .ok (.iconst 0, 1) := by decide +kernel
theorem dX1_lay_14 : decode cX1_lay 14 = .ok (.istore 4, 2) := by decide +kernel
theorem dX1_lay_16 : decode cX1_lay 16 = .ok (.iload 4, 2) := by decide +kernel
theorem dX1_lay_18 : decode cX1_lay 18 = .ok (.aload_n 0, 1) := by decide +kernel
theorem dX1_lay_19 : decode cX1_lay 19 = .ok (.getfield 35, 3) := by decide +kernel
theorem dX1_lay_22 : decode cX1_lay 22 = .ok (.if_icmp .ge 81, 3) := by decide +kernel
theorem dX1_lay_25 : decode cX1_lay 25 = .ok (.aload_n 1, 1) := by decide +kernel
theorem dX1_lay_26 : decode cX1_lay 26 = .ok (.getfield 45, 3) := by decide +kernel
theorem dX1_lay_29 : decode cX1_lay 29 = .ok (.iload 4, 2) := by decide +kernel
theorem dX1_lay_31 : decode cX1_lay 31 = .ok (.iaload, 1) := by decide +kernel
theorem dX1_lay_32 : decode cX1_lay 32 = .ok (.iconst 1, 1) := by decide +kernel
theorem dX1_lay_33 : decode cX1_lay 33 = .ok (.if_icmp .ne 7, 3) := by decide +kernel
theorem dX1_lay_36 : decode cX1_lay 36 = .ok (.iconst 1, 1) := by decide +kernel
theorem dX1_lay_37 : decode cX1_lay 37 = .ok (.goto 4, 3) := by decide +kernel
theorem dX1_lay_40 : decode cX1_lay 40 = .ok (.iconst 0, 1) := by decide +kernel
theorem dX1_lay_41 : decode cX1_lay 41 = .ok (.iload 4, 2) := by decide +kernel
theorem dX1_lay_43 : decode cX1_lay 43 = .ok (.iload_n 3, 1) := by decide +kernel
theorem dX1_lay_44 : decode cX1_lay 44 = .ok (.if_icmp .ne 7, 3) := by decide +kernel
theorem dX1_lay_47 : decode cX1_lay 47 = .ok (.iconst 1, 1) := by decide +kernel
theorem dX1_lay_48 : decode cX1_lay 48 = .ok (.goto 4, 3) := by decide +kernel
theorem dX1_lay_51 : decode cX1_lay 51 = .ok (.iconst 0, 1) := by decide +kernel
theorem dX1_lay_52 : decode cX1_lay 52 = .ok (.if_icmp .eq 7, 3) := by decide +kernel
theorem dX1_lay_55 : decode cX1_lay 55 = .ok (.iconst 1, 1) := by decide +kernel
theorem dX1_lay_56 : decode cX1_lay 56 = .ok (.goto 4, 3) := by decide +kernel
theorem dX1_lay_59 : decode cX1_lay 59 = .ok (.iconst 0, 1) := by decide +kernel
theorem dX1_lay_60 : decode cX1_lay 60 = .ok (.istore 5, 2) := by decide +kernel
theorem dX1_lay_62 : decode cX1_lay 62 = .ok (.iload 4, 2) := by decide +kernel
theorem dX1_lay_64 : decode cX1_lay 64 = .ok (.ifCond .eq 19, 3) := by decide +kernel
theorem dX1_lay_67 : decode cX1_lay 67 = .ok (.iload 5, 2) := by decide +kernel
theorem dX1_lay_69 : decode cX1_lay 69 = .ok (.ifCond .ne 14, 3) := by decide +kernel
theorem dX1_lay_72 : decode cX1_lay 72 = .ok (.aload_n 0, 1) := by decide +kernel
theorem dX1_lay_73 : decode cX1_lay 73 = .ok (.aload_n 1, 1) := by decide +kernel
theorem dX1_lay_74 : decode cX1_lay 74 = .ok (.iload 4, 2) := by decide +kernel
theorem dX1_lay_76 : decode cX1_lay 76 = .ok (.iload_n 2, 1) := by decide +kernel
theorem dX1_lay_77 : decode cX1_lay 77 = .ok (.invokevirtual 48, 3) := by decide +kernel
theorem dX1_lay_80 : decode cX1_lay 80 = .ok (.ifCond .eq 10, 3) := by decide +kernel
theorem dX1_lay_83 : decode cX1_lay 83 = .ok (.aload_n 0, 1) := by decide +kernel
theorem dX1_lay_84 : decode cX1_lay 84 = .ok (.aload_n 1, 1) := by decide +kernel
theorem dX1_lay_85 : decode cX1_lay 85 = .ok (.iload 4, 2) := by decide +kernel
theorem dX1_lay_87 : decode cX1_lay 87 = .ok (.invokevirtual 52, 3) := by decide +kernel
theorem dX1_lay_90 : decode cX1_lay 90 = .ok (.aload_n 0, 1) := by decide +kernel
theorem dX1_lay_91 : decode cX1_lay 91 = .ok (.aload_n 1, 1) := by decide +kernel
theorem dX1_lay_92 : decode cX1_lay 92 = .ok (.iload 4, 2) := by decide +kernel
theorem dX1_lay_94 : decode cX1_lay 94 = .ok (.invokevirtual 56, 3) := by decide +kernel
theorem dX1_lay_97 : decode cX1_lay 97 = .ok (.iinc 4 1, 3) := by decide +kernel
theorem dX1_lay_100 : decode cX1_lay 100 = .ok (.goto (-84), 3) := by decide +kernel
theorem dX1_lay_103 : decode cX1_lay 103 = .ok (.iconst 1, 1) := by decide +kernel
theorem dX1_lay_104 : decode cX1_lay 104 = .ok (.istore 4, 2) := by decide +kernel
theorem dX1_lay_106 : decode cX1_lay 106 = .ok (.iload 4, 2) := by decide +kernel
theorem dX1_lay_108 : decode cX1_lay 108 = .ok (.aload_n 0, 1) := by decide +kernel
theorem dX1_lay_109 : decode cX1_lay 109 = .ok (.getfield 39, 3) := by decide +kernel
theorem dX1_lay_112 : decode cX1_lay 112 = .ok (.if_icmp .gt 23, 3) := by decide +kernel
theorem dX1_lay_115 : decode cX1_lay 115 = .ok (.aload_n 0, 1) := by decide +kernel
theorem dX1_lay_116 : decode cX1_lay 116 = .ok (.getfield 32, 3) := by decide +kernel
theorem dX1_lay_119 : decode cX1_lay 119 = .ok (.iload 4, 2) := by decide +kernel
theorem dX1_lay_121 : decode cX1_lay 121 = .ok (.aload_n 0, 1) := by decide +kernel
theorem dX1_lay_122 : decode cX1_lay 122 = .ok (.aload_n 1, 1) := by decide +kernel
theorem dX1_lay_123 : decode cX1_lay 123 = .ok (.iload 4, 2) := by decide +kernel
theorem dX1_lay_125 : decode cX1_lay 125 = .ok (.invokevirtual 59, 3) := by decide +kernel
theorem dX1_lay_128 : decode cX1_lay 128 = .ok (.iastore, 1) := by decide +kernel
theorem dX1_lay_129 : decode cX1_lay 129 = .ok (.iinc 4 1, 3) := by decide +kernel
theorem dX1_lay_132 : decode cX1_lay 132 = .ok (.goto (-26), 3) := by decide +kernel
theorem dX1_lay_135 : decode cX1_lay 135 = .ok (.return_, 1) := by decide +kernel
set_option maxRecDepth 20000 in
theorem ggX1_opensPage_X3_classOf : GoodIn wsX1_opensPage wsX3_classOf := goodIn_r _ [7] (by decide +kernel) (by decide +kernel)
set_option maxRecDepth 20000 in
theorem gX1_opensPage_X3_classOf_n66 : GoodIn wsX1_opensPage (wsX3_classOf) := ggX1_opensPage_X3_classOf
theorem dX1_opensPage_0 : decode cX1_opensPage 0 = .ok (.aload_n 1, 1) := by decide +kernel
theorem dX1_opensPage_1 : decode cX1_opensPage 1 = .ok (.getfield 63, 3) := by decide +kernel
theorem dX1_opensPage_4 : decode cX1_opensPage 4 = .ok (.iload_n 2, 1) := by decide +kernel
theorem dX1_opensPage_5 : decode cX1_opensPage 5 = .ok (.iaload, 1) := by decide +kernel
theorem dX1_opensPage_6 : decode cX1_opensPage 6 = .ok (.invokestatic 66, 3) := by decide +kernel
theorem dX1_opensPage_9 : decode cX1_opensPage 9 = .ok (.istore 4, 2) := by decide +kernel
theorem dX1_opensPage_11 : decode cX1_opensPage 11 = .ok (.iload_n 3, 1) := by decide +kernel
theorem dX1_opensPage_12 : decode cX1_opensPage 12 = .ok (.aload_n 0, 1) := by decide +kernel
theorem dX1_opensPage_13 : decode cX1_opensPage 13 = .ok (.getfield 26, 3) := by decide +kernel
theorem dX1_opensPage_16 : decode cX1_opensPage 16 = .ok (.aload_n 0, 1) := by decide +kernel
theorem dX1_opensPage_17 : decode cX1_opensPage 17 = .ok (.getfield 39, 3) := by decide +kernel
theorem dX1_opensPage_20 : decode cX1_opensPage 20 = .ok (.iaload, 1) := by decide +kernel
theorem dX1_opensPage_21 : decode cX1_opensPage 21 = .ok (.isub, 1) := by decide +kernel
theorem dX1_opensPage_22 : decode cX1_opensPage 22 = .ok (.iconst 1, 1) := by decide +kernel
theorem dX1_opensPage_23 : decode cX1_opensPage 23 = .ok (.isub, 1) := by decide +kernel
theorem dX1_opensPage_24 : decode cX1_opensPage 24 = .ok (.istore 5, 2) := by decide +kernel
theorem dX1_opensPage_26 : decode cX1_opensPage 26 = .ok (.iload 5, 2) := by decide +kernel
theorem dX1_opensPage_28 : decode cX1_opensPage 28 = .ok (.ifCond .lt 35, 3) := by decide +kernel
theorem dX1_opensPage_31 : decode cX1_opensPage 31 = .ok (.iload 4, 2) := by decide +kernel
theorem dX1_opensPage_33 : decode cX1_opensPage 33 = .ok (.ifCond .ne 12, 3) := by decide +kernel
theorem dX1_opensPage_36 : decode cX1_opensPage 36 = .ok (.aload_n 1, 1) := by decide +kernel
theorem dX1_opensPage_37 : decode cX1_opensPage 37 = .ok (.getfield 70, 3) := by decide +kernel
theorem dX1_opensPage_40 : decode cX1_opensPage 40 = .ok (.iconst 1, 1) := by decide +kernel
theorem dX1_opensPage_41 : decode cX1_opensPage 41 = .ok (.iaload, 1) := by decide +kernel
theorem dX1_opensPage_42 : decode cX1_opensPage 42 = .ok (.ifCond .ne 21, 3) := by decide +kernel
theorem dX1_opensPage_45 : decode cX1_opensPage 45 = .ok (.iload 4, 2) := by decide +kernel
theorem dX1_opensPage_47 : decode cX1_opensPage 47 = .ok (.bipush (-6), 2) := by decide +kernel
theorem dX1_opensPage_49 : decode cX1_opensPage 49 = .ok (.if_icmp .eq 18, 3) := by decide +kernel
theorem dX1_opensPage_52 : decode cX1_opensPage 52 = .ok (.iload 5, 2) := by decide +kernel
theorem dX1_opensPage_54 : decode cX1_opensPage 54 = .ok (.aload_n 1, 1) := by decide +kernel
theorem dX1_opensPage_55 : decode cX1_opensPage 55 = .ok (.getfield 70, 3) := by decide +kernel
theorem dX1_opensPage_58 : decode cX1_opensPage 58 = .ok (.iconst 2, 1) := by decide +kernel
theorem dX1_opensPage_59 : decode cX1_opensPage 59 = .ok (.iaload, 1) := by decide +kernel
theorem dX1_opensPage_60 : decode cX1_opensPage 60 = .ok (.if_icmp .ge 7, 3) := by decide +kernel
theorem dX1_opensPage_63 : decode cX1_opensPage 63 = .ok (.iconst 1, 1) := by decide +kernel
theorem dX1_opensPage_64 : decode cX1_opensPage 64 = .ok (.goto 4, 3) := by decide +kernel
theorem dX1_opensPage_67 : decode cX1_opensPage 67 = .ok (.iconst 0, 1) := by decide +kernel
theorem dX1_opensPage_68 : decode cX1_opensPage 68 = .ok (.ireturn, 1) := by decide +kernel
set_option maxRecDepth 20000 in
theorem ggX1_turnPage_X1_addPage : GoodIn wsX1_turnPage wsX1_addPage := goodIn_r _ [8, 3, 9, 10, 11, 22, 23, 24, 25, 26, 27, 28, 29, 30] (by decide +kernel) (by decide +kernel)
set_option maxRecDepth 20000 in
theorem gX1_turnPage_X1_addPage : GoodIn wsX1_turnPage (wsV RX1 73 RX1 yX1_addPage wsX1_addPage) := goodIn_app (goodIn_of _ (by decide +kernel)) ggX1_turnPage_X1_addPage
set_option maxRecDepth 20000 in
theorem ggX1_turnPage_X3_classOf : GoodIn wsX1_turnPage wsX3_classOf := goodIn_r _ [14] (by decide +kernel) (by decide +kernel)
set_option maxRecDepth 20000 in
theorem gX1_turnPage_X3_classOf_n66 : GoodIn wsX1_turnPage (wsX3_classOf) := ggX1_turnPage_X3_classOf
set_option maxRecDepth 20000 in
theorem ggX1_turnPage_X1_isLeft : GoodIn wsX1_turnPage wsX1_isLeft := goodIn_r _ [17] (by decide +kernel) (by decide +kernel)
set_option maxRecDepth 20000 in
theorem gX1_turnPage_X1_isLeft : GoodIn wsX1_turnPage (va_wsS RX1 77 yX1_isLeft wsX1_isLeft) := goodIn_app (goodIn_of _ (by decide +kernel)) ggX1_turnPage_X1_isLeft
theorem dX1_turnPage_0 : decode cX1_turnPage 0 = .ok (.aload_n 0, 1) := by decide +kernel
theorem dX1_turnPage_1 : decode cX1_turnPage 1 = .ok (.iload_n 2, 1) := by decide +kernel
theorem dX1_turnPage_2 : decode cX1_turnPage 2 = .ok (.invokevirtual 73, 3) := by decide +kernel
theorem dX1_turnPage_5 : decode cX1_turnPage 5 = .ok (.aload_n 1, 1) := by decide +kernel
theorem dX1_turnPage_6 : decode cX1_turnPage 6 = .ok (.getfield 70, 3) := by decide +kernel
theorem dX1_turnPage_9 : decode cX1_turnPage 9 = .ok (.iconst 1, 1) := by decide +kernel
theorem dX1_turnPage_10 : decode cX1_turnPage 10 = .ok (.iaload, 1) := by decide +kernel
theorem dX1_turnPage_11 : decode cX1_turnPage 11 = .ok (.iconst 2, 1) := by decide +kernel
theorem dX1_turnPage_12 : decode cX1_turnPage 12 = .ok (.if_icmp .ne 19, 3) := by decide +kernel
theorem dX1_turnPage_15 : decode cX1_turnPage 15 = .ok (.aload_n 1, 1) := by decide +kernel
theorem dX1_turnPage_16 : decode cX1_turnPage 16 = .ok (.getfield 63, 3) := by decide +kernel
theorem dX1_turnPage_19 : decode cX1_turnPage 19 = .ok (.iload_n 2, 1) := by decide +kernel
theorem dX1_turnPage_20 : decode cX1_turnPage 20 = .ok (.iaload, 1) := by decide +kernel
theorem dX1_turnPage_21 : decode cX1_turnPage 21 = .ok (.invokestatic 66, 3) := by decide +kernel
theorem dX1_turnPage_24 : decode cX1_turnPage 24 = .ok (.ifCond .ne 7, 3) := by decide +kernel
theorem dX1_turnPage_27 : decode cX1_turnPage 27 = .ok (.iconst 1, 1) := by decide +kernel
theorem dX1_turnPage_28 : decode cX1_turnPage 28 = .ok (.goto 4, 3) := by decide +kernel
theorem dX1_turnPage_31 : decode cX1_turnPage 31 = .ok (.iconst 0, 1) := by decide +kernel
theorem dX1_turnPage_32 : decode cX1_turnPage 32 = .ok (.istore_n 3, 1) := by decide +kernel
theorem dX1_turnPage_33 : decode cX1_turnPage 33 = .ok (.iload_n 3, 1) := by decide +kernel
theorem dX1_turnPage_34 : decode cX1_turnPage 34 = .ok (.ifCond .eq 18, 3) := by decide +kernel
theorem dX1_turnPage_37 : decode cX1_turnPage 37 = .ok (.aload_n 0, 1) := by decide +kernel
theorem dX1_turnPage_38 : decode cX1_turnPage 38 = .ok (.getfield 39, 3) := by decide +kernel
theorem dX1_turnPage_41 : decode cX1_turnPage 41 = .ok (.invokestatic 77, 3) := by decide +kernel
theorem dX1_turnPage_44 : decode cX1_turnPage 44 = .ok (.ifCond .eq 8, 3) := by decide +kernel
theorem dX1_turnPage_47 : decode cX1_turnPage 47 = .ok (.aload_n 0, 1) := by decide +kernel
theorem dX1_turnPage_48 : decode cX1_turnPage 48 = .ok (.iload_n 2, 1) := by decide +kernel
theorem dX1_turnPage_49 : decode cX1_turnPage 49 = .ok (.invokevirtual 73, 3) := by decide +kernel
theorem dX1_turnPage_52 : decode cX1_turnPage 52 = .ok (.return_, 1) := by decide +kernel
theorem dX1_addPage_0 : decode cX1_addPage 0 = .ok (.aload_n 0, 1) := by decide +kernel
theorem dX1_addPage_1 : decode cX1_addPage 1 = .ok (.getfield 39, 3) := by decide +kernel
theorem dX1_addPage_4 : decode cX1_addPage 4 = .ok (.bipush 119, 2) := by decide +kernel
theorem dX1_addPage_6 : decode cX1_addPage 6 = .ok (.if_icmp .lt 4, 3) := by decide +kernel
theorem dX1_addPage_9 : decode cX1_addPage 9 = .ok (.return_, 1) := by decide +kernel
theorem dX1_addPage_10 : decode cX1_addPage 10 = .ok (.aload_n 0, 1) := by decide +kernel
theorem dX1_addPage_11 : decode cX1_addPage 11 = .ok (.dup, 1) := by decide +kernel
theorem dX1_addPage_12 : decode cX1_addPage 12 = .ok (.getfield 39, 3) := by decide +kernel
theorem dX1_addPage_15 : decode cX1_addPage 15 = .ok (.iconst 1, 1) := by decide +kernel
theorem dX1_addPage_16 : decode cX1_addPage 16 = .ok (.iadd, 1) := by decide +kernel
theorem dX1_addPage_17 : decode cX1_addPage 17 = .ok (.putfield 39, 3) := by decide +kernel
theorem dX1_addPage_20 : decode cX1_addPage 20 = .ok (.aload_n 0, 1) := by decide +kernel
theorem dX1_addPage_21 : decode cX1_addPage 21 = .ok (.getfield 23, 3) := by decide +kernel
theorem dX1_addPage_24 : decode cX1_addPage 24 = .ok (.aload_n 0, 1) := by decide +kernel
theorem dX1_addPage_25 : decode cX1_addPage 25 = .ok (.getfield 39, 3) := by decide +kernel
theorem dX1_addPage_28 : decode cX1_addPage 28 = .ok (.iload_n 1, 1) := by decide +kernel
theorem dX1_addPage_29 : decode cX1_addPage 29 = .ok (.iastore, 1) := by decide +kernel
theorem dX1_addPage_30 : decode cX1_addPage 30 = .ok (.aload_n 0, 1) := by decide +kernel
theorem dX1_addPage_31 : decode cX1_addPage 31 = .ok (.getfield 26, 3) := by decide +kernel
theorem dX1_addPage_34 : decode cX1_addPage 34 = .ok (.aload_n 0, 1) := by decide +kernel
theorem dX1_addPage_35 : decode cX1_addPage 35 = .ok (.getfield 39, 3) := by decide +kernel
theorem dX1_addPage_38 : decode cX1_addPage 38 = .ok (.iconst 0, 1) := by decide +kernel
theorem dX1_addPage_39 : decode cX1_addPage 39 = .ok (.iastore, 1) := by decide +kernel
theorem dX1_addPage_40 : decode cX1_addPage 40 = .ok (.iconst 0, 1) := by decide +kernel
theorem dX1_addPage_41 : decode cX1_addPage 41 = .ok (.istore_n 2, 1) := by decide +kernel
theorem dX1_addPage_42 : decode cX1_addPage 42 = .ok (.iload_n 2, 1) := by decide +kernel
theorem dX1_addPage_43 : decode cX1_addPage 43 = .ok (.iconst 2, 1) := by decide +kernel
theorem dX1_addPage_44 : decode cX1_addPage 44 = .ok (.if_icmp .ge 22, 3) := by decide +kernel
theorem dX1_addPage_47 : decode cX1_addPage 47 = .ok (.aload_n 0, 1) := by decide +kernel
theorem dX1_addPage_48 : decode cX1_addPage 48 = .ok (.getfield 29, 3) := by decide +kernel
theorem dX1_addPage_51 : decode cX1_addPage 51 = .ok (.iload_n 2, 1) := by decide +kernel
theorem dX1_addPage_52 : decode cX1_addPage 52 = .ok (.aaload, 1) := by decide +kernel
theorem dX1_addPage_53 : decode cX1_addPage 53 = .ok (.aload_n 0, 1) := by decide +kernel
theorem dX1_addPage_54 : decode cX1_addPage 54 = .ok (.getfield 39, 3) := by decide +kernel
theorem dX1_addPage_57 : decode cX1_addPage 57 = .ok (.bipush (-6), 2) := by decide +kernel
theorem dX1_addPage_59 : decode cX1_addPage 59 = .ok (.iastore, 1) := by decide +kernel
theorem dX1_addPage_60 : decode cX1_addPage 60 = .ok (.iinc 2 1, 3) := by decide +kernel
theorem dX1_addPage_63 : decode cX1_addPage 63 = .ok (.goto (-21), 3) := by decide +kernel
theorem dX1_addPage_66 : decode cX1_addPage 66 = .ok (.return_, 1) := by decide +kernel
set_option maxRecDepth 20000 in
theorem ggX1_putLine_X1_forceBehind : GoodIn wsX1_putLine wsX1_forceBehind := goodIn_r _ [11, 5, 21, 22, 23, 24, 25, 26, 27, 28, 29] (by decide +kernel) (by decide +kernel)
set_option maxRecDepth 20000 in
theorem gX1_putLine_X1_forceBehind : GoodIn wsX1_putLine (wsV RX1 81 RX1 yX1_forceBehind wsX1_forceBehind) := goodIn_app (goodIn_of _ (by decide +kernel)) ggX1_putLine_X1_forceBehind
set_option maxRecDepth 20000 in
theorem ggX1_putLine_X3_classOf : GoodIn wsX1_putLine wsX3_classOf := goodIn_r _ [14] (by decide +kernel) (by decide +kernel)
set_option maxRecDepth 20000 in
theorem gX1_putLine_X3_classOf_n66 : GoodIn wsX1_putLine (wsX3_classOf) := ggX1_putLine_X3_classOf
set_option maxRecDepth 20000 in
theorem ggX1_putLine_X1_putMark : GoodIn wsX1_putLine wsX1_putMark := goodIn_r _ [18, 5, 6, 19, 2, 4, 20, 21, 22, 23, 24, 25, 26, 27, 28, 29, 30, 31, 32, 33] (by decide +kernel) (by decide +kernel)
set_option maxRecDepth 20000 in
theorem gX1_putLine_X1_putMark : GoodIn wsX1_putLine (wsV RX1 85 RX1 yX1_putMark wsX1_putMark) := goodIn_app (goodIn_of _ (by decide +kernel)) ggX1_putLine_X1_putMark
theorem dX1_putLine_0 : decode cX1_putLine 0 = .ok (.aload_n 0, 1) := by decide +kernel
theorem dX1_putLine_1 : decode cX1_putLine 1 = .ok (.getfield 9, 3) := by decide +kernel
theorem dX1_putLine_4 : decode cX1_putLine 4 = .ok (.iload_n 2, 1) := by decide +kernel
theorem dX1_putLine_5 : decode cX1_putLine 5 = .ok (.aload_n 0, 1) := by decide +kernel
theorem dX1_putLine_6 : decode cX1_putLine 6 = .ok (.getfield 39, 3) := by decide +kernel
theorem dX1_putLine_9 : decode cX1_putLine 9 = .ok (.iastore, 1) := by decide +kernel
theorem dX1_putLine_10 : decode cX1_putLine 10 = .ok (.aload_n 0, 1) := by decide +kernel
theorem dX1_putLine_11 : decode cX1_putLine 11 = .ok (.getfield 26, 3) := by decide +kernel
theorem dX1_putLine_14 : decode cX1_putLine 14 = .ok (.aload_n 0, 1) := by decide +kernel
theorem dX1_putLine_15 : decode cX1_putLine 15 = .ok (.getfield 39, 3) := by decide +kernel
theorem dX1_putLine_18 : decode cX1_putLine 18 = .ok (.dup2, 1) := by decide +kernel
theorem dX1_putLine_19 : decode cX1_putLine 19 = .ok (.iaload, 1) := by decide +kernel
theorem dX1_putLine_20 : decode cX1_putLine 20 = .ok (.iconst 1, 1) := by decide +kernel
theorem dX1_putLine_21 : decode cX1_putLine 21 = .ok (.iadd, 1) := by decide +kernel
theorem dX1_putLine_22 : decode cX1_putLine 22 = .ok (.iastore, 1) := by decide +kernel
theorem dX1_putLine_23 : decode cX1_putLine 23 = .ok (.aload_n 0, 1) := by decide +kernel
theorem dX1_putLine_24 : decode cX1_putLine 24 = .ok (.getfield 15, 3) := by decide +kernel
theorem dX1_putLine_27 : decode cX1_putLine 27 = .ok (.iload_n 2, 1) := by decide +kernel
theorem dX1_putLine_28 : decode cX1_putLine 28 = .ok (.iload_n 2, 1) := by decide +kernel
theorem dX1_putLine_29 : decode cX1_putLine 29 = .ok (.ifCond .ne 7, 3) := by decide +kernel
theorem dX1_putLine_32 : decode cX1_putLine 32 = .ok (.iconst (-1), 1) := by decide +kernel
theorem dX1_putLine_33 : decode cX1_putLine 33 = .ok (.goto 11, 3) := by decide +kernel
theorem dX1_putLine_36 : decode cX1_putLine 36 = .ok (.aload_n 0, 1) := by decide +kernel
theorem dX1_putLine_37 : decode cX1_putLine 37 = .ok (.getfield 15, 3) := by decide +kernel
theorem dX1_putLine_40 : decode cX1_putLine 40 = .ok (.iload_n 2, 1) := by decide +kernel
theorem dX1_putLine_41 : decode cX1_putLine 41 = .ok (.iconst 1, 1) := by decide +kernel
theorem dX1_putLine_42 : decode cX1_putLine 42 = .ok (.isub, 1) := by decide +kernel
theorem dX1_putLine_43 : decode cX1_putLine 43 = .ok (.iaload, 1) := by decide +kernel
theorem dX1_putLine_44 : decode cX1_putLine 44 = .ok (.iastore, 1) := by decide +kernel
theorem dX1_putLine_45 : decode cX1_putLine 45 = .ok (.iconst 0, 1) := by decide +kernel
theorem dX1_putLine_46 : decode cX1_putLine 46 = .ok (.istore_n 3, 1) := by decide +kernel
theorem dX1_putLine_47 : decode cX1_putLine 47 = .ok (.iload_n 3, 1) := by decide +kernel
theorem dX1_putLine_48 : decode cX1_putLine 48 = .ok (.iconst 2, 1) := by decide +kernel
theorem dX1_putLine_49 : decode cX1_putLine 49 = .ok (.if_icmp .ge 23, 3) := by decide +kernel
theorem dX1_putLine_52 : decode cX1_putLine 52 = .ok (.aload_n 0, 1) := by decide +kernel
theorem dX1_putLine_53 : decode cX1_putLine 53 = .ok (.getfield 20, 3) := by decide +kernel
theorem dX1_putLine_56 : decode cX1_putLine 56 = .ok (.iload_n 3, 1) := by decide +kernel
theorem dX1_putLine_57 : decode cX1_putLine 57 = .ok (.aaload, 1) := by decide +kernel
theorem dX1_putLine_58 : decode cX1_putLine 58 = .ok (.iload_n 2, 1) := by decide +kernel
theorem dX1_putLine_59 : decode cX1_putLine 59 = .ok (.aload_n 0, 1) := by decide +kernel
theorem dX1_putLine_60 : decode cX1_putLine 60 = .ok (.iload_n 3, 1) := by decide +kernel
theorem dX1_putLine_61 : decode cX1_putLine 61 = .ok (.iload_n 2, 1) := by decide +kernel
theorem dX1_putLine_62 : decode cX1_putLine 62 = .ok (.invokevirtual 81, 3) := by decide +kernel
theorem dX1_putLine_65 : decode cX1_putLine 65 = .ok (.iastore, 1) := by decide +kernel
theorem dX1_putLine_66 : decode cX1_putLine 66 = .ok (.iinc 3 1, 3) := by decide +kernel
theorem dX1_putLine_69 : decode cX1_putLine 69 = .ok (.goto (-22), 3) := by decide +kernel
theorem dX1_putLine_72 : decode cX1_putLine 72 = .ok (.aload_n 1, 1) := by decide +kernel
theorem dX1_putLine_73 : decode cX1_putLine 73 = .ok (.getfield 63, 3) := by decide +kernel
theorem dX1_putLine_76 : decode cX1_putLine 76 = .ok (.iload_n 2, 1) := by decide +kernel
theorem dX1_putLine_77 : decode cX1_putLine 77 = .ok (.iaload, 1) := by decide +kernel
theorem dX1_putLine_78 : decode cX1_putLine 78 = .ok (.invokestatic 66, 3) := by decide +kernel
theorem dX1_putLine_81 : decode cX1_putLine 81 = .ok (.istore_n 3, 1) := by decide +kernel
theorem dX1_putLine_82 : decode cX1_putLine 82 = .ok (.iload_n 3, 1) := by decide +kernel
theorem dX1_putLine_83 : decode cX1_putLine 83 = .ok (.bipush (-6), 2) := by decide +kernel
theorem dX1_putLine_85 : decode cX1_putLine 85 = .ok (.if_icmp .eq 10, 3) := by decide +kernel
theorem dX1_putLine_88 : decode cX1_putLine 88 = .ok (.aload_n 0, 1) := by decide +kernel
theorem dX1_putLine_89 : decode cX1_putLine 89 = .ok (.aload_n 1, 1) := by decide +kernel
theorem dX1_putLine_90 : decode cX1_putLine 90 = .ok (.iload_n 2, 1) := by decide +kernel
theorem dX1_putLine_91 : decode cX1_putLine 91 = .ok (.iload_n 3, 1) := by decide +kernel
theorem dX1_putLine_92 : decode cX1_putLine 92 = .ok (.invokevirtual 85, 3) := by decide +kernel
theorem dX1_putLine_95 : decode cX1_putLine 95 = .ok (.return_, 1) := by decide +kernel
theorem dX1_putMark_0 : decode cX1_putMark 0 = .ok (.aload_n 0, 1) := by decide +kernel
theorem dX1_putMark_1 : decode cX1_putMark 1 = .ok (.getfield 20, 3) := by decide +kernel
theorem dX1_putMark_4 : decode cX1_putMark 4 = .ok (.iload_n 3, 1) := by decide +kernel
theorem dX1_putMark_5 : decode cX1_putMark 5 = .ok (.aaload, 1) := by decide +kernel
theorem dX1_putMark_6 : decode cX1_putMark 6 = .ok (.iload_n 2, 1) := by decide +kernel
theorem dX1_putMark_7 : decode cX1_putMark 7 = .ok (.aload_n 1, 1) := by decide +kernel
theorem dX1_putMark_8 : decode cX1_putMark 8 = .ok (.getfield 63, 3) := by decide +kernel
theorem dX1_putMark_11 : decode cX1_putMark 11 = .ok (.iload_n 2, 1) := by decide +kernel
theorem dX1_putMark_12 : decode cX1_putMark 12 = .ok (.iaload, 1) := by decide +kernel
theorem dX1_putMark_13 : decode cX1_putMark 13 = .ok (.iastore, 1) := by decide +kernel
theorem dX1_putMark_14 : decode cX1_putMark 14 = .ok (.aload_n 0, 1) := by decide +kernel
theorem dX1_putMark_15 : decode cX1_putMark 15 = .ok (.getfield 29, 3) := by decide +kernel
theorem dX1_putMark_18 : decode cX1_putMark 18 = .ok (.iload_n 3, 1) := by decide +kernel
theorem dX1_putMark_19 : decode cX1_putMark 19 = .ok (.aaload, 1) := by decide +kernel
theorem dX1_putMark_20 : decode cX1_putMark 20 = .ok (.aload_n 0, 1) := by decide +kernel
theorem dX1_putMark_21 : decode cX1_putMark 21 = .ok (.getfield 39, 3) := by decide +kernel
theorem dX1_putMark_24 : decode cX1_putMark 24 = .ok (.iaload, 1) := by decide +kernel
theorem dX1_putMark_25 : decode cX1_putMark 25 = .ok (.bipush (-6), 2) := by decide +kernel
theorem dX1_putMark_27 : decode cX1_putMark 27 = .ok (.if_icmp .ne 20, 3) := by decide +kernel
theorem dX1_putMark_30 : decode cX1_putMark 30 = .ok (.aload_n 0, 1) := by decide +kernel
theorem dX1_putMark_31 : decode cX1_putMark 31 = .ok (.getfield 29, 3) := by decide +kernel
theorem dX1_putMark_34 : decode cX1_putMark 34 = .ok (.iload_n 3, 1) := by decide +kernel
theorem dX1_putMark_35 : decode cX1_putMark 35 = .ok (.aaload, 1) := by decide +kernel
theorem dX1_putMark_36 : decode cX1_putMark 36 = .ok (.aload_n 0, 1) := by decide +kernel
theorem dX1_putMark_37 : decode cX1_putMark 37 = .ok (.getfield 39, 3) := by decide +kernel
theorem dX1_putMark_40 : decode cX1_putMark 40 = .ok (.aload_n 1, 1) := by decide +kernel
theorem dX1_putMark_41 : decode cX1_putMark 41 = .ok (.getfield 63, 3) := by decide +kernel
theorem dX1_putMark_44 : decode cX1_putMark 44 = .ok (.iload_n 2, 1) := by decide +kernel
theorem dX1_putMark_45 : decode cX1_putMark 45 = .ok (.iaload, 1) := by decide +kernel
theorem dX1_putMark_46 : decode cX1_putMark 46 = .ok (.iastore, 1) := by decide +kernel
theorem dX1_putMark_47 : decode cX1_putMark 47 = .ok (.iload_n 3, 1) := by decide +kernel
theorem dX1_putMark_48 : decode cX1_putMark 48 = .ok (.ifCond .ne 33, 3) := by decide +kernel
theorem dX1_putMark_51 : decode cX1_putMark 51 = .ok (.aload_n 0, 1) := by decide +kernel
theorem dX1_putMark_52 : decode cX1_putMark 52 = .ok (.getfield 15, 3) := by decide +kernel
theorem dX1_putMark_55 : decode cX1_putMark 55 = .ok (.iload_n 2, 1) := by decide +kernel
theorem dX1_putMark_56 : decode cX1_putMark 56 = .ok (.dup2, 1) := by decide +kernel
theorem dX1_putMark_57 : decode cX1_putMark 57 = .ok (.iaload, 1) := by decide +kernel
theorem dX1_putMark_58 : decode cX1_putMark 58 = .ok (.iconst 1, 1) := by decide +kernel
theorem dX1_putMark_59 : decode cX1_putMark 59 = .ok (.iadd, 1) := by decide +kernel
theorem dX1_putMark_60 : decode cX1_putMark 60 = .ok (.iastore, 1) := by decide +kernel
theorem dX1_putMark_61 : decode cX1_putMark 61 = .ok (.aload_n 1, 1) := by decide +kernel
theorem dX1_putMark_62 : decode cX1_putMark 62 = .ok (.getfield 70, 3) := by decide +kernel
theorem dX1_putMark_65 : decode cX1_putMark 65 = .ok (.iconst 3, 1) := by decide +kernel
theorem dX1_putMark_66 : decode cX1_putMark 66 = .ok (.iaload, 1) := by decide +kernel
theorem dX1_putMark_67 : decode cX1_putMark 67 = .ok (.iconst 1, 1) := by decide +kernel
theorem dX1_putMark_68 : decode cX1_putMark 68 = .ok (.if_icmp .ne 13, 3) := by decide +kernel
theorem dX1_putMark_71 : decode cX1_putMark 71 = .ok (.aload_n 0, 1) := by decide +kernel
theorem dX1_putMark_72 : decode cX1_putMark 72 = .ok (.getfield 20, 3) := by decide +kernel
theorem dX1_putMark_75 : decode cX1_putMark 75 = .ok (.iconst 1, 1) := by decide +kernel
theorem dX1_putMark_76 : decode cX1_putMark 76 = .ok (.aaload, 1) := by decide +kernel
theorem dX1_putMark_77 : decode cX1_putMark 77 = .ok (.iload_n 2, 1) := by decide +kernel
theorem dX1_putMark_78 : decode cX1_putMark 78 = .ok (.bipush (-6), 2) := by decide +kernel
theorem dX1_putMark_80 : decode cX1_putMark 80 = .ok (.iastore, 1) := by decide +kernel
theorem dX1_putMark_81 : decode cX1_putMark 81 = .ok (.return_, 1) := by decide +kernel
theorem dX1_forceBehind_0 : decode cX1_forceBehind 0 = .ok (.iload_n 2, 1) := by decide +kernel
theorem dX1_forceBehind_1 : decode cX1_forceBehind 1 = .ok (.ifCond .ne 8, 3) := by decide +kernel
theorem dX1_forceBehind_4 : decode cX1_forceBehind 4 = .ok (.bipush (-6), 2) := by decide +kernel
theorem dX1_forceBehind_6 : decode cX1_forceBehind 6 = .ok (.goto 13, 3) := by decide +kernel
theorem dX1_forceBehind_9 : decode cX1_forceBehind 9 = .ok (.aload_n 0, 1) := by decide +kernel
theorem dX1_forceBehind_10 : decode cX1_forceBehind 10 = .ok (.getfield 20, 3) := by decide +kernel
theorem dX1_forceBehind_13 : decode cX1_forceBehind 13 = .ok (.iload_n 1, 1) := by decide +kernel
theorem dX1_forceBehind_14 : decode cX1_forceBehind 14 = .ok (.aaload, 1) := by decide +kernel
theorem dX1_forceBehind_15 : decode cX1_forceBehind 15 = .ok (.iload_n 2, 1) := by decide +kernel
theorem dX1_forceBehind_16 : decode cX1_forceBehind 16 = .ok (.iconst 1, 1) := by decide +kernel
theorem dX1_forceBehind_17 : decode cX1_forceBehind 17 = .ok (.isub, 1) := by decide +kernel
theorem dX1_forceBehind_18 : decode cX1_forceBehind 18 = .ok (.iaload, 1) := by decide +kernel
theorem dX1_forceBehind_19 : decode cX1_forceBehind 19 = .ok (.ireturn, 1) := by decide +kernel
set_option maxRecDepth 20000 in
theorem ggX1_headOf_X3_classOf : GoodIn wsX1_headOf wsX3_classOf := goodIn_r _ [7] (by decide +kernel) (by decide +kernel)
set_option maxRecDepth 20000 in
theorem gX1_headOf_X3_classOf_n66 : GoodIn wsX1_headOf (wsX3_classOf) := ggX1_headOf_X3_classOf
set_option maxRecDepth 20000 in
theorem ggX1_headOf_X1_isLeft : GoodIn wsX1_headOf wsX1_isLeft := goodIn_r _ [11] (by decide +kernel) (by decide +kernel)
set_option maxRecDepth 20000 in
theorem gX1_headOf_X1_isLeft : GoodIn wsX1_headOf (va_wsS RX1 77 yX1_isLeft wsX1_isLeft) := goodIn_app (goodIn_of _ (by decide +kernel)) ggX1_headOf_X1_isLeft
set_option maxRecDepth 20000 in
theorem ggX1_headOf_X1_markOf : GoodIn wsX1_headOf wsX1_markOf := goodIn_r _ [15, 4, 1, 16, 17, 18, 19, 10, 20, 21, 22, 23, 24, 25, 26, 27, 28, 29, 30] (by decide +kernel) (by decide +kernel)
set_option maxRecDepth 20000 in
theorem gX1_headOf_X1_markOf : GoodIn wsX1_headOf (wsV RX1 89 RX1 yX1_markOf wsX1_markOf) := goodIn_app (goodIn_of _ (by decide +kernel)) ggX1_headOf_X1_markOf
theorem dX1_headOf_0 : decode cX1_headOf 0 = .ok (.aload_n 0, 1) := by decide +kernel
theorem dX1_headOf_1 : decode cX1_headOf 1 = .ok (.getfield 26, 3) := by decide +kernel
theorem dX1_headOf_4 : decode cX1_headOf 4 = .ok (.iload_n 2, 1) := by decide +kernel
theorem dX1_headOf_5 : decode cX1_headOf 5 = .ok (.iaload, 1) := by decide +kernel
theorem dX1_headOf_6 : decode cX1_headOf 6 = .ok (.ifCond .ne 6, 3) := by decide +kernel
theorem dX1_headOf_9 : decode cX1_headOf 9 = .ok (.bipush (-6), 2) := by decide +kernel
theorem dX1_headOf_11 : decode cX1_headOf 11 = .ok (.ireturn, 1) := by decide +kernel
theorem dX1_headOf_12 : decode cX1_headOf 12 = .ok (.aload_n 1, 1) := by decide +kernel
theorem dX1_headOf_13 : decode cX1_headOf 13 = .ok (.getfield 70, 3) := by decide +kernel
theorem dX1_headOf_16 : decode cX1_headOf 16 = .ok (.iconst 4, 1) := by decide +kernel
theorem dX1_headOf_17 : decode cX1_headOf 17 = .ok (.iaload, 1) := by decide +kernel
theorem dX1_headOf_18 : decode cX1_headOf 18 = .ok (.iconst 1, 1) := by decide +kernel
theorem dX1_headOf_19 : decode cX1_headOf 19 = .ok (.if_icmp .ne 23, 3) := by decide +kernel
theorem dX1_headOf_22 : decode cX1_headOf 22 = .ok (.aload_n 1, 1) := by decide +kernel
theorem dX1_headOf_23 : decode cX1_headOf 23 = .ok (.getfield 63, 3) := by decide +kernel
theorem dX1_headOf_26 : decode cX1_headOf 26 = .ok (.aload_n 0, 1) := by decide +kernel
theorem dX1_headOf_27 : decode cX1_headOf 27 = .ok (.getfield 23, 3) := by decide +kernel
theorem dX1_headOf_30 : decode cX1_headOf 30 = .ok (.iload_n 2, 1) := by decide +kernel
theorem dX1_headOf_31 : decode cX1_headOf 31 = .ok (.iaload, 1) := by decide +kernel
theorem dX1_headOf_32 : decode cX1_headOf 32 = .ok (.iaload, 1) := by decide +kernel
theorem dX1_headOf_33 : decode cX1_headOf 33 = .ok (.invokestatic 66, 3) := by decide +kernel
theorem dX1_headOf_36 : decode cX1_headOf 36 = .ok (.ifCond .ne 6, 3) := by decide +kernel
theorem dX1_headOf_39 : decode cX1_headOf 39 = .ok (.bipush (-6), 2) := by decide +kernel
theorem dX1_headOf_41 : decode cX1_headOf 41 = .ok (.ireturn, 1) := by decide +kernel
theorem dX1_headOf_42 : decode cX1_headOf 42 = .ok (.iload_n 2, 1) := by decide +kernel
theorem dX1_headOf_43 : decode cX1_headOf 43 = .ok (.invokestatic 77, 3) := by decide +kernel
theorem dX1_headOf_46 : decode cX1_headOf 46 = .ok (.ifCond .eq 12, 3) := by decide +kernel
theorem dX1_headOf_49 : decode cX1_headOf 49 = .ok (.aload_n 1, 1) := by decide +kernel
theorem dX1_headOf_50 : decode cX1_headOf 50 = .ok (.getfield 70, 3) := by decide +kernel
theorem dX1_headOf_53 : decode cX1_headOf 53 = .ok (.iconst 5, 1) := by decide +kernel
theorem dX1_headOf_54 : decode cX1_headOf 54 = .ok (.iaload, 1) := by decide +kernel
theorem dX1_headOf_55 : decode cX1_headOf 55 = .ok (.goto 10, 3) := by decide +kernel
theorem dX1_headOf_58 : decode cX1_headOf 58 = .ok (.aload_n 1, 1) := by decide +kernel
theorem dX1_headOf_59 : decode cX1_headOf 59 = .ok (.getfield 70, 3) := by decide +kernel
theorem dX1_headOf_62 : decode cX1_headOf 62 = .ok (.bipush 6, 2) := by decide +kernel
theorem dX1_headOf_64 : decode cX1_headOf 64 = .ok (.iaload, 1) := by decide +kernel
theorem dX1_headOf_65 : decode cX1_headOf 65 = .ok (.istore_n 3, 1) := by decide +kernel
theorem dX1_headOf_66 : decode cX1_headOf 66 = .ok (.iload_n 2, 1) := by decide +kernel
theorem dX1_headOf_67 : decode cX1_headOf 67 = .ok (.invokestatic 77, 3) := by decide +kernel
theorem dX1_headOf_70 : decode cX1_headOf 70 = .ok (.ifCond .eq 13, 3) := by decide +kernel
theorem dX1_headOf_73 : decode cX1_headOf 73 = .ok (.aload_n 1, 1) := by decide +kernel
theorem dX1_headOf_74 : decode cX1_headOf 74 = .ok (.getfield 70, 3) := by decide +kernel
theorem dX1_headOf_77 : decode cX1_headOf 77 = .ok (.bipush 7, 2) := by decide +kernel
theorem dX1_headOf_79 : decode cX1_headOf 79 = .ok (.iaload, 1) := by decide +kernel
theorem dX1_headOf_80 : decode cX1_headOf 80 = .ok (.goto 10, 3) := by decide +kernel
theorem dX1_headOf_83 : decode cX1_headOf 83 = .ok (.aload_n 1, 1) := by decide +kernel
theorem dX1_headOf_84 : decode cX1_headOf 84 = .ok (.getfield 70, 3) := by decide +kernel
theorem dX1_headOf_87 : decode cX1_headOf 87 = .ok (.bipush 8, 2) := by decide +kernel
theorem dX1_headOf_89 : decode cX1_headOf 89 = .ok (.iaload, 1) := by decide +kernel
theorem dX1_headOf_90 : decode cX1_headOf 90 = .ok (.istore 4, 2) := by decide +kernel
theorem dX1_headOf_92 : decode cX1_headOf 92 = .ok (.aload_n 0, 1) := by decide +kernel
theorem dX1_headOf_93 : decode cX1_headOf 93 = .ok (.iload_n 2, 1) := by decide +kernel
theorem dX1_headOf_94 : decode cX1_headOf 94 = .ok (.iload_n 3, 1) := by decide +kernel
theorem dX1_headOf_95 : decode cX1_headOf 95 = .ok (.iload 4, 2) := by decide +kernel
theorem dX1_headOf_97 : decode cX1_headOf 97 = .ok (.invokevirtual 89, 3) := by decide +kernel
theorem dX1_headOf_100 : decode cX1_headOf 100 = .ok (.ireturn, 1) := by decide +kernel
set_option maxRecDepth 20000 in
theorem ggX1_markOf_X1_forceBehind : GoodIn wsX1_markOf wsX1_forceBehind := goodIn_r _ [8, 9, 10, 11, 12, 13, 14, 15, 16, 17, 18] (by decide +kernel) (by decide +kernel)
set_option maxRecDepth 20000 in
theorem gX1_markOf_X1_forceBehind : GoodIn wsX1_markOf (wsV RX1 81 RX1 yX1_forceBehind wsX1_forceBehind) := goodIn_app (goodIn_of _ (by decide +kernel)) ggX1_markOf_X1_forceBehind
theorem dX1_markOf_0 : decode cX1_markOf 0 = .ok (.iload_n 3, 1) := by decide +kernel
theorem dX1_markOf_1 : decode cX1_markOf 1 = .ok (.iconst 2, 1) := by decide +kernel
theorem dX1_markOf_2 : decode cX1_markOf 2 = .ok (.if_icmp .ne 22, 3) := by decide +kernel
theorem dX1_markOf_5 : decode cX1_markOf 5 = .ok (.aload_n 0, 1) := by decide +kernel
theorem dX1_markOf_6 : decode cX1_markOf 6 = .ok (.iload_n 2, 1) := by decide +kernel
theorem dX1_markOf_7 : decode cX1_markOf 7 = .ok (.aload_n 0, 1) := by decide +kernel
theorem dX1_markOf_8 : decode cX1_markOf 8 = .ok (.getfield 23, 3) := by decide +kernel
theorem dX1_markOf_11 : decode cX1_markOf 11 = .ok (.iload_n 1, 1) := by decide +kernel
theorem dX1_markOf_12 : decode cX1_markOf 12 = .ok (.iaload, 1) := by decide +kernel
theorem dX1_markOf_13 : decode cX1_markOf 13 = .ok (.aload_n 0, 1) := by decide +kernel
theorem dX1_markOf_14 : decode cX1_markOf 14 = .ok (.getfield 26, 3) := by decide +kernel
theorem dX1_markOf_17 : decode cX1_markOf 17 = .ok (.iload_n 1, 1) := by decide +kernel
theorem dX1_markOf_18 : decode cX1_markOf 18 = .ok (.iaload, 1) := by decide +kernel
theorem dX1_markOf_19 : decode cX1_markOf 19 = .ok (.iadd, 1) := by decide +kernel
theorem dX1_markOf_20 : decode cX1_markOf 20 = .ok (.invokevirtual 81, 3) := by decide +kernel
theorem dX1_markOf_23 : decode cX1_markOf 23 = .ok (.ireturn, 1) := by decide +kernel
theorem dX1_markOf_24 : decode cX1_markOf 24 = .ok (.iload_n 3, 1) := by decide +kernel
theorem dX1_markOf_25 : decode cX1_markOf 25 = .ok (.iconst 1, 1) := by decide +kernel
theorem dX1_markOf_26 : decode cX1_markOf 26 = .ok (.if_icmp .ne 25, 3) := by decide +kernel
theorem dX1_markOf_29 : decode cX1_markOf 29 = .ok (.aload_n 0, 1) := by decide +kernel
theorem dX1_markOf_30 : decode cX1_markOf 30 = .ok (.getfield 29, 3) := by decide +kernel
theorem dX1_markOf_33 : decode cX1_markOf 33 = .ok (.iload_n 2, 1) := by decide +kernel
theorem dX1_markOf_34 : decode cX1_markOf 34 = .ok (.aaload, 1) := by decide +kernel
theorem dX1_markOf_35 : decode cX1_markOf 35 = .ok (.iload_n 1, 1) := by decide +kernel
theorem dX1_markOf_36 : decode cX1_markOf 36 = .ok (.iaload, 1) := by decide +kernel
theorem dX1_markOf_37 : decode cX1_markOf 37 = .ok (.bipush (-6), 2) := by decide +kernel
theorem dX1_markOf_39 : decode cX1_markOf 39 = .ok (.if_icmp .eq 12, 3) := by decide +kernel
theorem dX1_markOf_42 : decode cX1_markOf 42 = .ok (.aload_n 0, 1) := by decide +kernel
theorem dX1_markOf_43 : decode cX1_markOf 43 = .ok (.getfield 29, 3) := by decide +kernel
theorem dX1_markOf_46 : decode cX1_markOf 46 = .ok (.iload_n 2, 1) := by decide +kernel
theorem dX1_markOf_47 : decode cX1_markOf 47 = .ok (.aaload, 1) := by decide +kernel
theorem dX1_markOf_48 : decode cX1_markOf 48 = .ok (.iload_n 1, 1) := by decide +kernel
theorem dX1_markOf_49 : decode cX1_markOf 49 = .ok (.iaload, 1) := by decide +kernel
theorem dX1_markOf_50 : decode cX1_markOf 50 = .ok (.ireturn, 1) := by decide +kernel
theorem dX1_markOf_51 : decode cX1_markOf 51 = .ok (.aload_n 0, 1) := by decide +kernel
theorem dX1_markOf_52 : decode cX1_markOf 52 = .ok (.iload_n 2, 1) := by decide +kernel
theorem dX1_markOf_53 : decode cX1_markOf 53 = .ok (.aload_n 0, 1) := by decide +kernel
theorem dX1_markOf_54 : decode cX1_markOf 54 = .ok (.getfield 23, 3) := by decide +kernel
theorem dX1_markOf_57 : decode cX1_markOf 57 = .ok (.iload_n 1, 1) := by decide +kernel
theorem dX1_markOf_58 : decode cX1_markOf 58 = .ok (.iaload, 1) := by decide +kernel
theorem dX1_markOf_59 : decode cX1_markOf 59 = .ok (.invokevirtual 81, 3) := by decide +kernel
theorem dX1_markOf_62 : decode cX1_markOf 62 = .ok (.ireturn, 1) := by decide +kernel
theorem dX1_hasPage_0 : decode cX1_hasPage 0 = .ok (.iload_n 1, 1) := by decide +kernel
theorem dX1_hasPage_1 : decode cX1_hasPage 1 = .ok (.iconst 1, 1) := by decide +kernel
theorem dX1_hasPage_2 : decode cX1_hasPage 2 = .ok (.if_icmp .lt 15, 3) := by decide +kernel
theorem dX1_hasPage_5 : decode cX1_hasPage 5 = .ok (.iload_n 1, 1) := by decide +kernel
theorem dX1_hasPage_6 : decode cX1_hasPage 6 = .ok (.aload_n 0, 1) := by decide +kernel
theorem dX1_hasPage_7 : decode cX1_hasPage 7 = .ok (.getfield 39, 3) := by decide +kernel
theorem dX1_hasPage_10 : decode cX1_hasPage 10 = .ok (.if_icmp .gt 7, 3) := by decide +kernel
theorem dX1_hasPage_13 : decode cX1_hasPage 13 = .ok (.iconst 1, 1) := by decide +kernel
theorem dX1_hasPage_14 : decode cX1_hasPage 14 = .ok (.goto 4, 3) := by decide +kernel
theorem dX1_hasPage_17 : decode cX1_hasPage 17 = .ok (.iconst 0, 1) := by decide +kernel
theorem dX1_hasPage_18 : decode cX1_hasPage 18 = .ok (.ireturn, 1) := by decide +kernel
set_option maxRecDepth 20000 in
theorem ggX1_headOrNone_X1_hasPage : GoodIn wsX1_headOrNone wsX1_hasPage := goodIn_r _ [6, 7, 8, 9, 10, 11, 12, 13, 14, 15, 16] (by decide +kernel) (by decide +kernel)
set_option maxRecDepth 20000 in
theorem gX1_headOrNone_X1_hasPage : GoodIn wsX1_headOrNone (wsV RX1 93 RX1 yX1_hasPage wsX1_hasPage) := goodIn_app (goodIn_of _ (by decide +kernel)) ggX1_headOrNone_X1_hasPage
theorem dX1_headOrNone_0 : decode cX1_headOrNone 0 = .ok (.aload_n 0, 1) := by decide +kernel
theorem dX1_headOrNone_1 : decode cX1_headOrNone 1 = .ok (.iload_n 1, 1) := by decide +kernel
theorem dX1_headOrNone_2 : decode cX1_headOrNone 2 = .ok (.invokevirtual 93, 3) := by decide +kernel
theorem dX1_headOrNone_5 : decode cX1_headOrNone 5 = .ok (.ifCond .eq 12, 3) := by decide +kernel
theorem dX1_headOrNone_8 : decode cX1_headOrNone 8 = .ok (.aload_n 0, 1) := by decide +kernel
