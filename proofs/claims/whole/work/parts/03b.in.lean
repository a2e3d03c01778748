set_option maxRecDepth 20000 in
theorem wsL_in_1 : GoodIn lw_tbl wsL_law_r1 := goodIn_p wsL_law_r1 [43, 46] (by decide +kernel) (by decide +kernel)
set_option maxRecDepth 20000 in
theorem wsL_in_2 : GoodIn lw_tbl wsL_law_r2 := goodIn_p wsL_law_r2 [51, 68, 105] (by decide +kernel) (by decide +kernel)
set_option maxRecDepth 20000 in
theorem wsL_in_3 : GoodIn lw_tbl wsL_law_r3 := goodIn_p wsL_law_r3 [371] (by decide +kernel) (by decide +kernel)
set_option maxRecDepth 20000 in
theorem wsL_in_4 : GoodIn lw_tbl wsL_law_r4 := goodIn_p wsL_law_r4 [165, 169, 414, 417, 173] (by decide +kernel) (by decide +kernel)
set_option maxRecDepth 20000 in
theorem wsL_in_5 : GoodIn lw_tbl wsL_law_r5 := goodIn_p wsL_law_r5 [421, 177, 181, 184, 425, 429, 432] (by decide +kernel) (by decide +kernel)
set_option maxRecDepth 20000 in
theorem wsL_in_6 : GoodIn lw_tbl wsL_law_r6 := goodIn_p wsL_law_r6 [435, 188, 192, 196, 200] (by decide +kernel) (by decide +kernel)
set_option maxRecDepth 20000 in
theorem wsL_in_7 : GoodIn lw_tbl wsL_law_r7 := goodIn_p wsL_law_r7 [204, 209, 213, 216, 220] (by decide +kernel) (by decide +kernel)
set_option maxRecDepth 20000 in
theorem wsL_in_8 : GoodIn lw_tbl wsL_law_r8 := goodIn_p wsL_law_r8 [224, 228, 232, 236, 439, 240] (by decide +kernel) (by decide +kernel)
set_option maxRecDepth 20000 in
theorem wsL_in_9 : GoodIn lw_tbl wsL_law_r9 := goodIn_p wsL_law_r9 [244, 444, 447, 450, 252, 256] (by decide +kernel) (by decide +kernel)
set_option maxRecDepth 20000 in
theorem wsL_in_10 : GoodIn lw_tbl wsL_law_r10 := goodIn_p wsL_law_r10 [260, 454, 458, 462, 264] (by decide +kernel) (by decide +kernel)
set_option maxRecDepth 20000 in
theorem wsL_in_11 : GoodIn lw_tbl wsL_law_r11 := goodIn_p wsL_law_r11 [466, 470, 474, 478, 482, 486] (by decide +kernel) (by decide +kernel)
set_option maxRecDepth 20000 in
theorem wsL_in_12 : GoodIn lw_tbl wsL_law_r12 := goodIn_p wsL_law_r12 [269, 273, 277, 280, 490] (by decide +kernel) (by decide +kernel)
set_option maxRecDepth 20000 in
theorem wsL_in_13 : GoodIn lw_tbl wsL_law_r13 := goodIn_p wsL_law_r13 [494, 498, 502, 506, 510, 514] (by decide +kernel) (by decide +kernel)
set_option maxRecDepth 20000 in
theorem wsL_in_14 : GoodIn lw_tbl wsL_law_r14 := goodIn_p wsL_law_r14 [518, 522, 284, 526, 289, 530] (by decide +kernel) (by decide +kernel)
set_option maxRecDepth 20000 in
theorem wsL_in_15 : GoodIn lw_tbl wsL_law_r15 := goodIn_p wsL_law_r15 [293, 297, 301, 305, 309, 534] (by decide +kernel) (by decide +kernel)
set_option maxRecDepth 20000 in
theorem wsL_in_16 : GoodIn lw_tbl wsL_law_r16 := goodIn_p wsL_law_r16 [538, 542, 546, 314, 318] (by decide +kernel) (by decide +kernel)
set_option maxRecDepth 20000 in
theorem wsL_in_17 : GoodIn lw_tbl wsL_law_r17 := goodIn_p wsL_law_r17 [323, 550, 554, 558, 328, 562] (by decide +kernel) (by decide +kernel)
set_option maxRecDepth 20000 in
theorem wsL_in_18 : GoodIn lw_tbl wsL_law_r18 := goodIn_p wsL_law_r18 [332, 566, 338, 342, 570] (by decide +kernel) (by decide +kernel)
set_option maxRecDepth 20000 in
theorem wsL_in_19 : GoodIn lw_tbl wsL_law_r19 := goodIn_p wsL_law_r19 [349, 574, 353, 357, 361] (by decide +kernel) (by decide +kernel)
set_option maxRecDepth 20000 in
theorem wsL_in_20 : GoodIn lw_tbl wsL_law_r20 := goodIn_p wsL_law_r20 [366, 578, 582] (by decide +kernel) (by decide +kernel)
theorem wsL_in_wsX30 : GoodIn lw_tbl wsX30 := goodIn_p wsX30 [] (by decide +kernel) (by decide +kernel)
theorem wsL_in_wsX40 : GoodIn lw_tbl wsX40 := goodIn_p wsX40 [] (by decide +kernel) (by decide +kernel)
theorem wsL_in_wsX20 : GoodIn lw_tbl wsX20 := goodIn_p wsX20 [] (by decide +kernel) (by decide +kernel)
theorem wsL_in_wsX00 : GoodIn lw_tbl wsX00 := goodIn_p wsX00 [] (by decide +kernel) (by decide +kernel)
theorem wsL_in_wsX10 : GoodIn lw_tbl wsX10 := goodIn_p wsX10 [] (by decide +kernel) (by decide +kernel)
theorem wsL_law_good : GoodIn lw_tbl wsL_law := goodIn_app (goodIn_app (goodIn_app (goodIn_app (goodIn_app (goodIn_app (goodIn_app wsL_in_1 (goodIn_app wsL_in_2 (goodIn_app wsL_in_3 (goodIn_app wsL_in_4 (goodIn_app wsL_in_5 (goodIn_app wsL_in_6 (goodIn_app wsL_in_7 (goodIn_app wsL_in_8 (goodIn_app wsL_in_9 (goodIn_app wsL_in_10 (goodIn_app wsL_in_11 (goodIn_app wsL_in_12 (goodIn_app wsL_in_13 (goodIn_app wsL_in_14 (goodIn_app wsL_in_15 (goodIn_app wsL_in_16 (goodIn_app wsL_in_17 (goodIn_app wsL_in_18 (goodIn_app wsL_in_19 (wsL_in_20)))))))))))))))))))) wsL_in_wsX30) wsL_in_wsX40) wsL_in_wsX20) wsL_in_wsX00) wsL_in_wsX10) (fun _ h => absurd h List.not_mem_nil)
theorem wsL_law_in : ∀ w ∈ wsL_law, w ∈ lw_tbl := fun w h => (wsL_law_good w h).1
theorem inlX0 : ∀ w ∈ wsX00, w ∈ wsL_law := fun _ h => List.mem_append_left _ (List.mem_append_left _ (List.mem_append_right _ h))
theorem inX0 : ∀ w ∈ wsX00, w ∈ lw_tbl := fun w h => wsL_law_in w (inlX0 w h)
theorem inlX1 : ∀ w ∈ wsX10, w ∈ wsL_law := fun _ h => List.mem_append_left _ (List.mem_append_right _ h)
theorem inX1 : ∀ w ∈ wsX10, w ∈ lw_tbl := fun w h => wsL_law_in w (inlX1 w h)
theorem inlX2 : ∀ w ∈ wsX20, w ∈ wsL_law := fun _ h => List.mem_append_left _ (List.mem_append_left _ (List.mem_append_left _ (List.mem_append_right _ h)))
theorem inX2 : ∀ w ∈ wsX20, w ∈ lw_tbl := fun w h => wsL_law_in w (inlX2 w h)
theorem inlX3 : ∀ w ∈ wsX30, w ∈ wsL_law := fun _ h => List.mem_append_left _ (List.mem_append_left _ (List.mem_append_left _ (List.mem_append_left _ (List.mem_append_left _ (List.mem_append_right _ h)))))
theorem inX3 : ∀ w ∈ wsX30, w ∈ lw_tbl := fun w h => wsL_law_in w (inlX3 w h)
theorem inlX4 : ∀ w ∈ wsX40, w ∈ wsL_law := fun _ h => List.mem_append_left _ (List.mem_append_left _ (List.mem_append_left _ (List.mem_append_left _ (List.mem_append_right _ h))))
theorem inX4 : ∀ w ∈ wsX40, w ∈ lw_tbl := fun w h => wsL_law_in w (inlX4 w h)
theorem inJx8e188 : ∀ w ∈ wsJx8e1880, w ∈ lw_tbl := by decide +kernel
theorem inJ9 : ∀ w ∈ wsJ90, w ∈ lw_tbl := by decide +kernel
theorem inJ10 : ∀ w ∈ wsJ100, w ∈ lw_tbl := by decide +kernel
theorem dX0_init_0 : decode cX0_init 0 = .ok (.aload_n 0, 1) := by decide +kernel
