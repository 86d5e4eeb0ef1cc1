theorem zk_gcons {big rest : List Cond} {c : Cond} (h1 : GoodIn big [c]) (h2 : GoodIn big rest) : GoodIn big (c :: rest) := fun w h => (List.mem_cons.mp h).elim (fun e => h1 w (by rw [e]; exact List.mem_cons_self)) (h2 w)
set_option maxRecDepth 20000 in
theorem gg_lawin_q1 : GoodIn lw_tbl wsL_law_r1 := goodIn_p _ [31, 34] (by decide +kernel) (by decide +kernel)
set_option maxRecDepth 20000 in
theorem gg_lawin_q2 : GoodIn lw_tbl wsL_law_r2 := goodIn_p _ [39, 45] (by decide +kernel) (by decide +kernel)
set_option maxRecDepth 20000 in
theorem gg_lawin_q3 : GoodIn lw_tbl wsL_law_r3 := goodIn_p _ [51, 65, 69] (by decide +kernel) (by decide +kernel)
set_option maxRecDepth 20000 in
theorem gg_lawin_q4 : GoodIn lw_tbl wsL_law_r4 := goodIn_p _ [90, 163, 182, 188] (by decide +kernel) (by decide +kernel)
set_option maxRecDepth 20000 in
theorem gg_lawin_q5 : GoodIn lw_tbl wsL_law_r5 := goodIn_p _ [228, 251, 256, 260, 264] (by decide +kernel) (by decide +kernel)
set_option maxRecDepth 20000 in
theorem gg_lawin_q6 : GoodIn lw_tbl wsL_law_r6 := goodIn_p _ [268, 272, 276, 280] (by decide +kernel) (by decide +kernel)
set_option maxRecDepth 20000 in
theorem gg_lawin_q7 : GoodIn lw_tbl wsL_law_r7 := goodIn_p _ [284, 288, 292, 296, 300, 304] (by decide +kernel) (by decide +kernel)
set_option maxRecDepth 20000 in
theorem gg_lawin_q8 : GoodIn lw_tbl wsL_law_r8 := goodIn_p _ [308, 312, 316, 320, 324] (by decide +kernel) (by decide +kernel)
set_option maxRecDepth 20000 in
theorem gg_lawin_q9 : GoodIn lw_tbl wsL_law_r9 := goodIn_p _ [328, 335, 340, 345, 349] (by decide +kernel) (by decide +kernel)
set_option maxRecDepth 20000 in
theorem gg_lawin_q10 : GoodIn lw_tbl wsL_law_r10 := goodIn_p _ [353, 357, 361, 365, 369, 372] (by decide +kernel) (by decide +kernel)
set_option maxRecDepth 20000 in
theorem gg_lawin_q11 : GoodIn lw_tbl wsL_law_r11 := goodIn_p _ [376, 380, 384, 388, 393] (by decide +kernel) (by decide +kernel)
set_option maxRecDepth 20000 in
theorem gg_lawin_q12 : GoodIn lw_tbl wsL_law_r12 := goodIn_p _ [398, 402, 406, 410, 414, 419] (by decide +kernel) (by decide +kernel)
set_option maxRecDepth 20000 in
theorem gg_lawin_q13 : GoodIn lw_tbl wsL_law_r13 := goodIn_p _ [424, 428, 433, 437, 441] (by decide +kernel) (by decide +kernel)
set_option maxRecDepth 20000 in
theorem gg_lawin_q14 : GoodIn lw_tbl wsL_law_r14 := goodIn_p _ [445, 449, 453, 456, 459, 463, 467] (by decide +kernel) (by decide +kernel)
set_option maxRecDepth 20000 in
theorem gg_lawin_q15 : GoodIn lw_tbl wsL_law_r15 := goodIn_p _ [471, 476, 480, 484, 488] (by decide +kernel) (by decide +kernel)
set_option maxRecDepth 20000 in
theorem gg_lawin_q16 : GoodIn lw_tbl wsL_law_r16 := goodIn_p _ [495, 499, 503, 539, 508, 512] (by decide +kernel) (by decide +kernel)
set_option maxRecDepth 20000 in
theorem gg_lawin_q17 : GoodIn lw_tbl wsL_law_r17 := goodIn_p _ [516, 520, 524, 528, 531, 535] (by decide +kernel) (by decide +kernel)
set_option maxRecDepth 20000 in
theorem gg_lawin_q18 : GoodIn lw_tbl wsL_law_r18 := goodIn_p _ [546, 551, 556, 560] (by decide +kernel) (by decide +kernel)
set_option maxRecDepth 20000 in
theorem gg_lawin_q19 : GoodIn lw_tbl wsL_law_r19 := goodIn_p _ [565, 569, 573, 576, 580, 584] (by decide +kernel) (by decide +kernel)
set_option maxRecDepth 20000 in
theorem gg_lawin_q20 : GoodIn lw_tbl wsL_law_r20 := goodIn_p _ [588, 592, 596, 600] (by decide +kernel) (by decide +kernel)
set_option maxRecDepth 20000 in
theorem gg_lawin_q21 : GoodIn lw_tbl wsX90 := goodIn_p _ [] (by decide +kernel) (by decide +kernel)
set_option maxRecDepth 20000 in
theorem gg_lawin_q22 : GoodIn lw_tbl wsX60 := goodIn_p _ [] (by decide +kernel) (by decide +kernel)
set_option maxRecDepth 20000 in
theorem gg_lawin_q23 : GoodIn lw_tbl wsX20 := goodIn_p _ [] (by decide +kernel) (by decide +kernel)
set_option maxRecDepth 20000 in
theorem gg_lawin_q24 : GoodIn lw_tbl wsX40 := goodIn_p _ [] (by decide +kernel) (by decide +kernel)
set_option maxRecDepth 20000 in
theorem gg_lawin_q25 : GoodIn lw_tbl wsX10 := goodIn_p _ [] (by decide +kernel) (by decide +kernel)
set_option maxRecDepth 20000 in
theorem gg_lawin_q26 : GoodIn lw_tbl wsX80 := goodIn_p _ [] (by decide +kernel) (by decide +kernel)
set_option maxRecDepth 20000 in
theorem gg_lawin_q27 : GoodIn lw_tbl wsX50 := goodIn_p _ [] (by decide +kernel) (by decide +kernel)
set_option maxRecDepth 20000 in
theorem gg_lawin_q28 : GoodIn lw_tbl wsX30 := goodIn_p _ [] (by decide +kernel) (by decide +kernel)
set_option maxRecDepth 20000 in
theorem gg_lawin_q29 : GoodIn lw_tbl wsX00 := goodIn_p _ [] (by decide +kernel) (by decide +kernel)
set_option maxRecDepth 20000 in
theorem gg_lawin_q30 : GoodIn lw_tbl wsX70 := goodIn_p _ [] (by decide +kernel) (by decide +kernel)
set_option maxRecDepth 20000 in
theorem gg_lawin_q31 : GoodIn lw_tbl ([] : List Cond) := goodIn_p _ [] (by decide +kernel) (by decide +kernel)
theorem wsL_law_g : GoodIn lw_tbl wsL_law := (goodIn_app (goodIn_app (goodIn_app (goodIn_app (goodIn_app (goodIn_app (goodIn_app (goodIn_app (goodIn_app (goodIn_app (goodIn_app (goodIn_app gg_lawin_q1 (goodIn_app gg_lawin_q2 (goodIn_app gg_lawin_q3 (goodIn_app gg_lawin_q4 (goodIn_app gg_lawin_q5 (goodIn_app gg_lawin_q6 (goodIn_app gg_lawin_q7 (goodIn_app gg_lawin_q8 (goodIn_app gg_lawin_q9 (goodIn_app gg_lawin_q10 (goodIn_app gg_lawin_q11 (goodIn_app gg_lawin_q12 (goodIn_app gg_lawin_q13 (goodIn_app gg_lawin_q14 (goodIn_app gg_lawin_q15 (goodIn_app gg_lawin_q16 (goodIn_app gg_lawin_q17 (goodIn_app gg_lawin_q18 (goodIn_app gg_lawin_q19 gg_lawin_q20))))))))))))))))))) gg_lawin_q21) gg_lawin_q22) gg_lawin_q23) gg_lawin_q24) gg_lawin_q25) gg_lawin_q26) gg_lawin_q27) gg_lawin_q28) gg_lawin_q29) gg_lawin_q30) gg_lawin_q31)
theorem wsL_law_in : ∀ w ∈ wsL_law, w ∈ lw_tbl := fun w h => (wsL_law_g w h).1
theorem inlX0 : ∀ w ∈ wsX00, w ∈ wsL_law := fun _ h => List.mem_append_left _ (List.mem_append_left _ (List.mem_append_right _ h))
theorem inX0 : ∀ w ∈ wsX00, w ∈ lw_tbl := fun w h => wsL_law_in w (inlX0 w h)
theorem inlX1 : ∀ w ∈ wsX10, w ∈ wsL_law := fun _ h => List.mem_append_left _ (List.mem_append_left _ (List.mem_append_left _ (List.mem_append_left _ (List.mem_append_left _ (List.mem_append_left _ (List.mem_append_right _ h))))))
theorem inX1 : ∀ w ∈ wsX10, w ∈ lw_tbl := fun w h => wsL_law_in w (inlX1 w h)
theorem inlX2 : ∀ w ∈ wsX20, w ∈ wsL_law := fun _ h => List.mem_append_left _ (List.mem_append_left _ (List.mem_append_left _ (List.mem_append_left _ (List.mem_append_left _ (List.mem_append_left _ (List.mem_append_left _ (List.mem_append_left _ (List.mem_append_right _ h))))))))
theorem inX2 : ∀ w ∈ wsX20, w ∈ lw_tbl := fun w h => wsL_law_in w (inlX2 w h)
theorem inlX3 : ∀ w ∈ wsX30, w ∈ wsL_law := fun _ h => List.mem_append_left _ (List.mem_append_left _ (List.mem_append_left _ (List.mem_append_right _ h)))
theorem inX3 : ∀ w ∈ wsX30, w ∈ lw_tbl := fun w h => wsL_law_in w (inlX3 w h)
theorem inlX4 : ∀ w ∈ wsX40, w ∈ wsL_law := fun _ h => List.mem_append_left _ (List.mem_append_left _ (List.mem_append_left _ (List.mem_append_left _ (List.mem_append_left _ (List.mem_append_left _ (List.mem_append_left _ (List.mem_append_right _ h)))))))
theorem inX4 : ∀ w ∈ wsX40, w ∈ lw_tbl := fun w h => wsL_law_in w (inlX4 w h)
theorem inlX5 : ∀ w ∈ wsX50, w ∈ wsL_law := fun _ h => List.mem_append_left _ (List.mem_append_left _ (List.mem_append_left _ (List.mem_append_left _ (List.mem_append_right _ h))))
theorem inX5 : ∀ w ∈ wsX50, w ∈ lw_tbl := fun w h => wsL_law_in w (inlX5 w h)
theorem inlX6 : ∀ w ∈ wsX60, w ∈ wsL_law := fun _ h => List.mem_append_left _ (List.mem_append_left _ (List.mem_append_left _ (List.mem_append_left _ (List.mem_append_left _ (List.mem_append_left _ (List.mem_append_left _ (List.mem_append_left _ (List.mem_append_left _ (List.mem_append_right _ h)))))))))
theorem inX6 : ∀ w ∈ wsX60, w ∈ lw_tbl := fun w h => wsL_law_in w (inlX6 w h)
theorem inlX7 : ∀ w ∈ wsX70, w ∈ wsL_law := fun _ h => List.mem_append_left _ (List.mem_append_right _ h)
theorem inX7 : ∀ w ∈ wsX70, w ∈ lw_tbl := fun w h => wsL_law_in w (inlX7 w h)
theorem inlX8 : ∀ w ∈ wsX80, w ∈ wsL_law := fun _ h => List.mem_append_left _ (List.mem_append_left _ (List.mem_append_left _ (List.mem_append_left _ (List.mem_append_left _ (List.mem_append_right _ h)))))
theorem inX8 : ∀ w ∈ wsX80, w ∈ lw_tbl := fun w h => wsL_law_in w (inlX8 w h)
theorem inlX9 : ∀ w ∈ wsX90, w ∈ wsL_law := fun _ h => List.mem_append_left _ (List.mem_append_left _ (List.mem_append_left _ (List.mem_append_left _ (List.mem_append_left _ (List.mem_append_left _ (List.mem_append_left _ (List.mem_append_left _ (List.mem_append_left _ (List.mem_append_left _ (List.mem_append_right _ h))))))))))
theorem inX9 : ∀ w ∈ wsX90, w ∈ lw_tbl := fun w h => wsL_law_in w (inlX9 w h)
theorem inX10 : ∀ w ∈ wsX100, w ∈ lw_tbl := by decide +kernel
