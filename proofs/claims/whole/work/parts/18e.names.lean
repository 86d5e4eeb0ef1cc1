theorem zk_gcons {big rest : List Cond} {c : Cond} (h1 : GoodIn big [c]) (h2 : GoodIn big rest) : GoodIn big (c :: rest) := fun w h => (List.mem_cons.mp h).elim (fun e => h1 w (by rw [e]; exact List.mem_cons_self)) (h2 w)
set_option maxRecDepth 20000 in
theorem gg_lawin_q1 : GoodIn lw_tbl wsL_law_r1 := goodIn_p _ [76, 79] (by decide +kernel) (by decide +kernel)
set_option maxRecDepth 20000 in
theorem gg_lawin_q2 : GoodIn lw_tbl wsL_law_r2 := goodIn_p _ [84, 90] (by decide +kernel) (by decide +kernel)
set_option maxRecDepth 20000 in
theorem gg_lawin_q3 : GoodIn lw_tbl wsL_law_r3 := goodIn_p _ [96, 110] (by decide +kernel) (by decide +kernel)
set_option maxRecDepth 20000 in
theorem gg_lawin_q4 : GoodIn lw_tbl wsL_law_r4 := goodIn_p _ [114, 135, 210, 229, 235] (by decide +kernel) (by decide +kernel)
set_option maxRecDepth 20000 in
theorem gg_lawin_q5 : GoodIn lw_tbl wsL_law_r5 := goodIn_p _ [283, 838] (by decide +kernel) (by decide +kernel)
set_option maxRecDepth 20000 in
theorem gg_lawin_q6 : GoodIn lw_tbl wsL_law_r6 := goodIn_p _ [307, 311, 315, 319, 323] (by decide +kernel) (by decide +kernel)
set_option maxRecDepth 20000 in
theorem gg_lawin_q7 : GoodIn lw_tbl wsL_law_r7 := goodIn_p _ [327, 334, 339] (by decide +kernel) (by decide +kernel)
set_option maxRecDepth 20000 in
theorem gg_lawin_q8 : GoodIn lw_tbl wsL_law_r8 := goodIn_p _ [344, 348, 352, 356, 360, 364] (by decide +kernel) (by decide +kernel)
set_option maxRecDepth 20000 in
theorem gg_lawin_q9 : GoodIn lw_tbl wsL_law_r9 := goodIn_p _ [368, 372, 375, 913, 901] (by decide +kernel) (by decide +kernel)
set_option maxRecDepth 20000 in
theorem gg_lawin_q10 : GoodIn lw_tbl wsL_law_r10 := goodIn_p _ [905, 917, 921, 379, 383, 387] (by decide +kernel) (by decide +kernel)
set_option maxRecDepth 20000 in
theorem gg_lawin_q11 : GoodIn lw_tbl wsL_law_r11 := goodIn_p _ [391, 395, 925, 929, 933, 400] (by decide +kernel) (by decide +kernel)
set_option maxRecDepth 20000 in
theorem gg_lawin_q12 : GoodIn lw_tbl wsL_law_r12 := goodIn_p _ [404, 408, 413, 417, 421, 937] (by decide +kernel) (by decide +kernel)
set_option maxRecDepth 20000 in
theorem gg_lawin_q13 : GoodIn lw_tbl wsL_law_r13 := goodIn_p _ [425, 429, 433, 437, 487, 441] (by decide +kernel) (by decide +kernel)
set_option maxRecDepth 20000 in
theorem gg_lawin_q14 : GoodIn lw_tbl wsL_law_r14 := goodIn_p _ [445, 449, 453, 457, 461, 465] (by decide +kernel) (by decide +kernel)
set_option maxRecDepth 20000 in
theorem gg_lawin_q15 : GoodIn lw_tbl wsL_law_r15 := goodIn_p _ [469, 473, 476, 480, 484, 941] (by decide +kernel) (by decide +kernel)
set_option maxRecDepth 20000 in
theorem gg_lawin_q16 : GoodIn lw_tbl wsL_law_r16 := goodIn_p _ [945, 949, 953, 957, 961, 965] (by decide +kernel) (by decide +kernel)
set_option maxRecDepth 20000 in
theorem gg_lawin_q17 : GoodIn lw_tbl wsL_law_r17 := goodIn_p _ [969, 973, 977, 981, 491, 985] (by decide +kernel) (by decide +kernel)
set_option maxRecDepth 20000 in
theorem gg_lawin_q18 : GoodIn lw_tbl wsL_law_r18 := goodIn_p _ [496, 500, 504, 989, 508, 512] (by decide +kernel) (by decide +kernel)
set_option maxRecDepth 20000 in
theorem gg_lawin_q19 : GoodIn lw_tbl wsL_law_r19 := goodIn_p _ [897, 516, 520, 909, 524, 528] (by decide +kernel) (by decide +kernel)
set_option maxRecDepth 20000 in
theorem gg_lawin_q20 : GoodIn lw_tbl wsL_law_r20 := goodIn_p _ [532, 893, 536, 540, 993] (by decide +kernel) (by decide +kernel)
set_option maxRecDepth 20000 in
theorem gg_lawin_q21 : GoodIn lw_tbl wsL_law_r21 := goodIn_p _ [544, 548, 997, 552, 556] (by decide +kernel) (by decide +kernel)
set_option maxRecDepth 20000 in
theorem gg_lawin_q22 : GoodIn lw_tbl wsL_law_r22 := goodIn_p _ [560, 564, 568, 572, 575, 579] (by decide +kernel) (by decide +kernel)
set_option maxRecDepth 20000 in
theorem gg_lawin_q23 : GoodIn lw_tbl wsL_law_r23 := goodIn_p _ [583, 588, 592, 596, 602] (by decide +kernel) (by decide +kernel)
set_option maxRecDepth 20000 in
theorem gg_lawin_q24 : GoodIn lw_tbl wsL_law_r24 := goodIn_p _ [606, 609, 612, 617, 620, 623] (by decide +kernel) (by decide +kernel)
set_option maxRecDepth 20000 in
theorem gg_lawin_q25 : GoodIn lw_tbl wsL_law_r25 := goodIn_p _ [626, 630, 644, 648, 652] (by decide +kernel) (by decide +kernel)
set_option maxRecDepth 20000 in
theorem gg_lawin_q26 : GoodIn lw_tbl wsL_law_r26 := goodIn_p _ [655, 659, 663, 667, 671, 675] (by decide +kernel) (by decide +kernel)
set_option maxRecDepth 20000 in
theorem gg_lawin_q27 : GoodIn lw_tbl wsL_law_r27 := goodIn_p _ [679, 683, 687, 692, 696, 1001] (by decide +kernel) (by decide +kernel)
set_option maxRecDepth 20000 in
theorem gg_lawin_q28 : GoodIn lw_tbl wsL_law_r28 := goodIn_p _ [1005, 1009, 1013, 1017, 1021, 1024] (by decide +kernel) (by decide +kernel)
set_option maxRecDepth 20000 in
theorem gg_lawin_q29 : GoodIn lw_tbl wsL_law_r29 := goodIn_p _ [1028, 1032, 1036, 1040, 1044] (by decide +kernel) (by decide +kernel)
set_option maxRecDepth 20000 in
theorem gg_lawin_q30 : GoodIn lw_tbl wsL_law_r30 := goodIn_p _ [701, 1053, 705, 709, 713] (by decide +kernel) (by decide +kernel)
set_option maxRecDepth 20000 in
theorem gg_lawin_q31 : GoodIn lw_tbl wsL_law_r31 := goodIn_p _ [717, 721, 725, 1057, 1061, 730] (by decide +kernel) (by decide +kernel)
set_option maxRecDepth 20000 in
theorem gg_lawin_q32 : GoodIn lw_tbl wsL_law_r32 := goodIn_p _ [735, 740, 1065, 1069, 746] (by decide +kernel) (by decide +kernel)
set_option maxRecDepth 20000 in
theorem gg_lawin_q33 : GoodIn lw_tbl wsL_law_r33 := goodIn_p _ [750, 754, 759, 763, 1073, 768] (by decide +kernel) (by decide +kernel)
set_option maxRecDepth 20000 in
theorem gg_lawin_q34 : GoodIn lw_tbl wsL_law_r34 := goodIn_p _ [772, 1077, 776, 780, 1081] (by decide +kernel) (by decide +kernel)
set_option maxRecDepth 20000 in
theorem gg_lawin_q35 : GoodIn lw_tbl wsL_law_r35 := goodIn_p _ [785, 789, 793, 797, 1085, 1089] (by decide +kernel) (by decide +kernel)
set_option maxRecDepth 20000 in
theorem gg_lawin_q36 : GoodIn lw_tbl wsL_law_r36 := goodIn_p _ [1093, 1097, 802, 807, 1101] (by decide +kernel) (by decide +kernel)
set_option maxRecDepth 20000 in
theorem gg_lawin_q37 : GoodIn lw_tbl wsL_law_r37 := goodIn_p _ [1105, 1109, 814, 818, 1113] (by decide +kernel) (by decide +kernel)
set_option maxRecDepth 20000 in
theorem gg_lawin_q38 : GoodIn lw_tbl wsL_law_r38 := goodIn_p _ [825, 829, 833, 1117, 1121] (by decide +kernel) (by decide +kernel)
set_option maxRecDepth 20000 in
theorem gg_lawin_q39 : GoodIn lw_tbl wsX90 := goodIn_p _ [] (by decide +kernel) (by decide +kernel)
set_option maxRecDepth 20000 in
theorem gg_lawin_q40 : GoodIn lw_tbl wsX100 := goodIn_p _ [] (by decide +kernel) (by decide +kernel)
set_option maxRecDepth 20000 in
theorem gg_lawin_q41 : GoodIn lw_tbl wsX60 := goodIn_p _ [] (by decide +kernel) (by decide +kernel)
set_option maxRecDepth 20000 in
theorem gg_lawin_q42 : GoodIn lw_tbl wsX20 := goodIn_p _ [] (by decide +kernel) (by decide +kernel)
set_option maxRecDepth 20000 in
theorem gg_lawin_q43 : GoodIn lw_tbl wsX40 := goodIn_p _ [] (by decide +kernel) (by decide +kernel)
set_option maxRecDepth 20000 in
theorem gg_lawin_q44 : GoodIn lw_tbl wsX10 := goodIn_p _ [] (by decide +kernel) (by decide +kernel)
set_option maxRecDepth 20000 in
theorem gg_lawin_q45 : GoodIn lw_tbl wsX80 := goodIn_p _ [] (by decide +kernel) (by decide +kernel)
set_option maxRecDepth 20000 in
theorem gg_lawin_q46 : GoodIn lw_tbl wsX50 := goodIn_p _ [] (by decide +kernel) (by decide +kernel)
set_option maxRecDepth 20000 in
theorem gg_lawin_q47 : GoodIn lw_tbl wsX30 := goodIn_p _ [] (by decide +kernel) (by decide +kernel)
set_option maxRecDepth 20000 in
theorem gg_lawin_q48 : GoodIn lw_tbl wsX00 := goodIn_p _ [] (by decide +kernel) (by decide +kernel)
set_option maxRecDepth 20000 in
theorem gg_lawin_q49 : GoodIn lw_tbl wsX70 := goodIn_p _ [] (by decide +kernel) (by decide +kernel)
set_option maxRecDepth 20000 in
theorem gg_lawin_q50 : GoodIn lw_tbl ([] : List Cond) := goodIn_p _ [] (by decide +kernel) (by decide +kernel)
theorem wsL_law_g : GoodIn lw_tbl wsL_law := (goodIn_app (goodIn_app (goodIn_app (goodIn_app (goodIn_app (goodIn_app (goodIn_app (goodIn_app (goodIn_app (goodIn_app (goodIn_app (goodIn_app (goodIn_app gg_lawin_q1 (goodIn_app gg_lawin_q2 (goodIn_app gg_lawin_q3 (goodIn_app gg_lawin_q4 (goodIn_app gg_lawin_q5 (goodIn_app gg_lawin_q6 (goodIn_app gg_lawin_q7 (goodIn_app gg_lawin_q8 (goodIn_app gg_lawin_q9 (goodIn_app gg_lawin_q10 (goodIn_app gg_lawin_q11 (goodIn_app gg_lawin_q12 (goodIn_app gg_lawin_q13 (goodIn_app gg_lawin_q14 (goodIn_app gg_lawin_q15 (goodIn_app gg_lawin_q16 (goodIn_app gg_lawin_q17 (goodIn_app gg_lawin_q18 (goodIn_app gg_lawin_q19 (goodIn_app gg_lawin_q20 (goodIn_app gg_lawin_q21 (goodIn_app gg_lawin_q22 (goodIn_app gg_lawin_q23 (goodIn_app gg_lawin_q24 (goodIn_app gg_lawin_q25 (goodIn_app gg_lawin_q26 (goodIn_app gg_lawin_q27 (goodIn_app gg_lawin_q28 (goodIn_app gg_lawin_q29 (goodIn_app gg_lawin_q30 (goodIn_app gg_lawin_q31 (goodIn_app gg_lawin_q32 (goodIn_app gg_lawin_q33 (goodIn_app gg_lawin_q34 (goodIn_app gg_lawin_q35 (goodIn_app gg_lawin_q36 (goodIn_app gg_lawin_q37 gg_lawin_q38))))))))))))))))))))))))))))))))))))) gg_lawin_q39) gg_lawin_q40) gg_lawin_q41) gg_lawin_q42) gg_lawin_q43) gg_lawin_q44) gg_lawin_q45) gg_lawin_q46) gg_lawin_q47) gg_lawin_q48) gg_lawin_q49) gg_lawin_q50)
theorem wsL_law_in : ∀ w ∈ wsL_law, w ∈ lw_tbl := fun w h => (wsL_law_g w h).1
theorem inlX0 : ∀ w ∈ wsX00, w ∈ wsL_law := fun _ h => List.mem_append_left _ (List.mem_append_left _ (List.mem_append_right _ h))
theorem inX0 : ∀ w ∈ wsX00, w ∈ lw_tbl := fun w h => wsL_law_in w (inlX0 w h)
theorem inlX1 : ∀ w ∈ wsX10, w ∈ wsL_law := fun _ h => List.mem_append_left _ (List.mem_append_left _ (List.mem_append_left _ (List.mem_append_left _ (List.mem_append_left _ (List.mem_append_left _ (List.mem_append_right _ h))))))
theorem inX1 : ∀ w ∈ wsX10, w ∈ lw_tbl := fun w h => wsL_law_in w (inlX1 w h)
theorem inlX2 : ∀ w ∈ wsX20, w ∈ wsL_law := fun _ h => List.mem_append_left _ (List.mem_append_left _ (List.mem_append_left _ (List.mem_append_left _ (List.mem_append_left _ (List.mem_append_left _ (List.mem_append_left _ (List.mem_append_left _ (List.mem_append_right _ h))))))))
theorem inX2 : ∀ w ∈ wsX20, w ∈ lw_tbl := fun w h => wsL_law_in w (inlX2 w h)
theorem inlX3 : ∀ w ∈ wsX30, w ∈ wsL_law := fun _ h => List.mem_append_left _ (List.mem_append_left _ (List.mem_append_left _ (List.mem_append_right _ h)))
theorem inX3 : ∀ w ∈ wsX30, w ∈ lw_tbl := fun w h => wsL_law_in w (inlX3 w h)
theorem inlX4 : ∀ w ∈ wsX40, w ∈ wsL_law := fun _ h => List.mem_append_left _ (List.mem_append_left _ (List.mem_append_left _ (List.mem_append_left _ (List.mem_append_left _ (List.mem_append_left _ (List.mem_append_left _ (List.mem_append_right _ h)))))))
theorem inX4 : ∀ w ∈ wsX40, w ∈ lw_tbl := fun w h => wsL_law_in w (inlX4 w h)
theorem inlX5 : ∀ w ∈ wsX50, w ∈ wsL_law := fun _ h => List.mem_append_left _ (List.mem_append_left _ (List.mem_append_left _ (List.mem_append_left _ (List.mem_append_right _ h))))
theorem inX5 : ∀ w ∈ wsX50, w ∈ lw_tbl := fun w h => wsL_law_in w (inlX5 w h)
theorem inlX6 : ∀ w ∈ wsX60, w ∈ wsL_law := fun _ h => List.mem_append_left _ (List.mem_append_left _ (List.mem_append_left _ (List.mem_append_left _ (List.mem_append_left _ (List.mem_append_left _ (List.mem_append_left _ (List.mem_append_left _ (List.mem_append_left _ (List.mem_append_right _ h)))))))))
theorem inX6 : ∀ w ∈ wsX60, w ∈ lw_tbl := fun w h => wsL_law_in w (inlX6 w h)
theorem inlX7 : ∀ w ∈ wsX70, w ∈ wsL_law := fun _ h => List.mem_append_left _ (List.mem_append_right _ h)
theorem inX7 : ∀ w ∈ wsX70, w ∈ lw_tbl := fun w h => wsL_law_in w (inlX7 w h)
theorem inlX8 : ∀ w ∈ wsX80, w ∈ wsL_law := fun _ h => List.mem_append_left _ (List.mem_append_left _ (List.mem_append_left _ (List.mem_append_left _ (List.mem_append_left _ (List.mem_append_right _ h)))))
theorem inX8 : ∀ w ∈ wsX80, w ∈ lw_tbl := fun w h => wsL_law_in w (inlX8 w h)
theorem inlX9 : ∀ w ∈ wsX90, w ∈ wsL_law := fun _ h => List.mem_append_left _ (List.mem_append_left _ (List.mem_append_left _ (List.mem_append_left _ (List.mem_append_left _ (List.mem_append_left _ (List.mem_append_left _ (List.mem_append_left _ (List.mem_append_left _ (List.mem_append_left _ (List.mem_append_left _ (List.mem_append_right _ h)))))))))))
theorem inX9 : ∀ w ∈ wsX90, w ∈ lw_tbl := fun w h => wsL_law_in w (inlX9 w h)
theorem inlX10 : ∀ w ∈ wsX100, w ∈ wsL_law := fun _ h => List.mem_append_left _ (List.mem_append_left _ (List.mem_append_left _ (List.mem_append_left _ (List.mem_append_left _ (List.mem_append_left _ (List.mem_append_left _ (List.mem_append_left _ (List.mem_append_left _ (List.mem_append_left _ (List.mem_append_right _ h))))))))))
theorem inX10 : ∀ w ∈ wsX100, w ∈ lw_tbl := fun w h => wsL_law_in w (inlX10 w h)
