theorem zk_gcons {big rest : List Cond} {c : Cond} (h1 : GoodIn big [c]) (h2 : GoodIn big rest) : GoodIn big (c :: rest) := fun w h => (List.mem_cons.mp h).elim (fun e => h1 w (by rw [e]; exact List.mem_cons_self)) (h2 w)
set_option maxRecDepth 20000 in
theorem gg_lawin_q1 : GoodIn lw_tbl wsL_law_r1 := goodIn_r _ [27, 28, 14, 60, 29, 30, 31, 32, 33, 34, 35, 36, 15, 236, 159, 160, 21, 237, 178, 179, 22, 238, 224, 225] (by decide +kernel) (by decide +kernel)
set_option maxRecDepth 20000 in
theorem gg_lawin_q2 : GoodIn lw_tbl wsL_law_r2 := goodIn_r _ [24, 239, 37, 38, 39, 40, 41, 42, 16, 147, 149, 158, 150, 44, 45, 46, 47, 48, 17, 99, 61, 62, 18, 102] (by decide +kernel) (by decide +kernel)
set_option maxRecDepth 20000 in
theorem gg_lawin_q3 : GoodIn lw_tbl wsL_law_r3 := goodIn_r _ [86, 87, 20, 103, 108, 110, 50, 51, 52, 53, 63, 64, 65, 66, 70, 71, 72, 73, 74, 67, 68, 19, 69, 89] (by decide +kernel) (by decide +kernel)
set_option maxRecDepth 20000 in
theorem gg_lawin_q4 : GoodIn lw_tbl wsL_law_r4 := goodIn_r _ [90, 91, 92, 161, 162, 163, 164, 165, 168, 167, 181, 182, 183, 184, 185, 23, 203, 205, 206, 187, 188, 189, 190, 227] (by decide +kernel) (by decide +kernel)
set_option maxRecDepth 20000 in
theorem gg_lawin_q5 : GoodIn lw_tbl wsL_law_r5 := goodIn_r _ [228, 229, 230, 232, 249, 250, 13, 251, 252, 253, 254, 255, 256, 257, 258, 259, 260, 261, 262, 263, 264, 265, 266, 267] (by decide +kernel) (by decide +kernel)
set_option maxRecDepth 20000 in
theorem gg_lawin_q6 : GoodIn lw_tbl wsL_law_r6 := goodIn_r _ [268, 269, 270, 271, 272, 170, 273, 274, 275, 276, 191, 277, 278, 279, 280, 106, 112, 113, 115, 116, 117, 118, 281, 282] (by decide +kernel) (by decide +kernel)
set_option maxRecDepth 20000 in
theorem gg_lawin_q7 : GoodIn lw_tbl wsL_law_r7 := goodIn_r _ [283, 284, 54, 285, 286, 287, 288, 289, 290, 291, 292, 293, 294, 295, 296, 297, 298, 299, 300, 93, 301, 302, 303, 304] (by decide +kernel) (by decide +kernel)
set_option maxRecDepth 20000 in
theorem gg_lawin_q8 : GoodIn lw_tbl wsL_law_r8 := goodIn_r _ [111, 305, 306, 307, 308, 309, 310, 311, 312, 169, 313, 315, 0, 316, 317, 318, 319, 320, 321, 322, 323, 324, 325, 326] (by decide +kernel) (by decide +kernel)
set_option maxRecDepth 20000 in
theorem gg_lawin_q9 : GoodIn lw_tbl wsL_law_r9 := goodIn_r _ [327, 328, 329, 331, 330, 25, 332, 333, 334, 335, 336, 337, 338, 339, 340, 341, 342, 343, 344, 345, 346, 347, 348, 349] (by decide +kernel) (by decide +kernel)
set_option maxRecDepth 20000 in
theorem gg_lawin_q10 : GoodIn lw_tbl wsL_law_r10 := goodIn_r _ [350, 351, 352, 353, 354, 356, 1, 357, 358, 359, 360, 361, 362, 364, 2, 365, 366, 367, 368, 369, 370, 371, 26, 372] (by decide +kernel) (by decide +kernel)
set_option maxRecDepth 20000 in
theorem gg_lawin_q11 : GoodIn lw_tbl wsL_law_r11 := goodIn_r _ [373, 374, 375, 376, 377, 378, 379, 380, 381, 382, 383, 384, 385, 386, 387, 388, 389, 390, 391, 392, 393, 394, 395, 396] (by decide +kernel) (by decide +kernel)
set_option maxRecDepth 20000 in
theorem gg_lawin_q12 : GoodIn lw_tbl wsL_law_r12 := goodIn_r _ [397, 398, 399, 400, 401, 402, 403, 404, 405, 406, 407, 408, 409, 410, 411, 412, 413, 414, 415, 416, 417, 418, 419, 420] (by decide +kernel) (by decide +kernel)
set_option maxRecDepth 20000 in
theorem gg_lawin_q13 : GoodIn lw_tbl wsL_law_r13 := goodIn_r _ [421, 422, 423, 424, 425, 426, 427, 428, 429, 430, 431, 432, 433, 434, 435, 436, 437, 438, 439, 440, 441, 442, 443, 444] (by decide +kernel) (by decide +kernel)
set_option maxRecDepth 20000 in
theorem gg_lawin_q14 : GoodIn lw_tbl wsL_law_r14 := goodIn_r _ [445, 446, 447, 448, 449, 450, 452, 3, 453, 454, 455, 456, 457, 458, 459, 460, 461, 462, 463, 464, 465, 466, 467, 468] (by decide +kernel) (by decide +kernel)
set_option maxRecDepth 20000 in
theorem gg_lawin_q15 : GoodIn lw_tbl wsL_law_r15 := goodIn_r _ [469, 470, 471, 472, 473, 474, 475, 476, 477, 479, 4, 480, 481, 483, 5, 484, 485, 487, 6, 488, 489, 490, 491, 492] (by decide +kernel) (by decide +kernel)
set_option maxRecDepth 20000 in
theorem gg_lawin_q16 : GoodIn lw_tbl wsL_law_r16 := goodIn_r _ [493, 494, 495, 496, 497, 498, 499, 500, 501, 502, 503, 541, 538, 539, 504, 505, 506, 507, 508, 537, 509, 511, 7, 512] (by decide +kernel) (by decide +kernel)
set_option maxRecDepth 20000 in
theorem gg_lawin_q17 : GoodIn lw_tbl wsL_law_r17 := goodIn_r _ [513, 515, 8, 516, 517, 519, 9, 520, 521, 523, 10, 524, 525, 526, 527, 528, 529, 530, 26, 531, 532, 534, 11, 535] (by decide +kernel) (by decide +kernel)
set_option maxRecDepth 20000 in
theorem gg_lawin_q18 : GoodIn lw_tbl wsL_law_r18 := goodIn_r _ [536, 540, 542, 543, 544, 545, 546, 547, 548, 549, 550, 551, 552, 553, 554, 555, 556, 557, 558, 559, 560, 561, 562, 563] (by decide +kernel) (by decide +kernel)
set_option maxRecDepth 20000 in
theorem gg_lawin_q19 : GoodIn lw_tbl wsL_law_r19 := goodIn_r _ [564, 565, 566, 567, 568, 569, 570, 571, 572, 573, 574, 575, 576, 577, 578, 579, 580, 581, 582, 583, 584, 585, 587, 12] (by decide +kernel) (by decide +kernel)
set_option maxRecDepth 20000 in
theorem gg_lawin_q20 : GoodIn lw_tbl wsL_law_r20 := goodIn_r _ [588, 589, 590, 591, 592, 593, 594, 595, 596, 597, 598, 599, 600] (by decide +kernel) (by decide +kernel)
set_option maxRecDepth 20000 in
theorem gg_lawin_q21 : GoodIn lw_tbl wsX90 := goodIn_p _ [] (by decide +kernel) (by decide +kernel)
set_option maxRecDepth 20000 in
theorem gg_lawin_q22 : GoodIn lw_tbl wsX60 := goodIn_p _ [] (by decide +kernel) (by decide +kernel)
set_option maxRecDepth 20000 in
theorem gg_lawin_q23 : GoodIn lw_tbl wsX20 := goodIn_p _ [] (by decide +kernel) (by decide +kernel)
set_option maxRecDepth 20000 in
theorem gg_lawin_q24 : GoodIn lw_tbl wsX40 := goodIn_p _ [] (by decide +kernel) (by decide +kernel)
set_option maxRecDepth 20000 in
theorem gg_lawin_q25 : GoodIn lw_tbl wsX10 := goodIn_p _ [] (by decide +kernel) (by decide +kernel)
set_option maxRecDepth 20000 in
theorem gg_lawin_q26 : GoodIn lw_tbl wsX80 := goodIn_p _ [] (by decide +kernel) (by decide +kernel)
set_option maxRecDepth 20000 in
theorem gg_lawin_q27 : GoodIn lw_tbl wsX50 := goodIn_p _ [] (by decide +kernel) (by decide +kernel)
set_option maxRecDepth 20000 in
theorem gg_lawin_q28 : GoodIn lw_tbl wsX30 := goodIn_p _ [] (by decide +kernel) (by decide +kernel)
set_option maxRecDepth 20000 in
theorem gg_lawin_q29 : GoodIn lw_tbl wsX00 := goodIn_p _ [] (by decide +kernel) (by decide +kernel)
set_option maxRecDepth 20000 in
theorem gg_lawin_q30 : GoodIn lw_tbl wsX70 := goodIn_p _ [] (by decide +kernel) (by decide +kernel)
set_option maxRecDepth 20000 in
theorem gg_lawin_q31 : GoodIn lw_tbl ([] : List Cond) := goodIn_p _ [] (by decide +kernel) (by decide +kernel)
theorem wsL_law_g : GoodIn lw_tbl wsL_law := (goodIn_app (goodIn_app (goodIn_app (goodIn_app (goodIn_app (goodIn_app (goodIn_app (goodIn_app (goodIn_app (goodIn_app (goodIn_app (goodIn_app gg_lawin_q1 (goodIn_app gg_lawin_q2 (goodIn_app gg_lawin_q3 (goodIn_app gg_lawin_q4 (goodIn_app gg_lawin_q5 (goodIn_app gg_lawin_q6 (goodIn_app gg_lawin_q7 (goodIn_app gg_lawin_q8 (goodIn_app gg_lawin_q9 (goodIn_app gg_lawin_q10 (goodIn_app gg_lawin_q11 (goodIn_app gg_lawin_q12 (goodIn_app gg_lawin_q13 (goodIn_app gg_lawin_q14 (goodIn_app gg_lawin_q15 (goodIn_app gg_lawin_q16 (goodIn_app gg_lawin_q17 (goodIn_app gg_lawin_q18 (goodIn_app gg_lawin_q19 gg_lawin_q20))))))))))))))))))) gg_lawin_q21) gg_lawin_q22) gg_lawin_q23) gg_lawin_q24) gg_lawin_q25) gg_lawin_q26) gg_lawin_q27) gg_lawin_q28) gg_lawin_q29) gg_lawin_q30) gg_lawin_q31)
theorem wsL_law_in : ∀ w ∈ wsL_law, w ∈ lw_tbl := fun w h => (wsL_law_g w h).1
theorem inlX0 : ∀ w ∈ wsX00, w ∈ wsL_law := fun _ h => List.mem_append_left _ (List.mem_append_left _ (List.mem_append_right _ h))
theorem inX0 : ∀ w ∈ wsX00, w ∈ lw_tbl := fun w h => wsL_law_in w (inlX0 w h)
theorem inlX1 : ∀ w ∈ wsX10, w ∈ wsL_law := fun _ h => List.mem_append_left _ (List.mem_append_left _ (List.mem_append_left _ (List.mem_append_left _ (List.mem_append_left _ (List.mem_append_left _ (List.mem_append_right _ h))))))
theorem inX1 : ∀ w ∈ wsX10, w ∈ lw_tbl := fun w h => wsL_law_in w (inlX1 w h)
theorem inlX2 : ∀ w ∈ wsX20, w ∈ wsL_law := fun _ h => List.mem_append_left _ (List.mem_append_left _ (List.mem_append_left _ (List.mem_append_left _ (List.mem_append_left _ (List.mem_append_left _ (List.mem_append_left _ (List.mem_append_left _ (List.mem_append_right _ h))))))))
theorem inX2 : ∀ w ∈ wsX20, w ∈ lw_tbl := fun w h => wsL_law_in w (inlX2 w h)
theorem inlX3 : ∀ w ∈ wsX30, w ∈ wsL_law := fun _ h => List.mem_append_left _ (List.mem_append_left _ (List.mem_append_left _ (List.mem_append_right _ h)))
theorem inX3 : ∀ w ∈ wsX30, w ∈ lw_tbl := fun w h => wsL_law_in w (inlX3 w h)
theorem inlX4 : ∀ w ∈ wsX40, w ∈ wsL_law := fun _ h => List.mem_append_left _ (List.mem_append_left _ (List.mem_append_left _ (List.mem_append_left _ (List.mem_append_left _ (List.mem_append_left _ (List.mem_append_left _ (List.mem_append_right _ h)))))))
theorem inX4 : ∀ w ∈ wsX40, w ∈ lw_tbl := fun w h => wsL_law_in w (inlX4 w h)
theorem inlX5 : ∀ w ∈ wsX50, w ∈ wsL_law := fun _ h => List.mem_append_left _ (List.mem_append_left _ (List.mem_append_left _ (List.mem_append_left _ (List.mem_append_right _ h))))
theorem inX5 : ∀ w ∈ wsX50, w ∈ lw_tbl := fun w h => wsL_law_in w (inlX5 w h)
theorem inlX6 : ∀ w ∈ wsX60, w ∈ wsL_law := fun _ h => List.mem_append_left _ (List.mem_append_left _ (List.mem_append_left _ (List.mem_append_left _ (List.mem_append_left _ (List.mem_append_left _ (List.mem_append_left _ (List.mem_append_left _ (List.mem_append_left _ (List.mem_append_right _ h)))))))))
theorem inX6 : ∀ w ∈ wsX60, w ∈ lw_tbl := fun w h => wsL_law_in w (inlX6 w h)
theorem inlX7 : ∀ w ∈ wsX70, w ∈ wsL_law := fun _ h => List.mem_append_left _ (List.mem_append_right _ h)
theorem inX7 : ∀ w ∈ wsX70, w ∈ lw_tbl := fun w h => wsL_law_in w (inlX7 w h)
theorem inlX8 : ∀ w ∈ wsX80, w ∈ wsL_law := fun _ h => List.mem_append_left _ (List.mem_append_left _ (List.mem_append_left _ (List.mem_append_left _ (List.mem_append_left _ (List.mem_append_right _ h)))))
theorem inX8 : ∀ w ∈ wsX80, w ∈ lw_tbl := fun w h => wsL_law_in w (inlX8 w h)
theorem inlX9 : ∀ w ∈ wsX90, w ∈ wsL_law := fun _ h => List.mem_append_left _ (List.mem_append_left _ (List.mem_append_left _ (List.mem_append_left _ (List.mem_append_left _ (List.mem_append_left _ (List.mem_append_left _ (List.mem_append_left _ (List.mem_append_left _ (List.mem_append_left _ (List.mem_append_right _ h))))))))))
theorem inX9 : ∀ w ∈ wsX90, w ∈ lw_tbl := fun w h => wsL_law_in w (inlX9 w h)
theorem inX10 : ∀ w ∈ wsX100, w ∈ lw_tbl := by decide +kernel
