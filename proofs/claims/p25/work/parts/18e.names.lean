theorem zk_gcons {big rest : List Cond} {c : Cond} (h1 : GoodIn big [c]) (h2 : GoodIn big rest) : GoodIn big (c :: rest) := fun w h => (List.mem_cons.mp h).elim (fun e => h1 w (by rw [e]; exact List.mem_cons_self)) (h2 w)
set_option maxRecDepth 20000 in
theorem gg_lawin_q1 : GoodIn lw_tbl wsL_law_r1 := goodIn_r _ [27, 28, 14, 60, 29, 30, 31, 32, 33, 34, 35, 36, 15, 236, 159, 160, 21, 237, 178, 179, 22, 238, 224, 225] (by decide +kernel) (by decide +kernel)
set_option maxRecDepth 20000 in
theorem gg_lawin_q2 : GoodIn lw_tbl wsL_law_r2 := goodIn_r _ [24, 239, 37, 38, 39, 40, 41, 42, 16, 147, 149, 158, 150, 44, 45, 46, 47, 48, 17, 99, 61, 62, 18, 102] (by decide +kernel) (by decide +kernel)
set_option maxRecDepth 20000 in
theorem gg_lawin_q3 : GoodIn lw_tbl wsL_law_r3 := goodIn_r _ [86, 87, 20, 103, 108, 110, 50, 51, 52, 53, 63, 64, 65, 66, 70, 71, 72, 73, 74, 67, 68, 19, 69, 89] (by decide +kernel) (by decide +kernel)
set_option maxRecDepth 20000 in
theorem gg_lawin_q4 : GoodIn lw_tbl wsL_law_r4 := goodIn_r _ [90, 91, 92, 161, 162, 163, 164, 165, 168, 167, 181, 182, 183, 184, 185, 23, 203, 205, 206, 187, 188, 189, 190, 227] (by decide +kernel) (by decide +kernel)
set_option maxRecDepth 20000 in
theorem gg_lawin_q5_s0 : GoodIn lw_tbl ([Cond.code yX1_init cX1_init 1 none, Cond.methodLink RX1 3 objectInit, Cond.classLink RX1 9 RX8, Cond.fieldLink RX1 12 "PromiseWheel$Forecast" "imagined" "LPromiseWheel$Wheel;", Cond.methodLink RL 68 yL_cell, Cond.static yL_cell, Cond.initialized RL] : List Cond) := goodIn_r _ [228, 229, 230, 232, 249, 250, 13] (by decide +kernel) (by decide +kernel)
set_option maxRecDepth 100000 in
theorem gg_lawin_q5_s1 : GoodIn lw_tbl ([Cond.code yL_cell cL_cell 2 (some .int)] : List Cond) := fun w h => by
  rw [List.mem_singleton.mp h]
  exact ⟨List.mem_of_getElem? (i := 251) rfl, Or.inl rfl⟩
set_option maxRecDepth 100000 in
theorem gg_lawin_q5_s2 : GoodIn lw_tbl ([Cond.constant RL 7 (32452843)] : List Cond) := fun w h => by
  rw [List.mem_singleton.mp h]
  exact ⟨List.mem_of_getElem? (i := 252) rfl, Or.inl rfl⟩
set_option maxRecDepth 100000 in
theorem gg_lawin_q5_s3 : GoodIn lw_tbl ([Cond.constant RL 8 (49979687)] : List Cond) := fun w h => by
  rw [List.mem_singleton.mp h]
  exact ⟨List.mem_of_getElem? (i := 253) rfl, Or.inl rfl⟩
set_option maxRecDepth 20000 in
theorem gg_lawin_q5_s4 : GoodIn lw_tbl ([Cond.methodLink RL 16 yL_low, Cond.static yL_low] : List Cond) := goodIn_r _ [254, 255] (by decide +kernel) (by decide +kernel)
set_option maxRecDepth 100000 in
theorem gg_lawin_q5_s5 : GoodIn lw_tbl ([Cond.code yL_low cL_low 2 (some .int)] : List Cond) := fun w h => by
  rw [List.mem_singleton.mp h]
  exact ⟨List.mem_of_getElem? (i := 256) rfl, Or.inl rfl⟩
set_option maxRecDepth 100000 in
theorem gg_lawin_q5_s6 : GoodIn lw_tbl ([Cond.constant RL 9 (2147483647)] : List Cond) := fun w h => by
  rw [List.mem_singleton.mp h]
  exact ⟨List.mem_of_getElem? (i := 257) rfl, Or.inl rfl⟩
set_option maxRecDepth 20000 in
theorem gg_lawin_q5_s7 : GoodIn lw_tbl ([Cond.methodLink RL 72 yL_change, Cond.static yL_change] : List Cond) := goodIn_r _ [258, 259] (by decide +kernel) (by decide +kernel)
set_option maxRecDepth 100000 in
theorem gg_lawin_q5_s8 : GoodIn lw_tbl ([Cond.code yL_change cL_change 10 (some .boolean)] : List Cond) := fun w h => by
  rw [List.mem_singleton.mp h]
  exact ⟨List.mem_of_getElem? (i := 260) rfl, Or.inl rfl⟩
set_option maxRecDepth 20000 in
theorem gg_lawin_q5_s9 : GoodIn lw_tbl ([Cond.methodLink RL 10 yX9_count, Cond.instanceMethod yX9_count, Cond.selects RX9 yX9_count yX9_count, Cond.code yX9_count cX9_count 2 (some .int), Cond.methodLink RX9 120 yX6_snapshotsTaken, Cond.instanceMethod yX6_snapshotsTaken, Cond.selects RX6 yX6_snapshotsTaken yX6_snapshotsTaken] : List Cond) := goodIn_r _ [261, 262, 263, 264, 265, 266, 267] (by decide +kernel) (by decide +kernel)
theorem gg_lawin_q5 : GoodIn lw_tbl wsL_law_r5 := (goodIn_app gg_lawin_q5_s0 (goodIn_app gg_lawin_q5_s1 (goodIn_app gg_lawin_q5_s2 (goodIn_app gg_lawin_q5_s3 (goodIn_app gg_lawin_q5_s4 (goodIn_app gg_lawin_q5_s5 (goodIn_app gg_lawin_q5_s6 (goodIn_app gg_lawin_q5_s7 (goodIn_app gg_lawin_q5_s8 gg_lawin_q5_s9)))))))))
set_option maxRecDepth 20000 in
theorem gg_lawin_q6 : GoodIn lw_tbl wsL_law_r6 := goodIn_r _ [268, 269, 270, 271, 272, 170, 273, 274, 275, 276, 191, 277, 278, 279, 280, 106, 112, 113, 115, 116, 117, 118, 281, 282] (by decide +kernel) (by decide +kernel)
set_option maxRecDepth 20000 in
theorem gg_lawin_q7 : GoodIn lw_tbl wsL_law_r7 := goodIn_r _ [283, 284, 54, 285, 286, 287, 288, 289, 290, 291, 292, 293, 294, 295, 296, 297, 298, 299, 300, 93, 301, 302, 303, 304] (by decide +kernel) (by decide +kernel)
set_option maxRecDepth 20000 in
theorem gg_lawin_q8 : GoodIn lw_tbl wsL_law_r8 := goodIn_r _ [111, 305, 306, 307, 308, 309, 310, 311, 312, 169, 313, 315, 0, 316, 317, 318, 319, 320, 321, 322, 323, 324, 325, 326] (by decide +kernel) (by decide +kernel)
set_option maxRecDepth 20000 in
theorem gg_lawin_q9 : GoodIn lw_tbl wsL_law_r9 := goodIn_r _ [327, 328, 329, 331, 330, 25, 332, 333, 334, 335, 336, 337, 338, 339, 340, 341, 342, 343, 344, 345, 346, 347, 348, 349] (by decide +kernel) (by decide +kernel)
set_option maxRecDepth 20000 in
theorem gg_lawin_q10 : GoodIn lw_tbl wsL_law_r10 := goodIn_r _ [350, 351, 352, 353, 354, 356, 1, 357, 358, 359, 360, 361, 362, 364, 2, 365, 366, 367, 368, 369, 370, 371, 26, 372] (by decide +kernel) (by decide +kernel)
set_option maxRecDepth 20000 in
theorem gg_lawin_q11 : GoodIn lw_tbl wsL_law_r11 := goodIn_r _ [373, 374, 375, 376, 377, 378, 379, 380, 381, 382, 383, 384, 385, 386, 387, 388, 389, 390, 391, 392, 393, 394, 395, 396] (by decide +kernel) (by decide +kernel)
set_option maxRecDepth 20000 in
theorem gg_lawin_q12 : GoodIn lw_tbl wsL_law_r12 := goodIn_r _ [397, 398, 399, 400, 401, 402, 403, 404, 405, 406, 407, 408, 409, 410, 411, 412, 413, 414, 415, 416, 417, 418, 419, 420] (by decide +kernel) (by decide +kernel)
set_option maxRecDepth 20000 in
theorem gg_lawin_q13 : GoodIn lw_tbl wsL_law_r13 := goodIn_r _ [421, 422, 423, 424, 425, 426, 427, 428, 429, 430, 431, 432, 433, 434, 435, 436, 437, 438, 439, 440, 441, 442, 443, 444] (by decide +kernel) (by decide +kernel)
set_option maxRecDepth 20000 in
theorem gg_lawin_q14_s0 : GoodIn lw_tbl ([Cond.code yX9_sweep cX9_sweep 1 (some .int), Cond.methodLink RX9 65 yX8_sweepAll, Cond.instanceMethod yX8_sweepAll, Cond.selects RX8 yX8_sweepAll yX8_sweepAll, Cond.code yX8_sweepAll cX8_sweepAll 3 (some .int), Cond.methodLink RX8 118 yX8_noteSwept, Cond.instanceMethod yX8_noteSwept, Cond.selects RX8 yX8_noteSwept yX8_noteSwept, Cond.code yX8_noteSwept cX8_noteSwept 2 none, Cond.methodLink RL 76 yL_areNext, Cond.static yL_areNext] : List Cond) := goodIn_r _ [445, 446, 447, 448, 449, 450, 452, 3, 453, 454, 455] (by decide +kernel) (by decide +kernel)
set_option maxRecDepth 100000 in
theorem gg_lawin_q14_s1 : GoodIn lw_tbl ([Cond.code yL_areNext cL_areNext 4 (some .boolean)] : List Cond) := fun w h => by
  rw [List.mem_singleton.mp h]
  exact ⟨List.mem_of_getElem? (i := 456) rfl, Or.inl rfl⟩
set_option maxRecDepth 20000 in
theorem gg_lawin_q14_s2 : GoodIn lw_tbl ([Cond.methodLink RL 42 yL_first, Cond.static yL_first] : List Cond) := goodIn_r _ [457, 458] (by decide +kernel) (by decide +kernel)
set_option maxRecDepth 100000 in
theorem gg_lawin_q14_s3 : GoodIn lw_tbl ([Cond.code yL_first cL_first 4 (some .int)] : List Cond) := fun w h => by
  rw [List.mem_singleton.mp h]
  exact ⟨List.mem_of_getElem? (i := 459) rfl, Or.inl rfl⟩
set_option maxRecDepth 20000 in
theorem gg_lawin_q14_s4 : GoodIn lw_tbl ([Cond.methodLink RL 46 yX9_next, Cond.instanceMethod yX9_next, Cond.selects RX9 yX9_next yX9_next, Cond.code yX9_next cX9_next 5 (some .int), Cond.methodLink RX9 166 yX8_earliestOfAll, Cond.instanceMethod yX8_earliestOfAll, Cond.selects RX8 yX8_earliestOfAll yX8_earliestOfAll, Cond.code yX8_earliestOfAll cX8_earliestOfAll 3 (some .int), Cond.methodLink RX8 175 yX5_earlier] : List Cond) := goodIn_r _ [460, 461, 462, 463, 464, 465, 466, 467, 468] (by decide +kernel) (by decide +kernel)
theorem gg_lawin_q14 : GoodIn lw_tbl wsL_law_r14 := (goodIn_app gg_lawin_q14_s0 (goodIn_app gg_lawin_q14_s1 (goodIn_app gg_lawin_q14_s2 (goodIn_app gg_lawin_q14_s3 gg_lawin_q14_s4))))
set_option maxRecDepth 20000 in
theorem gg_lawin_q15 : GoodIn lw_tbl wsL_law_r15 := goodIn_r _ [469, 470, 471, 472, 473, 474, 475, 476, 477, 479, 4, 480, 481, 483, 5, 484, 485, 487, 6, 488, 489, 490, 491, 492] (by decide +kernel) (by decide +kernel)
set_option maxRecDepth 20000 in
theorem gg_lawin_q16_s0 : GoodIn lw_tbl ([Cond.methodLink RL 80 yL_pass, Cond.static yL_pass] : List Cond) := goodIn_r _ [493, 494] (by decide +kernel) (by decide +kernel)
set_option maxRecDepth 100000 in
theorem gg_lawin_q16_s1 : GoodIn lw_tbl ([Cond.code yL_pass cL_pass 15 (some .boolean)] : List Cond) := fun w h => by
  rw [List.mem_singleton.mp h]
  exact ⟨List.mem_of_getElem? (i := 495) rfl, Or.inl rfl⟩
set_option maxRecDepth 20000 in
theorem gg_lawin_q16_s2 : GoodIn lw_tbl ([Cond.methodLink RL 49 yX9_would, Cond.instanceMethod yX9_would, Cond.selects RX9 yX9_would yX9_would, Cond.code yX9_would cX9_would 3 (some .int), Cond.methodLink RX9 182 yX1_outcome, Cond.instanceMethod yX1_outcome, Cond.selects RX1 yX1_outcome yX1_outcome, Cond.code yX1_outcome cX1_outcome 6 (some .int), Cond.methodLink RX1 43 Lib.Math.max.name, Cond.static Lib.Math.max.name, Cond.code Lib.Math.max.name Lib.Math.max.code 2 (some .int), Cond.methodLink RX1 18 yX8_copyFrom, Cond.methodLink RX1 32 yX8_passTick, Cond.instanceMethod yX8_passTick, Cond.selects RX8 yX8_passTick yX8_passTick, Cond.code yX8_passTick cX8_passTick 1 none, Cond.methodLink RX8 139 Lib.Math.max.name, Cond.methodLink RX8 124 yX8_letFall, Cond.instanceMethod yX8_letFall, Cond.selects RX8 yX8_letFall yX8_letFall, Cond.code yX8_letFall cX8_letFall 6 none] : List Cond) := goodIn_r _ [496, 497, 498, 499, 500, 501, 502, 503, 541, 538, 539, 504, 505, 506, 507, 508, 537, 509, 511, 7, 512] (by decide +kernel) (by decide +kernel)
theorem gg_lawin_q16 : GoodIn lw_tbl wsL_law_r16 := (goodIn_app gg_lawin_q16_s0 (goodIn_app gg_lawin_q16_s1 gg_lawin_q16_s2))
set_option maxRecDepth 20000 in
theorem gg_lawin_q17 : GoodIn lw_tbl wsL_law_r17 := goodIn_r _ [513, 515, 8, 516, 517, 519, 9, 520, 521, 523, 10, 524, 525, 526, 527, 528, 529, 530, 26, 531, 532, 534, 11, 535] (by decide +kernel) (by decide +kernel)
set_option maxRecDepth 20000 in
theorem gg_lawin_q18 : GoodIn lw_tbl wsL_law_r18 := goodIn_r _ [536, 540, 542, 543, 544, 545, 546, 547, 548, 549, 550, 551, 552, 553, 554, 555, 556, 557, 558, 559, 560, 561, 562, 563] (by decide +kernel) (by decide +kernel)
set_option maxRecDepth 20000 in
theorem gg_lawin_q19_s0 : GoodIn lw_tbl ([Cond.selects RX9 yX9_call yX9_call, Cond.code yX9_call cX9_call 3 (some .int), Cond.methodLink RX9 163 yX0_read, Cond.instanceMethod yX0_read, Cond.selects RX0 yX0_read yX0_read, Cond.code yX0_read cX0_read 3 (some .int), Cond.methodLink RX0 31 Lib.Math.min.name, Cond.methodLink RL 83 yL_areAlike, Cond.static yL_areAlike] : List Cond) := goodIn_r _ [564, 565, 566, 567, 568, 569, 570, 571, 572] (by decide +kernel) (by decide +kernel)
set_option maxRecDepth 100000 in
theorem gg_lawin_q19_s1 : GoodIn lw_tbl ([Cond.code yL_areAlike cL_areAlike 4 (some .boolean)] : List Cond) := fun w h => by
  rw [List.mem_singleton.mp h]
  exact ⟨List.mem_of_getElem? (i := 573) rfl, Or.inl rfl⟩
set_option maxRecDepth 20000 in
theorem gg_lawin_q19_s2 : GoodIn lw_tbl ([Cond.methodLink RL 87 yL_leastRoom, Cond.static yL_leastRoom] : List Cond) := goodIn_r _ [574, 575] (by decide +kernel) (by decide +kernel)
set_option maxRecDepth 100000 in
theorem gg_lawin_q19_s3 : GoodIn lw_tbl ([Cond.code yL_leastRoom cL_leastRoom 6 (some .boolean)] : List Cond) := fun w h => by
  rw [List.mem_singleton.mp h]
  exact ⟨List.mem_of_getElem? (i := 576) rfl, Or.inl rfl⟩
set_option maxRecDepth 20000 in
theorem gg_lawin_q19_s4 : GoodIn lw_tbl ([Cond.methodLink RL 61 yX9_leastRoom, Cond.instanceMethod yX9_leastRoom, Cond.selects RX9 yX9_leastRoom yX9_leastRoom, Cond.code yX9_leastRoom cX9_leastRoom 2 (some .int), Cond.methodLink RX9 186 yX1_leastTimelyRoom, Cond.instanceMethod yX1_leastTimelyRoom, Cond.selects RX1 yX1_leastTimelyRoom yX1_leastTimelyRoom, Cond.code yX1_leastTimelyRoom cX1_leastTimelyRoom 4 (some .int), Cond.methodLink RX1 64 yX1_isTimely, Cond.instanceMethod yX1_isTimely, Cond.selects RX1 yX1_isTimely yX1_isTimely] : List Cond) := goodIn_r _ [577, 578, 579, 580, 581, 582, 583, 584, 585, 587, 12] (by decide +kernel) (by decide +kernel)
theorem gg_lawin_q19 : GoodIn lw_tbl wsL_law_r19 := (goodIn_app gg_lawin_q19_s0 (goodIn_app gg_lawin_q19_s1 (goodIn_app gg_lawin_q19_s2 (goodIn_app gg_lawin_q19_s3 gg_lawin_q19_s4))))
set_option maxRecDepth 20000 in
theorem gg_lawin_q20 : GoodIn lw_tbl wsL_law_r20 := goodIn_r _ [588, 589, 590, 591, 592, 593, 594, 595, 596, 597, 598, 599, 600] (by decide +kernel) (by decide +kernel)
set_option maxRecDepth 20000 in
theorem gg_lawin_q21 : GoodIn lw_tbl wsX90 := goodIn_p _ [] (by decide +kernel) (by decide +kernel)
set_option maxRecDepth 20000 in
theorem gg_lawin_q22 : GoodIn lw_tbl wsX60 := goodIn_p _ [] (by decide +kernel) (by decide +kernel)
set_option maxRecDepth 20000 in
theorem gg_lawin_q23 : GoodIn lw_tbl wsX20 := goodIn_p _ [] (by decide +kernel) (by decide +kernel)
set_option maxRecDepth 20000 in
theorem gg_lawin_q24 : GoodIn lw_tbl wsX40 := goodIn_p _ [] (by decide +kernel) (by decide +kernel)
set_option maxRecDepth 20000 in
theorem gg_lawin_q25 : GoodIn lw_tbl wsX10 := goodIn_p _ [] (by decide +kernel) (by decide +kernel)
set_option maxRecDepth 20000 in
theorem gg_lawin_q26 : GoodIn lw_tbl wsX80 := goodIn_p _ [] (by decide +kernel) (by decide +kernel)
set_option maxRecDepth 20000 in
theorem gg_lawin_q27 : GoodIn lw_tbl wsX50 := goodIn_p _ [] (by decide +kernel) (by decide +kernel)
set_option maxRecDepth 20000 in
theorem gg_lawin_q28 : GoodIn lw_tbl wsX30 := goodIn_p _ [] (by decide +kernel) (by decide +kernel)
set_option maxRecDepth 20000 in
theorem gg_lawin_q29 : GoodIn lw_tbl wsX00 := goodIn_p _ [] (by decide +kernel) (by decide +kernel)
set_option maxRecDepth 20000 in
theorem gg_lawin_q30 : GoodIn lw_tbl wsX70 := goodIn_p _ [] (by decide +kernel) (by decide +kernel)
set_option maxRecDepth 20000 in
theorem gg_lawin_q31 : GoodIn lw_tbl ([] : List Cond) := goodIn_p _ [] (by decide +kernel) (by decide +kernel)
theorem wsL_law_g : GoodIn lw_tbl wsL_law := (goodIn_app (goodIn_app (goodIn_app (goodIn_app (goodIn_app (goodIn_app (goodIn_app (goodIn_app (goodIn_app (goodIn_app (goodIn_app (goodIn_app gg_lawin_q1 (goodIn_app gg_lawin_q2 (goodIn_app gg_lawin_q3 (goodIn_app gg_lawin_q4 (goodIn_app gg_lawin_q5 (goodIn_app gg_lawin_q6 (goodIn_app gg_lawin_q7 (goodIn_app gg_lawin_q8 (goodIn_app gg_lawin_q9 (goodIn_app gg_lawin_q10 (goodIn_app gg_lawin_q11 (goodIn_app gg_lawin_q12 (goodIn_app gg_lawin_q13 (goodIn_app gg_lawin_q14 (goodIn_app gg_lawin_q15 (goodIn_app gg_lawin_q16 (goodIn_app gg_lawin_q17 (goodIn_app gg_lawin_q18 (goodIn_app gg_lawin_q19 gg_lawin_q20))))))))))))))))))) gg_lawin_q21) gg_lawin_q22) gg_lawin_q23) gg_lawin_q24) gg_lawin_q25) gg_lawin_q26) gg_lawin_q27) gg_lawin_q28) gg_lawin_q29) gg_lawin_q30) gg_lawin_q31)
theorem wsL_law_in : ∀ w ∈ wsL_law, w ∈ lw_tbl := fun w h => (wsL_law_g w h).1
theorem inlX0 : ∀ w ∈ wsX00, w ∈ wsL_law := fun _ h => List.mem_append_left _ (List.mem_append_left _ (List.mem_append_right _ h))
theorem inX0 : ∀ w ∈ wsX00, w ∈ lw_tbl := fun w h => wsL_law_in w (inlX0 w h)
theorem inlX1 : ∀ w ∈ wsX10, w ∈ wsL_law := fun _ h => List.mem_append_left _ (List.mem_append_left _ (List.mem_append_left _ (List.mem_append_left _ (List.mem_append_left _ (List.mem_append_left _ (List.mem_append_right _ h))))))
theorem inX1 : ∀ w ∈ wsX10, w ∈ lw_tbl := fun w h => wsL_law_in w (inlX1 w h)
theorem inlX2 : ∀ w ∈ wsX20, w ∈ wsL_law := fun _ h => List.mem_append_left _ (List.mem_append_left _ (List.mem_append_left _ (List.mem_append_left _ (List.mem_append_left _ (List.mem_append_left _ (List.mem_append_left _ (List.mem_append_left _ (List.mem_append_right _ h))))))))
theorem inX2 : ∀ w ∈ wsX20, w ∈ lw_tbl := fun w h => wsL_law_in w (inlX2 w h)
theorem inlX3 : ∀ w ∈ wsX30, w ∈ wsL_law := fun _ h => List.mem_append_left _ (List.mem_append_left _ (List.mem_append_left _ (List.mem_append_right _ h)))
theorem inX3 : ∀ w ∈ wsX30, w ∈ lw_tbl := fun w h => wsL_law_in w (inlX3 w h)
theorem inlX4 : ∀ w ∈ wsX40, w ∈ wsL_law := fun _ h => List.mem_append_left _ (List.mem_append_left _ (List.mem_append_left _ (List.mem_append_left _ (List.mem_append_left _ (List.mem_append_left _ (List.mem_append_left _ (List.mem_append_right _ h)))))))
theorem inX4 : ∀ w ∈ wsX40, w ∈ lw_tbl := fun w h => wsL_law_in w (inlX4 w h)
theorem inlX5 : ∀ w ∈ wsX50, w ∈ wsL_law := fun _ h => List.mem_append_left _ (List.mem_append_left _ (List.mem_append_left _ (List.mem_append_left _ (List.mem_append_right _ h))))
theorem inX5 : ∀ w ∈ wsX50, w ∈ lw_tbl := fun w h => wsL_law_in w (inlX5 w h)
theorem inlX6 : ∀ w ∈ wsX60, w ∈ wsL_law := fun _ h => List.mem_append_left _ (List.mem_append_left _ (List.mem_append_left _ (List.mem_append_left _ (List.mem_append_left _ (List.mem_append_left _ (List.mem_append_left _ (List.mem_append_left _ (List.mem_append_left _ (List.mem_append_right _ h)))))))))
theorem inX6 : ∀ w ∈ wsX60, w ∈ lw_tbl := fun w h => wsL_law_in w (inlX6 w h)
theorem inlX7 : ∀ w ∈ wsX70, w ∈ wsL_law := fun _ h => List.mem_append_left _ (List.mem_append_right _ h)
theorem inX7 : ∀ w ∈ wsX70, w ∈ lw_tbl := fun w h => wsL_law_in w (inlX7 w h)
theorem inlX8 : ∀ w ∈ wsX80, w ∈ wsL_law := fun _ h => List.mem_append_left _ (List.mem_append_left _ (List.mem_append_left _ (List.mem_append_left _ (List.mem_append_left _ (List.mem_append_right _ h)))))
theorem inX8 : ∀ w ∈ wsX80, w ∈ lw_tbl := fun w h => wsL_law_in w (inlX8 w h)
theorem inlX9 : ∀ w ∈ wsX90, w ∈ wsL_law := fun _ h => List.mem_append_left _ (List.mem_append_left _ (List.mem_append_left _ (List.mem_append_left _ (List.mem_append_left _ (List.mem_append_left _ (List.mem_append_left _ (List.mem_append_left _ (List.mem_append_left _ (List.mem_append_left _ (List.mem_append_right _ h))))))))))
theorem inX9 : ∀ w ∈ wsX90, w ∈ lw_tbl := fun w h => wsL_law_in w (inlX9 w h)
theorem inX10 : ∀ w ∈ wsX100, w ∈ lw_tbl := by decide +kernel
