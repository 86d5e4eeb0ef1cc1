theorem dL_cell_0 : decode cL_cell 0 = .ok (.iload_n 1, 1) := by decide +kernel
theorem dL_cell_1 : decode cL_cell 1 = .ok (.aload_n 0, 1) := by decide +kernel
theorem dL_cell_2 : decode cL_cell 2 = .ok (.arraylength, 1) := by decide +kernel
theorem dL_cell_3 : decode cL_cell 3 = .ok (.if_icmp .ge 9, 3) := by decide +kernel
theorem dL_cell_6 : decode cL_cell 6 = .ok (.aload_n 0, 1) := by decide +kernel
theorem dL_cell_7 : decode cL_cell 7 = .ok (.iload_n 1, 1) := by decide +kernel
theorem dL_cell_8 : decode cL_cell 8 = .ok (.iaload, 1) := by decide +kernel
theorem dL_cell_9 : decode cL_cell 9 = .ok (.goto 10, 3) := by decide +kernel
theorem dL_cell_12 : decode cL_cell 12 = .ok (.ldc 7, 2) := by decide +kernel
theorem dL_cell_14 : decode cL_cell 14 = .ok (.iload_n 1, 1) := by decide +kernel
theorem dL_cell_15 : decode cL_cell 15 = .ok (.imul, 1) := by decide +kernel
theorem dL_cell_16 : decode cL_cell 16 = .ok (.ldc 8, 2) := by decide +kernel
theorem dL_cell_18 : decode cL_cell 18 = .ok (.iadd, 1) := by decide +kernel
theorem dL_cell_19 : decode cL_cell 19 = .ok (.ireturn, 1) := by decide +kernel
theorem dL_low_0 : decode cL_low 0 = .ok (.iload_n 0, 1) := by decide +kernel
theorem dL_low_1 : decode cL_low 1 = .ok (.ldc 9, 2) := by decide +kernel
theorem dL_low_3 : decode cL_low 3 = .ok (.iand, 1) := by decide +kernel
theorem dL_low_4 : decode cL_low 4 = .ok (.iload_n 1, 1) := by decide +kernel
theorem dL_low_5 : decode cL_low 5 = .ok (.irem, 1) := by decide +kernel
theorem dL_low_6 : decode cL_low 6 = .ok (.ireturn, 1) := by decide +kernel
set_option maxRecDepth 20000 in
theorem ggL_change_X9_count_q1 : GoodIn wsL_change ([.code yX9_count cX9_count 2 (some .int)] : List Cond) := goodIn_r _ [5] (by decide +kernel) (by decide +kernel)
set_option maxRecDepth 20000 in
theorem ggL_change_X9_count_q2 : GoodIn wsL_change wsX9_count_r1 := goodIn_r _ [6, 7, 8, 9, 10, 11, 12, 13, 14, 15, 16, 17, 18, 19, 20, 21, 22, 23, 24, 25, 26, 27, 28, 29] (by decide +kernel) (by decide +kernel)
set_option maxRecDepth 20000 in
theorem ggL_change_X9_count_q3 : GoodIn wsL_change wsX9_count_r2 := goodIn_r _ [30, 31, 32, 33, 34, 35, 36, 37, 38, 39, 40, 41, 42, 43, 44, 45, 46, 47, 48, 49, 50, 51, 52, 53] (by decide +kernel) (by decide +kernel)
set_option maxRecDepth 20000 in
theorem ggL_change_X9_count_q4 : GoodIn wsL_change wsX9_count_r3 := goodIn_r _ [54, 55, 56, 57, 58, 59, 60, 61, 62, 63, 64, 65, 66, 67, 68, 69, 70, 71, 72] (by decide +kernel) (by decide +kernel)
set_option maxRecDepth 20000 in
theorem ggL_change_X9_count_q5 : GoodIn wsL_change wsX90 := goodIn_r _ [241, 242, 243, 244] (by decide +kernel) (by decide +kernel)
set_option maxRecDepth 20000 in
theorem ggL_change_X9_count_q6 : GoodIn wsL_change wsX40 := goodIn_r _ [245, 246, 247, 248, 249, 250, 251, 252] (by decide +kernel) (by decide +kernel)
set_option maxRecDepth 20000 in
theorem ggL_change_X9_count_q7 : GoodIn wsL_change wsX60 := goodIn_r _ [253, 254, 255] (by decide +kernel) (by decide +kernel)
set_option maxRecDepth 20000 in
theorem ggL_change_X9_count_q8 : GoodIn wsL_change wsX20 := goodIn_r _ [256, 257, 258] (by decide +kernel) (by decide +kernel)
set_option maxRecDepth 20000 in
theorem ggL_change_X9_count_q9 : GoodIn wsL_change wsX70 := goodIn_r _ [259, 260, 261, 262, 263] (by decide +kernel) (by decide +kernel)
set_option maxRecDepth 20000 in
theorem ggL_change_X9_count_q10 : GoodIn wsL_change wsX80 := goodIn_r _ [264, 265, 266, 267, 268, 269, 270, 271, 272, 273, 274, 275, 276] (by decide +kernel) (by decide +kernel)
set_option maxRecDepth 20000 in
theorem ggL_change_X9_count_q11 : GoodIn wsL_change wsX50 := goodIn_r _ [277, 278] (by decide +kernel) (by decide +kernel)
set_option maxRecDepth 20000 in
theorem ggL_change_X9_count_q12 : GoodIn wsL_change wsX00 := goodIn_r _ [279, 280] (by decide +kernel) (by decide +kernel)
theorem ggL_change_X9_count : GoodIn wsL_change wsX9_count := (zk_gcons ggL_change_X9_count_q1 (goodIn_app (goodIn_app (goodIn_app (goodIn_app (goodIn_app (goodIn_app (goodIn_app (goodIn_app (goodIn_app ggL_change_X9_count_q2 (goodIn_app ggL_change_X9_count_q3 ggL_change_X9_count_q4)) ggL_change_X9_count_q5) ggL_change_X9_count_q6) ggL_change_X9_count_q7) ggL_change_X9_count_q8) ggL_change_X9_count_q9) ggL_change_X9_count_q10) ggL_change_X9_count_q11) ggL_change_X9_count_q12))
set_option maxRecDepth 20000 in
theorem gL_change_X9_count : GoodIn wsL_change (wsV RL 10 RX9 yX9_count wsX9_count) := goodIn_app (goodIn_of _ (by decide +kernel)) ggL_change_X9_count
set_option maxRecDepth 100000 in
theorem ggL_change_L_low_s0 : GoodIn wsL_change ([Cond.code yL_low cL_low 2 (some .int)] : List Cond) := fun w h => by
  rw [List.mem_singleton.mp h]
  exact ⟨List.mem_of_getElem? (i := 76) rfl, Or.inl rfl⟩
set_option maxRecDepth 100000 in
theorem ggL_change_L_low_s1 : GoodIn wsL_change ([Cond.constant RL 9 (2147483647)] : List Cond) := fun w h => by
  rw [List.mem_singleton.mp h]
  exact ⟨List.mem_of_getElem? (i := 77) rfl, Or.inl rfl⟩
theorem ggL_change_L_low : GoodIn wsL_change wsL_low := (goodIn_app ggL_change_L_low_s0 ggL_change_L_low_s1)
set_option maxRecDepth 20000 in
theorem gL_change_L_low : GoodIn wsL_change (va_wsS RL 16 yL_low wsL_low) := goodIn_app (goodIn_of _ (by decide +kernel)) ggL_change_L_low
set_option maxRecDepth 20000 in
theorem ggL_change_X9_give_q1 : GoodIn wsL_change ([.code yX9_give cX9_give 4 (some .int)] : List Cond) := goodIn_r _ [81] (by decide +kernel) (by decide +kernel)
set_option maxRecDepth 20000 in
theorem ggL_change_X9_give_q2 : GoodIn wsL_change wsX9_give_r1 := goodIn_r _ [7, 6, 82, 83, 84, 18, 85, 86, 87, 88, 89, 90, 91, 92, 93, 94, 12, 95, 96, 14, 97, 98, 99, 100] (by decide +kernel) (by decide +kernel)
set_option maxRecDepth 20000 in
theorem ggL_change_X9_give_q3 : GoodIn wsL_change wsX9_give_r2 := goodIn_r _ [30, 101, 33, 102, 35, 32, 70, 71, 72, 34, 36, 37, 38, 39, 40, 103, 104, 105, 44, 106, 59, 107, 108, 109] (by decide +kernel) (by decide +kernel)
set_option maxRecDepth 20000 in
theorem ggL_change_X9_give_q4 : GoodIn wsL_change wsX9_give_r3 := goodIn_r _ [110, 46, 111, 112, 113, 114, 115, 116, 117, 118, 119, 120, 121, 122, 123, 124, 63, 125, 126, 127, 65, 128, 129, 130] (by decide +kernel) (by decide +kernel)
set_option maxRecDepth 20000 in
theorem ggL_change_X9_give_q5 : GoodIn wsL_change wsX9_give_r4 := goodIn_r _ [131, 41, 42, 43, 45, 132, 133, 134, 135, 136, 137, 138, 139, 140, 141, 142, 143, 144, 145, 146, 147, 148, 149, 150] (by decide +kernel) (by decide +kernel)
set_option maxRecDepth 20000 in
theorem ggL_change_X9_give_q6 : GoodIn wsL_change wsX9_give_r5 := goodIn_r _ [4, 151, 152, 153, 154, 155, 20, 156, 157, 158, 159] (by decide +kernel) (by decide +kernel)
set_option maxRecDepth 20000 in
theorem ggL_change_X9_give_q7 : GoodIn wsL_change wsX90 := goodIn_r _ [241, 242, 243, 244] (by decide +kernel) (by decide +kernel)
set_option maxRecDepth 20000 in
theorem ggL_change_X9_give_q8 : GoodIn wsL_change wsX60 := goodIn_r _ [253, 254, 255] (by decide +kernel) (by decide +kernel)
set_option maxRecDepth 20000 in
theorem ggL_change_X9_give_q9 : GoodIn wsL_change wsX20 := goodIn_r _ [256, 257, 258] (by decide +kernel) (by decide +kernel)
set_option maxRecDepth 20000 in
theorem ggL_change_X9_give_q10 : GoodIn wsL_change wsX80 := goodIn_r _ [264, 265, 266, 267, 268, 269, 270, 271, 272, 273, 274, 275, 276] (by decide +kernel) (by decide +kernel)
set_option maxRecDepth 20000 in
theorem ggL_change_X9_give_q11 : GoodIn wsL_change wsX50 := goodIn_r _ [277, 278] (by decide +kernel) (by decide +kernel)
set_option maxRecDepth 20000 in
theorem ggL_change_X9_give_q12 : GoodIn wsL_change wsX30 := goodIn_r _ [281, 282, 283, 284, 285] (by decide +kernel) (by decide +kernel)
set_option maxRecDepth 20000 in
theorem ggL_change_X9_give_q13 : GoodIn wsL_change wsX00 := goodIn_r _ [279, 280] (by decide +kernel) (by decide +kernel)
theorem ggL_change_X9_give : GoodIn wsL_change wsX9_give := (zk_gcons ggL_change_X9_give_q1 (goodIn_app (goodIn_app (goodIn_app (goodIn_app (goodIn_app (goodIn_app (goodIn_app (goodIn_app ggL_change_X9_give_q2 (goodIn_app ggL_change_X9_give_q3 (goodIn_app ggL_change_X9_give_q4 (goodIn_app ggL_change_X9_give_q5 ggL_change_X9_give_q6)))) ggL_change_X9_give_q7) ggL_change_X9_give_q8) ggL_change_X9_give_q9) ggL_change_X9_give_q10) ggL_change_X9_give_q11) ggL_change_X9_give_q12) ggL_change_X9_give_q13))
set_option maxRecDepth 20000 in
theorem gL_change_X9_give : GoodIn wsL_change (wsV RL 22 RX9 yX9_give wsX9_give) := goodIn_app (goodIn_of _ (by decide +kernel)) ggL_change_X9_give
set_option maxRecDepth 20000 in
theorem ggL_change_X9_promise_q1 : GoodIn wsL_change ([.code yX9_promise cX9_promise 3 (some .int)] : List Cond) := goodIn_r _ [163] (by decide +kernel) (by decide +kernel)
set_option maxRecDepth 20000 in
theorem ggL_change_X9_promise_q2 : GoodIn wsL_change wsX9_promise_r1 := goodIn_r _ [6, 164, 165, 166, 44, 167, 46, 168, 169, 170, 30, 171, 102, 33, 172, 173, 174, 114, 175, 120, 176, 56, 57, 58] (by decide +kernel) (by decide +kernel)
set_option maxRecDepth 20000 in
theorem ggL_change_X9_promise_q3 : GoodIn wsL_change wsX9_promise_r2 := goodIn_r _ [59, 177, 178, 179, 180, 181, 182, 183, 184, 185, 119, 186, 187, 188, 189, 116, 190, 191, 192, 193, 121] (by decide +kernel) (by decide +kernel)
set_option maxRecDepth 20000 in
theorem ggL_change_X9_promise_q4 : GoodIn wsL_change wsX90 := goodIn_r _ [241, 242, 243, 244] (by decide +kernel) (by decide +kernel)
set_option maxRecDepth 20000 in
theorem ggL_change_X9_promise_q5 : GoodIn wsL_change wsX60 := goodIn_r _ [253, 254, 255] (by decide +kernel) (by decide +kernel)
set_option maxRecDepth 20000 in
theorem ggL_change_X9_promise_q6 : GoodIn wsL_change wsX80 := goodIn_r _ [264, 265, 266, 267, 268, 269, 270, 271, 272, 273, 274, 275, 276] (by decide +kernel) (by decide +kernel)
set_option maxRecDepth 20000 in
theorem ggL_change_X9_promise_q7 : GoodIn wsL_change wsX50 := goodIn_r _ [277, 278] (by decide +kernel) (by decide +kernel)
set_option maxRecDepth 20000 in
theorem ggL_change_X9_promise_q8 : GoodIn wsL_change wsX30 := goodIn_r _ [281, 282, 283, 284, 285] (by decide +kernel) (by decide +kernel)
theorem ggL_change_X9_promise : GoodIn wsL_change wsX9_promise := (zk_gcons ggL_change_X9_promise_q1 (goodIn_app (goodIn_app (goodIn_app (goodIn_app (goodIn_app (goodIn_app ggL_change_X9_promise_q2 ggL_change_X9_promise_q3) ggL_change_X9_promise_q4) ggL_change_X9_promise_q5) ggL_change_X9_promise_q6) ggL_change_X9_promise_q7) ggL_change_X9_promise_q8))
set_option maxRecDepth 20000 in
theorem gL_change_X9_promise : GoodIn wsL_change (wsV RL 26 RX9 yX9_promise wsX9_promise) := goodIn_app (goodIn_of _ (by decide +kernel)) ggL_change_X9_promise
set_option maxRecDepth 20000 in
theorem ggL_change_X9_breakOff_q1 : GoodIn wsL_change ([.code yX9_breakOff cX9_breakOff 2 (some .int)] : List Cond) := goodIn_r _ [197] (by decide +kernel) (by decide +kernel)
set_option maxRecDepth 20000 in
theorem ggL_change_X9_breakOff_q2 : GoodIn wsL_change wsX9_breakOff_r1 := goodIn_r _ [7, 6, 82, 83, 84, 18, 85, 86, 87, 88, 89, 90, 91, 92, 93, 94, 12, 95, 96, 14, 97, 98, 99, 100] (by decide +kernel) (by decide +kernel)
set_option maxRecDepth 20000 in
theorem ggL_change_X9_breakOff_q3 : GoodIn wsL_change wsX9_breakOff_r2 := goodIn_r _ [30, 101, 33, 102, 35, 32, 70, 71, 72, 34, 36, 37, 38, 39, 40, 103, 104, 105, 44, 106, 59, 107, 108, 109] (by decide +kernel) (by decide +kernel)
set_option maxRecDepth 20000 in
theorem ggL_change_X9_breakOff_q4 : GoodIn wsL_change wsX9_breakOff_r3 := goodIn_r _ [110, 46, 111, 112, 113, 114, 115, 116, 117, 118, 119, 120, 121, 122, 123, 124, 63, 125, 126, 127, 65, 198, 199, 200] (by decide +kernel) (by decide +kernel)
set_option maxRecDepth 20000 in
theorem ggL_change_X9_breakOff_q5 : GoodIn wsL_change wsX9_breakOff_r4 := goodIn_r _ [201, 202, 165, 166, 167, 203, 204, 205, 206, 55, 56, 57, 58, 207, 137, 138, 139, 148, 149, 150, 4, 151, 152, 153] (by decide +kernel) (by decide +kernel)
set_option maxRecDepth 20000 in
theorem ggL_change_X9_breakOff_q6 : GoodIn wsL_change wsX9_breakOff_r5 := goodIn_r _ [154, 155, 20, 156, 157, 158, 159] (by decide +kernel) (by decide +kernel)
set_option maxRecDepth 20000 in
theorem ggL_change_X9_breakOff_q7 : GoodIn wsL_change wsX90 := goodIn_r _ [241, 242, 243, 244] (by decide +kernel) (by decide +kernel)
set_option maxRecDepth 20000 in
theorem ggL_change_X9_breakOff_q8 : GoodIn wsL_change wsX60 := goodIn_r _ [253, 254, 255] (by decide +kernel) (by decide +kernel)
set_option maxRecDepth 20000 in
theorem ggL_change_X9_breakOff_q9 : GoodIn wsL_change wsX20 := goodIn_r _ [256, 257, 258] (by decide +kernel) (by decide +kernel)
set_option maxRecDepth 20000 in
theorem ggL_change_X9_breakOff_q10 : GoodIn wsL_change wsX80 := goodIn_r _ [264, 265, 266, 267, 268, 269, 270, 271, 272, 273, 274, 275, 276] (by decide +kernel) (by decide +kernel)
set_option maxRecDepth 20000 in
theorem ggL_change_X9_breakOff_q11 : GoodIn wsL_change wsX50 := goodIn_r _ [277, 278] (by decide +kernel) (by decide +kernel)
set_option maxRecDepth 20000 in
theorem ggL_change_X9_breakOff_q12 : GoodIn wsL_change wsX30 := goodIn_r _ [281, 282, 283, 284, 285] (by decide +kernel) (by decide +kernel)
set_option maxRecDepth 20000 in
theorem ggL_change_X9_breakOff_q13 : GoodIn wsL_change wsX00 := goodIn_r _ [279, 280] (by decide +kernel) (by decide +kernel)
theorem ggL_change_X9_breakOff : GoodIn wsL_change wsX9_breakOff := (zk_gcons ggL_change_X9_breakOff_q1 (goodIn_app (goodIn_app (goodIn_app (goodIn_app (goodIn_app (goodIn_app (goodIn_app (goodIn_app ggL_change_X9_breakOff_q2 (goodIn_app ggL_change_X9_breakOff_q3 (goodIn_app ggL_change_X9_breakOff_q4 (goodIn_app ggL_change_X9_breakOff_q5 ggL_change_X9_breakOff_q6)))) ggL_change_X9_breakOff_q7) ggL_change_X9_breakOff_q8) ggL_change_X9_breakOff_q9) ggL_change_X9_breakOff_q10) ggL_change_X9_breakOff_q11) ggL_change_X9_breakOff_q12) ggL_change_X9_breakOff_q13))
set_option maxRecDepth 20000 in
theorem gL_change_X9_breakOff : GoodIn wsL_change (wsV RL 29 RX9 yX9_breakOff wsX9_breakOff) := goodIn_app (goodIn_of _ (by decide +kernel)) ggL_change_X9_breakOff
set_option maxRecDepth 20000 in
theorem ggL_change_X9_move_q1 : GoodIn wsL_change ([.code yX9_move cX9_move 3 (some .int)] : List Cond) := goodIn_r _ [211] (by decide +kernel) (by decide +kernel)
set_option maxRecDepth 20000 in
theorem ggL_change_X9_move_q2 : GoodIn wsL_change wsX9_move_r1 := goodIn_r _ [7, 6, 82, 83, 84, 18, 85, 86, 87, 88, 89, 90, 91, 92, 93, 94, 12, 95, 96, 14, 97, 98, 99, 100] (by decide +kernel) (by decide +kernel)
set_option maxRecDepth 20000 in
theorem ggL_change_X9_move_q3 : GoodIn wsL_change wsX9_move_r2 := goodIn_r _ [30, 101, 33, 102, 35, 32, 70, 71, 72, 34, 36, 37, 38, 39, 40, 103, 104, 105, 44, 106, 59, 107, 108, 109] (by decide +kernel) (by decide +kernel)
set_option maxRecDepth 20000 in
theorem ggL_change_X9_move_q4 : GoodIn wsL_change wsX9_move_r3 := goodIn_r _ [110, 46, 111, 112, 113, 114, 115, 116, 117, 118, 119, 120, 121, 122, 123, 124, 63, 125, 126, 127, 65, 212, 213, 214] (by decide +kernel) (by decide +kernel)
set_option maxRecDepth 20000 in
theorem ggL_change_X9_move_q5 : GoodIn wsL_change wsX9_move_r4 := goodIn_r _ [215, 202, 165, 166, 167, 216, 52, 53, 54, 55, 56, 57, 58, 176, 217, 218, 219, 220, 181, 173, 174, 175, 190, 191] (by decide +kernel) (by decide +kernel)
set_option maxRecDepth 20000 in
theorem ggL_change_X9_move_q6 : GoodIn wsL_change wsX9_move_r5 := goodIn_r _ [192, 193, 207, 137, 138, 139, 140, 141, 142, 143, 144, 145, 146, 147, 148, 149, 150, 4, 151, 152, 153, 154, 155, 20] (by decide +kernel) (by decide +kernel)
set_option maxRecDepth 20000 in
theorem ggL_change_X9_move_q7 : GoodIn wsL_change wsX9_move_r6 := goodIn_r _ [156, 157, 158, 159] (by decide +kernel) (by decide +kernel)
set_option maxRecDepth 20000 in
theorem ggL_change_X9_move_q8 : GoodIn wsL_change wsX90 := goodIn_r _ [241, 242, 243, 244] (by decide +kernel) (by decide +kernel)
set_option maxRecDepth 20000 in
theorem ggL_change_X9_move_q9 : GoodIn wsL_change wsX60 := goodIn_r _ [253, 254, 255] (by decide +kernel) (by decide +kernel)
set_option maxRecDepth 20000 in
theorem ggL_change_X9_move_q10 : GoodIn wsL_change wsX20 := goodIn_r _ [256, 257, 258] (by decide +kernel) (by decide +kernel)
set_option maxRecDepth 20000 in
theorem ggL_change_X9_move_q11 : GoodIn wsL_change wsX80 := goodIn_r _ [264, 265, 266, 267, 268, 269, 270, 271, 272, 273, 274, 275, 276] (by decide +kernel) (by decide +kernel)
set_option maxRecDepth 20000 in
theorem ggL_change_X9_move_q12 : GoodIn wsL_change wsX50 := goodIn_r _ [277, 278] (by decide +kernel) (by decide +kernel)
set_option maxRecDepth 20000 in
theorem ggL_change_X9_move_q13 : GoodIn wsL_change wsX30 := goodIn_r _ [281, 282, 283, 284, 285] (by decide +kernel) (by decide +kernel)
set_option maxRecDepth 20000 in
theorem ggL_change_X9_move_q14 : GoodIn wsL_change wsX00 := goodIn_r _ [279, 280] (by decide +kernel) (by decide +kernel)
theorem ggL_change_X9_move : GoodIn wsL_change wsX9_move := (zk_gcons ggL_change_X9_move_q1 (goodIn_app (goodIn_app (goodIn_app (goodIn_app (goodIn_app (goodIn_app (goodIn_app (goodIn_app ggL_change_X9_move_q2 (goodIn_app ggL_change_X9_move_q3 (goodIn_app ggL_change_X9_move_q4 (goodIn_app ggL_change_X9_move_q5 (goodIn_app ggL_change_X9_move_q6 ggL_change_X9_move_q7))))) ggL_change_X9_move_q8) ggL_change_X9_move_q9) ggL_change_X9_move_q10) ggL_change_X9_move_q11) ggL_change_X9_move_q12) ggL_change_X9_move_q13) ggL_change_X9_move_q14))
set_option maxRecDepth 20000 in
theorem gL_change_X9_move : GoodIn wsL_change (wsV RL 32 RX9 yX9_move wsX9_move) := goodIn_app (goodIn_of _ (by decide +kernel)) ggL_change_X9_move
set_option maxRecDepth 20000 in
theorem ggL_change_X9_set_q1 : GoodIn wsL_change ([.code yX9_set cX9_set 3 (some .int)] : List Cond) := goodIn_r _ [224] (by decide +kernel) (by decide +kernel)
set_option maxRecDepth 20000 in
theorem ggL_change_X9_set_q2 : GoodIn wsL_change wsX9_set_r1 := goodIn_r _ [7, 6, 82, 83, 84, 18, 85, 86, 87, 88, 89, 90, 91, 92, 93, 94, 12, 95, 96, 14, 97, 98, 99, 100] (by decide +kernel) (by decide +kernel)
set_option maxRecDepth 20000 in
theorem ggL_change_X9_set_q3 : GoodIn wsL_change wsX9_set_r2 := goodIn_r _ [30, 101, 33, 102, 35, 32, 70, 71, 72, 34, 36, 37, 38, 39, 40, 103, 104, 105, 44, 106, 59, 107, 108, 109] (by decide +kernel) (by decide +kernel)
set_option maxRecDepth 20000 in
theorem ggL_change_X9_set_q4 : GoodIn wsL_change wsX9_set_r3 := goodIn_r _ [110, 46, 111, 112, 113, 114, 115, 116, 117, 118, 119, 120, 121, 122, 123, 124, 63, 125, 126, 127, 65, 225, 226, 227] (by decide +kernel) (by decide +kernel)
set_option maxRecDepth 20000 in
theorem ggL_change_X9_set_q5 : GoodIn wsL_change wsX9_set_r4 := goodIn_r _ [228, 66, 67, 68, 69, 148, 149, 150, 4, 151, 152, 153, 154, 155, 20, 156, 157, 158, 159] (by decide +kernel) (by decide +kernel)
set_option maxRecDepth 20000 in
theorem ggL_change_X9_set_q6 : GoodIn wsL_change wsX90 := goodIn_r _ [241, 242, 243, 244] (by decide +kernel) (by decide +kernel)
set_option maxRecDepth 20000 in
theorem ggL_change_X9_set_q7 : GoodIn wsL_change wsX60 := goodIn_r _ [253, 254, 255] (by decide +kernel) (by decide +kernel)
set_option maxRecDepth 20000 in
theorem ggL_change_X9_set_q8 : GoodIn wsL_change wsX20 := goodIn_r _ [256, 257, 258] (by decide +kernel) (by decide +kernel)
set_option maxRecDepth 20000 in
theorem ggL_change_X9_set_q9 : GoodIn wsL_change wsX80 := goodIn_r _ [264, 265, 266, 267, 268, 269, 270, 271, 272, 273, 274, 275, 276] (by decide +kernel) (by decide +kernel)
set_option maxRecDepth 20000 in
theorem ggL_change_X9_set_q10 : GoodIn wsL_change wsX50 := goodIn_r _ [277, 278] (by decide +kernel) (by decide +kernel)
set_option maxRecDepth 20000 in
theorem ggL_change_X9_set_q11 : GoodIn wsL_change wsX30 := goodIn_r _ [281, 282, 283, 284, 285] (by decide +kernel) (by decide +kernel)
set_option maxRecDepth 20000 in
theorem ggL_change_X9_set_q12 : GoodIn wsL_change wsX00 := goodIn_r _ [279, 280] (by decide +kernel) (by decide +kernel)
theorem ggL_change_X9_set : GoodIn wsL_change wsX9_set := (zk_gcons ggL_change_X9_set_q1 (goodIn_app (goodIn_app (goodIn_app (goodIn_app (goodIn_app (goodIn_app (goodIn_app (goodIn_app ggL_change_X9_set_q2 (goodIn_app ggL_change_X9_set_q3 (goodIn_app ggL_change_X9_set_q4 ggL_change_X9_set_q5))) ggL_change_X9_set_q6) ggL_change_X9_set_q7) ggL_change_X9_set_q8) ggL_change_X9_set_q9) ggL_change_X9_set_q10) ggL_change_X9_set_q11) ggL_change_X9_set_q12))
set_option maxRecDepth 20000 in
theorem gL_change_X9_set : GoodIn wsL_change (wsV RL 35 RX9 yX9_set wsX9_set) := goodIn_app (goodIn_of _ (by decide +kernel)) ggL_change_X9_set
set_option maxRecDepth 20000 in
theorem ggL_change_X9_sweep_q1 : GoodIn wsL_change ([.code yX9_sweep cX9_sweep 1 (some .int)] : List Cond) := goodIn_r _ [232] (by decide +kernel) (by decide +kernel)
set_option maxRecDepth 20000 in
theorem ggL_change_X9_sweep_q2 : GoodIn wsL_change wsX9_sweep_r1 := goodIn_r _ [7, 6, 82, 83, 84, 18, 85, 86, 87, 88, 89, 90, 91, 92, 93, 94, 12, 95, 96, 14, 97, 98, 99, 100] (by decide +kernel) (by decide +kernel)
set_option maxRecDepth 20000 in
theorem ggL_change_X9_sweep_q3 : GoodIn wsL_change wsX9_sweep_r2 := goodIn_r _ [30, 101, 33, 102, 35, 32, 70, 71, 72, 34, 36, 37, 38, 39, 40, 103, 104, 105, 44, 106, 59, 107, 108, 109] (by decide +kernel) (by decide +kernel)
set_option maxRecDepth 20000 in
theorem ggL_change_X9_sweep_q4 : GoodIn wsL_change wsX9_sweep_r3 := goodIn_r _ [110, 46, 111, 112, 113, 114, 115, 116, 117, 118, 119, 120, 121, 122, 123, 124, 63, 125, 126, 127, 65, 233, 234, 235] (by decide +kernel) (by decide +kernel)
set_option maxRecDepth 20000 in
theorem ggL_change_X9_sweep_q5 : GoodIn wsL_change wsX9_sweep_r4 := goodIn_r _ [236, 41, 42, 43, 45, 216, 52, 53, 54, 55, 56, 57, 58, 217, 218, 219, 220, 181, 173, 174, 175, 190, 191, 192] (by decide +kernel) (by decide +kernel)
set_option maxRecDepth 20000 in
theorem ggL_change_X9_sweep_q6 : GoodIn wsL_change wsX9_sweep_r5 := goodIn_r _ [193, 237, 238, 239, 240, 207, 137, 138, 139, 148, 149, 150, 4, 151, 152, 153, 154, 155, 20, 156, 157, 158, 159] (by decide +kernel) (by decide +kernel)
set_option maxRecDepth 20000 in
theorem ggL_change_X9_sweep_q7 : GoodIn wsL_change wsX90 := goodIn_r _ [241, 242, 243, 244] (by decide +kernel) (by decide +kernel)
set_option maxRecDepth 20000 in
theorem ggL_change_X9_sweep_q8 : GoodIn wsL_change wsX60 := goodIn_r _ [253, 254, 255] (by decide +kernel) (by decide +kernel)
set_option maxRecDepth 20000 in
theorem ggL_change_X9_sweep_q9 : GoodIn wsL_change wsX20 := goodIn_r _ [256, 257, 258] (by decide +kernel) (by decide +kernel)
set_option maxRecDepth 20000 in
theorem ggL_change_X9_sweep_q10 : GoodIn wsL_change wsX80 := goodIn_r _ [264, 265, 266, 267, 268, 269, 270, 271, 272, 273, 274, 275, 276] (by decide +kernel) (by decide +kernel)
set_option maxRecDepth 20000 in
theorem ggL_change_X9_sweep_q11 : GoodIn wsL_change wsX50 := goodIn_r _ [277, 278] (by decide +kernel) (by decide +kernel)
set_option maxRecDepth 20000 in
theorem ggL_change_X9_sweep_q12 : GoodIn wsL_change wsX30 := goodIn_r _ [281, 282, 283, 284, 285] (by decide +kernel) (by decide +kernel)
set_option maxRecDepth 20000 in
theorem ggL_change_X9_sweep_q13 : GoodIn wsL_change wsX00 := goodIn_r _ [279, 280] (by decide +kernel) (by decide +kernel)
theorem ggL_change_X9_sweep : GoodIn wsL_change wsX9_sweep := (zk_gcons ggL_change_X9_sweep_q1 (goodIn_app (goodIn_app (goodIn_app (goodIn_app (goodIn_app (goodIn_app (goodIn_app (goodIn_app ggL_change_X9_sweep_q2 (goodIn_app ggL_change_X9_sweep_q3 (goodIn_app ggL_change_X9_sweep_q4 (goodIn_app ggL_change_X9_sweep_q5 ggL_change_X9_sweep_q6)))) ggL_change_X9_sweep_q7) ggL_change_X9_sweep_q8) ggL_change_X9_sweep_q9) ggL_change_X9_sweep_q10) ggL_change_X9_sweep_q11) ggL_change_X9_sweep_q12) ggL_change_X9_sweep_q13))
set_option maxRecDepth 20000 in
theorem gL_change_X9_sweep : GoodIn wsL_change (wsV RL 38 RX9 yX9_sweep wsX9_sweep) := goodIn_app (goodIn_of _ (by decide +kernel)) ggL_change_X9_sweep
theorem dL_change_0 : decode cL_change 0 = .ok (.aload_n 0, 1) := by decide +kernel
theorem dL_change_1 : decode cL_change 1 = .ok (.iconst 1, 1) := by decide +kernel
theorem dL_change_2 : decode cL_change 2 = .ok (.invokevirtual 10, 3) := by decide +kernel
theorem dL_change_5 : decode cL_change 5 = .ok (.istore_n 3, 1) := by decide +kernel
theorem dL_change_6 : decode cL_change 6 = .ok (.iload_n 2, 1) := by decide +kernel
theorem dL_change_7 : decode cL_change 7 = .ok (.iconst 4, 1) := by decide +kernel
theorem dL_change_8 : decode cL_change 8 = .ok (.ishr, 1) := by decide +kernel
theorem dL_change_9 : decode cL_change 9 = .ok (.iload_n 3, 1) := by decide +kernel
theorem dL_change_10 : decode cL_change 10 = .ok (.iconst 1, 1) := by decide +kernel
theorem dL_change_11 : decode cL_change 11 = .ok (.iadd, 1) := by decide +kernel
theorem dL_change_12 : decode cL_change 12 = .ok (.invokestatic 16, 3) := by decide +kernel
theorem dL_change_15 : decode cL_change 15 = .ok (.istore 4, 2) := by decide +kernel
theorem dL_change_17 : decode cL_change 17 = .ok (.iconst 1, 1) := by decide +kernel
theorem dL_change_18 : decode cL_change 18 = .ok (.iload_n 2, 1) := by decide +kernel
theorem dL_change_19 : decode cL_change 19 = .ok (.bipush 8, 2) := by decide +kernel
theorem dL_change_21 : decode cL_change 21 = .ok (.ishr, 1) := by decide +kernel
theorem dL_change_22 : decode cL_change 22 = .ok (.iload_n 2, 1) := by decide +kernel
theorem dL_change_23 : decode cL_change 23 = .ok (.bipush 20, 2) := by decide +kernel
theorem dL_change_25 : decode cL_change 25 = .ok (.ishr, 1) := by decide +kernel
theorem dL_change_26 : decode cL_change 26 = .ok (.iconst 2, 1) := by decide +kernel
theorem dL_change_27 : decode cL_change 27 = .ok (.invokestatic 16, 3) := by decide +kernel
theorem dL_change_30 : decode cL_change 30 = .ok (.ifCond .ne 8, 3) := by decide +kernel
theorem dL_change_33 : decode cL_change 33 = .ok (.bipush 12, 2) := by decide +kernel
theorem dL_change_35 : decode cL_change 35 = .ok (.goto 6, 3) := by decide +kernel
theorem dL_change_38 : decode cL_change 38 = .ok (.sipush 511, 3) := by decide +kernel
theorem dL_change_41 : decode cL_change 41 = .ok (.invokestatic 16, 3) := by decide +kernel
theorem dL_change_44 : decode cL_change 44 = .ok (.iadd, 1) := by decide +kernel
theorem dL_change_45 : decode cL_change 45 = .ok (.istore 5, 2) := by decide +kernel
theorem dL_change_47 : decode cL_change 47 = .ok (.iload_n 2, 1) := by decide +kernel
theorem dL_change_48 : decode cL_change 48 = .ok (.bipush 9, 2) := by decide +kernel
theorem dL_change_50 : decode cL_change 50 = .ok (.invokestatic 16, 3) := by decide +kernel
theorem dL_change_53 : decode cL_change 53 = .ok (.tableswitch 542 0 7 #[47, 47, 47, 47, 219, 302, 397, 459], 47) := by decide +kernel
theorem dL_change_100 : decode cL_change 100 = .ok (.iload_n 2, 1) := by decide +kernel
theorem dL_change_101 : decode cL_change 101 = .ok (.bipush 18, 2) := by decide +kernel
theorem dL_change_103 : decode cL_change 103 = .ok (.ishr, 1) := by decide +kernel
theorem dL_change_104 : decode cL_change 104 = .ok (.iconst 3, 1) := by decide +kernel
theorem dL_change_105 : decode cL_change 105 = .ok (.invokestatic 16, 3) := by decide +kernel
theorem dL_change_108 : decode cL_change 108 = .ok (.ifCond .ne 7, 3) := by decide +kernel
theorem dL_change_111 : decode cL_change 111 = .ok (.iconst 0, 1) := by decide +kernel
theorem dL_change_112 : decode cL_change 112 = .ok (.goto 31, 3) := by decide +kernel
theorem dL_change_115 : decode cL_change 115 = .ok (.iconst 1, 1) := by decide +kernel
theorem dL_change_116 : decode cL_change 116 = .ok (.iload_n 2, 1) := by decide +kernel
theorem dL_change_117 : decode cL_change 117 = .ok (.bipush 13, 2) := by decide +kernel
theorem dL_change_119 : decode cL_change 119 = .ok (.ishr, 1) := by decide +kernel
theorem dL_change_120 : decode cL_change 120 = .ok (.iload_n 2, 1) := by decide +kernel
theorem dL_change_121 : decode cL_change 121 = .ok (.bipush 21, 2) := by decide +kernel
theorem dL_change_123 : decode cL_change 123 = .ok (.ishr, 1) := by decide +kernel
theorem dL_change_124 : decode cL_change 124 = .ok (.iconst 2, 1) := by decide +kernel
theorem dL_change_125 : decode cL_change 125 = .ok (.invokestatic 16, 3) := by decide +kernel
theorem dL_change_128 : decode cL_change 128 = .ok (.ifCond .ne 8, 3) := by decide +kernel
theorem dL_change_131 : decode cL_change 131 = .ok (.bipush 9, 2) := by decide +kernel
theorem dL_change_133 : decode cL_change 133 = .ok (.goto 6, 3) := by decide +kernel
theorem dL_change_136 : decode cL_change 136 = .ok (.sipush 200, 3) := by decide +kernel
theorem dL_change_139 : decode cL_change 139 = .ok (.invokestatic 16, 3) := by decide +kernel
theorem dL_change_142 : decode cL_change 142 = .ok (.iadd, 1) := by decide +kernel
theorem dL_change_143 : decode cL_change 143 = .ok (.istore 6, 2) := by decide +kernel
theorem dL_change_145 : decode cL_change 145 = .ok (.iload 6, 2) := by decide +kernel
theorem dL_change_147 : decode cL_change 147 = .ok (.ifCond .ne 7, 3) := by decide +kernel
theorem dL_change_150 : decode cL_change 150 = .ok (.iconst 0, 1) := by decide +kernel
theorem dL_change_151 : decode cL_change 151 = .ok (.goto 12, 3) := by decide +kernel
theorem dL_change_154 : decode cL_change 154 = .ok (.iload_n 2, 1) := by decide +kernel
theorem dL_change_155 : decode cL_change 155 = .ok (.bipush 23, 2) := by decide +kernel
theorem dL_change_157 : decode cL_change 157 = .ok (.ishr, 1) := by decide +kernel
theorem dL_change_158 : decode cL_change 158 = .ok (.bipush 9, 2) := by decide +kernel
theorem dL_change_160 : decode cL_change 160 = .ok (.invokestatic 16, 3) := by decide +kernel
theorem dL_change_163 : decode cL_change 163 = .ok (.istore 7, 2) := by decide +kernel
theorem dL_change_165 : decode cL_change 165 = .ok (.aload_n 0, 1) := by decide +kernel
theorem dL_change_166 : decode cL_change 166 = .ok (.iload 5, 2) := by decide +kernel
theorem dL_change_168 : decode cL_change 168 = .ok (.iload 6, 2) := by decide +kernel
theorem dL_change_170 : decode cL_change 170 = .ok (.iload 7, 2) := by decide +kernel
theorem dL_change_172 : decode cL_change 172 = .ok (.invokevirtual 22, 3) := by decide +kernel
theorem dL_change_175 : decode cL_change 175 = .ok (.istore 8, 2) := by decide +kernel
theorem dL_change_177 : decode cL_change 177 = .ok (.iload 8, 2) := by decide +kernel
theorem dL_change_179 : decode cL_change 179 = .ok (.iload_n 3, 1) := by decide +kernel
theorem dL_change_180 : decode cL_change 180 = .ok (.bipush 40, 2) := by decide +kernel
theorem dL_change_182 : decode cL_change 182 = .ok (.if_icmp .ge 7, 3) := by decide +kernel
theorem dL_change_185 : decode cL_change 185 = .ok (.iload_n 3, 1) := by decide +kernel
theorem dL_change_186 : decode cL_change 186 = .ok (.goto 5, 3) := by decide +kernel
theorem dL_change_189 : decode cL_change 189 = .ok (.bipush (-3), 2) := by decide +kernel
theorem dL_change_191 : decode cL_change 191 = .ok (.if_icmp .ne 22, 3) := by decide +kernel
theorem dL_change_194 : decode cL_change 194 = .ok (.aload_n 1, 1) := by decide +kernel
theorem dL_change_195 : decode cL_change 195 = .ok (.iload 5, 2) := by decide +kernel
theorem dL_change_197 : decode cL_change 197 = .ok (.iload 6, 2) := by decide +kernel
theorem dL_change_199 : decode cL_change 199 = .ok (.iload 7, 2) := by decide +kernel
theorem dL_change_201 : decode cL_change 201 = .ok (.invokevirtual 22, 3) := by decide +kernel
theorem dL_change_204 : decode cL_change 204 = .ok (.iload 8, 2) := by decide +kernel
theorem dL_change_206 : decode cL_change 206 = .ok (.if_icmp .ne 7, 3) := by decide +kernel
theorem dL_change_209 : decode cL_change 209 = .ok (.iconst 1, 1) := by decide +kernel
theorem dL_change_210 : decode cL_change 210 = .ok (.goto 4, 3) := by decide +kernel
theorem dL_change_213 : decode cL_change 213 = .ok (.iconst 0, 1) := by decide +kernel
theorem dL_change_214 : decode cL_change 214 = .ok (.istore 9, 2) := by decide +kernel
theorem dL_change_216 : decode cL_change 216 = .ok (.iload 9, 2) := by decide +kernel
theorem dL_change_218 : decode cL_change 218 = .ok (.ifCond .eq 52, 3) := by decide +kernel
theorem dL_change_221 : decode cL_change 221 = .ok (.iload 8, 2) := by decide +kernel
theorem dL_change_223 : decode cL_change 223 = .ok (.ifCond .lt 43, 3) := by decide +kernel
theorem dL_change_226 : decode cL_change 226 = .ok (.aload_n 0, 1) := by decide +kernel
theorem dL_change_227 : decode cL_change 227 = .ok (.iload 8, 2) := by decide +kernel
theorem dL_change_229 : decode cL_change 229 = .ok (.iconst 0, 1) := by decide +kernel
theorem dL_change_230 : decode cL_change 230 = .ok (.invokevirtual 26, 3) := by decide +kernel
theorem dL_change_233 : decode cL_change 233 = .ok (.ifCond .ne 37, 3) := by decide +kernel
theorem dL_change_236 : decode cL_change 236 = .ok (.aload_n 0, 1) := by decide +kernel
theorem dL_change_237 : decode cL_change 237 = .ok (.iload 8, 2) := by decide +kernel
theorem dL_change_239 : decode cL_change 239 = .ok (.iconst 1, 1) := by decide +kernel
theorem dL_change_240 : decode cL_change 240 = .ok (.invokevirtual 26, 3) := by decide +kernel
theorem dL_change_243 : decode cL_change 243 = .ok (.aload_n 0, 1) := by decide +kernel
theorem dL_change_244 : decode cL_change 244 = .ok (.iconst 0, 1) := by decide +kernel
theorem dL_change_245 : decode cL_change 245 = .ok (.invokevirtual 10, 3) := by decide +kernel
theorem dL_change_248 : decode cL_change 248 = .ok (.iload 5, 2) := by decide +kernel
theorem dL_change_250 : decode cL_change 250 = .ok (.iadd, 1) := by decide +kernel
theorem dL_change_251 : decode cL_change 251 = .ok (.if_icmp .ne 19, 3) := by decide +kernel
theorem dL_change_254 : decode cL_change 254 = .ok (.aload_n 0, 1) := by decide +kernel
theorem dL_change_255 : decode cL_change 255 = .ok (.iload 8, 2) := by decide +kernel
theorem dL_change_257 : decode cL_change 257 = .ok (.iconst 3, 1) := by decide +kernel
theorem dL_change_258 : decode cL_change 258 = .ok (.invokevirtual 26, 3) := by decide +kernel
theorem dL_change_261 : decode cL_change 261 = .ok (.iload 7, 2) := by decide +kernel
theorem dL_change_263 : decode cL_change 263 = .ok (.if_icmp .ne 7, 3) := by decide +kernel
theorem dL_change_266 : decode cL_change 266 = .ok (.iconst 1, 1) := by decide +kernel
theorem dL_change_267 : decode cL_change 267 = .ok (.goto 4, 3) := by decide +kernel
theorem dL_change_270 : decode cL_change 270 = .ok (.iconst 0, 1) := by decide +kernel
theorem dL_change_271 : decode cL_change 271 = .ok (.ireturn, 1) := by decide +kernel
theorem dL_change_272 : decode cL_change 272 = .ok (.iload 4, 2) := by decide +kernel
theorem dL_change_274 : decode cL_change 274 = .ok (.iload_n 3, 1) := by decide +kernel
theorem dL_change_275 : decode cL_change 275 = .ok (.if_icmp .ge 13, 3) := by decide +kernel
theorem dL_change_278 : decode cL_change 278 = .ok (.aload_n 0, 1) := by decide +kernel
theorem dL_change_279 : decode cL_change 279 = .ok (.iload 4, 2) := by decide +kernel
theorem dL_change_281 : decode cL_change 281 = .ok (.iconst 0, 1) := by decide +kernel
theorem dL_change_282 : decode cL_change 282 = .ok (.invokevirtual 26, 3) := by decide +kernel
theorem dL_change_285 : decode cL_change 285 = .ok (.goto 5, 3) := by decide +kernel
theorem dL_change_288 : decode cL_change 288 = .ok (.bipush 9, 2) := by decide +kernel
theorem dL_change_290 : decode cL_change 290 = .ok (.istore 6, 2) := by decide +kernel
theorem dL_change_292 : decode cL_change 292 = .ok (.aload_n 0, 1) := by decide +kernel
theorem dL_change_293 : decode cL_change 293 = .ok (.iconst 4, 1) := by decide +kernel
theorem dL_change_294 : decode cL_change 294 = .ok (.invokevirtual 10, 3) := by decide +kernel
theorem dL_change_297 : decode cL_change 297 = .ok (.istore 7, 2) := by decide +kernel
theorem dL_change_299 : decode cL_change 299 = .ok (.aload_n 0, 1) := by decide +kernel
theorem dL_change_300 : decode cL_change 300 = .ok (.iload 4, 2) := by decide +kernel
theorem dL_change_302 : decode cL_change 302 = .ok (.invokevirtual 29, 3) := by decide +kernel
theorem dL_change_305 : decode cL_change 305 = .ok (.istore 8, 2) := by decide +kernel
theorem dL_change_307 : decode cL_change 307 = .ok (.iload 8, 2) := by decide +kernel
theorem dL_change_309 : decode cL_change 309 = .ok (.iload 6, 2) := by decide +kernel
theorem dL_change_311 : decode cL_change 311 = .ok (.bipush 9, 2) := by decide +kernel
theorem dL_change_313 : decode cL_change 313 = .ok (.if_icmp .ne 7, 3) := by decide +kernel
theorem dL_change_316 : decode cL_change 316 = .ok (.iconst (-1), 1) := by decide +kernel
theorem dL_change_317 : decode cL_change 317 = .ok (.goto 18, 3) := by decide +kernel
theorem dL_change_320 : decode cL_change 320 = .ok (.iload 6, 2) := by decide +kernel
theorem dL_change_322 : decode cL_change 322 = .ok (.iconst 2, 1) := by decide +kernel
theorem dL_change_323 : decode cL_change 323 = .ok (.if_icmp .ge 10, 3) := by decide +kernel
theorem dL_change_326 : decode cL_change 326 = .ok (.iload 7, 2) := by decide +kernel
theorem dL_change_328 : decode cL_change 328 = .ok (.iconst 1, 1) := by decide +kernel
theorem dL_change_329 : decode cL_change 329 = .ok (.iadd, 1) := by decide +kernel
theorem dL_change_330 : decode cL_change 330 = .ok (.goto 5, 3) := by decide +kernel
theorem dL_change_333 : decode cL_change 333 = .ok (.bipush (-2), 2) := by decide +kernel
theorem dL_change_335 : decode cL_change 335 = .ok (.if_icmp .ne 18, 3) := by decide +kernel
theorem dL_change_338 : decode cL_change 338 = .ok (.aload_n 1, 1) := by decide +kernel
theorem dL_change_339 : decode cL_change 339 = .ok (.iload 4, 2) := by decide +kernel
theorem dL_change_341 : decode cL_change 341 = .ok (.invokevirtual 29, 3) := by decide +kernel
theorem dL_change_344 : decode cL_change 344 = .ok (.iload 8, 2) := by decide +kernel
theorem dL_change_346 : decode cL_change 346 = .ok (.if_icmp .ne 7, 3) := by decide +kernel
theorem dL_change_349 : decode cL_change 349 = .ok (.iconst 1, 1) := by decide +kernel
theorem dL_change_350 : decode cL_change 350 = .ok (.goto 4, 3) := by decide +kernel
theorem dL_change_353 : decode cL_change 353 = .ok (.iconst 0, 1) := by decide +kernel
theorem dL_change_354 : decode cL_change 354 = .ok (.ireturn, 1) := by decide +kernel
theorem dL_change_355 : decode cL_change 355 = .ok (.iload 4, 2) := by decide +kernel
theorem dL_change_357 : decode cL_change 357 = .ok (.iload_n 3, 1) := by decide +kernel
theorem dL_change_358 : decode cL_change 358 = .ok (.if_icmp .ge 13, 3) := by decide +kernel
theorem dL_change_361 : decode cL_change 361 = .ok (.aload_n 0, 1) := by decide +kernel
theorem dL_change_362 : decode cL_change 362 = .ok (.iload 4, 2) := by decide +kernel
theorem dL_change_364 : decode cL_change 364 = .ok (.iconst 0, 1) := by decide +kernel
theorem dL_change_365 : decode cL_change 365 = .ok (.invokevirtual 26, 3) := by decide +kernel
theorem dL_change_368 : decode cL_change 368 = .ok (.goto 5, 3) := by decide +kernel
theorem dL_change_371 : decode cL_change 371 = .ok (.bipush 9, 2) := by decide +kernel
theorem dL_change_373 : decode cL_change 373 = .ok (.istore 6, 2) := by decide +kernel
theorem dL_change_375 : decode cL_change 375 = .ok (.iload 6, 2) := by decide +kernel
theorem dL_change_377 : decode cL_change 377 = .ok (.ifCond .ne 13, 3) := by decide +kernel
theorem dL_change_380 : decode cL_change 380 = .ok (.aload_n 0, 1) := by decide +kernel
theorem dL_change_381 : decode cL_change 381 = .ok (.iload 4, 2) := by decide +kernel
theorem dL_change_383 : decode cL_change 383 = .ok (.iconst 1, 1) := by decide +kernel
theorem dL_change_384 : decode cL_change 384 = .ok (.invokevirtual 26, 3) := by decide +kernel
theorem dL_change_387 : decode cL_change 387 = .ok (.goto 4, 3) := by decide +kernel
theorem dL_change_390 : decode cL_change 390 = .ok (.iconst 0, 1) := by decide +kernel
theorem dL_change_391 : decode cL_change 391 = .ok (.istore 7, 2) := by decide +kernel
theorem dL_change_393 : decode cL_change 393 = .ok (.aload_n 0, 1) := by decide +kernel
theorem dL_change_394 : decode cL_change 394 = .ok (.iload 4, 2) := by decide +kernel
theorem dL_change_396 : decode cL_change 396 = .ok (.iload 5, 2) := by decide +kernel
theorem dL_change_398 : decode cL_change 398 = .ok (.invokevirtual 32, 3) := by decide +kernel
theorem dL_change_401 : decode cL_change 401 = .ok (.istore 8, 2) := by decide +kernel
theorem dL_change_403 : decode cL_change 403 = .ok (.iload 8, 2) := by decide +kernel
theorem dL_change_405 : decode cL_change 405 = .ok (.iload 6, 2) := by decide +kernel
theorem dL_change_407 : decode cL_change 407 = .ok (.bipush 9, 2) := by decide +kernel
theorem dL_change_409 : decode cL_change 409 = .ok (.if_icmp .ne 7, 3) := by decide +kernel
theorem dL_change_412 : decode cL_change 412 = .ok (.iconst (-1), 1) := by decide +kernel
theorem dL_change_413 : decode cL_change 413 = .ok (.goto 15, 3) := by decide +kernel
theorem dL_change_416 : decode cL_change 416 = .ok (.iload 6, 2) := by decide +kernel
theorem dL_change_418 : decode cL_change 418 = .ok (.ifCond .ne 8, 3) := by decide +kernel
theorem dL_change_421 : decode cL_change 421 = .ok (.iload 7, 2) := by decide +kernel
theorem dL_change_423 : decode cL_change 423 = .ok (.goto 5, 3) := by decide +kernel
theorem dL_change_426 : decode cL_change 426 = .ok (.bipush (-2), 2) := by decide +kernel
theorem dL_change_428 : decode cL_change 428 = .ok (.if_icmp .ne 20, 3) := by decide +kernel
theorem dL_change_431 : decode cL_change 431 = .ok (.aload_n 1, 1) := by decide +kernel
theorem dL_change_432 : decode cL_change 432 = .ok (.iload 4, 2) := by decide +kernel
theorem dL_change_434 : decode cL_change 434 = .ok (.iload 5, 2) := by decide +kernel
theorem dL_change_436 : decode cL_change 436 = .ok (.invokevirtual 32, 3) := by decide +kernel
theorem dL_change_439 : decode cL_change 439 = .ok (.iload 8, 2) := by decide +kernel
theorem dL_change_441 : decode cL_change 441 = .ok (.if_icmp .ne 7, 3) := by decide +kernel
theorem dL_change_444 : decode cL_change 444 = .ok (.iconst 1, 1) := by decide +kernel
theorem dL_change_445 : decode cL_change 445 = .ok (.goto 4, 3) := by decide +kernel
theorem dL_change_448 : decode cL_change 448 = .ok (.iconst 0, 1) := by decide +kernel
theorem dL_change_449 : decode cL_change 449 = .ok (.ireturn, 1) := by decide +kernel
theorem dL_change_450 : decode cL_change 450 = .ok (.aload_n 0, 1) := by decide +kernel
theorem dL_change_451 : decode cL_change 451 = .ok (.bipush 14, 2) := by decide +kernel
theorem dL_change_453 : decode cL_change 453 = .ok (.invokevirtual 10, 3) := by decide +kernel
theorem dL_change_456 : decode cL_change 456 = .ok (.istore 6, 2) := by decide +kernel
theorem dL_change_458 : decode cL_change 458 = .ok (.iconst 1, 1) := by decide +kernel
theorem dL_change_459 : decode cL_change 459 = .ok (.iload_n 2, 1) := by decide +kernel
theorem dL_change_460 : decode cL_change 460 = .ok (.bipush 8, 2) := by decide +kernel
theorem dL_change_462 : decode cL_change 462 = .ok (.ishr, 1) := by decide +kernel
theorem dL_change_463 : decode cL_change 463 = .ok (.bipush 12, 2) := by decide +kernel
theorem dL_change_465 : decode cL_change 465 = .ok (.invokestatic 16, 3) := by decide +kernel
theorem dL_change_468 : decode cL_change 468 = .ok (.iadd, 1) := by decide +kernel
theorem dL_change_469 : decode cL_change 469 = .ok (.istore 7, 2) := by decide +kernel
theorem dL_change_471 : decode cL_change 471 = .ok (.aload_n 0, 1) := by decide +kernel
theorem dL_change_472 : decode cL_change 472 = .ok (.iconst 0, 1) := by decide +kernel
theorem dL_change_473 : decode cL_change 473 = .ok (.iload 7, 2) := by decide +kernel
theorem dL_change_475 : decode cL_change 475 = .ok (.invokevirtual 35, 3) := by decide +kernel
theorem dL_change_478 : decode cL_change 478 = .ok (.iload 6, 2) := by decide +kernel
theorem dL_change_480 : decode cL_change 480 = .ok (.if_icmp .ne 30, 3) := by decide +kernel
theorem dL_change_483 : decode cL_change 483 = .ok (.aload_n 1, 1) := by decide +kernel
theorem dL_change_484 : decode cL_change 484 = .ok (.iconst 0, 1) := by decide +kernel
theorem dL_change_485 : decode cL_change 485 = .ok (.iload 7, 2) := by decide +kernel
theorem dL_change_487 : decode cL_change 487 = .ok (.invokevirtual 35, 3) := by decide +kernel
theorem dL_change_490 : decode cL_change 490 = .ok (.iload 6, 2) := by decide +kernel
theorem dL_change_492 : decode cL_change 492 = .ok (.if_icmp .ne 18, 3) := by decide +kernel
theorem dL_change_495 : decode cL_change 495 = .ok (.aload_n 0, 1) := by decide +kernel
theorem dL_change_496 : decode cL_change 496 = .ok (.bipush 14, 2) := by decide +kernel
theorem dL_change_498 : decode cL_change 498 = .ok (.invokevirtual 10, 3) := by decide +kernel
theorem dL_change_501 : decode cL_change 501 = .ok (.iload 7, 2) := by decide +kernel
theorem dL_change_503 : decode cL_change 503 = .ok (.if_icmp .ne 7, 3) := by decide +kernel
theorem dL_change_506 : decode cL_change 506 = .ok (.iconst 1, 1) := by decide +kernel
theorem dL_change_507 : decode cL_change 507 = .ok (.goto 4, 3) := by decide +kernel
theorem dL_change_510 : decode cL_change 510 = .ok (.iconst 0, 1) := by decide +kernel
theorem dL_change_511 : decode cL_change 511 = .ok (.ireturn, 1) := by decide +kernel
theorem dL_change_512 : decode cL_change 512 = .ok (.iconst 1, 1) := by decide +kernel
theorem dL_change_513 : decode cL_change 513 = .ok (.iload_n 2, 1) := by decide +kernel
theorem dL_change_514 : decode cL_change 514 = .ok (.bipush 6, 2) := by decide +kernel
theorem dL_change_516 : decode cL_change 516 = .ok (.ishr, 1) := by decide +kernel
theorem dL_change_517 : decode cL_change 517 = .ok (.iconst 2, 1) := by decide +kernel
theorem dL_change_518 : decode cL_change 518 = .ok (.invokestatic 16, 3) := by decide +kernel
theorem dL_change_521 : decode cL_change 521 = .ok (.iadd, 1) := by decide +kernel
theorem dL_change_522 : decode cL_change 522 = .ok (.istore 6, 2) := by decide +kernel
theorem dL_change_524 : decode cL_change 524 = .ok (.iload 6, 2) := by decide +kernel
theorem dL_change_526 : decode cL_change 526 = .ok (.iconst 1, 1) := by decide +kernel
theorem dL_change_527 : decode cL_change 527 = .ok (.if_icmp .ne 15, 3) := by decide +kernel
theorem dL_change_530 : decode cL_change 530 = .ok (.iload_n 2, 1) := by decide +kernel
theorem dL_change_531 : decode cL_change 531 = .ok (.bipush 8, 2) := by decide +kernel
theorem dL_change_533 : decode cL_change 533 = .ok (.ishr, 1) := by decide +kernel
theorem dL_change_534 : decode cL_change 534 = .ok (.bipush 41, 2) := by decide +kernel
theorem dL_change_536 : decode cL_change 536 = .ok (.invokestatic 16, 3) := by decide +kernel
theorem dL_change_539 : decode cL_change 539 = .ok (.goto 11, 3) := by decide +kernel
theorem dL_change_542 : decode cL_change 542 = .ok (.iload_n 2, 1) := by decide +kernel
theorem dL_change_543 : decode cL_change 543 = .ok (.bipush 8, 2) := by decide +kernel
theorem dL_change_545 : decode cL_change 545 = .ok (.ishr, 1) := by decide +kernel
theorem dL_change_546 : decode cL_change 546 = .ok (.iconst 2, 1) := by decide +kernel
theorem dL_change_547 : decode cL_change 547 = .ok (.invokestatic 16, 3) := by decide +kernel
theorem dL_change_550 : decode cL_change 550 = .ok (.istore 7, 2) := by decide +kernel
theorem dL_change_552 : decode cL_change 552 = .ok (.aload_n 0, 1) := by decide +kernel
theorem dL_change_553 : decode cL_change 553 = .ok (.bipush 14, 2) := by decide +kernel
theorem dL_change_555 : decode cL_change 555 = .ok (.iload 6, 2) := by decide +kernel
theorem dL_change_557 : decode cL_change 557 = .ok (.iadd, 1) := by decide +kernel
theorem dL_change_558 : decode cL_change 558 = .ok (.invokevirtual 10, 3) := by decide +kernel
theorem dL_change_561 : decode cL_change 561 = .ok (.istore 8, 2) := by decide +kernel
theorem dL_change_563 : decode cL_change 563 = .ok (.aload_n 0, 1) := by decide +kernel
theorem dL_change_564 : decode cL_change 564 = .ok (.iload 6, 2) := by decide +kernel
theorem dL_change_566 : decode cL_change 566 = .ok (.iload 7, 2) := by decide +kernel
theorem dL_change_568 : decode cL_change 568 = .ok (.invokevirtual 35, 3) := by decide +kernel
theorem dL_change_571 : decode cL_change 571 = .ok (.iload 8, 2) := by decide +kernel
theorem dL_change_573 : decode cL_change 573 = .ok (.if_icmp .ne 20, 3) := by decide +kernel
theorem dL_change_576 : decode cL_change 576 = .ok (.aload_n 1, 1) := by decide +kernel
theorem dL_change_577 : decode cL_change 577 = .ok (.iload 6, 2) := by decide +kernel
theorem dL_change_579 : decode cL_change 579 = .ok (.iload 7, 2) := by decide +kernel
theorem dL_change_581 : decode cL_change 581 = .ok (.invokevirtual 35, 3) := by decide +kernel
theorem dL_change_584 : decode cL_change 584 = .ok (.iload 8, 2) := by decide +kernel
theorem dL_change_586 : decode cL_change 586 = .ok (.if_icmp .ne 7, 3) := by decide +kernel
theorem dL_change_589 : decode cL_change 589 = .ok (.iconst 1, 1) := by decide +kernel
theorem dL_change_590 : decode cL_change 590 = .ok (.goto 4, 3) := by decide +kernel
theorem dL_change_593 : decode cL_change 593 = .ok (.iconst 0, 1) := by decide +kernel
theorem dL_change_594 : decode cL_change 594 = .ok (.ireturn, 1) := by decide +kernel
theorem dL_change_595 : decode cL_change 595 = .ok (.aload_n 0, 1) := by decide +kernel
theorem dL_change_596 : decode cL_change 596 = .ok (.iconst 4, 1) := by decide +kernel
theorem dL_change_597 : decode cL_change 597 = .ok (.invokevirtual 10, 3) := by decide +kernel
theorem dL_change_600 : decode cL_change 600 = .ok (.istore 6, 2) := by decide +kernel
theorem dL_change_602 : decode cL_change 602 = .ok (.aload_n 0, 1) := by decide +kernel
theorem dL_change_603 : decode cL_change 603 = .ok (.invokevirtual 38, 3) := by decide +kernel
theorem dL_change_606 : decode cL_change 606 = .ok (.iload 6, 2) := by decide +kernel
theorem dL_change_608 : decode cL_change 608 = .ok (.if_icmp .ne 24, 3) := by decide +kernel
theorem dL_change_611 : decode cL_change 611 = .ok (.aload_n 1, 1) := by decide +kernel
theorem dL_change_612 : decode cL_change 612 = .ok (.invokevirtual 38, 3) := by decide +kernel
theorem dL_change_615 : decode cL_change 615 = .ok (.iload 6, 2) := by decide +kernel
theorem dL_change_617 : decode cL_change 617 = .ok (.if_icmp .ne 15, 3) := by decide +kernel
theorem dL_change_620 : decode cL_change 620 = .ok (.aload_n 0, 1) := by decide +kernel
theorem dL_change_621 : decode cL_change 621 = .ok (.iconst 4, 1) := by decide +kernel
theorem dL_change_622 : decode cL_change 622 = .ok (.invokevirtual 10, 3) := by decide +kernel
theorem dL_change_625 : decode cL_change 625 = .ok (.ifCond .ne 7, 3) := by decide +kernel
theorem dL_change_628 : decode cL_change 628 = .ok (.iconst 1, 1) := by decide +kernel
theorem dL_change_629 : decode cL_change 629 = .ok (.goto 4, 3) := by decide +kernel
theorem dL_change_632 : decode cL_change 632 = .ok (.iconst 0, 1) := by decide +kernel
theorem dL_change_633 : decode cL_change 633 = .ok (.ireturn, 1) := by decide +kernel
set_option maxRecDepth 20000 in
theorem ggL_first_X9_count_q1 : GoodIn wsL_first ([.code yX9_count cX9_count 2 (some .int)] : List Cond) := goodIn_r _ [5] (by decide +kernel) (by decide +kernel)
set_option maxRecDepth 20000 in
theorem ggL_first_X9_count_q2 : GoodIn wsL_first wsX9_count_r1 := goodIn_r _ [6, 7, 8, 9, 10, 11, 12, 13, 14, 15, 16, 17, 18, 19, 20, 21, 22, 23, 24, 25, 26, 27, 28, 29] (by decide +kernel) (by decide +kernel)
set_option maxRecDepth 20000 in
theorem ggL_first_X9_count_q3 : GoodIn wsL_first wsX9_count_r2 := goodIn_r _ [30, 31, 32, 33, 34, 35, 36, 37, 38, 39, 40, 41, 42, 43, 44, 45, 46, 47, 48, 49, 50, 51, 52, 53] (by decide +kernel) (by decide +kernel)
set_option maxRecDepth 20000 in
theorem ggL_first_X9_count_q4 : GoodIn wsL_first wsX9_count_r3 := goodIn_r _ [54, 55, 56, 57, 58, 59, 60, 61, 62, 63, 64, 65, 66, 67, 68, 69, 70, 71, 72] (by decide +kernel) (by decide +kernel)
set_option maxRecDepth 20000 in
theorem ggL_first_X9_count_q5 : GoodIn wsL_first wsX90 := goodIn_r _ [113, 114, 115, 116] (by decide +kernel) (by decide +kernel)
set_option maxRecDepth 20000 in
theorem ggL_first_X9_count_q6 : GoodIn wsL_first wsX40 := goodIn_r _ [117, 118, 119, 120, 121, 122, 123, 124] (by decide +kernel) (by decide +kernel)
set_option maxRecDepth 20000 in
theorem ggL_first_X9_count_q7 : GoodIn wsL_first wsX60 := goodIn_r _ [125, 126, 127] (by decide +kernel) (by decide +kernel)
set_option maxRecDepth 20000 in
theorem ggL_first_X9_count_q8 : GoodIn wsL_first wsX20 := goodIn_r _ [128, 129, 130] (by decide +kernel) (by decide +kernel)
set_option maxRecDepth 20000 in
theorem ggL_first_X9_count_q9 : GoodIn wsL_first wsX70 := goodIn_r _ [131, 132, 133, 134, 135] (by decide +kernel) (by decide +kernel)
set_option maxRecDepth 20000 in
theorem ggL_first_X9_count_q10 : GoodIn wsL_first wsX80 := goodIn_r _ [136, 137, 138, 139, 140, 141, 142, 143, 144, 145, 146, 147, 148] (by decide +kernel) (by decide +kernel)
set_option maxRecDepth 20000 in
theorem ggL_first_X9_count_q11 : GoodIn wsL_first wsX50 := goodIn_r _ [149, 150] (by decide +kernel) (by decide +kernel)
set_option maxRecDepth 20000 in
theorem ggL_first_X9_count_q12 : GoodIn wsL_first wsX00 := goodIn_r _ [151, 152] (by decide +kernel) (by decide +kernel)
theorem ggL_first_X9_count : GoodIn wsL_first wsX9_count := (zk_gcons ggL_first_X9_count_q1 (goodIn_app (goodIn_app (goodIn_app (goodIn_app (goodIn_app (goodIn_app (goodIn_app (goodIn_app (goodIn_app ggL_first_X9_count_q2 (goodIn_app ggL_first_X9_count_q3 ggL_first_X9_count_q4)) ggL_first_X9_count_q5) ggL_first_X9_count_q6) ggL_first_X9_count_q7) ggL_first_X9_count_q8) ggL_first_X9_count_q9) ggL_first_X9_count_q10) ggL_first_X9_count_q11) ggL_first_X9_count_q12))
set_option maxRecDepth 20000 in
theorem gL_first_X9_count : GoodIn wsL_first (wsV RL 10 RX9 yX9_count wsX9_count) := goodIn_app (goodIn_of _ (by decide +kernel)) ggL_first_X9_count
set_option maxRecDepth 20000 in
theorem ggL_first_X9_promise_q1 : GoodIn wsL_first ([.code yX9_promise cX9_promise 3 (some .int)] : List Cond) := goodIn_r _ [76] (by decide +kernel) (by decide +kernel)
set_option maxRecDepth 20000 in
theorem ggL_first_X9_promise_q2 : GoodIn wsL_first wsX9_promise_r1 := goodIn_r _ [6, 77, 78, 79, 44, 80, 46, 81, 82, 83, 30, 84, 85, 33, 86, 87, 88, 89, 90, 91, 92, 56, 57, 58] (by decide +kernel) (by decide +kernel)
set_option maxRecDepth 20000 in
theorem ggL_first_X9_promise_q3 : GoodIn wsL_first wsX9_promise_r2 := goodIn_r _ [59, 93, 94, 95, 96, 97, 98, 99, 100, 101, 102, 103, 104, 105, 106, 107, 108, 109, 110, 111, 112] (by decide +kernel) (by decide +kernel)
set_option maxRecDepth 20000 in
theorem ggL_first_X9_promise_q4 : GoodIn wsL_first wsX90 := goodIn_r _ [113, 114, 115, 116] (by decide +kernel) (by decide +kernel)
set_option maxRecDepth 20000 in
theorem ggL_first_X9_promise_q5 : GoodIn wsL_first wsX60 := goodIn_r _ [125, 126, 127] (by decide +kernel) (by decide +kernel)
set_option maxRecDepth 20000 in
theorem ggL_first_X9_promise_q6 : GoodIn wsL_first wsX80 := goodIn_r _ [136, 137, 138, 139, 140, 141, 142, 143, 144, 145, 146, 147, 148] (by decide +kernel) (by decide +kernel)
set_option maxRecDepth 20000 in
theorem ggL_first_X9_promise_q7 : GoodIn wsL_first wsX50 := goodIn_r _ [149, 150] (by decide +kernel) (by decide +kernel)
set_option maxRecDepth 20000 in
theorem ggL_first_X9_promise_q8 : GoodIn wsL_first wsX30 := goodIn_r _ [153, 154, 155, 156, 157] (by decide +kernel) (by decide +kernel)
theorem ggL_first_X9_promise : GoodIn wsL_first wsX9_promise := (zk_gcons ggL_first_X9_promise_q1 (goodIn_app (goodIn_app (goodIn_app (goodIn_app (goodIn_app (goodIn_app ggL_first_X9_promise_q2 ggL_first_X9_promise_q3) ggL_first_X9_promise_q4) ggL_first_X9_promise_q5) ggL_first_X9_promise_q6) ggL_first_X9_promise_q7) ggL_first_X9_promise_q8))
set_option maxRecDepth 20000 in
theorem gL_first_X9_promise : GoodIn wsL_first (wsV RL 26 RX9 yX9_promise wsX9_promise) := goodIn_app (goodIn_of _ (by decide +kernel)) ggL_first_X9_promise
theorem dL_first_0 : decode cL_first 0 = .ok (.iconst (-1), 1) := by decide +kernel
theorem dL_first_1 : decode cL_first 1 = .ok (.istore_n 1, 1) := by decide +kernel
theorem dL_first_2 : decode cL_first 2 = .ok (.iconst 0, 1) := by decide +kernel
theorem dL_first_3 : decode cL_first 3 = .ok (.istore_n 2, 1) := by decide +kernel
theorem dL_first_4 : decode cL_first 4 = .ok (.iload_n 2, 1) := by decide +kernel
theorem dL_first_5 : decode cL_first 5 = .ok (.aload_n 0, 1) := by decide +kernel
theorem dL_first_6 : decode cL_first 6 = .ok (.iconst 1, 1) := by decide +kernel
theorem dL_first_7 : decode cL_first 7 = .ok (.invokevirtual 10, 3) := by decide +kernel
theorem dL_first_10 : decode cL_first 10 = .ok (.if_icmp .ge 53, 3) := by decide +kernel
theorem dL_first_13 : decode cL_first 13 = .ok (.aload_n 0, 1) := by decide +kernel
theorem dL_first_14 : decode cL_first 14 = .ok (.iload_n 2, 1) := by decide +kernel
theorem dL_first_15 : decode cL_first 15 = .ok (.iconst 0, 1) := by decide +kernel
theorem dL_first_16 : decode cL_first 16 = .ok (.invokevirtual 26, 3) := by decide +kernel
theorem dL_first_19 : decode cL_first 19 = .ok (.ifCond .ne 26, 3) := by decide +kernel
theorem dL_first_22 : decode cL_first 22 = .ok (.iload_n 1, 1) := by decide +kernel
theorem dL_first_23 : decode cL_first 23 = .ok (.ifCond .lt 18, 3) := by decide +kernel
theorem dL_first_26 : decode cL_first 26 = .ok (.aload_n 0, 1) := by decide +kernel
theorem dL_first_27 : decode cL_first 27 = .ok (.iload_n 2, 1) := by decide +kernel
theorem dL_first_28 : decode cL_first 28 = .ok (.iconst 1, 1) := by decide +kernel
theorem dL_first_29 : decode cL_first 29 = .ok (.invokevirtual 26, 3) := by decide +kernel
theorem dL_first_32 : decode cL_first 32 = .ok (.aload_n 0, 1) := by decide +kernel
theorem dL_first_33 : decode cL_first 33 = .ok (.iload_n 1, 1) := by decide +kernel
theorem dL_first_34 : decode cL_first 34 = .ok (.iconst 1, 1) := by decide +kernel
theorem dL_first_35 : decode cL_first 35 = .ok (.invokevirtual 26, 3) := by decide +kernel
theorem dL_first_38 : decode cL_first 38 = .ok (.if_icmp .ge 7, 3) := by decide +kernel
theorem dL_first_41 : decode cL_first 41 = .ok (.iconst 1, 1) := by decide +kernel
theorem dL_first_42 : decode cL_first 42 = .ok (.goto 4, 3) := by decide +kernel
theorem dL_first_45 : decode cL_first 45 = .ok (.iconst 0, 1) := by decide +kernel
theorem dL_first_46 : decode cL_first 46 = .ok (.istore_n 3, 1) := by decide +kernel
theorem dL_first_47 : decode cL_first 47 = .ok (.iload_n 3, 1) := by decide +kernel
theorem dL_first_48 : decode cL_first 48 = .ok (.ifCond .eq 7, 3) := by decide +kernel
theorem dL_first_51 : decode cL_first 51 = .ok (.iload_n 2, 1) := by decide +kernel
theorem dL_first_52 : decode cL_first 52 = .ok (.goto 4, 3) := by decide +kernel
theorem dL_first_55 : decode cL_first 55 = .ok (.iload_n 1, 1) := by decide +kernel
theorem dL_first_56 : decode cL_first 56 = .ok (.istore_n 1, 1) := by decide +kernel
theorem dL_first_57 : decode cL_first 57 = .ok (.iinc 2 1, 3) := by decide +kernel
theorem dL_first_60 : decode cL_first 60 = .ok (.goto (-56), 3) := by decide +kernel
theorem dL_first_63 : decode cL_first 63 = .ok (.iload_n 1, 1) := by decide +kernel
theorem dL_first_64 : decode cL_first 64 = .ok (.ireturn, 1) := by decide +kernel
set_option maxRecDepth 100000 in
theorem ggL_areNext_L_first_q1_s0 : GoodIn wsL_areNext ([Cond.code yL_first cL_first 4 (some .int)] : List Cond) := fun w h => by
  rw [List.mem_singleton.mp h]
  exact ⟨List.mem_of_getElem? (i := 4) rfl, Or.inl rfl⟩
theorem ggL_areNext_L_first_q1 : GoodIn wsL_areNext ([.code yL_first cL_first 4 (some .int)] : List Cond) := ggL_areNext_L_first_q1_s0
set_option maxRecDepth 20000 in
theorem ggL_areNext_L_first_q2 : GoodIn wsL_areNext wsL_first_r1 := goodIn_r _ [5, 6, 7, 8, 9, 10, 11, 12, 13, 14, 15, 16, 17, 18, 19, 20, 21, 22, 23, 24, 25, 26, 27, 28] (by decide +kernel) (by decide +kernel)
set_option maxRecDepth 20000 in
theorem ggL_areNext_L_first_q3 : GoodIn wsL_areNext wsL_first_r2 := goodIn_r _ [29, 30, 31, 32, 33, 34, 35, 36, 37, 38, 39, 40, 41, 42, 43, 44, 45, 46, 47, 48, 49, 50, 51, 52] (by decide +kernel) (by decide +kernel)
set_option maxRecDepth 20000 in
theorem ggL_areNext_L_first_q4 : GoodIn wsL_areNext wsL_first_r3 := goodIn_r _ [53, 54, 55, 56, 57, 58, 59, 60, 61, 62, 63, 64, 65, 66, 67, 68, 69, 70, 71, 72, 73, 74, 75, 76] (by decide +kernel) (by decide +kernel)
set_option maxRecDepth 20000 in
theorem ggL_areNext_L_first_q5 : GoodIn wsL_areNext wsL_first_r4 := goodIn_r _ [77, 78, 79, 80, 81, 82, 83, 84, 85, 86, 87, 88, 89, 90, 91, 92, 93, 94, 95, 96, 97, 98, 99, 100] (by decide +kernel) (by decide +kernel)
set_option maxRecDepth 20000 in
theorem ggL_areNext_L_first_q6 : GoodIn wsL_areNext wsL_first_r5 := goodIn_r _ [101, 102, 103, 104, 105, 106, 107, 108, 109, 110, 111, 112, 113, 114, 115, 116] (by decide +kernel) (by decide +kernel)
set_option maxRecDepth 20000 in
theorem ggL_areNext_L_first_q7 : GoodIn wsL_areNext wsX90 := goodIn_r _ [154, 155, 156, 157] (by decide +kernel) (by decide +kernel)
set_option maxRecDepth 20000 in
theorem ggL_areNext_L_first_q8 : GoodIn wsL_areNext wsX40 := goodIn_r _ [158, 159, 160, 161, 162, 163, 164, 165] (by decide +kernel) (by decide +kernel)
set_option maxRecDepth 20000 in
theorem ggL_areNext_L_first_q9 : GoodIn wsL_areNext wsX60 := goodIn_r _ [166, 167, 168] (by decide +kernel) (by decide +kernel)
set_option maxRecDepth 20000 in
theorem ggL_areNext_L_first_q10 : GoodIn wsL_areNext wsX20 := goodIn_r _ [169, 170, 171] (by decide +kernel) (by decide +kernel)
set_option maxRecDepth 20000 in
theorem ggL_areNext_L_first_q11 : GoodIn wsL_areNext wsX70 := goodIn_r _ [172, 173, 174, 175, 176] (by decide +kernel) (by decide +kernel)
set_option maxRecDepth 20000 in
theorem ggL_areNext_L_first_q12 : GoodIn wsL_areNext wsX80 := goodIn_r _ [177, 178, 179, 180, 181, 182, 183, 184, 185, 186, 187, 188, 189] (by decide +kernel) (by decide +kernel)
set_option maxRecDepth 20000 in
theorem ggL_areNext_L_first_q13 : GoodIn wsL_areNext wsX50 := goodIn_r _ [190, 191] (by decide +kernel) (by decide +kernel)
set_option maxRecDepth 20000 in
theorem ggL_areNext_L_first_q14 : GoodIn wsL_areNext wsX00 := goodIn_r _ [192, 193] (by decide +kernel) (by decide +kernel)
set_option maxRecDepth 20000 in
theorem ggL_areNext_L_first_q15 : GoodIn wsL_areNext wsX30 := goodIn_r _ [194, 195, 196, 197, 198] (by decide +kernel) (by decide +kernel)
theorem ggL_areNext_L_first : GoodIn wsL_areNext wsL_first := (zk_gcons ggL_areNext_L_first_q1 (goodIn_app (goodIn_app (goodIn_app (goodIn_app (goodIn_app (goodIn_app (goodIn_app (goodIn_app (goodIn_app (goodIn_app ggL_areNext_L_first_q2 (goodIn_app ggL_areNext_L_first_q3 (goodIn_app ggL_areNext_L_first_q4 (goodIn_app ggL_areNext_L_first_q5 ggL_areNext_L_first_q6)))) ggL_areNext_L_first_q7) ggL_areNext_L_first_q8) ggL_areNext_L_first_q9) ggL_areNext_L_first_q10) ggL_areNext_L_first_q11) ggL_areNext_L_first_q12) ggL_areNext_L_first_q13) ggL_areNext_L_first_q14) ggL_areNext_L_first_q15))
set_option maxRecDepth 20000 in
theorem gL_areNext_L_first : GoodIn wsL_areNext (va_wsS RL 42 yL_first wsL_first) := goodIn_app (goodIn_of _ (by decide +kernel)) ggL_areNext_L_first
set_option maxRecDepth 20000 in
theorem ggL_areNext_X9_promise_q1 : GoodIn wsL_areNext ([.code yX9_promise cX9_promise 3 (some .int)] : List Cond) := goodIn_r _ [80] (by decide +kernel) (by decide +kernel)
set_option maxRecDepth 20000 in
theorem ggL_areNext_X9_promise_q2 : GoodIn wsL_areNext wsX9_promise_r1 := goodIn_r _ [10, 81, 82, 83, 48, 84, 50, 85, 86, 87, 34, 88, 89, 37, 90, 91, 92, 93, 94, 95, 96, 60, 61, 62] (by decide +kernel) (by decide +kernel)
set_option maxRecDepth 20000 in
theorem ggL_areNext_X9_promise_q3 : GoodIn wsL_areNext wsX9_promise_r2 := goodIn_r _ [63, 97, 98, 99, 100, 101, 102, 103, 104, 105, 106, 107, 108, 109, 110, 111, 112, 113, 114, 115, 116] (by decide +kernel) (by decide +kernel)
set_option maxRecDepth 20000 in
theorem ggL_areNext_X9_promise_q4 : GoodIn wsL_areNext wsX90 := goodIn_r _ [154, 155, 156, 157] (by decide +kernel) (by decide +kernel)
set_option maxRecDepth 20000 in
theorem ggL_areNext_X9_promise_q5 : GoodIn wsL_areNext wsX60 := goodIn_r _ [166, 167, 168] (by decide +kernel) (by decide +kernel)
set_option maxRecDepth 20000 in
theorem ggL_areNext_X9_promise_q6 : GoodIn wsL_areNext wsX80 := goodIn_r _ [177, 178, 179, 180, 181, 182, 183, 184, 185, 186, 187, 188, 189] (by decide +kernel) (by decide +kernel)
set_option maxRecDepth 20000 in
theorem ggL_areNext_X9_promise_q7 : GoodIn wsL_areNext wsX50 := goodIn_r _ [190, 191] (by decide +kernel) (by decide +kernel)
set_option maxRecDepth 20000 in
theorem ggL_areNext_X9_promise_q8 : GoodIn wsL_areNext wsX30 := goodIn_r _ [194, 195, 196, 197, 198] (by decide +kernel) (by decide +kernel)
theorem ggL_areNext_X9_promise : GoodIn wsL_areNext wsX9_promise := (zk_gcons ggL_areNext_X9_promise_q1 (goodIn_app (goodIn_app (goodIn_app (goodIn_app (goodIn_app (goodIn_app ggL_areNext_X9_promise_q2 ggL_areNext_X9_promise_q3) ggL_areNext_X9_promise_q4) ggL_areNext_X9_promise_q5) ggL_areNext_X9_promise_q6) ggL_areNext_X9_promise_q7) ggL_areNext_X9_promise_q8))
set_option maxRecDepth 20000 in
theorem gL_areNext_X9_promise : GoodIn wsL_areNext (wsV RL 26 RX9 yX9_promise wsX9_promise) := goodIn_app (goodIn_of _ (by decide +kernel)) ggL_areNext_X9_promise
set_option maxRecDepth 20000 in
theorem ggL_areNext_X9_next_q1 : GoodIn wsL_areNext ([.code yX9_next cX9_next 5 (some .int)] : List Cond) := goodIn_r _ [120] (by decide +kernel) (by decide +kernel)
set_option maxRecDepth 20000 in
theorem ggL_areNext_X9_next_q2 : GoodIn wsL_areNext wsX9_next_r1 := goodIn_r _ [10, 121, 122, 123, 34, 124, 37, 45, 46, 47, 48, 49, 50, 125, 56, 57, 58, 59, 60, 61, 62, 63, 126, 127] (by decide +kernel) (by decide +kernel)
set_option maxRecDepth 20000 in
theorem ggL_areNext_X9_next_q3 : GoodIn wsL_areNext wsX9_next_r2 := goodIn_r _ [128, 129, 130, 131, 132, 133, 134, 135, 136, 137, 138, 139, 140, 141, 142, 143, 144, 145, 36, 146, 147, 148, 149, 89] (by decide +kernel) (by decide +kernel)
set_option maxRecDepth 20000 in
theorem ggL_areNext_X9_next_q4 : GoodIn wsL_areNext wsX9_next_r3 := goodIn_r _ [150, 103, 104, 93, 105, 106, 151, 108, 109, 110, 111, 152, 113, 114, 115, 116, 153] (by decide +kernel) (by decide +kernel)
set_option maxRecDepth 20000 in
theorem ggL_areNext_X9_next_q5 : GoodIn wsL_areNext wsX90 := goodIn_r _ [154, 155, 156, 157] (by decide +kernel) (by decide +kernel)
set_option maxRecDepth 20000 in
theorem ggL_areNext_X9_next_q6 : GoodIn wsL_areNext wsX60 := goodIn_r _ [166, 167, 168] (by decide +kernel) (by decide +kernel)
set_option maxRecDepth 20000 in
theorem ggL_areNext_X9_next_q7 : GoodIn wsL_areNext wsX80 := goodIn_r _ [177, 178, 179, 180, 181, 182, 183, 184, 185, 186, 187, 188, 189] (by decide +kernel) (by decide +kernel)
set_option maxRecDepth 20000 in
theorem ggL_areNext_X9_next_q8 : GoodIn wsL_areNext wsX50 := goodIn_r _ [190, 191] (by decide +kernel) (by decide +kernel)
set_option maxRecDepth 20000 in
theorem ggL_areNext_X9_next_q9 : GoodIn wsL_areNext wsX30 := goodIn_r _ [194, 195, 196, 197, 198] (by decide +kernel) (by decide +kernel)
theorem ggL_areNext_X9_next : GoodIn wsL_areNext wsX9_next := (zk_gcons ggL_areNext_X9_next_q1 (goodIn_app (goodIn_app (goodIn_app (goodIn_app (goodIn_app (goodIn_app ggL_areNext_X9_next_q2 (goodIn_app ggL_areNext_X9_next_q3 ggL_areNext_X9_next_q4)) ggL_areNext_X9_next_q5) ggL_areNext_X9_next_q6) ggL_areNext_X9_next_q7) ggL_areNext_X9_next_q8) ggL_areNext_X9_next_q9))
set_option maxRecDepth 20000 in
theorem gL_areNext_X9_next : GoodIn wsL_areNext (wsV RL 46 RX9 yX9_next wsX9_next) := goodIn_app (goodIn_of _ (by decide +kernel)) ggL_areNext_X9_next
theorem dL_areNext_0 : decode cL_areNext 0 = .ok (.aload_n 0, 1) := by decide +kernel
theorem dL_areNext_1 : decode cL_areNext 1 = .ok (.invokestatic 42, 3) := by decide +kernel
theorem dL_areNext_4 : decode cL_areNext 4 = .ok (.istore_n 1, 1) := by decide +kernel
theorem dL_areNext_5 : decode cL_areNext 5 = .ok (.iload_n 1, 1) := by decide +kernel
theorem dL_areNext_6 : decode cL_areNext 6 = .ok (.ifCond .ge 8, 3) := by decide +kernel
theorem dL_areNext_9 : decode cL_areNext 9 = .ok (.bipush (-9), 2) := by decide +kernel
theorem dL_areNext_11 : decode cL_areNext 11 = .ok (.goto 9, 3) := by decide +kernel
theorem dL_areNext_14 : decode cL_areNext 14 = .ok (.aload_n 0, 1) := by decide +kernel
theorem dL_areNext_15 : decode cL_areNext 15 = .ok (.iload_n 1, 1) := by decide +kernel
theorem dL_areNext_16 : decode cL_areNext 16 = .ok (.iconst 1, 1) := by decide +kernel
theorem dL_areNext_17 : decode cL_areNext 17 = .ok (.invokevirtual 26, 3) := by decide +kernel
theorem dL_areNext_20 : decode cL_areNext 20 = .ok (.istore_n 2, 1) := by decide +kernel
theorem dL_areNext_21 : decode cL_areNext 21 = .ok (.iload_n 1, 1) := by decide +kernel
theorem dL_areNext_22 : decode cL_areNext 22 = .ok (.ifCond .ge 8, 3) := by decide +kernel
theorem dL_areNext_25 : decode cL_areNext 25 = .ok (.bipush (-9), 2) := by decide +kernel
theorem dL_areNext_27 : decode cL_areNext 27 = .ok (.goto 4, 3) := by decide +kernel
theorem dL_areNext_30 : decode cL_areNext 30 = .ok (.iload_n 1, 1) := by decide +kernel
theorem dL_areNext_31 : decode cL_areNext 31 = .ok (.istore_n 3, 1) := by decide +kernel
theorem dL_areNext_32 : decode cL_areNext 32 = .ok (.aload_n 0, 1) := by decide +kernel
theorem dL_areNext_33 : decode cL_areNext 33 = .ok (.iconst 0, 1) := by decide +kernel
theorem dL_areNext_34 : decode cL_areNext 34 = .ok (.iconst 0, 1) := by decide +kernel
theorem dL_areNext_35 : decode cL_areNext 35 = .ok (.invokevirtual 46, 3) := by decide +kernel
theorem dL_areNext_38 : decode cL_areNext 38 = .ok (.iload_n 3, 1) := by decide +kernel
theorem dL_areNext_39 : decode cL_areNext 39 = .ok (.if_icmp .ne 37, 3) := by decide +kernel
theorem dL_areNext_42 : decode cL_areNext 42 = .ok (.aload_n 0, 1) := by decide +kernel
theorem dL_areNext_43 : decode cL_areNext 43 = .ok (.iconst 1, 1) := by decide +kernel
theorem dL_areNext_44 : decode cL_areNext 44 = .ok (.iconst 0, 1) := by decide +kernel
theorem dL_areNext_45 : decode cL_areNext 45 = .ok (.invokevirtual 46, 3) := by decide +kernel
theorem dL_areNext_48 : decode cL_areNext 48 = .ok (.iload_n 3, 1) := by decide +kernel
theorem dL_areNext_49 : decode cL_areNext 49 = .ok (.if_icmp .ne 27, 3) := by decide +kernel
theorem dL_areNext_52 : decode cL_areNext 52 = .ok (.aload_n 0, 1) := by decide +kernel
theorem dL_areNext_53 : decode cL_areNext 53 = .ok (.iconst 0, 1) := by decide +kernel
theorem dL_areNext_54 : decode cL_areNext 54 = .ok (.iconst 1, 1) := by decide +kernel
theorem dL_areNext_55 : decode cL_areNext 55 = .ok (.invokevirtual 46, 3) := by decide +kernel
theorem dL_areNext_58 : decode cL_areNext 58 = .ok (.iload_n 2, 1) := by decide +kernel
theorem dL_areNext_59 : decode cL_areNext 59 = .ok (.if_icmp .ne 17, 3) := by decide +kernel
theorem dL_areNext_62 : decode cL_areNext 62 = .ok (.aload_n 0, 1) := by decide +kernel
theorem dL_areNext_63 : decode cL_areNext 63 = .ok (.iconst 1, 1) := by decide +kernel
theorem dL_areNext_64 : decode cL_areNext 64 = .ok (.iconst 1, 1) := by decide +kernel
theorem dL_areNext_65 : decode cL_areNext 65 = .ok (.invokevirtual 46, 3) := by decide +kernel
theorem dL_areNext_68 : decode cL_areNext 68 = .ok (.iload_n 2, 1) := by decide +kernel
theorem dL_areNext_69 : decode cL_areNext 69 = .ok (.if_icmp .ne 7, 3) := by decide +kernel
theorem dL_areNext_72 : decode cL_areNext 72 = .ok (.iconst 1, 1) := by decide +kernel
theorem dL_areNext_73 : decode cL_areNext 73 = .ok (.goto 4, 3) := by decide +kernel
theorem dL_areNext_76 : decode cL_areNext 76 = .ok (.iconst 0, 1) := by decide +kernel
theorem dL_areNext_77 : decode cL_areNext 77 = .ok (.ireturn, 1) := by decide +kernel
set_option maxRecDepth 20000 in
theorem ggL_pass_X9_would_q1 : GoodIn wsL_pass ([.code yX9_would cX9_would 3 (some .int)] : List Cond) := goodIn_r _ [5] (by decide +kernel) (by decide +kernel)
set_option maxRecDepth 20000 in
theorem ggL_pass_X9_would_q2 : GoodIn wsL_pass wsX9_would_r1 := goodIn_r _ [6, 7, 8, 9, 10, 11, 12, 13, 14, 15, 16, 17, 18, 19, 20, 21, 22, 23, 24, 25, 26, 27, 28, 29] (by decide +kernel) (by decide +kernel)
set_option maxRecDepth 20000 in
theorem ggL_pass_X9_would_q3 : GoodIn wsL_pass wsX9_would_r2 := goodIn_r _ [30, 31, 32, 33, 34, 35, 36, 37, 38, 39, 40, 41, 42, 43, 44, 45, 46, 47, 48, 49, 50, 51, 52, 53] (by decide +kernel) (by decide +kernel)
set_option maxRecDepth 20000 in
theorem ggL_pass_X9_would_q4 : GoodIn wsL_pass wsX9_would_r3 := goodIn_r _ [54, 55, 56, 57, 58, 59, 60, 61, 62, 63, 64, 65, 66, 67, 68, 69, 70, 71, 72, 73, 74, 75, 76, 77] (by decide +kernel) (by decide +kernel)
set_option maxRecDepth 20000 in
theorem ggL_pass_X9_would_q5 : GoodIn wsL_pass wsX9_would_r4 := goodIn_r _ [78, 79, 80, 81, 82, 83, 84, 85, 86, 87, 88, 89, 90, 91, 92, 93, 94, 95, 96, 97, 98, 99, 100, 101] (by decide +kernel) (by decide +kernel)
set_option maxRecDepth 20000 in
theorem ggL_pass_X9_would_q6 : GoodIn wsL_pass wsX9_would_r5 := goodIn_r _ [102, 103, 104, 105, 106, 107, 108, 109, 110, 111, 112, 113, 114, 115, 116, 117, 118, 119, 120, 121, 122, 123, 124, 125] (by decide +kernel) (by decide +kernel)
set_option maxRecDepth 20000 in
theorem ggL_pass_X9_would_q7 : GoodIn wsL_pass wsX9_would_r6 := goodIn_r _ [126, 127, 128, 129, 130, 131, 132, 133, 134, 135, 136, 137, 138, 139, 140, 141, 142, 143, 144, 145, 146, 147, 148, 149] (by decide +kernel) (by decide +kernel)
set_option maxRecDepth 20000 in
theorem ggL_pass_X9_would_q8 : GoodIn wsL_pass wsX9_would_r7 := goodIn_r _ [150, 151, 152, 153, 154, 155, 156, 157, 158, 159, 160, 161, 162, 163, 164] (by decide +kernel) (by decide +kernel)
set_option maxRecDepth 20000 in
theorem ggL_pass_X9_would_q9 : GoodIn wsL_pass wsX90 := goodIn_r _ [277, 278, 279, 280] (by decide +kernel) (by decide +kernel)
set_option maxRecDepth 20000 in
theorem ggL_pass_X9_would_q10 : GoodIn wsL_pass wsX60 := goodIn_r _ [281, 282, 283] (by decide +kernel) (by decide +kernel)
set_option maxRecDepth 20000 in
theorem ggL_pass_X9_would_q11 : GoodIn wsL_pass wsX10 := goodIn_r _ [284] (by decide +kernel) (by decide +kernel)
set_option maxRecDepth 20000 in
theorem ggL_pass_X9_would_q12 : GoodIn wsL_pass wsX80 := goodIn_r _ [285, 286, 287, 288, 289, 290, 291, 292, 293, 294, 295, 296, 297] (by decide +kernel) (by decide +kernel)
set_option maxRecDepth 20000 in
theorem ggL_pass_X9_would_q13 : GoodIn wsL_pass wsX50 := goodIn_r _ [298, 299] (by decide +kernel) (by decide +kernel)
set_option maxRecDepth 20000 in
theorem ggL_pass_X9_would_q14 : GoodIn wsL_pass wsX30 := goodIn_r _ [300, 301, 302, 303, 304] (by decide +kernel) (by decide +kernel)
set_option maxRecDepth 20000 in
theorem ggL_pass_X9_would_q15 : GoodIn wsL_pass wsX00 := goodIn_r _ [305, 306] (by decide +kernel) (by decide +kernel)
theorem ggL_pass_X9_would : GoodIn wsL_pass wsX9_would := (zk_gcons ggL_pass_X9_would_q1 (goodIn_app (goodIn_app (goodIn_app (goodIn_app (goodIn_app (goodIn_app (goodIn_app (goodIn_app ggL_pass_X9_would_q2 (goodIn_app ggL_pass_X9_would_q3 (goodIn_app ggL_pass_X9_would_q4 (goodIn_app ggL_pass_X9_would_q5 (goodIn_app ggL_pass_X9_would_q6 (goodIn_app ggL_pass_X9_would_q7 ggL_pass_X9_would_q8)))))) ggL_pass_X9_would_q9) ggL_pass_X9_would_q10) ggL_pass_X9_would_q11) ggL_pass_X9_would_q12) ggL_pass_X9_would_q13) ggL_pass_X9_would_q14) ggL_pass_X9_would_q15))
set_option maxRecDepth 20000 in
theorem gL_pass_X9_would : GoodIn wsL_pass (wsV RL 49 RX9 yX9_would wsX9_would) := goodIn_app (goodIn_of _ (by decide +kernel)) ggL_pass_X9_would
set_option maxRecDepth 20000 in
theorem ggL_pass_X9_count_q1 : GoodIn wsL_pass ([.code yX9_count cX9_count 2 (some .int)] : List Cond) := goodIn_r _ [168] (by decide +kernel) (by decide +kernel)
set_option maxRecDepth 20000 in
theorem ggL_pass_X9_count_q2 : GoodIn wsL_pass wsX9_count_r1 := goodIn_r _ [7, 169, 170, 171, 172, 173, 174, 175, 176, 177, 178, 179, 180, 181, 182, 183, 184, 185, 186, 187, 188, 189, 190, 191] (by decide +kernel) (by decide +kernel)
set_option maxRecDepth 20000 in
theorem ggL_pass_X9_count_q3 : GoodIn wsL_pass wsX9_count_r2 := goodIn_r _ [21, 192, 26, 23, 30, 25, 31, 32, 33, 34, 35, 152, 153, 154, 39, 155, 46, 193, 157, 158, 159, 160, 100, 101] (by decide +kernel) (by decide +kernel)
set_option maxRecDepth 20000 in
theorem ggL_pass_X9_count_q4 : GoodIn wsL_pass wsX9_count_r3 := goodIn_r _ [102, 103, 104, 105, 106, 41, 194, 162, 163, 61, 164, 65, 195, 196, 197, 198, 27, 28, 29] (by decide +kernel) (by decide +kernel)
set_option maxRecDepth 20000 in
theorem ggL_pass_X9_count_q5 : GoodIn wsL_pass wsX90 := goodIn_r _ [277, 278, 279, 280] (by decide +kernel) (by decide +kernel)
set_option maxRecDepth 20000 in
theorem ggL_pass_X9_count_q6 : GoodIn wsL_pass wsX40 := goodIn_r _ [307, 308, 309, 310, 311, 312, 313, 314] (by decide +kernel) (by decide +kernel)
set_option maxRecDepth 20000 in
theorem ggL_pass_X9_count_q7 : GoodIn wsL_pass wsX60 := goodIn_r _ [281, 282, 283] (by decide +kernel) (by decide +kernel)
set_option maxRecDepth 20000 in
theorem ggL_pass_X9_count_q8 : GoodIn wsL_pass wsX20 := goodIn_r _ [315, 316, 317] (by decide +kernel) (by decide +kernel)
set_option maxRecDepth 20000 in
theorem ggL_pass_X9_count_q9 : GoodIn wsL_pass wsX70 := goodIn_r _ [318, 319, 320, 321, 322] (by decide +kernel) (by decide +kernel)
set_option maxRecDepth 20000 in
theorem ggL_pass_X9_count_q10 : GoodIn wsL_pass wsX80 := goodIn_r _ [285, 286, 287, 288, 289, 290, 291, 292, 293, 294, 295, 296, 297] (by decide +kernel) (by decide +kernel)
set_option maxRecDepth 20000 in
theorem ggL_pass_X9_count_q11 : GoodIn wsL_pass wsX50 := goodIn_r _ [298, 299] (by decide +kernel) (by decide +kernel)
set_option maxRecDepth 20000 in
theorem ggL_pass_X9_count_q12 : GoodIn wsL_pass wsX00 := goodIn_r _ [305, 306] (by decide +kernel) (by decide +kernel)
theorem ggL_pass_X9_count : GoodIn wsL_pass wsX9_count := (zk_gcons ggL_pass_X9_count_q1 (goodIn_app (goodIn_app (goodIn_app (goodIn_app (goodIn_app (goodIn_app (goodIn_app (goodIn_app (goodIn_app ggL_pass_X9_count_q2 (goodIn_app ggL_pass_X9_count_q3 ggL_pass_X9_count_q4)) ggL_pass_X9_count_q5) ggL_pass_X9_count_q6) ggL_pass_X9_count_q7) ggL_pass_X9_count_q8) ggL_pass_X9_count_q9) ggL_pass_X9_count_q10) ggL_pass_X9_count_q11) ggL_pass_X9_count_q12))
set_option maxRecDepth 20000 in
theorem gL_pass_X9_count : GoodIn wsL_pass (wsV RL 10 RX9 yX9_count wsX9_count) := goodIn_app (goodIn_of _ (by decide +kernel)) ggL_pass_X9_count
set_option maxRecDepth 20000 in
theorem ggL_pass_X9_promise_q1 : GoodIn wsL_pass ([.code yX9_promise cX9_promise 3 (some .int)] : List Cond) := goodIn_r _ [202] (by decide +kernel) (by decide +kernel)
set_option maxRecDepth 20000 in
theorem ggL_pass_X9_promise_q2 : GoodIn wsL_pass wsX9_promise_r1 := goodIn_r _ [7, 203, 204, 205, 39, 206, 46, 207, 208, 209, 21, 210, 24, 23, 211, 92, 93, 50, 94, 56, 115, 104, 105, 106] (by decide +kernel) (by decide +kernel)
set_option maxRecDepth 20000 in
theorem ggL_pass_X9_promise_q3 : GoodIn wsL_pass wsX9_promise_r2 := goodIn_r _ [41, 212, 213, 214, 215, 91, 216, 80, 81, 82, 55, 217, 84, 85, 86, 52, 95, 96, 97, 98, 57] (by decide +kernel) (by decide +kernel)
set_option maxRecDepth 20000 in
theorem ggL_pass_X9_promise_q4 : GoodIn wsL_pass wsX90 := goodIn_r _ [277, 278, 279, 280] (by decide +kernel) (by decide +kernel)
set_option maxRecDepth 20000 in
theorem ggL_pass_X9_promise_q5 : GoodIn wsL_pass wsX60 := goodIn_r _ [281, 282, 283] (by decide +kernel) (by decide +kernel)
set_option maxRecDepth 20000 in
theorem ggL_pass_X9_promise_q6 : GoodIn wsL_pass wsX80 := goodIn_r _ [285, 286, 287, 288, 289, 290, 291, 292, 293, 294, 295, 296, 297] (by decide +kernel) (by decide +kernel)
set_option maxRecDepth 20000 in
theorem ggL_pass_X9_promise_q7 : GoodIn wsL_pass wsX50 := goodIn_r _ [298, 299] (by decide +kernel) (by decide +kernel)
set_option maxRecDepth 20000 in
theorem ggL_pass_X9_promise_q8 : GoodIn wsL_pass wsX30 := goodIn_r _ [300, 301, 302, 303, 304] (by decide +kernel) (by decide +kernel)
theorem ggL_pass_X9_promise : GoodIn wsL_pass wsX9_promise := (zk_gcons ggL_pass_X9_promise_q1 (goodIn_app (goodIn_app (goodIn_app (goodIn_app (goodIn_app (goodIn_app ggL_pass_X9_promise_q2 ggL_pass_X9_promise_q3) ggL_pass_X9_promise_q4) ggL_pass_X9_promise_q5) ggL_pass_X9_promise_q6) ggL_pass_X9_promise_q7) ggL_pass_X9_promise_q8))
set_option maxRecDepth 20000 in
theorem gL_pass_X9_promise : GoodIn wsL_pass (wsV RL 26 RX9 yX9_promise wsX9_promise) := goodIn_app (goodIn_of _ (by decide +kernel)) ggL_pass_X9_promise
set_option maxRecDepth 20000 in
theorem ggL_pass_X9_when_q1 : GoodIn wsL_pass ([.code yX9_when cX9_when 3 (some .int)] : List Cond) := goodIn_r _ [221] (by decide +kernel) (by decide +kernel)
set_option maxRecDepth 20000 in
theorem ggL_pass_X9_when_q2 : GoodIn wsL_pass wsX9_when_r1 := goodIn_r _ [7, 6, 203, 204, 205, 39, 206, 46, 222, 223, 224, 225, 103, 104, 105, 106, 41, 226, 227, 228, 11, 229, 13, 18] (by decide +kernel) (by decide +kernel)
set_option maxRecDepth 20000 in
theorem ggL_pass_X9_when_q3 : GoodIn wsL_pass wsX9_when_r2 := goodIn_r _ [19, 20, 21, 22, 23, 24, 25, 26, 27, 28, 29, 30, 31, 32, 33, 34, 35, 36, 37, 38, 40, 42, 43, 44] (by decide +kernel) (by decide +kernel)
set_option maxRecDepth 20000 in
theorem ggL_pass_X9_when_q4 : GoodIn wsL_pass wsX9_when_r3 := goodIn_r _ [45, 47, 48, 49, 50, 51, 52, 53, 54, 55, 56, 57, 58, 59, 60, 61, 62, 63, 64, 65, 230, 66, 67, 68] (by decide +kernel) (by decide +kernel)
set_option maxRecDepth 20000 in
theorem ggL_pass_X9_when_q5 : GoodIn wsL_pass wsX9_when_r4 := goodIn_r _ [69, 70, 15, 16, 17, 71, 72, 73, 74, 75, 76, 77, 78, 79, 80, 81, 82, 83, 84, 85, 86, 87, 88, 89] (by decide +kernel) (by decide +kernel)
set_option maxRecDepth 20000 in
theorem ggL_pass_X9_when_q6 : GoodIn wsL_pass wsX9_when_r5 := goodIn_r _ [90, 91, 92, 93, 94, 95, 96, 97, 98, 99, 100, 101, 102, 107, 108, 109, 110, 111, 112, 113, 114, 115, 116, 117] (by decide +kernel) (by decide +kernel)
set_option maxRecDepth 20000 in
theorem ggL_pass_X9_when_q7 : GoodIn wsL_pass wsX9_when_r6 := goodIn_r _ [118, 119, 120, 121, 122, 123, 124, 125, 126, 127, 128, 129, 130, 131, 132, 133, 134, 135, 136, 137, 138, 139, 140, 141] (by decide +kernel) (by decide +kernel)
set_option maxRecDepth 20000 in
theorem ggL_pass_X9_when_q8 : GoodIn wsL_pass wsX9_when_r7 := goodIn_r _ [142, 143, 144, 145, 146, 147, 148, 149, 150, 151, 152, 153, 154, 155] (by decide +kernel) (by decide +kernel)
set_option maxRecDepth 20000 in
theorem ggL_pass_X9_when_q9 : GoodIn wsL_pass wsX90 := goodIn_r _ [277, 278, 279, 280] (by decide +kernel) (by decide +kernel)
set_option maxRecDepth 20000 in
theorem ggL_pass_X9_when_q10 : GoodIn wsL_pass wsX60 := goodIn_r _ [281, 282, 283] (by decide +kernel) (by decide +kernel)
set_option maxRecDepth 20000 in
theorem ggL_pass_X9_when_q11 : GoodIn wsL_pass wsX80 := goodIn_r _ [285, 286, 287, 288, 289, 290, 291, 292, 293, 294, 295, 296, 297] (by decide +kernel) (by decide +kernel)
set_option maxRecDepth 20000 in
theorem ggL_pass_X9_when_q12 : GoodIn wsL_pass wsX50 := goodIn_r _ [298, 299] (by decide +kernel) (by decide +kernel)
set_option maxRecDepth 20000 in
theorem ggL_pass_X9_when_q13 : GoodIn wsL_pass wsX10 := goodIn_r _ [284] (by decide +kernel) (by decide +kernel)
set_option maxRecDepth 20000 in
theorem ggL_pass_X9_when_q14 : GoodIn wsL_pass wsX30 := goodIn_r _ [300, 301, 302, 303, 304] (by decide +kernel) (by decide +kernel)
set_option maxRecDepth 20000 in
theorem ggL_pass_X9_when_q15 : GoodIn wsL_pass wsX00 := goodIn_r _ [305, 306] (by decide +kernel) (by decide +kernel)
theorem ggL_pass_X9_when : GoodIn wsL_pass wsX9_when := (zk_gcons ggL_pass_X9_when_q1 (goodIn_app (goodIn_app (goodIn_app (goodIn_app (goodIn_app (goodIn_app (goodIn_app (goodIn_app ggL_pass_X9_when_q2 (goodIn_app ggL_pass_X9_when_q3 (goodIn_app ggL_pass_X9_when_q4 (goodIn_app ggL_pass_X9_when_q5 (goodIn_app ggL_pass_X9_when_q6 (goodIn_app ggL_pass_X9_when_q7 ggL_pass_X9_when_q8)))))) ggL_pass_X9_when_q9) ggL_pass_X9_when_q10) ggL_pass_X9_when_q11) ggL_pass_X9_when_q12) ggL_pass_X9_when_q13) ggL_pass_X9_when_q14) ggL_pass_X9_when_q15))
set_option maxRecDepth 20000 in
theorem gL_pass_X9_when : GoodIn wsL_pass (wsV RL 52 RX9 yX9_when wsX9_when) := goodIn_app (goodIn_of _ (by decide +kernel)) ggL_pass_X9_when
set_option maxRecDepth 20000 in
theorem ggL_pass_X9_pass_q1 : GoodIn wsL_pass ([.code yX9_pass cX9_pass 2 (some .int)] : List Cond) := goodIn_r _ [234] (by decide +kernel) (by decide +kernel)
set_option maxRecDepth 20000 in
theorem ggL_pass_X9_pass_q2 : GoodIn wsL_pass wsX9_pass_r1 := goodIn_r _ [169, 7, 235, 236, 237, 180, 238, 239, 240, 241, 242, 243, 244, 245, 246, 247, 174, 248, 249, 176, 250, 251, 19, 20] (by decide +kernel) (by decide +kernel)
set_option maxRecDepth 20000 in
theorem ggL_pass_X9_pass_q3 : GoodIn wsL_pass wsX9_pass_r2 := goodIn_r _ [21, 22, 23, 24, 25, 26, 27, 28, 29, 30, 31, 32, 33, 34, 35, 36, 37, 38, 39, 40, 41, 42, 43, 44] (by decide +kernel) (by decide +kernel)
set_option maxRecDepth 20000 in
theorem ggL_pass_X9_pass_q4 : GoodIn wsL_pass wsX9_pass_r3 := goodIn_r _ [45, 46, 47, 48, 49, 50, 51, 52, 53, 54, 55, 56, 57, 58, 59, 60, 61, 62, 63, 64, 65, 252, 253, 254] (by decide +kernel) (by decide +kernel)
set_option maxRecDepth 20000 in
theorem ggL_pass_X9_pass_q5 : GoodIn wsL_pass wsX9_pass_r4 := goodIn_r _ [255, 194, 162, 163, 164, 256, 67, 68, 69, 70, 15, 16, 17, 71, 72, 73, 74, 75, 76, 77, 78, 79, 80, 81] (by decide +kernel) (by decide +kernel)
set_option maxRecDepth 20000 in
theorem ggL_pass_X9_pass_q6 : GoodIn wsL_pass wsX9_pass_r5 := goodIn_r _ [82, 83, 84, 85, 86, 87, 88, 89, 90, 91, 92, 93, 94, 95, 96, 97, 98, 99, 100, 101, 102, 103, 104, 105] (by decide +kernel) (by decide +kernel)
set_option maxRecDepth 20000 in
theorem ggL_pass_X9_pass_q7 : GoodIn wsL_pass wsX9_pass_r6 := goodIn_r _ [106, 107, 108, 109, 110, 111, 112, 113, 114, 115, 116, 117, 118, 119, 120, 121, 122, 123, 124, 125, 126, 127, 128, 129] (by decide +kernel) (by decide +kernel)
set_option maxRecDepth 20000 in
theorem ggL_pass_X9_pass_q8 : GoodIn wsL_pass wsX9_pass_r7 := goodIn_r _ [130, 131, 132, 133, 134, 135, 136, 137, 138, 139, 140, 141, 142, 143, 144, 145, 146, 147, 148, 149, 150, 151, 152, 153] (by decide +kernel) (by decide +kernel)
set_option maxRecDepth 20000 in
theorem ggL_pass_X9_pass_q9 : GoodIn wsL_pass wsX9_pass_r8 := goodIn_r _ [154, 155, 257, 258, 259, 4, 260, 261, 262, 263, 264, 182, 265, 266, 267] (by decide +kernel) (by decide +kernel)
set_option maxRecDepth 20000 in
theorem ggL_pass_X9_pass_q10 : GoodIn wsL_pass wsX90 := goodIn_r _ [277, 278, 279, 280] (by decide +kernel) (by decide +kernel)
set_option maxRecDepth 20000 in
theorem ggL_pass_X9_pass_q11 : GoodIn wsL_pass wsX60 := goodIn_r _ [281, 282, 283] (by decide +kernel) (by decide +kernel)
set_option maxRecDepth 20000 in
theorem ggL_pass_X9_pass_q12 : GoodIn wsL_pass wsX20 := goodIn_r _ [315, 316, 317] (by decide +kernel) (by decide +kernel)
set_option maxRecDepth 20000 in
theorem ggL_pass_X9_pass_q13 : GoodIn wsL_pass wsX80 := goodIn_r _ [285, 286, 287, 288, 289, 290, 291, 292, 293, 294, 295, 296, 297] (by decide +kernel) (by decide +kernel)
set_option maxRecDepth 20000 in
theorem ggL_pass_X9_pass_q14 : GoodIn wsL_pass wsX50 := goodIn_r _ [298, 299] (by decide +kernel) (by decide +kernel)
set_option maxRecDepth 20000 in
theorem ggL_pass_X9_pass_q15 : GoodIn wsL_pass wsX30 := goodIn_r _ [300, 301, 302, 303, 304] (by decide +kernel) (by decide +kernel)
set_option maxRecDepth 20000 in
theorem ggL_pass_X9_pass_q16 : GoodIn wsL_pass wsX00 := goodIn_r _ [305, 306] (by decide +kernel) (by decide +kernel)
theorem ggL_pass_X9_pass : GoodIn wsL_pass wsX9_pass := (zk_gcons ggL_pass_X9_pass_q1 (goodIn_app (goodIn_app (goodIn_app (goodIn_app (goodIn_app (goodIn_app (goodIn_app (goodIn_app ggL_pass_X9_pass_q2 (goodIn_app ggL_pass_X9_pass_q3 (goodIn_app ggL_pass_X9_pass_q4 (goodIn_app ggL_pass_X9_pass_q5 (goodIn_app ggL_pass_X9_pass_q6 (goodIn_app ggL_pass_X9_pass_q7 (goodIn_app ggL_pass_X9_pass_q8 ggL_pass_X9_pass_q9))))))) ggL_pass_X9_pass_q10) ggL_pass_X9_pass_q11) ggL_pass_X9_pass_q12) ggL_pass_X9_pass_q13) ggL_pass_X9_pass_q14) ggL_pass_X9_pass_q15) ggL_pass_X9_pass_q16))
set_option maxRecDepth 20000 in
theorem gL_pass_X9_pass : GoodIn wsL_pass (wsV RL 55 RX9 yX9_pass wsX9_pass) := goodIn_app (goodIn_of _ (by decide +kernel)) ggL_pass_X9_pass
set_option maxRecDepth 20000 in
theorem ggL_pass_X9_call : GoodIn wsL_pass wsX9_call := goodIn_r _ [271, 7, 272, 273, 274, 61, 275, 65, 276, 266, 16, 267, 63, 140, 141, 142, 143, 277, 278, 279, 280, 281, 282, 283, 285, 286, 287, 288, 289, 290, 291, 292, 293, 294, 295, 296, 297, 305, 306] (by decide +kernel) (by decide +kernel)
set_option maxRecDepth 20000 in
theorem gL_pass_X9_call : GoodIn wsL_pass (wsV RL 58 RX9 yX9_call wsX9_call) := goodIn_app (goodIn_of _ (by decide +kernel)) ggL_pass_X9_call
theorem dL_pass_0 : decode cL_pass 0 = .ok (.aload_n 0, 1) := by decide +kernel
theorem dL_pass_1 : decode cL_pass 1 = .ok (.iload_n 2, 1) := by decide +kernel
theorem dL_pass_2 : decode cL_pass 2 = .ok (.iconst 0, 1) := by decide +kernel
theorem dL_pass_3 : decode cL_pass 3 = .ok (.invokevirtual 49, 3) := by decide +kernel
theorem dL_pass_6 : decode cL_pass 6 = .ok (.istore 4, 2) := by decide +kernel
theorem dL_pass_8 : decode cL_pass 8 = .ok (.aload_n 0, 1) := by decide +kernel
theorem dL_pass_9 : decode cL_pass 9 = .ok (.iload_n 2, 1) := by decide +kernel
theorem dL_pass_10 : decode cL_pass 10 = .ok (.iconst 1, 1) := by decide +kernel
theorem dL_pass_11 : decode cL_pass 11 = .ok (.invokevirtual 49, 3) := by decide +kernel
theorem dL_pass_14 : decode cL_pass 14 = .ok (.istore 5, 2) := by decide +kernel
theorem dL_pass_16 : decode cL_pass 16 = .ok (.aload_n 0, 1) := by decide +kernel
theorem dL_pass_17 : decode cL_pass 17 = .ok (.iload_n 2, 1) := by decide +kernel
theorem dL_pass_18 : decode cL_pass 18 = .ok (.iconst 2, 1) := by decide +kernel
theorem dL_pass_19 : decode cL_pass 19 = .ok (.invokevirtual 49, 3) := by decide +kernel
theorem dL_pass_22 : decode cL_pass 22 = .ok (.istore 6, 2) := by decide +kernel
theorem dL_pass_24 : decode cL_pass 24 = .ok (.aload_n 0, 1) := by decide +kernel
theorem dL_pass_25 : decode cL_pass 25 = .ok (.iconst 1, 1) := by decide +kernel
theorem dL_pass_26 : decode cL_pass 26 = .ok (.invokevirtual 10, 3) := by decide +kernel
theorem dL_pass_29 : decode cL_pass 29 = .ok (.istore 7, 2) := by decide +kernel
theorem dL_pass_31 : decode cL_pass 31 = .ok (.iconst 0, 1) := by decide +kernel
theorem dL_pass_32 : decode cL_pass 32 = .ok (.istore 8, 2) := by decide +kernel
theorem dL_pass_34 : decode cL_pass 34 = .ok (.iload 8, 2) := by decide +kernel
theorem dL_pass_36 : decode cL_pass 36 = .ok (.iload 7, 2) := by decide +kernel
theorem dL_pass_38 : decode cL_pass 38 = .ok (.if_icmp .ge 59, 3) := by decide +kernel
theorem dL_pass_41 : decode cL_pass 41 = .ok (.aload_n 3, 1) := by decide +kernel
theorem dL_pass_42 : decode cL_pass 42 = .ok (.iload 8, 2) := by decide +kernel
theorem dL_pass_44 : decode cL_pass 44 = .ok (.aload_n 0, 1) := by decide +kernel
theorem dL_pass_45 : decode cL_pass 45 = .ok (.iload 8, 2) := by decide +kernel
theorem dL_pass_47 : decode cL_pass 47 = .ok (.iconst 0, 1) := by decide +kernel
theorem dL_pass_48 : decode cL_pass 48 = .ok (.invokevirtual 26, 3) := by decide +kernel
theorem dL_pass_51 : decode cL_pass 51 = .ok (.iconst 2, 1) := by decide +kernel
theorem dL_pass_52 : decode cL_pass 52 = .ok (.if_icmp .ge 12, 3) := by decide +kernel
theorem dL_pass_55 : decode cL_pass 55 = .ok (.aload_n 0, 1) := by decide +kernel
theorem dL_pass_56 : decode cL_pass 56 = .ok (.iload 8, 2) := by decide +kernel
theorem dL_pass_58 : decode cL_pass 58 = .ok (.invokevirtual 52, 3) := by decide +kernel
theorem dL_pass_61 : decode cL_pass 61 = .ok (.goto 5, 3) := by decide +kernel
theorem dL_pass_64 : decode cL_pass 64 = .ok (.bipush (-9), 2) := by decide +kernel
theorem dL_pass_66 : decode cL_pass 66 = .ok (.iastore, 1) := by decide +kernel
theorem dL_pass_67 : decode cL_pass 67 = .ok (.aload_n 0, 1) := by decide +kernel
theorem dL_pass_68 : decode cL_pass 68 = .ok (.iload 8, 2) := by decide +kernel
theorem dL_pass_70 : decode cL_pass 70 = .ok (.iconst 0, 1) := by decide +kernel
theorem dL_pass_71 : decode cL_pass 71 = .ok (.invokevirtual 26, 3) := by decide +kernel
theorem dL_pass_74 : decode cL_pass 74 = .ok (.iconst 2, 1) := by decide +kernel
theorem dL_pass_75 : decode cL_pass 75 = .ok (.if_icmp .lt 16, 3) := by decide +kernel
theorem dL_pass_78 : decode cL_pass 78 = .ok (.aload_n 0, 1) := by decide +kernel
theorem dL_pass_79 : decode cL_pass 79 = .ok (.iload 8, 2) := by decide +kernel
theorem dL_pass_81 : decode cL_pass 81 = .ok (.invokevirtual 52, 3) := by decide +kernel
theorem dL_pass_84 : decode cL_pass 84 = .ok (.bipush (-2), 2) := by decide +kernel
theorem dL_pass_86 : decode cL_pass 86 = .ok (.if_icmp .eq 5, 3) := by decide +kernel
theorem dL_pass_89 : decode cL_pass 89 = .ok (.iconst 0, 1) := by decide +kernel
theorem dL_pass_90 : decode cL_pass 90 = .ok (.ireturn, 1) := by decide +kernel
theorem dL_pass_91 : decode cL_pass 91 = .ok (.iinc 8 1, 3) := by decide +kernel
theorem dL_pass_94 : decode cL_pass 94 = .ok (.goto (-60), 3) := by decide +kernel
theorem dL_pass_97 : decode cL_pass 97 = .ok (.aload_n 0, 1) := by decide +kernel
theorem dL_pass_98 : decode cL_pass 98 = .ok (.bipush 6, 2) := by decide +kernel
theorem dL_pass_100 : decode cL_pass 100 = .ok (.invokevirtual 10, 3) := by decide +kernel
theorem dL_pass_103 : decode cL_pass 103 = .ok (.istore 8, 2) := by decide +kernel
theorem dL_pass_105 : decode cL_pass 105 = .ok (.iconst 0, 1) := by decide +kernel
theorem dL_pass_106 : decode cL_pass 106 = .ok (.istore 9, 2) := by decide +kernel
theorem dL_pass_108 : decode cL_pass 108 = .ok (.iconst 0, 1) := by decide +kernel
theorem dL_pass_109 : decode cL_pass 109 = .ok (.istore 10, 2) := by decide +kernel
theorem dL_pass_111 : decode cL_pass 111 = .ok (.iconst 0, 1) := by decide +kernel
theorem dL_pass_112 : decode cL_pass 112 = .ok (.istore 11, 2) := by decide +kernel
theorem dL_pass_114 : decode cL_pass 114 = .ok (.iload 11, 2) := by decide +kernel
theorem dL_pass_116 : decode cL_pass 116 = .ok (.iload_n 2, 1) := by decide +kernel
theorem dL_pass_117 : decode cL_pass 117 = .ok (.if_icmp .ge 194, 3) := by decide +kernel
theorem dL_pass_120 : decode cL_pass 120 = .ok (.aload_n 1, 1) := by decide +kernel
theorem dL_pass_121 : decode cL_pass 121 = .ok (.iconst 1, 1) := by decide +kernel
theorem dL_pass_122 : decode cL_pass 122 = .ok (.invokevirtual 55, 3) := by decide +kernel
theorem dL_pass_125 : decode cL_pass 125 = .ok (.istore 12, 2) := by decide +kernel
theorem dL_pass_127 : decode cL_pass 127 = .ok (.iload 12, 2) := by decide +kernel
theorem dL_pass_129 : decode cL_pass 129 = .ok (.ifCond .lt 28, 3) := by decide +kernel
theorem dL_pass_132 : decode cL_pass 132 = .ok (.iload 12, 2) := by decide +kernel
theorem dL_pass_134 : decode cL_pass 134 = .ok (.aload_n 1, 1) := by decide +kernel
theorem dL_pass_135 : decode cL_pass 135 = .ok (.bipush 14, 2) := by decide +kernel
theorem dL_pass_137 : decode cL_pass 137 = .ok (.invokevirtual 10, 3) := by decide +kernel
theorem dL_pass_140 : decode cL_pass 140 = .ok (.if_icmp .gt 17, 3) := by decide +kernel
theorem dL_pass_143 : decode cL_pass 143 = .ok (.aload_n 1, 1) := by decide +kernel
theorem dL_pass_144 : decode cL_pass 144 = .ok (.iconst 4, 1) := by decide +kernel
theorem dL_pass_145 : decode cL_pass 145 = .ok (.invokevirtual 10, 3) := by decide +kernel
theorem dL_pass_148 : decode cL_pass 148 = .ok (.aload_n 1, 1) := by decide +kernel
theorem dL_pass_149 : decode cL_pass 149 = .ok (.bipush 15, 2) := by decide +kernel
theorem dL_pass_151 : decode cL_pass 151 = .ok (.invokevirtual 10, 3) := by decide +kernel
theorem dL_pass_154 : decode cL_pass 154 = .ok (.if_icmp .le 5, 3) := by decide +kernel
theorem dL_pass_157 : decode cL_pass 157 = .ok (.iconst 0, 1) := by decide +kernel
theorem dL_pass_158 : decode cL_pass 158 = .ok (.ireturn, 1) := by decide +kernel
theorem dL_pass_159 : decode cL_pass 159 = .ok (.iconst 0, 1) := by decide +kernel
theorem dL_pass_160 : decode cL_pass 160 = .ok (.istore 13, 2) := by decide +kernel
theorem dL_pass_162 : decode cL_pass 162 = .ok (.iload 13, 2) := by decide +kernel
theorem dL_pass_164 : decode cL_pass 164 = .ok (.iload 12, 2) := by decide +kernel
theorem dL_pass_166 : decode cL_pass 166 = .ok (.if_icmp .ge 76, 3) := by decide +kernel
theorem dL_pass_169 : decode cL_pass 169 = .ok (.iload 13, 2) := by decide +kernel
theorem dL_pass_171 : decode cL_pass 171 = .ok (.bipush 12, 2) := by decide +kernel
theorem dL_pass_173 : decode cL_pass 173 = .ok (.if_icmp .ge 69, 3) := by decide +kernel
theorem dL_pass_176 : decode cL_pass 176 = .ok (.aload_n 1, 1) := by decide +kernel
theorem dL_pass_177 : decode cL_pass 177 = .ok (.iload 13, 2) := by decide +kernel
theorem dL_pass_179 : decode cL_pass 179 = .ok (.iconst 0, 1) := by decide +kernel
theorem dL_pass_180 : decode cL_pass 180 = .ok (.invokevirtual 58, 3) := by decide +kernel
theorem dL_pass_183 : decode cL_pass 183 = .ok (.istore 14, 2) := by decide +kernel
theorem dL_pass_185 : decode cL_pass 185 = .ok (.aload_n 1, 1) := by decide +kernel
theorem dL_pass_186 : decode cL_pass 186 = .ok (.iload 13, 2) := by decide +kernel
theorem dL_pass_188 : decode cL_pass 188 = .ok (.iconst 2, 1) := by decide +kernel
theorem dL_pass_189 : decode cL_pass 189 = .ok (.invokevirtual 58, 3) := by decide +kernel
theorem dL_pass_192 : decode cL_pass 192 = .ok (.aload_n 1, 1) := by decide +kernel
theorem dL_pass_193 : decode cL_pass 193 = .ok (.iconst 0, 1) := by decide +kernel
theorem dL_pass_194 : decode cL_pass 194 = .ok (.invokevirtual 10, 3) := by decide +kernel
theorem dL_pass_197 : decode cL_pass 197 = .ok (.if_icmp .ne 37, 3) := by decide +kernel
theorem dL_pass_200 : decode cL_pass 200 = .ok (.aload_n 1, 1) := by decide +kernel
theorem dL_pass_201 : decode cL_pass 201 = .ok (.iload 13, 2) := by decide +kernel
theorem dL_pass_203 : decode cL_pass 203 = .ok (.iconst 1, 1) := by decide +kernel
theorem dL_pass_204 : decode cL_pass 204 = .ok (.invokevirtual 58, 3) := by decide +kernel
theorem dL_pass_207 : decode cL_pass 207 = .ok (.aload_n 1, 1) := by decide +kernel
theorem dL_pass_208 : decode cL_pass 208 = .ok (.iconst 0, 1) := by decide +kernel
theorem dL_pass_209 : decode cL_pass 209 = .ok (.invokevirtual 10, 3) := by decide +kernel
theorem dL_pass_212 : decode cL_pass 212 = .ok (.if_icmp .gt 22, 3) := by decide +kernel
theorem dL_pass_215 : decode cL_pass 215 = .ok (.aload_n 3, 1) := by decide +kernel
theorem dL_pass_216 : decode cL_pass 216 = .ok (.iload 14, 2) := by decide +kernel
theorem dL_pass_218 : decode cL_pass 218 = .ok (.iaload, 1) := by decide +kernel
theorem dL_pass_219 : decode cL_pass 219 = .ok (.ifCond .lt 17, 3) := by decide +kernel
theorem dL_pass_222 : decode cL_pass 222 = .ok (.aload_n 3, 1) := by decide +kernel
theorem dL_pass_223 : decode cL_pass 223 = .ok (.iload 14, 2) := by decide +kernel
theorem dL_pass_225 : decode cL_pass 225 = .ok (.iaload, 1) := by decide +kernel
theorem dL_pass_226 : decode cL_pass 226 = .ok (.aload_n 1, 1) := by decide +kernel
theorem dL_pass_227 : decode cL_pass 227 = .ok (.iconst 0, 1) := by decide +kernel
theorem dL_pass_228 : decode cL_pass 228 = .ok (.invokevirtual 10, 3) := by decide +kernel
theorem dL_pass_231 : decode cL_pass 231 = .ok (.if_icmp .eq 5, 3) := by decide +kernel
theorem dL_pass_234 : decode cL_pass 234 = .ok (.iconst 0, 1) := by decide +kernel
theorem dL_pass_235 : decode cL_pass 235 = .ok (.ireturn, 1) := by decide +kernel
theorem dL_pass_236 : decode cL_pass 236 = .ok (.iinc 13 1, 3) := by decide +kernel
theorem dL_pass_239 : decode cL_pass 239 = .ok (.goto (-77), 3) := by decide +kernel
theorem dL_pass_242 : decode cL_pass 242 = .ok (.iconst 0, 1) := by decide +kernel
theorem dL_pass_243 : decode cL_pass 243 = .ok (.istore 13, 2) := by decide +kernel
theorem dL_pass_245 : decode cL_pass 245 = .ok (.iload 13, 2) := by decide +kernel
theorem dL_pass_247 : decode cL_pass 247 = .ok (.iload 12, 2) := by decide +kernel
theorem dL_pass_249 : decode cL_pass 249 = .ok (.if_icmp .ge 27, 3) := by decide +kernel
theorem dL_pass_252 : decode cL_pass 252 = .ok (.iload 13, 2) := by decide +kernel
theorem dL_pass_254 : decode cL_pass 254 = .ok (.bipush 12, 2) := by decide +kernel
theorem dL_pass_256 : decode cL_pass 256 = .ok (.if_icmp .ge 20, 3) := by decide +kernel
theorem dL_pass_259 : decode cL_pass 259 = .ok (.aload_n 3, 1) := by decide +kernel
theorem dL_pass_260 : decode cL_pass 260 = .ok (.aload_n 1, 1) := by decide +kernel
theorem dL_pass_261 : decode cL_pass 261 = .ok (.iload 13, 2) := by decide +kernel
theorem dL_pass_263 : decode cL_pass 263 = .ok (.iconst 0, 1) := by decide +kernel
theorem dL_pass_264 : decode cL_pass 264 = .ok (.invokevirtual 58, 3) := by decide +kernel
theorem dL_pass_267 : decode cL_pass 267 = .ok (.bipush (-9), 2) := by decide +kernel
theorem dL_pass_269 : decode cL_pass 269 = .ok (.iastore, 1) := by decide +kernel
theorem dL_pass_270 : decode cL_pass 270 = .ok (.iinc 13 1, 3) := by decide +kernel
theorem dL_pass_273 : decode cL_pass 273 = .ok (.goto (-28), 3) := by decide +kernel
theorem dL_pass_276 : decode cL_pass 276 = .ok (.iload 9, 2) := by decide +kernel
theorem dL_pass_278 : decode cL_pass 278 = .ok (.iload 12, 2) := by decide +kernel
theorem dL_pass_280 : decode cL_pass 280 = .ok (.iadd, 1) := by decide +kernel
theorem dL_pass_281 : decode cL_pass 281 = .ok (.istore 9, 2) := by decide +kernel
theorem dL_pass_283 : decode cL_pass 283 = .ok (.aload_n 1, 1) := by decide +kernel
theorem dL_pass_284 : decode cL_pass 284 = .ok (.iconst 3, 1) := by decide +kernel
theorem dL_pass_285 : decode cL_pass 285 = .ok (.invokevirtual 10, 3) := by decide +kernel
theorem dL_pass_288 : decode cL_pass 288 = .ok (.iload 10, 2) := by decide +kernel
theorem dL_pass_290 : decode cL_pass 290 = .ok (.if_icmp .le 11, 3) := by decide +kernel
theorem dL_pass_293 : decode cL_pass 293 = .ok (.aload_n 1, 1) := by decide +kernel
theorem dL_pass_294 : decode cL_pass 294 = .ok (.iconst 3, 1) := by decide +kernel
theorem dL_pass_295 : decode cL_pass 295 = .ok (.invokevirtual 10, 3) := by decide +kernel
theorem dL_pass_298 : decode cL_pass 298 = .ok (.goto 5, 3) := by decide +kernel
theorem dL_pass_301 : decode cL_pass 301 = .ok (.iload 10, 2) := by decide +kernel
theorem dL_pass_303 : decode cL_pass 303 = .ok (.istore 10, 2) := by decide +kernel
theorem dL_pass_305 : decode cL_pass 305 = .ok (.iinc 11 1, 3) := by decide +kernel
theorem dL_pass_308 : decode cL_pass 308 = .ok (.goto (-194), 3) := by decide +kernel
theorem dL_pass_311 : decode cL_pass 311 = .ok (.iconst 0, 1) := by decide +kernel
theorem dL_pass_312 : decode cL_pass 312 = .ok (.istore 11, 2) := by decide +kernel
theorem dL_pass_314 : decode cL_pass 314 = .ok (.iload 11, 2) := by decide +kernel
theorem dL_pass_316 : decode cL_pass 316 = .ok (.iload 7, 2) := by decide +kernel
theorem dL_pass_318 : decode cL_pass 318 = .ok (.if_icmp .ge 41, 3) := by decide +kernel
theorem dL_pass_321 : decode cL_pass 321 = .ok (.aload_n 3, 1) := by decide +kernel
theorem dL_pass_322 : decode cL_pass 322 = .ok (.iload 11, 2) := by decide +kernel
theorem dL_pass_324 : decode cL_pass 324 = .ok (.iaload, 1) := by decide +kernel
theorem dL_pass_325 : decode cL_pass 325 = .ok (.ifCond .lt 28, 3) := by decide +kernel
theorem dL_pass_328 : decode cL_pass 328 = .ok (.aload_n 3, 1) := by decide +kernel
theorem dL_pass_329 : decode cL_pass 329 = .ok (.iload 11, 2) := by decide +kernel
theorem dL_pass_331 : decode cL_pass 331 = .ok (.iaload, 1) := by decide +kernel
theorem dL_pass_332 : decode cL_pass 332 = .ok (.aload_n 1, 1) := by decide +kernel
theorem dL_pass_333 : decode cL_pass 333 = .ok (.iconst 0, 1) := by decide +kernel
theorem dL_pass_334 : decode cL_pass 334 = .ok (.invokevirtual 10, 3) := by decide +kernel
theorem dL_pass_337 : decode cL_pass 337 = .ok (.if_icmp .gt 16, 3) := by decide +kernel
theorem dL_pass_340 : decode cL_pass 340 = .ok (.aload_n 1, 1) := by decide +kernel
theorem dL_pass_341 : decode cL_pass 341 = .ok (.bipush 14, 2) := by decide +kernel
theorem dL_pass_343 : decode cL_pass 343 = .ok (.invokevirtual 10, 3) := by decide +kernel
theorem dL_pass_346 : decode cL_pass 346 = .ok (.bipush 12, 2) := by decide +kernel
theorem dL_pass_348 : decode cL_pass 348 = .ok (.if_icmp .gt 5, 3) := by decide +kernel
theorem dL_pass_351 : decode cL_pass 351 = .ok (.iconst 0, 1) := by decide +kernel
theorem dL_pass_352 : decode cL_pass 352 = .ok (.ireturn, 1) := by decide +kernel
theorem dL_pass_353 : decode cL_pass 353 = .ok (.iinc 11 1, 3) := by decide +kernel
theorem dL_pass_356 : decode cL_pass 356 = .ok (.goto (-42), 3) := by decide +kernel
theorem dL_pass_359 : decode cL_pass 359 = .ok (.iload 9, 2) := by decide +kernel
theorem dL_pass_361 : decode cL_pass 361 = .ok (.iload 4, 2) := by decide +kernel
theorem dL_pass_363 : decode cL_pass 363 = .ok (.if_icmp .ne 38, 3) := by decide +kernel
theorem dL_pass_366 : decode cL_pass 366 = .ok (.iload 10, 2) := by decide +kernel
theorem dL_pass_368 : decode cL_pass 368 = .ok (.iload 6, 2) := by decide +kernel
theorem dL_pass_370 : decode cL_pass 370 = .ok (.if_icmp .ne 31, 3) := by decide +kernel
theorem dL_pass_373 : decode cL_pass 373 = .ok (.aload_n 1, 1) := by decide +kernel
theorem dL_pass_374 : decode cL_pass 374 = .ok (.bipush 6, 2) := by decide +kernel
theorem dL_pass_376 : decode cL_pass 376 = .ok (.invokevirtual 10, 3) := by decide +kernel
theorem dL_pass_379 : decode cL_pass 379 = .ok (.iload 8, 2) := by decide +kernel
theorem dL_pass_381 : decode cL_pass 381 = .ok (.isub, 1) := by decide +kernel
theorem dL_pass_382 : decode cL_pass 382 = .ok (.iload 5, 2) := by decide +kernel
theorem dL_pass_384 : decode cL_pass 384 = .ok (.if_icmp .ne 17, 3) := by decide +kernel
theorem dL_pass_387 : decode cL_pass 387 = .ok (.aload_n 0, 1) := by decide +kernel
theorem dL_pass_388 : decode cL_pass 388 = .ok (.iload_n 2, 1) := by decide +kernel
theorem dL_pass_389 : decode cL_pass 389 = .ok (.invokevirtual 55, 3) := by decide +kernel
theorem dL_pass_392 : decode cL_pass 392 = .ok (.iload 4, 2) := by decide +kernel
theorem dL_pass_394 : decode cL_pass 394 = .ok (.if_icmp .ne 7, 3) := by decide +kernel
theorem dL_pass_397 : decode cL_pass 397 = .ok (.iconst 1, 1) := by decide +kernel
theorem dL_pass_398 : decode cL_pass 398 = .ok (.goto 4, 3) := by decide +kernel
theorem dL_pass_401 : decode cL_pass 401 = .ok (.iconst 0, 1) := by decide +kernel
theorem dL_pass_402 : decode cL_pass 402 = .ok (.ireturn, 1) := by decide +kernel
set_option maxRecDepth 20000 in
theorem ggL_areAlike_X9_count_q1 : GoodIn wsL_areAlike ([.code yX9_count cX9_count 2 (some .int)] : List Cond) := goodIn_r _ [5] (by decide +kernel) (by decide +kernel)
set_option maxRecDepth 20000 in
theorem ggL_areAlike_X9_count_q2 : GoodIn wsL_areAlike wsX9_count_r1 := goodIn_r _ [6, 7, 8, 9, 10, 11, 12, 13, 14, 15, 16, 17, 18, 19, 20, 21, 22, 23, 24, 25, 26, 27, 28, 29] (by decide +kernel) (by decide +kernel)
set_option maxRecDepth 20000 in
theorem ggL_areAlike_X9_count_q3 : GoodIn wsL_areAlike wsX9_count_r2 := goodIn_r _ [30, 31, 32, 33, 34, 35, 36, 37, 38, 39, 40, 41, 42, 43, 44, 45, 46, 47, 48, 49, 50, 51, 52, 53] (by decide +kernel) (by decide +kernel)
set_option maxRecDepth 20000 in
theorem ggL_areAlike_X9_count_q4 : GoodIn wsL_areAlike wsX9_count_r3 := goodIn_r _ [54, 55, 56, 57, 58, 59, 60, 61, 62, 63, 64, 65, 66, 67, 68, 69, 70, 71, 72] (by decide +kernel) (by decide +kernel)
set_option maxRecDepth 20000 in
theorem ggL_areAlike_X9_count_q5 : GoodIn wsL_areAlike wsX90 := goodIn_r _ [113, 114, 115, 116] (by decide +kernel) (by decide +kernel)
set_option maxRecDepth 20000 in
theorem ggL_areAlike_X9_count_q6 : GoodIn wsL_areAlike wsX40 := goodIn_r _ [117, 118, 119, 120, 121, 122, 123, 124] (by decide +kernel) (by decide +kernel)
set_option maxRecDepth 20000 in
theorem ggL_areAlike_X9_count_q7 : GoodIn wsL_areAlike wsX60 := goodIn_r _ [125, 126, 127] (by decide +kernel) (by decide +kernel)
set_option maxRecDepth 20000 in
theorem ggL_areAlike_X9_count_q8 : GoodIn wsL_areAlike wsX20 := goodIn_r _ [128, 129, 130] (by decide +kernel) (by decide +kernel)
set_option maxRecDepth 20000 in
theorem ggL_areAlike_X9_count_q9 : GoodIn wsL_areAlike wsX70 := goodIn_r _ [131, 132, 133, 134, 135] (by decide +kernel) (by decide +kernel)
set_option maxRecDepth 20000 in
theorem ggL_areAlike_X9_count_q10 : GoodIn wsL_areAlike wsX80 := goodIn_r _ [136, 137, 138, 139, 140, 141, 142, 143, 144, 145, 146, 147, 148] (by decide +kernel) (by decide +kernel)
set_option maxRecDepth 20000 in
theorem ggL_areAlike_X9_count_q11 : GoodIn wsL_areAlike wsX50 := goodIn_r _ [149, 150] (by decide +kernel) (by decide +kernel)
set_option maxRecDepth 20000 in
theorem ggL_areAlike_X9_count_q12 : GoodIn wsL_areAlike wsX00 := goodIn_r _ [151, 152] (by decide +kernel) (by decide +kernel)
theorem ggL_areAlike_X9_count : GoodIn wsL_areAlike wsX9_count := (zk_gcons ggL_areAlike_X9_count_q1 (goodIn_app (goodIn_app (goodIn_app (goodIn_app (goodIn_app (goodIn_app (goodIn_app (goodIn_app (goodIn_app ggL_areAlike_X9_count_q2 (goodIn_app ggL_areAlike_X9_count_q3 ggL_areAlike_X9_count_q4)) ggL_areAlike_X9_count_q5) ggL_areAlike_X9_count_q6) ggL_areAlike_X9_count_q7) ggL_areAlike_X9_count_q8) ggL_areAlike_X9_count_q9) ggL_areAlike_X9_count_q10) ggL_areAlike_X9_count_q11) ggL_areAlike_X9_count_q12))
set_option maxRecDepth 20000 in
theorem gL_areAlike_X9_count : GoodIn wsL_areAlike (wsV RL 10 RX9 yX9_count wsX9_count) := goodIn_app (goodIn_of _ (by decide +kernel)) ggL_areAlike_X9_count
set_option maxRecDepth 20000 in
theorem ggL_areAlike_X9_promise_q1 : GoodIn wsL_areAlike ([.code yX9_promise cX9_promise 3 (some .int)] : List Cond) := goodIn_r _ [76] (by decide +kernel) (by decide +kernel)
set_option maxRecDepth 20000 in
theorem ggL_areAlike_X9_promise_q2 : GoodIn wsL_areAlike wsX9_promise_r1 := goodIn_r _ [6, 77, 78, 79, 44, 80, 46, 81, 82, 83, 30, 84, 85, 33, 86, 87, 88, 89, 90, 91, 92, 56, 57, 58] (by decide +kernel) (by decide +kernel)
set_option maxRecDepth 20000 in
theorem ggL_areAlike_X9_promise_q3 : GoodIn wsL_areAlike wsX9_promise_r2 := goodIn_r _ [59, 93, 94, 95, 96, 97, 98, 99, 100, 101, 102, 103, 104, 105, 106, 107, 108, 109, 110, 111, 112] (by decide +kernel) (by decide +kernel)
set_option maxRecDepth 20000 in
theorem ggL_areAlike_X9_promise_q4 : GoodIn wsL_areAlike wsX90 := goodIn_r _ [113, 114, 115, 116] (by decide +kernel) (by decide +kernel)
set_option maxRecDepth 20000 in
theorem ggL_areAlike_X9_promise_q5 : GoodIn wsL_areAlike wsX60 := goodIn_r _ [125, 126, 127] (by decide +kernel) (by decide +kernel)
set_option maxRecDepth 20000 in
theorem ggL_areAlike_X9_promise_q6 : GoodIn wsL_areAlike wsX80 := goodIn_r _ [136, 137, 138, 139, 140, 141, 142, 143, 144, 145, 146, 147, 148] (by decide +kernel) (by decide +kernel)
set_option maxRecDepth 20000 in
theorem ggL_areAlike_X9_promise_q7 : GoodIn wsL_areAlike wsX50 := goodIn_r _ [149, 150] (by decide +kernel) (by decide +kernel)
set_option maxRecDepth 20000 in
theorem ggL_areAlike_X9_promise_q8 : GoodIn wsL_areAlike wsX30 := goodIn_r _ [153, 154, 155, 156, 157] (by decide +kernel) (by decide +kernel)
theorem ggL_areAlike_X9_promise : GoodIn wsL_areAlike wsX9_promise := (zk_gcons ggL_areAlike_X9_promise_q1 (goodIn_app (goodIn_app (goodIn_app (goodIn_app (goodIn_app (goodIn_app ggL_areAlike_X9_promise_q2 ggL_areAlike_X9_promise_q3) ggL_areAlike_X9_promise_q4) ggL_areAlike_X9_promise_q5) ggL_areAlike_X9_promise_q6) ggL_areAlike_X9_promise_q7) ggL_areAlike_X9_promise_q8))
set_option maxRecDepth 20000 in
theorem gL_areAlike_X9_promise : GoodIn wsL_areAlike (wsV RL 26 RX9 yX9_promise wsX9_promise) := goodIn_app (goodIn_of _ (by decide +kernel)) ggL_areAlike_X9_promise
theorem dL_areAlike_0 : decode cL_areAlike 0 = .ok (.iconst 0, 1) := by decide +kernel
theorem dL_areAlike_1 : decode cL_areAlike 1 = .ok (.istore_n 2, 1) := by decide +kernel
theorem dL_areAlike_2 : decode cL_areAlike 2 = .ok (.iload_n 2, 1) := by decide +kernel
theorem dL_areAlike_3 : decode cL_areAlike 3 = .ok (.bipush 11, 2) := by decide +kernel
theorem dL_areAlike_5 : decode cL_areAlike 5 = .ok (.if_icmp .ge 24, 3) := by decide +kernel
theorem dL_areAlike_8 : decode cL_areAlike 8 = .ok (.aload_n 0, 1) := by decide +kernel
theorem dL_areAlike_9 : decode cL_areAlike 9 = .ok (.iload_n 2, 1) := by decide +kernel
theorem dL_areAlike_10 : decode cL_areAlike 10 = .ok (.invokevirtual 10, 3) := by decide +kernel
theorem dL_areAlike_13 : decode cL_areAlike 13 = .ok (.aload_n 1, 1) := by decide +kernel
theorem dL_areAlike_14 : decode cL_areAlike 14 = .ok (.iload_n 2, 1) := by decide +kernel
theorem dL_areAlike_15 : decode cL_areAlike 15 = .ok (.invokevirtual 10, 3) := by decide +kernel
theorem dL_areAlike_18 : decode cL_areAlike 18 = .ok (.if_icmp .eq 5, 3) := by decide +kernel
theorem dL_areAlike_21 : decode cL_areAlike 21 = .ok (.iconst 0, 1) := by decide +kernel
theorem dL_areAlike_22 : decode cL_areAlike 22 = .ok (.ireturn, 1) := by decide +kernel
theorem dL_areAlike_23 : decode cL_areAlike 23 = .ok (.iinc 2 1, 3) := by decide +kernel
theorem dL_areAlike_26 : decode cL_areAlike 26 = .ok (.goto (-24), 3) := by decide +kernel
theorem dL_areAlike_29 : decode cL_areAlike 29 = .ok (.iconst 0, 1) := by decide +kernel
theorem dL_areAlike_30 : decode cL_areAlike 30 = .ok (.istore_n 2, 1) := by decide +kernel
theorem dL_areAlike_31 : decode cL_areAlike 31 = .ok (.iload_n 2, 1) := by decide +kernel
theorem dL_areAlike_32 : decode cL_areAlike 32 = .ok (.aload_n 0, 1) := by decide +kernel
theorem dL_areAlike_33 : decode cL_areAlike 33 = .ok (.iconst 1, 1) := by decide +kernel
theorem dL_areAlike_34 : decode cL_areAlike 34 = .ok (.invokevirtual 10, 3) := by decide +kernel
theorem dL_areAlike_37 : decode cL_areAlike 37 = .ok (.if_icmp .ge 40, 3) := by decide +kernel
theorem dL_areAlike_40 : decode cL_areAlike 40 = .ok (.iconst 0, 1) := by decide +kernel
theorem dL_areAlike_41 : decode cL_areAlike 41 = .ok (.istore_n 3, 1) := by decide +kernel
theorem dL_areAlike_42 : decode cL_areAlike 42 = .ok (.iload_n 3, 1) := by decide +kernel
theorem dL_areAlike_43 : decode cL_areAlike 43 = .ok (.bipush 9, 2) := by decide +kernel
theorem dL_areAlike_45 : decode cL_areAlike 45 = .ok (.if_icmp .ge 26, 3) := by decide +kernel
theorem dL_areAlike_48 : decode cL_areAlike 48 = .ok (.aload_n 0, 1) := by decide +kernel
theorem dL_areAlike_49 : decode cL_areAlike 49 = .ok (.iload_n 2, 1) := by decide +kernel
theorem dL_areAlike_50 : decode cL_areAlike 50 = .ok (.iload_n 3, 1) := by decide +kernel
theorem dL_areAlike_51 : decode cL_areAlike 51 = .ok (.invokevirtual 26, 3) := by decide +kernel
theorem dL_areAlike_54 : decode cL_areAlike 54 = .ok (.aload_n 1, 1) := by decide +kernel
theorem dL_areAlike_55 : decode cL_areAlike 55 = .ok (.iload_n 2, 1) := by decide +kernel
theorem dL_areAlike_56 : decode cL_areAlike 56 = .ok (.iload_n 3, 1) := by decide +kernel
theorem dL_areAlike_57 : decode cL_areAlike 57 = .ok (.invokevirtual 26, 3) := by decide +kernel
theorem dL_areAlike_60 : decode cL_areAlike 60 = .ok (.if_icmp .eq 5, 3) := by decide +kernel
theorem dL_areAlike_63 : decode cL_areAlike 63 = .ok (.iconst 0, 1) := by decide +kernel
theorem dL_areAlike_64 : decode cL_areAlike 64 = .ok (.ireturn, 1) := by decide +kernel
theorem dL_areAlike_65 : decode cL_areAlike 65 = .ok (.iinc 3 1, 3) := by decide +kernel
theorem dL_areAlike_68 : decode cL_areAlike 68 = .ok (.goto (-26), 3) := by decide +kernel
theorem dL_areAlike_71 : decode cL_areAlike 71 = .ok (.iinc 2 1, 3) := by decide +kernel
theorem dL_areAlike_74 : decode cL_areAlike 74 = .ok (.goto (-43), 3) := by decide +kernel
theorem dL_areAlike_77 : decode cL_areAlike 77 = .ok (.iconst 1, 1) := by decide +kernel
theorem dL_areAlike_78 : decode cL_areAlike 78 = .ok (.ireturn, 1) := by decide +kernel
set_option maxRecDepth 20000 in
theorem ggL_leastRoom_X9_leastRoom_q1 : GoodIn wsL_leastRoom ([.code yX9_leastRoom cX9_leastRoom 2 (some .int)] : List Cond) := goodIn_r _ [5] (by decide +kernel) (by decide +kernel)
set_option maxRecDepth 20000 in
theorem ggL_leastRoom_X9_leastRoom_q2 : GoodIn wsL_leastRoom wsX9_leastRoom_r1 := goodIn_r _ [6, 7, 8, 9, 10, 11, 12, 13, 14, 15, 16, 17, 18, 19, 20, 21, 22, 23, 24, 25, 26, 27, 28, 29] (by decide +kernel) (by decide +kernel)
set_option maxRecDepth 20000 in
theorem ggL_leastRoom_X9_leastRoom_q3 : GoodIn wsL_leastRoom wsX9_leastRoom_r2 := goodIn_r _ [30, 31, 32, 33, 34, 35, 36, 37, 38, 39, 40, 41, 42, 43, 44, 45, 46, 47, 48, 49, 50, 51, 52, 53] (by decide +kernel) (by decide +kernel)
set_option maxRecDepth 20000 in
theorem ggL_leastRoom_X9_leastRoom_q4 : GoodIn wsL_leastRoom wsX9_leastRoom_r3 := goodIn_r _ [54, 55, 56, 57, 58, 59, 60, 61, 62, 63, 64, 65, 66, 67, 68, 69, 70, 71, 72, 73, 74, 75, 76, 77] (by decide +kernel) (by decide +kernel)
set_option maxRecDepth 20000 in
theorem ggL_leastRoom_X9_leastRoom_q5 : GoodIn wsL_leastRoom wsX9_leastRoom_r4 := goodIn_r _ [78, 79, 80, 81, 82, 83, 84, 85, 86, 87, 88, 89, 90, 91, 92, 93, 94, 95, 96, 97, 98, 99, 100, 101] (by decide +kernel) (by decide +kernel)
set_option maxRecDepth 20000 in
theorem ggL_leastRoom_X9_leastRoom_q6 : GoodIn wsL_leastRoom wsX9_leastRoom_r5 := goodIn_r _ [102, 103, 104, 105, 106, 107, 108, 109, 110, 111, 112, 113, 114, 115, 116, 117, 118, 119, 120, 121, 122, 123, 124, 125] (by decide +kernel) (by decide +kernel)
set_option maxRecDepth 20000 in
theorem ggL_leastRoom_X9_leastRoom_q7 : GoodIn wsL_leastRoom wsX9_leastRoom_r6 := goodIn_r _ [126, 127, 128, 129, 130, 131, 132, 133, 134, 135, 136, 137, 138, 139, 140, 141, 142, 143, 144, 145, 146, 147, 148, 149] (by decide +kernel) (by decide +kernel)
set_option maxRecDepth 20000 in
theorem ggL_leastRoom_X9_leastRoom_q8 : GoodIn wsL_leastRoom wsX9_leastRoom_r7 := goodIn_r _ [150, 151, 152, 153, 154, 155, 156, 157, 158] (by decide +kernel) (by decide +kernel)
set_option maxRecDepth 20000 in
theorem ggL_leastRoom_X9_leastRoom_q9 : GoodIn wsL_leastRoom wsX90 := goodIn_r _ [259, 260, 261, 262] (by decide +kernel) (by decide +kernel)
set_option maxRecDepth 20000 in
theorem ggL_leastRoom_X9_leastRoom_q10 : GoodIn wsL_leastRoom wsX60 := goodIn_r _ [263, 264, 265] (by decide +kernel) (by decide +kernel)
set_option maxRecDepth 20000 in
theorem ggL_leastRoom_X9_leastRoom_q11 : GoodIn wsL_leastRoom wsX10 := goodIn_r _ [266] (by decide +kernel) (by decide +kernel)
set_option maxRecDepth 20000 in
theorem ggL_leastRoom_X9_leastRoom_q12 : GoodIn wsL_leastRoom wsX80 := goodIn_r _ [267, 268, 269, 270, 271, 272, 273, 274, 275, 276, 277, 278, 279] (by decide +kernel) (by decide +kernel)
set_option maxRecDepth 20000 in
theorem ggL_leastRoom_X9_leastRoom_q13 : GoodIn wsL_leastRoom wsX50 := goodIn_r _ [280, 281] (by decide +kernel) (by decide +kernel)
set_option maxRecDepth 20000 in
theorem ggL_leastRoom_X9_leastRoom_q14 : GoodIn wsL_leastRoom wsX30 := goodIn_r _ [282, 283, 284, 285, 286] (by decide +kernel) (by decide +kernel)
set_option maxRecDepth 20000 in
theorem ggL_leastRoom_X9_leastRoom_q15 : GoodIn wsL_leastRoom wsX00 := goodIn_r _ [287, 288] (by decide +kernel) (by decide +kernel)
theorem ggL_leastRoom_X9_leastRoom : GoodIn wsL_leastRoom wsX9_leastRoom := (zk_gcons ggL_leastRoom_X9_leastRoom_q1 (goodIn_app (goodIn_app (goodIn_app (goodIn_app (goodIn_app (goodIn_app (goodIn_app (goodIn_app ggL_leastRoom_X9_leastRoom_q2 (goodIn_app ggL_leastRoom_X9_leastRoom_q3 (goodIn_app ggL_leastRoom_X9_leastRoom_q4 (goodIn_app ggL_leastRoom_X9_leastRoom_q5 (goodIn_app ggL_leastRoom_X9_leastRoom_q6 (goodIn_app ggL_leastRoom_X9_leastRoom_q7 ggL_leastRoom_X9_leastRoom_q8)))))) ggL_leastRoom_X9_leastRoom_q9) ggL_leastRoom_X9_leastRoom_q10) ggL_leastRoom_X9_leastRoom_q11) ggL_leastRoom_X9_leastRoom_q12) ggL_leastRoom_X9_leastRoom_q13) ggL_leastRoom_X9_leastRoom_q14) ggL_leastRoom_X9_leastRoom_q15))
set_option maxRecDepth 20000 in
theorem gL_leastRoom_X9_leastRoom : GoodIn wsL_leastRoom (wsV RL 61 RX9 yX9_leastRoom wsX9_leastRoom) := goodIn_app (goodIn_of _ (by decide +kernel)) ggL_leastRoom_X9_leastRoom
set_option maxRecDepth 20000 in
theorem ggL_leastRoom_X9_count_q1 : GoodIn wsL_leastRoom ([.code yX9_count cX9_count 2 (some .int)] : List Cond) := goodIn_r _ [162] (by decide +kernel) (by decide +kernel)
set_option maxRecDepth 20000 in
theorem ggL_leastRoom_X9_count_q2 : GoodIn wsL_leastRoom wsX9_count_r1 := goodIn_r _ [7, 163, 164, 165, 166, 167, 168, 169, 170, 171, 172, 173, 174, 175, 176, 177, 178, 179, 180, 181, 182, 183, 184, 185] (by decide +kernel) (by decide +kernel)
set_option maxRecDepth 20000 in
theorem ggL_leastRoom_X9_count_q3 : GoodIn wsL_leastRoom wsX9_count_r2 := goodIn_r _ [17, 186, 22, 19, 26, 21, 27, 28, 29, 30, 31, 155, 156, 157, 35, 158, 42, 187, 188, 189, 190, 191, 103, 104] (by decide +kernel) (by decide +kernel)
set_option maxRecDepth 20000 in
theorem ggL_leastRoom_X9_count_q4 : GoodIn wsL_leastRoom wsX9_count_r3 := goodIn_r _ [105, 106, 107, 108, 109, 37, 192, 193, 194, 57, 195, 61, 196, 197, 198, 199, 23, 24, 25] (by decide +kernel) (by decide +kernel)
set_option maxRecDepth 20000 in
theorem ggL_leastRoom_X9_count_q5 : GoodIn wsL_leastRoom wsX90 := goodIn_r _ [259, 260, 261, 262] (by decide +kernel) (by decide +kernel)
set_option maxRecDepth 20000 in
theorem ggL_leastRoom_X9_count_q6 : GoodIn wsL_leastRoom wsX40 := goodIn_r _ [289, 290, 291, 292, 293, 294, 295, 296] (by decide +kernel) (by decide +kernel)
set_option maxRecDepth 20000 in
theorem ggL_leastRoom_X9_count_q7 : GoodIn wsL_leastRoom wsX60 := goodIn_r _ [263, 264, 265] (by decide +kernel) (by decide +kernel)
set_option maxRecDepth 20000 in
theorem ggL_leastRoom_X9_count_q8 : GoodIn wsL_leastRoom wsX20 := goodIn_r _ [297, 298, 299] (by decide +kernel) (by decide +kernel)
set_option maxRecDepth 20000 in
theorem ggL_leastRoom_X9_count_q9 : GoodIn wsL_leastRoom wsX70 := goodIn_r _ [300, 301, 302, 303, 304] (by decide +kernel) (by decide +kernel)
set_option maxRecDepth 20000 in
theorem ggL_leastRoom_X9_count_q10 : GoodIn wsL_leastRoom wsX80 := goodIn_r _ [267, 268, 269, 270, 271, 272, 273, 274, 275, 276, 277, 278, 279] (by decide +kernel) (by decide +kernel)
set_option maxRecDepth 20000 in
theorem ggL_leastRoom_X9_count_q11 : GoodIn wsL_leastRoom wsX50 := goodIn_r _ [280, 281] (by decide +kernel) (by decide +kernel)
set_option maxRecDepth 20000 in
theorem ggL_leastRoom_X9_count_q12 : GoodIn wsL_leastRoom wsX00 := goodIn_r _ [287, 288] (by decide +kernel) (by decide +kernel)
theorem ggL_leastRoom_X9_count : GoodIn wsL_leastRoom wsX9_count := (zk_gcons ggL_leastRoom_X9_count_q1 (goodIn_app (goodIn_app (goodIn_app (goodIn_app (goodIn_app (goodIn_app (goodIn_app (goodIn_app (goodIn_app ggL_leastRoom_X9_count_q2 (goodIn_app ggL_leastRoom_X9_count_q3 ggL_leastRoom_X9_count_q4)) ggL_leastRoom_X9_count_q5) ggL_leastRoom_X9_count_q6) ggL_leastRoom_X9_count_q7) ggL_leastRoom_X9_count_q8) ggL_leastRoom_X9_count_q9) ggL_leastRoom_X9_count_q10) ggL_leastRoom_X9_count_q11) ggL_leastRoom_X9_count_q12))
set_option maxRecDepth 20000 in
theorem gL_leastRoom_X9_count : GoodIn wsL_leastRoom (wsV RL 10 RX9 yX9_count wsX9_count) := goodIn_app (goodIn_of _ (by decide +kernel)) ggL_leastRoom_X9_count
set_option maxRecDepth 20000 in
theorem ggL_leastRoom_X9_set_q1 : GoodIn wsL_leastRoom ([.code yX9_set cX9_set 3 (some .int)] : List Cond) := goodIn_r _ [203] (by decide +kernel) (by decide +kernel)
set_option maxRecDepth 20000 in
theorem ggL_leastRoom_X9_set_q2 : GoodIn wsL_leastRoom wsX9_set_r1 := goodIn_r _ [163, 7, 204, 205, 206, 174, 207, 208, 209, 210, 211, 212, 213, 214, 215, 216, 168, 217, 218, 170, 219, 220, 15, 16] (by decide +kernel) (by decide +kernel)
set_option maxRecDepth 20000 in
theorem ggL_leastRoom_X9_set_q3 : GoodIn wsL_leastRoom wsX9_set_r2 := goodIn_r _ [17, 18, 19, 20, 21, 22, 23, 24, 25, 26, 27, 28, 29, 30, 31, 32, 33, 34, 35, 36, 37, 38, 39, 40] (by decide +kernel) (by decide +kernel)
set_option maxRecDepth 20000 in
theorem ggL_leastRoom_X9_set_q4 : GoodIn wsL_leastRoom wsX9_set_r3 := goodIn_r _ [41, 42, 43, 44, 45, 46, 47, 48, 49, 50, 51, 52, 53, 54, 55, 56, 57, 58, 59, 60, 61, 221, 222, 223] (by decide +kernel) (by decide +kernel)
set_option maxRecDepth 20000 in
theorem ggL_leastRoom_X9_set_q5 : GoodIn wsL_leastRoom wsX9_set_r4 := goodIn_r _ [224, 196, 197, 198, 199, 225, 226, 227, 4, 228, 229, 230, 231, 232, 176, 233, 234, 72, 235] (by decide +kernel) (by decide +kernel)
set_option maxRecDepth 20000 in
theorem ggL_leastRoom_X9_set_q6 : GoodIn wsL_leastRoom wsX90 := goodIn_r _ [259, 260, 261, 262] (by decide +kernel) (by decide +kernel)
set_option maxRecDepth 20000 in
theorem ggL_leastRoom_X9_set_q7 : GoodIn wsL_leastRoom wsX60 := goodIn_r _ [263, 264, 265] (by decide +kernel) (by decide +kernel)
set_option maxRecDepth 20000 in
theorem ggL_leastRoom_X9_set_q8 : GoodIn wsL_leastRoom wsX20 := goodIn_r _ [297, 298, 299] (by decide +kernel) (by decide +kernel)
set_option maxRecDepth 20000 in
theorem ggL_leastRoom_X9_set_q9 : GoodIn wsL_leastRoom wsX80 := goodIn_r _ [267, 268, 269, 270, 271, 272, 273, 274, 275, 276, 277, 278, 279] (by decide +kernel) (by decide +kernel)
set_option maxRecDepth 20000 in
theorem ggL_leastRoom_X9_set_q10 : GoodIn wsL_leastRoom wsX50 := goodIn_r _ [280, 281] (by decide +kernel) (by decide +kernel)
set_option maxRecDepth 20000 in
theorem ggL_leastRoom_X9_set_q11 : GoodIn wsL_leastRoom wsX30 := goodIn_r _ [282, 283, 284, 285, 286] (by decide +kernel) (by decide +kernel)
set_option maxRecDepth 20000 in
theorem ggL_leastRoom_X9_set_q12 : GoodIn wsL_leastRoom wsX00 := goodIn_r _ [287, 288] (by decide +kernel) (by decide +kernel)
theorem ggL_leastRoom_X9_set : GoodIn wsL_leastRoom wsX9_set := (zk_gcons ggL_leastRoom_X9_set_q1 (goodIn_app (goodIn_app (goodIn_app (goodIn_app (goodIn_app (goodIn_app (goodIn_app (goodIn_app ggL_leastRoom_X9_set_q2 (goodIn_app ggL_leastRoom_X9_set_q3 (goodIn_app ggL_leastRoom_X9_set_q4 ggL_leastRoom_X9_set_q5))) ggL_leastRoom_X9_set_q6) ggL_leastRoom_X9_set_q7) ggL_leastRoom_X9_set_q8) ggL_leastRoom_X9_set_q9) ggL_leastRoom_X9_set_q10) ggL_leastRoom_X9_set_q11) ggL_leastRoom_X9_set_q12))
set_option maxRecDepth 20000 in
theorem gL_leastRoom_X9_set : GoodIn wsL_leastRoom (wsV RL 35 RX9 yX9_set wsX9_set) := goodIn_app (goodIn_of _ (by decide +kernel)) ggL_leastRoom_X9_set
set_option maxRecDepth 20000 in
theorem ggL_leastRoom_X9_would_q1 : GoodIn wsL_leastRoom ([.code yX9_would cX9_would 3 (some .int)] : List Cond) := goodIn_r _ [239] (by decide +kernel) (by decide +kernel)
set_option maxRecDepth 20000 in
theorem ggL_leastRoom_X9_would_q2 : GoodIn wsL_leastRoom wsX9_would_r1 := goodIn_r _ [6, 7, 240, 241, 242, 11, 243, 13, 244, 71, 72, 73, 14, 15, 16, 17, 18, 19, 20, 21, 22, 23, 24, 25] (by decide +kernel) (by decide +kernel)
set_option maxRecDepth 20000 in
theorem ggL_leastRoom_X9_would_q3 : GoodIn wsL_leastRoom wsX9_would_r2 := goodIn_r _ [26, 27, 28, 29, 30, 31, 32, 33, 34, 35, 36, 37, 38, 39, 40, 41, 42, 43, 44, 45, 46, 47, 48, 49] (by decide +kernel) (by decide +kernel)
set_option maxRecDepth 20000 in
theorem ggL_leastRoom_X9_would_q4 : GoodIn wsL_leastRoom wsX9_would_r3 := goodIn_r _ [50, 51, 52, 53, 54, 55, 56, 57, 58, 59, 60, 61, 66, 67, 68, 69, 70, 74, 75, 76, 77, 78, 79, 80] (by decide +kernel) (by decide +kernel)
set_option maxRecDepth 20000 in
theorem ggL_leastRoom_X9_would_q5 : GoodIn wsL_leastRoom wsX9_would_r4 := goodIn_r _ [81, 82, 83, 84, 85, 86, 87, 88, 89, 90, 91, 92, 93, 94, 95, 96, 97, 98, 99, 100, 101, 102, 103, 104] (by decide +kernel) (by decide +kernel)
set_option maxRecDepth 20000 in
theorem ggL_leastRoom_X9_would_q6 : GoodIn wsL_leastRoom wsX9_would_r5 := goodIn_r _ [105, 106, 107, 108, 109, 110, 111, 112, 113, 114, 115, 116, 117, 118, 119, 120, 121, 122, 123, 124, 125, 126, 127, 128] (by decide +kernel) (by decide +kernel)
set_option maxRecDepth 20000 in
theorem ggL_leastRoom_X9_would_q7 : GoodIn wsL_leastRoom wsX9_would_r6 := goodIn_r _ [129, 130, 131, 132, 133, 134, 135, 136, 137, 138, 139, 140, 141, 142, 143, 144, 145, 146, 147, 148, 149, 150, 151, 152] (by decide +kernel) (by decide +kernel)
set_option maxRecDepth 20000 in
theorem ggL_leastRoom_X9_would_q8 : GoodIn wsL_leastRoom wsX9_would_r7 := goodIn_r _ [153, 154, 155, 156, 157, 158, 245, 188, 189, 190, 191, 246, 193, 194, 195] (by decide +kernel) (by decide +kernel)
set_option maxRecDepth 20000 in
theorem ggL_leastRoom_X9_would_q9 : GoodIn wsL_leastRoom wsX90 := goodIn_r _ [259, 260, 261, 262] (by decide +kernel) (by decide +kernel)
set_option maxRecDepth 20000 in
theorem ggL_leastRoom_X9_would_q10 : GoodIn wsL_leastRoom wsX60 := goodIn_r _ [263, 264, 265] (by decide +kernel) (by decide +kernel)
set_option maxRecDepth 20000 in
theorem ggL_leastRoom_X9_would_q11 : GoodIn wsL_leastRoom wsX10 := goodIn_r _ [266] (by decide +kernel) (by decide +kernel)
set_option maxRecDepth 20000 in
theorem ggL_leastRoom_X9_would_q12 : GoodIn wsL_leastRoom wsX80 := goodIn_r _ [267, 268, 269, 270, 271, 272, 273, 274, 275, 276, 277, 278, 279] (by decide +kernel) (by decide +kernel)
set_option maxRecDepth 20000 in
theorem ggL_leastRoom_X9_would_q13 : GoodIn wsL_leastRoom wsX50 := goodIn_r _ [280, 281] (by decide +kernel) (by decide +kernel)
set_option maxRecDepth 20000 in
theorem ggL_leastRoom_X9_would_q14 : GoodIn wsL_leastRoom wsX30 := goodIn_r _ [282, 283, 284, 285, 286] (by decide +kernel) (by decide +kernel)
set_option maxRecDepth 20000 in
theorem ggL_leastRoom_X9_would_q15 : GoodIn wsL_leastRoom wsX00 := goodIn_r _ [287, 288] (by decide +kernel) (by decide +kernel)
theorem ggL_leastRoom_X9_would : GoodIn wsL_leastRoom wsX9_would := (zk_gcons ggL_leastRoom_X9_would_q1 (goodIn_app (goodIn_app (goodIn_app (goodIn_app (goodIn_app (goodIn_app (goodIn_app (goodIn_app ggL_leastRoom_X9_would_q2 (goodIn_app ggL_leastRoom_X9_would_q3 (goodIn_app ggL_leastRoom_X9_would_q4 (goodIn_app ggL_leastRoom_X9_would_q5 (goodIn_app ggL_leastRoom_X9_would_q6 (goodIn_app ggL_leastRoom_X9_would_q7 ggL_leastRoom_X9_would_q8)))))) ggL_leastRoom_X9_would_q9) ggL_leastRoom_X9_would_q10) ggL_leastRoom_X9_would_q11) ggL_leastRoom_X9_would_q12) ggL_leastRoom_X9_would_q13) ggL_leastRoom_X9_would_q14) ggL_leastRoom_X9_would_q15))
set_option maxRecDepth 20000 in
theorem gL_leastRoom_X9_would : GoodIn wsL_leastRoom (wsV RL 49 RX9 yX9_would wsX9_would) := goodIn_app (goodIn_of _ (by decide +kernel)) ggL_leastRoom_X9_would
set_option maxRecDepth 20000 in
theorem ggL_leastRoom_X9_undo_q1 : GoodIn wsL_leastRoom ([.code yX9_undo cX9_undo 1 (some .int)] : List Cond) := goodIn_r _ [250] (by decide +kernel) (by decide +kernel)
set_option maxRecDepth 20000 in
theorem ggL_leastRoom_X9_undo_q2 : GoodIn wsL_leastRoom wsX9_undo_r1 := goodIn_r _ [163, 7, 251, 252, 253, 174, 254, 176, 208, 255, 256, 257, 258, 209, 210, 211, 212, 213, 214, 215, 216, 168, 217, 218] (by decide +kernel) (by decide +kernel)
set_option maxRecDepth 20000 in
theorem ggL_leastRoom_X9_undo_q3 : GoodIn wsL_leastRoom wsX9_undo_r2 := goodIn_r _ [170, 219, 220, 15, 16, 17, 18, 19, 20, 21, 22, 23, 24, 25, 26, 27, 28, 29, 30, 31, 32, 33, 34, 35] (by decide +kernel) (by decide +kernel)
set_option maxRecDepth 20000 in
theorem ggL_leastRoom_X9_undo_q4 : GoodIn wsL_leastRoom wsX9_undo_r3 := goodIn_r _ [36, 37, 38, 39, 40, 41, 42, 43, 44, 45, 46, 47, 48, 49, 50, 51, 52, 53, 54, 55, 56, 57, 58, 59] (by decide +kernel) (by decide +kernel)
set_option maxRecDepth 20000 in
theorem ggL_leastRoom_X9_undo_q5 : GoodIn wsL_leastRoom wsX9_undo_r4 := goodIn_r _ [60, 61] (by decide +kernel) (by decide +kernel)
set_option maxRecDepth 20000 in
theorem ggL_leastRoom_X9_undo_q6 : GoodIn wsL_leastRoom wsX90 := goodIn_r _ [259, 260, 261, 262] (by decide +kernel) (by decide +kernel)
set_option maxRecDepth 20000 in
theorem ggL_leastRoom_X9_undo_q7 : GoodIn wsL_leastRoom wsX20 := goodIn_r _ [297, 298, 299] (by decide +kernel) (by decide +kernel)
set_option maxRecDepth 20000 in
theorem ggL_leastRoom_X9_undo_q8 : GoodIn wsL_leastRoom wsX60 := goodIn_r _ [263, 264, 265] (by decide +kernel) (by decide +kernel)
set_option maxRecDepth 20000 in
theorem ggL_leastRoom_X9_undo_q9 : GoodIn wsL_leastRoom wsX80 := goodIn_r _ [267, 268, 269, 270, 271, 272, 273, 274, 275, 276, 277, 278, 279] (by decide +kernel) (by decide +kernel)
set_option maxRecDepth 20000 in
theorem ggL_leastRoom_X9_undo_q10 : GoodIn wsL_leastRoom wsX50 := goodIn_r _ [280, 281] (by decide +kernel) (by decide +kernel)
set_option maxRecDepth 20000 in
theorem ggL_leastRoom_X9_undo_q11 : GoodIn wsL_leastRoom wsX30 := goodIn_r _ [282, 283, 284, 285, 286] (by decide +kernel) (by decide +kernel)
set_option maxRecDepth 20000 in
theorem ggL_leastRoom_X9_undo_q12 : GoodIn wsL_leastRoom wsX00 := goodIn_r _ [287, 288] (by decide +kernel) (by decide +kernel)
theorem ggL_leastRoom_X9_undo : GoodIn wsL_leastRoom wsX9_undo := (zk_gcons ggL_leastRoom_X9_undo_q1 (goodIn_app (goodIn_app (goodIn_app (goodIn_app (goodIn_app (goodIn_app (goodIn_app (goodIn_app ggL_leastRoom_X9_undo_q2 (goodIn_app ggL_leastRoom_X9_undo_q3 (goodIn_app ggL_leastRoom_X9_undo_q4 ggL_leastRoom_X9_undo_q5))) ggL_leastRoom_X9_undo_q6) ggL_leastRoom_X9_undo_q7) ggL_leastRoom_X9_undo_q8) ggL_leastRoom_X9_undo_q9) ggL_leastRoom_X9_undo_q10) ggL_leastRoom_X9_undo_q11) ggL_leastRoom_X9_undo_q12))
set_option maxRecDepth 20000 in
theorem gL_leastRoom_X9_undo : GoodIn wsL_leastRoom (wsV RL 64 RX9 yX9_undo wsX9_undo) := goodIn_app (goodIn_of _ (by decide +kernel)) ggL_leastRoom_X9_undo
theorem dL_leastRoom_0 : decode cL_leastRoom 0 = .ok (.aload_n 0, 1) := by decide +kernel
theorem dL_leastRoom_1 : decode cL_leastRoom 1 = .ok (.iload_n 1, 1) := by decide +kernel
theorem dL_leastRoom_2 : decode cL_leastRoom 2 = .ok (.invokevirtual 61, 3) := by decide +kernel
theorem dL_leastRoom_5 : decode cL_leastRoom 5 = .ok (.istore_n 2, 1) := by decide +kernel
theorem dL_leastRoom_6 : decode cL_leastRoom 6 = .ok (.aload_n 0, 1) := by decide +kernel
theorem dL_leastRoom_7 : decode cL_leastRoom 7 = .ok (.bipush 14, 2) := by decide +kernel
theorem dL_leastRoom_9 : decode cL_leastRoom 9 = .ok (.invokevirtual 10, 3) := by decide +kernel
theorem dL_leastRoom_12 : decode cL_leastRoom 12 = .ok (.istore_n 3, 1) := by decide +kernel
theorem dL_leastRoom_13 : decode cL_leastRoom 13 = .ok (.iload_n 2, 1) := by decide +kernel
theorem dL_leastRoom_14 : decode cL_leastRoom 14 = .ok (.bipush (-9), 2) := by decide +kernel
theorem dL_leastRoom_16 : decode cL_leastRoom 16 = .ok (.if_icmp .ne 8, 3) := by decide +kernel
theorem dL_leastRoom_19 : decode cL_leastRoom 19 = .ok (.bipush 20, 2) := by decide +kernel
theorem dL_leastRoom_21 : decode cL_leastRoom 21 = .ok (.goto 6, 3) := by decide +kernel
theorem dL_leastRoom_24 : decode cL_leastRoom 24 = .ok (.iload_n 2, 1) := by decide +kernel
theorem dL_leastRoom_25 : decode cL_leastRoom 25 = .ok (.iconst 1, 1) := by decide +kernel
theorem dL_leastRoom_26 : decode cL_leastRoom 26 = .ok (.isub, 1) := by decide +kernel
theorem dL_leastRoom_27 : decode cL_leastRoom 27 = .ok (.istore 4, 2) := by decide +kernel
theorem dL_leastRoom_29 : decode cL_leastRoom 29 = .ok (.iload_n 2, 1) := by decide +kernel
theorem dL_leastRoom_30 : decode cL_leastRoom 30 = .ok (.bipush (-9), 2) := by decide +kernel
theorem dL_leastRoom_32 : decode cL_leastRoom 32 = .ok (.if_icmp .eq 29, 3) := by decide +kernel
theorem dL_leastRoom_35 : decode cL_leastRoom 35 = .ok (.aload_n 0, 1) := by decide +kernel
theorem dL_leastRoom_36 : decode cL_leastRoom 36 = .ok (.iconst 0, 1) := by decide +kernel
theorem dL_leastRoom_37 : decode cL_leastRoom 37 = .ok (.iload_n 2, 1) := by decide +kernel
theorem dL_leastRoom_38 : decode cL_leastRoom 38 = .ok (.invokevirtual 35, 3) := by decide +kernel
theorem dL_leastRoom_41 : decode cL_leastRoom 41 = .ok (.iload_n 3, 1) := by decide +kernel
theorem dL_leastRoom_42 : decode cL_leastRoom 42 = .ok (.if_icmp .ne 23, 3) := by decide +kernel
theorem dL_leastRoom_45 : decode cL_leastRoom 45 = .ok (.aload_n 0, 1) := by decide +kernel
theorem dL_leastRoom_46 : decode cL_leastRoom 46 = .ok (.iload_n 1, 1) := by decide +kernel
theorem dL_leastRoom_47 : decode cL_leastRoom 47 = .ok (.iconst 1, 1) := by decide +kernel
theorem dL_leastRoom_48 : decode cL_leastRoom 48 = .ok (.invokevirtual 49, 3) := by decide +kernel
theorem dL_leastRoom_51 : decode cL_leastRoom 51 = .ok (.ifCond .ne 14, 3) := by decide +kernel
theorem dL_leastRoom_54 : decode cL_leastRoom 54 = .ok (.aload_n 0, 1) := by decide +kernel
theorem dL_leastRoom_55 : decode cL_leastRoom 55 = .ok (.invokevirtual 64, 3) := by decide +kernel
theorem dL_leastRoom_58 : decode cL_leastRoom 58 = .ok (.ifCond .lt 7, 3) := by decide +kernel
theorem dL_leastRoom_61 : decode cL_leastRoom 61 = .ok (.iconst 1, 1) := by decide +kernel
theorem dL_leastRoom_62 : decode cL_leastRoom 62 = .ok (.goto 4, 3) := by decide +kernel
theorem dL_leastRoom_65 : decode cL_leastRoom 65 = .ok (.iconst 0, 1) := by decide +kernel
theorem dL_leastRoom_66 : decode cL_leastRoom 66 = .ok (.istore 5, 2) := by decide +kernel
theorem dL_leastRoom_68 : decode cL_leastRoom 68 = .ok (.iload 5, 2) := by decide +kernel
theorem dL_leastRoom_70 : decode cL_leastRoom 70 = .ok (.ifCond .eq 39, 3) := by decide +kernel
theorem dL_leastRoom_73 : decode cL_leastRoom 73 = .ok (.iload 4, 2) := by decide +kernel
theorem dL_leastRoom_75 : decode cL_leastRoom 75 = .ok (.ifCond .eq 30, 3) := by decide +kernel
theorem dL_leastRoom_78 : decode cL_leastRoom 78 = .ok (.aload_n 0, 1) := by decide +kernel
theorem dL_leastRoom_79 : decode cL_leastRoom 79 = .ok (.iconst 0, 1) := by decide +kernel
theorem dL_leastRoom_80 : decode cL_leastRoom 80 = .ok (.iload 4, 2) := by decide +kernel
theorem dL_leastRoom_82 : decode cL_leastRoom 82 = .ok (.invokevirtual 35, 3) := by decide +kernel
theorem dL_leastRoom_85 : decode cL_leastRoom 85 = .ok (.iload_n 3, 1) := by decide +kernel
theorem dL_leastRoom_86 : decode cL_leastRoom 86 = .ok (.if_icmp .ne 23, 3) := by decide +kernel
theorem dL_leastRoom_89 : decode cL_leastRoom 89 = .ok (.aload_n 0, 1) := by decide +kernel
theorem dL_leastRoom_90 : decode cL_leastRoom 90 = .ok (.iload_n 1, 1) := by decide +kernel
theorem dL_leastRoom_91 : decode cL_leastRoom 91 = .ok (.iconst 1, 1) := by decide +kernel
theorem dL_leastRoom_92 : decode cL_leastRoom 92 = .ok (.invokevirtual 49, 3) := by decide +kernel
theorem dL_leastRoom_95 : decode cL_leastRoom 95 = .ok (.ifCond .le 14, 3) := by decide +kernel
theorem dL_leastRoom_98 : decode cL_leastRoom 98 = .ok (.aload_n 0, 1) := by decide +kernel
theorem dL_leastRoom_99 : decode cL_leastRoom 99 = .ok (.invokevirtual 64, 3) := by decide +kernel
theorem dL_leastRoom_102 : decode cL_leastRoom 102 = .ok (.ifCond .lt 7, 3) := by decide +kernel
theorem dL_leastRoom_105 : decode cL_leastRoom 105 = .ok (.iconst 1, 1) := by decide +kernel
theorem dL_leastRoom_106 : decode cL_leastRoom 106 = .ok (.goto 4, 3) := by decide +kernel
theorem dL_leastRoom_109 : decode cL_leastRoom 109 = .ok (.iconst 0, 1) := by decide +kernel
theorem dL_leastRoom_110 : decode cL_leastRoom 110 = .ok (.istore 5, 2) := by decide +kernel
theorem dL_leastRoom_112 : decode cL_leastRoom 112 = .ok (.iload 5, 2) := by decide +kernel
theorem dL_leastRoom_114 : decode cL_leastRoom 114 = .ok (.ifCond .eq 17, 3) := by decide +kernel
theorem dL_leastRoom_117 : decode cL_leastRoom 117 = .ok (.aload_n 0, 1) := by decide +kernel
theorem dL_leastRoom_118 : decode cL_leastRoom 118 = .ok (.bipush 14, 2) := by decide +kernel
theorem dL_leastRoom_120 : decode cL_leastRoom 120 = .ok (.invokevirtual 10, 3) := by decide +kernel
theorem dL_leastRoom_123 : decode cL_leastRoom 123 = .ok (.iload_n 3, 1) := by decide +kernel
theorem dL_leastRoom_124 : decode cL_leastRoom 124 = .ok (.if_icmp .ne 7, 3) := by decide +kernel
theorem dL_leastRoom_127 : decode cL_leastRoom 127 = .ok (.iconst 1, 1) := by decide +kernel
theorem dL_leastRoom_128 : decode cL_leastRoom 128 = .ok (.goto 4, 3) := by decide +kernel
theorem dL_leastRoom_131 : decode cL_leastRoom 131 = .ok (.iconst 0, 1) := by decide +kernel
theorem dL_leastRoom_132 : decode cL_leastRoom 132 = .ok (.ireturn, 1) := by decide +kernel
set_option maxRecDepth 20000 in
theorem ggL_law_X9_init_q1 : GoodIn wsL_law ([.code yX9_init cX9_init 1 none] : List Cond) := goodIn_r _ [6] (by decide +kernel) (by decide +kernel)
set_option maxRecDepth 20000 in
theorem ggL_law_X9_init_q2 : GoodIn wsL_law wsX9_init_r1 := goodIn_r _ [7, 8, 9, 10, 11, 12, 13, 14, 15, 16, 17, 18, 19, 20, 21, 22, 23, 24, 25, 26, 27, 28, 29, 30] (by decide +kernel) (by decide +kernel)
set_option maxRecDepth 20000 in
theorem ggL_law_X9_init_q3 : GoodIn wsL_law wsX9_init_r2 := goodIn_r _ [31, 32, 33, 34, 35, 36, 37, 38, 39, 40, 41, 42, 43, 44, 45, 46, 47, 48, 49, 50, 51, 52, 53, 54] (by decide +kernel) (by decide +kernel)
set_option maxRecDepth 20000 in
theorem ggL_law_X9_init_q4 : GoodIn wsL_law wsX9_init_r3 := goodIn_r _ [55, 56, 3, 57, 58, 59, 60, 61, 62, 63, 64, 65, 66, 67, 68, 69, 70, 71, 72, 73, 74, 75, 76, 77] (by decide +kernel) (by decide +kernel)
set_option maxRecDepth 20000 in
theorem ggL_law_X9_init_q5 : GoodIn wsL_law wsX9_init_r4 := goodIn_r _ [78, 79, 80, 81, 82, 83, 84, 85, 86, 87, 88, 89, 90, 91, 92, 93, 94, 95, 96, 97, 98, 99] (by decide +kernel) (by decide +kernel)
set_option maxRecDepth 20000 in
theorem ggL_law_X9_init_q6 : GoodIn wsL_law wsX60 := goodIn_r _ [473, 474, 475] (by decide +kernel) (by decide +kernel)
set_option maxRecDepth 20000 in
theorem ggL_law_X9_init_q7 : GoodIn wsL_law wsX90 := goodIn_r _ [469, 470, 471, 472] (by decide +kernel) (by decide +kernel)
set_option maxRecDepth 20000 in
theorem ggL_law_X9_init_q8 : GoodIn wsL_law wsX20 := goodIn_r _ [476, 477, 478] (by decide +kernel) (by decide +kernel)
set_option maxRecDepth 20000 in
theorem ggL_law_X9_init_q9 : GoodIn wsL_law wsX40 := goodIn_r _ [479, 480, 481, 482, 483, 484, 485, 486] (by decide +kernel) (by decide +kernel)
set_option maxRecDepth 20000 in
theorem ggL_law_X9_init_q10 : GoodIn wsL_law wsX10 := goodIn_r _ [487] (by decide +kernel) (by decide +kernel)
set_option maxRecDepth 20000 in
theorem ggL_law_X9_init_q11 : GoodIn wsL_law wsX80 := goodIn_r _ [488, 489, 490, 491, 492, 493, 494, 495, 496, 497, 498, 499, 500] (by decide +kernel) (by decide +kernel)
set_option maxRecDepth 20000 in
theorem ggL_law_X9_init_q12 : GoodIn wsL_law wsX50 := goodIn_r _ [501, 502] (by decide +kernel) (by decide +kernel)
set_option maxRecDepth 20000 in
theorem ggL_law_X9_init_q13 : GoodIn wsL_law wsX30 := goodIn_r _ [503, 504, 505, 506, 507] (by decide +kernel) (by decide +kernel)
set_option maxRecDepth 20000 in
theorem ggL_law_X9_init_q14 : GoodIn wsL_law wsX00 := goodIn_r _ [508, 509] (by decide +kernel) (by decide +kernel)
set_option maxRecDepth 20000 in
theorem ggL_law_X9_init_q15 : GoodIn wsL_law wsX70 := goodIn_r _ [510, 511, 512, 513, 514] (by decide +kernel) (by decide +kernel)
theorem ggL_law_X9_init : GoodIn wsL_law wsX9_init := (zk_gcons ggL_law_X9_init_q1 (goodIn_app (goodIn_app (goodIn_app (goodIn_app (goodIn_app (goodIn_app (goodIn_app (goodIn_app (goodIn_app (goodIn_app (goodIn_app ggL_law_X9_init_q2 (goodIn_app ggL_law_X9_init_q3 (goodIn_app ggL_law_X9_init_q4 ggL_law_X9_init_q5))) ggL_law_X9_init_q6) ggL_law_X9_init_q7) ggL_law_X9_init_q8) ggL_law_X9_init_q9) ggL_law_X9_init_q10) ggL_law_X9_init_q11) ggL_law_X9_init_q12) ggL_law_X9_init_q13) ggL_law_X9_init_q14) ggL_law_X9_init_q15))
set_option maxRecDepth 20000 in
theorem gL_law_X9_init : GoodIn wsL_law (wsX9_init) := ggL_law_X9_init
set_option maxRecDepth 100000 in
theorem ggL_law_L_cell_s0 : GoodIn wsL_law ([Cond.code yL_cell cL_cell 2 (some .int)] : List Cond) := fun w h => by
  rw [List.mem_singleton.mp h]
  exact ⟨List.mem_of_getElem? (i := 103) rfl, Or.inl rfl⟩
set_option maxRecDepth 100000 in
theorem ggL_law_L_cell_s1 : GoodIn wsL_law ([Cond.constant RL 7 (32452843)] : List Cond) := fun w h => by
  rw [List.mem_singleton.mp h]
  exact ⟨List.mem_of_getElem? (i := 104) rfl, Or.inl rfl⟩
set_option maxRecDepth 100000 in
theorem ggL_law_L_cell_s2 : GoodIn wsL_law ([Cond.constant RL 8 (49979687)] : List Cond) := fun w h => by
  rw [List.mem_singleton.mp h]
  exact ⟨List.mem_of_getElem? (i := 105) rfl, Or.inl rfl⟩
theorem ggL_law_L_cell : GoodIn wsL_law wsL_cell := (goodIn_app ggL_law_L_cell_s0 (goodIn_app ggL_law_L_cell_s1 ggL_law_L_cell_s2))
set_option maxRecDepth 20000 in
theorem gL_law_L_cell : GoodIn wsL_law (va_wsS RL 68 yL_cell wsL_cell) := goodIn_app (goodIn_of _ (by decide +kernel)) ggL_law_L_cell
set_option maxRecDepth 100000 in
theorem ggL_law_L_low_s0 : GoodIn wsL_law ([Cond.code yL_low cL_low 2 (some .int)] : List Cond) := fun w h => by
  rw [List.mem_singleton.mp h]
  exact ⟨List.mem_of_getElem? (i := 108) rfl, Or.inl rfl⟩
set_option maxRecDepth 100000 in
theorem ggL_law_L_low_s1 : GoodIn wsL_law ([Cond.constant RL 9 (2147483647)] : List Cond) := fun w h => by
  rw [List.mem_singleton.mp h]
  exact ⟨List.mem_of_getElem? (i := 109) rfl, Or.inl rfl⟩
theorem ggL_law_L_low : GoodIn wsL_law wsL_low := (goodIn_app ggL_law_L_low_s0 ggL_law_L_low_s1)
set_option maxRecDepth 20000 in
theorem gL_law_L_low : GoodIn wsL_law (va_wsS RL 16 yL_low wsL_low) := goodIn_app (goodIn_of _ (by decide +kernel)) ggL_law_L_low
set_option maxRecDepth 100000 in
theorem ggL_law_L_change_q1_s0 : GoodIn wsL_law ([Cond.code yL_change cL_change 10 (some .boolean)] : List Cond) := fun w h => by
  rw [List.mem_singleton.mp h]
  exact ⟨List.mem_of_getElem? (i := 112) rfl, Or.inl rfl⟩
theorem ggL_law_L_change_q1 : GoodIn wsL_law ([.code yL_change cL_change 10 (some .boolean)] : List Cond) := ggL_law_L_change_q1_s0
set_option maxRecDepth 20000 in
theorem ggL_law_L_change_q2 : GoodIn wsL_law wsL_change_r1 := goodIn_r _ [113, 114, 115, 2, 116, 13, 17, 21, 117, 118, 119, 12, 120, 36, 121, 122, 123, 16, 124, 125, 126, 127, 128, 87] (by decide +kernel) (by decide +kernel)
set_option maxRecDepth 20000 in
theorem ggL_law_L_change_q3 : GoodIn wsL_law wsL_change_r2 := goodIn_r _ [129, 130, 131, 132, 133, 32, 134, 135, 43, 136, 51, 137, 138, 139, 140, 141, 142, 143, 144, 42, 145, 146, 147, 148] (by decide +kernel) (by decide +kernel)
set_option maxRecDepth 20000 in
theorem ggL_law_L_change_q4 : GoodIn wsL_law wsL_change_r3 := goodIn_r _ [149, 150, 151, 152, 153, 154, 155, 156, 157, 158, 57, 159, 160, 161, 50, 162, 163, 164, 165, 166, 167, 52, 53, 168] (by decide +kernel) (by decide +kernel)
set_option maxRecDepth 20000 in
theorem ggL_law_L_change_q5_s0 : GoodIn wsL_law ([Cond.methodLink RL 16 yL_low, Cond.static yL_low, Cond.initialized RL] : List Cond) := goodIn_r _ [106, 107, 102] (by decide +kernel) (by decide +kernel)
set_option maxRecDepth 100000 in
theorem ggL_law_L_change_q5_s1 : GoodIn wsL_law ([Cond.code yL_low cL_low 2 (some .int)] : List Cond) := fun w h => by
  rw [List.mem_singleton.mp h]
  exact ⟨List.mem_of_getElem? (i := 108) rfl, Or.inl rfl⟩
set_option maxRecDepth 100000 in
theorem ggL_law_L_change_q5_s2 : GoodIn wsL_law ([Cond.constant RL 9 (2147483647)] : List Cond) := fun w h => by
  rw [List.mem_singleton.mp h]
  exact ⟨List.mem_of_getElem? (i := 109) rfl, Or.inl rfl⟩
set_option maxRecDepth 20000 in
theorem ggL_law_L_change_q5_s3 : GoodIn wsL_law ([Cond.methodLink RL 22 yX9_give, Cond.instanceMethod yX9_give, Cond.selects RX9 yX9_give yX9_give, Cond.code yX9_give cX9_give 4 (some .int), Cond.methodLink RX9 37 yX2_note, Cond.instanceMethod yX2_note, Cond.selects RX2 yX2_note yX2_note, Cond.code yX2_note cX2_note 3 none, Cond.fieldLink RX2 22 "PromiseWheel$History" "noted" "I", Cond.methodLink RX2 25 yX2_rowAt, Cond.instanceMethod yX2_rowAt, Cond.selects RX2 yX2_rowAt yX2_rowAt, Cond.code yX2_rowAt cX2_rowAt 2 (some (.object "PromiseWheel$State")), Cond.fieldLink RX2 13 "PromiseWheel$History" "rows" "[LPromiseWheel$State;", Cond.methodLink RX2 29 yX6_copyFrom, Cond.instanceMethod yX6_copyFrom, Cond.selects RX6 yX6_copyFrom yX6_copyFrom, Cond.code yX6_copyFrom cX6_copyFrom 5 none, Cond.fieldLink RX6 12 "PromiseWheel$State" "wheel" "LPromiseWheel$Wheel;"] : List Cond) := goodIn_r _ [169, 170, 171, 172, 173, 174, 175, 176, 177, 178, 179, 180, 181, 80, 182, 183, 184, 185, 33] (by decide +kernel) (by decide +kernel)
theorem ggL_law_L_change_q5 : GoodIn wsL_law wsL_change_r4 := (goodIn_app ggL_law_L_change_q5_s0 (goodIn_app ggL_law_L_change_q5_s1 (goodIn_app ggL_law_L_change_q5_s2 ggL_law_L_change_q5_s3)))
set_option maxRecDepth 20000 in
theorem ggL_law_L_change_q6 : GoodIn wsL_law wsL_change_r5 := goodIn_r _ [34, 186, 187, 188, 189, 47, 190, 191, 192, 193, 194, 195, 196, 197, 198, 199, 200, 46, 201, 62, 202, 63, 64, 65] (by decide +kernel) (by decide +kernel)
set_option maxRecDepth 20000 in
theorem ggL_law_L_change_q7 : GoodIn wsL_law wsL_change_r6 := goodIn_r _ [66, 203, 204, 205, 206, 74, 207, 208, 209, 210, 211, 212, 213, 214, 215, 216, 217, 218, 219, 220, 221, 222, 223, 224] (by decide +kernel) (by decide +kernel)
set_option maxRecDepth 20000 in
theorem ggL_law_L_change_q8 : GoodIn wsL_law wsL_change_r7 := goodIn_r _ [225, 226, 227, 228, 229, 230, 231, 232, 233, 234, 235, 236, 237, 238, 239, 240, 241, 242, 243, 244, 245, 246, 247, 248] (by decide +kernel) (by decide +kernel)
set_option maxRecDepth 20000 in
theorem ggL_law_L_change_q9 : GoodIn wsL_law wsL_change_r8 := goodIn_r _ [249, 250, 251, 252, 253, 254, 255, 256, 257, 258, 259, 260, 261, 262, 263, 264, 265, 266, 267, 268, 269, 270, 271, 272] (by decide +kernel) (by decide +kernel)
set_option maxRecDepth 20000 in
theorem ggL_law_L_change_q10 : GoodIn wsL_law wsL_change_r9 := goodIn_r _ [273, 274, 275, 276, 277, 278, 279, 280, 281, 282, 283, 284, 285, 286, 287, 288, 289, 290, 291, 292, 293, 294, 295, 296] (by decide +kernel) (by decide +kernel)
set_option maxRecDepth 20000 in
theorem ggL_law_L_change_q11 : GoodIn wsL_law wsL_change_r10 := goodIn_r _ [297, 298, 299, 300, 301, 302, 303, 304, 305, 306, 307, 308, 309, 310, 311, 312, 313, 314, 315, 316, 317, 318, 319, 320] (by decide +kernel) (by decide +kernel)
set_option maxRecDepth 20000 in
theorem ggL_law_L_change_q12 : GoodIn wsL_law wsX90 := goodIn_r _ [469, 470, 471, 472] (by decide +kernel) (by decide +kernel)
set_option maxRecDepth 20000 in
theorem ggL_law_L_change_q13 : GoodIn wsL_law wsX40 := goodIn_r _ [479, 480, 481, 482, 483, 484, 485, 486] (by decide +kernel) (by decide +kernel)
set_option maxRecDepth 20000 in
theorem ggL_law_L_change_q14 : GoodIn wsL_law wsX60 := goodIn_r _ [473, 474, 475] (by decide +kernel) (by decide +kernel)
set_option maxRecDepth 20000 in
theorem ggL_law_L_change_q15 : GoodIn wsL_law wsX20 := goodIn_r _ [476, 477, 478] (by decide +kernel) (by decide +kernel)
set_option maxRecDepth 20000 in
theorem ggL_law_L_change_q16 : GoodIn wsL_law wsX70 := goodIn_r _ [510, 511, 512, 513, 514] (by decide +kernel) (by decide +kernel)
set_option maxRecDepth 20000 in
theorem ggL_law_L_change_q17 : GoodIn wsL_law wsX80 := goodIn_r _ [488, 489, 490, 491, 492, 493, 494, 495, 496, 497, 498, 499, 500] (by decide +kernel) (by decide +kernel)
set_option maxRecDepth 20000 in
theorem ggL_law_L_change_q18 : GoodIn wsL_law wsX50 := goodIn_r _ [501, 502] (by decide +kernel) (by decide +kernel)
set_option maxRecDepth 20000 in
theorem ggL_law_L_change_q19 : GoodIn wsL_law wsX00 := goodIn_r _ [508, 509] (by decide +kernel) (by decide +kernel)
set_option maxRecDepth 20000 in
theorem ggL_law_L_change_q20 : GoodIn wsL_law wsX30 := goodIn_r _ [503, 504, 505, 506, 507] (by decide +kernel) (by decide +kernel)
theorem ggL_law_L_change : GoodIn wsL_law wsL_change := (zk_gcons ggL_law_L_change_q1 (goodIn_app (goodIn_app (goodIn_app (goodIn_app (goodIn_app (goodIn_app (goodIn_app (goodIn_app (goodIn_app (goodIn_app ggL_law_L_change_q2 (goodIn_app ggL_law_L_change_q3 (goodIn_app ggL_law_L_change_q4 (goodIn_app ggL_law_L_change_q5 (goodIn_app ggL_law_L_change_q6 (goodIn_app ggL_law_L_change_q7 (goodIn_app ggL_law_L_change_q8 (goodIn_app ggL_law_L_change_q9 (goodIn_app ggL_law_L_change_q10 ggL_law_L_change_q11))))))))) ggL_law_L_change_q12) ggL_law_L_change_q13) ggL_law_L_change_q14) ggL_law_L_change_q15) ggL_law_L_change_q16) ggL_law_L_change_q17) ggL_law_L_change_q18) ggL_law_L_change_q19) ggL_law_L_change_q20))
set_option maxRecDepth 20000 in
theorem gL_law_L_change : GoodIn wsL_law (va_wsS RL 72 yL_change wsL_change) := goodIn_app (goodIn_of _ (by decide +kernel)) ggL_law_L_change
set_option maxRecDepth 100000 in
theorem ggL_law_L_areNext_q1_s0 : GoodIn wsL_law ([Cond.code yL_areNext cL_areNext 4 (some .boolean)] : List Cond) := fun w h => by
  rw [List.mem_singleton.mp h]
  exact ⟨List.mem_of_getElem? (i := 323) rfl, Or.inl rfl⟩
theorem ggL_law_L_areNext_q1 : GoodIn wsL_law ([.code yL_areNext cL_areNext 4 (some .boolean)] : List Cond) := ggL_law_L_areNext_q1_s0
set_option maxRecDepth 20000 in
theorem ggL_law_L_areNext_q2_s0 : GoodIn wsL_law ([Cond.methodLink RL 42 yL_first, Cond.static yL_first, Cond.initialized RL] : List Cond) := goodIn_r _ [324, 325, 102] (by decide +kernel) (by decide +kernel)
set_option maxRecDepth 100000 in
theorem ggL_law_L_areNext_q2_s1 : GoodIn wsL_law ([Cond.code yL_first cL_first 4 (some .int)] : List Cond) := fun w h => by
  rw [List.mem_singleton.mp h]
  exact ⟨List.mem_of_getElem? (i := 326) rfl, Or.inl rfl⟩
set_option maxRecDepth 20000 in
theorem ggL_law_L_areNext_q2_s2 : GoodIn wsL_law ([Cond.methodLink RL 10 yX9_count, Cond.instanceMethod yX9_count, Cond.selects RX9 yX9_count yX9_count, Cond.initialized RX9, Cond.code yX9_count cX9_count 2 (some .int), Cond.fieldLink RX9 12 "PromiseWheel" "state" "LPromiseWheel$State;", Cond.fieldLink RX9 19 "PromiseWheel" "history" "LPromiseWheel$History;", Cond.fieldLink RX9 26 "PromiseWheel" "program" "LPromiseWheel$Program;", Cond.methodLink RX9 120 yX6_snapshotsTaken, Cond.instanceMethod yX6_snapshotsTaken, Cond.selects RX6 yX6_snapshotsTaken yX6_snapshotsTaken, Cond.initialized RX6, Cond.code yX6_snapshotsTaken cX6_snapshotsTaken 3 (some .int), Cond.fieldLink RX6 22 "PromiseWheel$State" "taken" "[Z", Cond.methodLink RX9 123 yX2_size, Cond.instanceMethod yX2_size, Cond.selects RX2 yX2_size yX2_size, Cond.initialized RX2, Cond.code yX2_size cX2_size 1 (some .int), Cond.fieldLink RX2 18 "PromiseWheel$History" "states" "I"] : List Cond) := goodIn_r _ [113, 114, 115, 2, 116, 13, 17, 21, 117, 118, 119, 12, 120, 36, 121, 122, 123, 16, 124, 125] (by decide +kernel) (by decide +kernel)
theorem ggL_law_L_areNext_q2 : GoodIn wsL_law wsL_areNext_r1 := (goodIn_app ggL_law_L_areNext_q2_s0 (goodIn_app ggL_law_L_areNext_q2_s1 ggL_law_L_areNext_q2_s2))
set_option maxRecDepth 20000 in
theorem ggL_law_L_areNext_q3 : GoodIn wsL_law wsL_areNext_r2 := goodIn_r _ [126, 127, 128, 87, 129, 130, 131, 132, 133, 32, 134, 135, 43, 136, 51, 137, 138, 139, 140, 141, 142, 143, 144, 42] (by decide +kernel) (by decide +kernel)
set_option maxRecDepth 20000 in
theorem ggL_law_L_areNext_q4 : GoodIn wsL_law wsL_areNext_r3 := goodIn_r _ [145, 146, 147, 148, 149, 150, 151, 152, 153, 154, 155, 156, 157, 158, 57, 159, 160, 161, 50, 162, 163, 164, 165, 166] (by decide +kernel) (by decide +kernel)
set_option maxRecDepth 20000 in
theorem ggL_law_L_areNext_q5 : GoodIn wsL_law wsL_areNext_r4 := goodIn_r _ [167, 52, 53, 168, 240, 241, 242, 243, 244, 245, 246, 247, 248, 249, 250, 251, 47, 252, 253, 254, 46, 255, 65, 256] (by decide +kernel) (by decide +kernel)
set_option maxRecDepth 20000 in
theorem ggL_law_L_areNext_q6 : GoodIn wsL_law wsL_areNext_r5 := goodIn_r _ [257, 258, 259, 260, 261, 262, 263, 264, 265, 64, 266, 267, 268, 269, 62, 270, 271, 272, 273, 66, 327, 328, 329, 330] (by decide +kernel) (by decide +kernel)
set_option maxRecDepth 20000 in
theorem ggL_law_L_areNext_q7 : GoodIn wsL_law wsL_areNext_r6 := goodIn_r _ [331, 332, 333, 334, 296, 335, 336, 337, 338, 339, 237, 238, 239, 340, 341, 342, 343, 344, 345, 346, 347, 348, 349, 350] (by decide +kernel) (by decide +kernel)
set_option maxRecDepth 20000 in
theorem ggL_law_L_areNext_q8 : GoodIn wsL_law wsL_areNext_r7 := goodIn_r _ [351, 352, 353, 354, 355, 356, 357, 358, 359] (by decide +kernel) (by decide +kernel)
set_option maxRecDepth 20000 in
theorem ggL_law_L_areNext_q9 : GoodIn wsL_law wsX90 := goodIn_r _ [469, 470, 471, 472] (by decide +kernel) (by decide +kernel)
set_option maxRecDepth 20000 in
theorem ggL_law_L_areNext_q10 : GoodIn wsL_law wsX40 := goodIn_r _ [479, 480, 481, 482, 483, 484, 485, 486] (by decide +kernel) (by decide +kernel)
set_option maxRecDepth 20000 in
theorem ggL_law_L_areNext_q11 : GoodIn wsL_law wsX60 := goodIn_r _ [473, 474, 475] (by decide +kernel) (by decide +kernel)
set_option maxRecDepth 20000 in
theorem ggL_law_L_areNext_q12 : GoodIn wsL_law wsX20 := goodIn_r _ [476, 477, 478] (by decide +kernel) (by decide +kernel)
set_option maxRecDepth 20000 in
theorem ggL_law_L_areNext_q13 : GoodIn wsL_law wsX70 := goodIn_r _ [510, 511, 512, 513, 514] (by decide +kernel) (by decide +kernel)
set_option maxRecDepth 20000 in
theorem ggL_law_L_areNext_q14 : GoodIn wsL_law wsX80 := goodIn_r _ [488, 489, 490, 491, 492, 493, 494, 495, 496, 497, 498, 499, 500] (by decide +kernel) (by decide +kernel)
set_option maxRecDepth 20000 in
theorem ggL_law_L_areNext_q15 : GoodIn wsL_law wsX50 := goodIn_r _ [501, 502] (by decide +kernel) (by decide +kernel)
set_option maxRecDepth 20000 in
theorem ggL_law_L_areNext_q16 : GoodIn wsL_law wsX00 := goodIn_r _ [508, 509] (by decide +kernel) (by decide +kernel)
set_option maxRecDepth 20000 in
theorem ggL_law_L_areNext_q17 : GoodIn wsL_law wsX30 := goodIn_r _ [503, 504, 505, 506, 507] (by decide +kernel) (by decide +kernel)
theorem ggL_law_L_areNext : GoodIn wsL_law wsL_areNext := (zk_gcons ggL_law_L_areNext_q1 (goodIn_app (goodIn_app (goodIn_app (goodIn_app (goodIn_app (goodIn_app (goodIn_app (goodIn_app (goodIn_app (goodIn_app ggL_law_L_areNext_q2 (goodIn_app ggL_law_L_areNext_q3 (goodIn_app ggL_law_L_areNext_q4 (goodIn_app ggL_law_L_areNext_q5 (goodIn_app ggL_law_L_areNext_q6 (goodIn_app ggL_law_L_areNext_q7 ggL_law_L_areNext_q8)))))) ggL_law_L_areNext_q9) ggL_law_L_areNext_q10) ggL_law_L_areNext_q11) ggL_law_L_areNext_q12) ggL_law_L_areNext_q13) ggL_law_L_areNext_q14) ggL_law_L_areNext_q15) ggL_law_L_areNext_q16) ggL_law_L_areNext_q17))
set_option maxRecDepth 20000 in
theorem gL_law_L_areNext : GoodIn wsL_law (va_wsS RL 76 yL_areNext wsL_areNext) := goodIn_app (goodIn_of _ (by decide +kernel)) ggL_law_L_areNext
set_option maxRecDepth 100000 in
theorem ggL_law_L_pass_q1_s0 : GoodIn wsL_law ([Cond.code yL_pass cL_pass 15 (some .boolean)] : List Cond) := fun w h => by
  rw [List.mem_singleton.mp h]
  exact ⟨List.mem_of_getElem? (i := 362) rfl, Or.inl rfl⟩
theorem ggL_law_L_pass_q1 : GoodIn wsL_law ([.code yL_pass cL_pass 15 (some .boolean)] : List Cond) := ggL_law_L_pass_q1_s0
set_option maxRecDepth 20000 in
theorem ggL_law_L_pass_q2 : GoodIn wsL_law wsL_pass_r1 := goodIn_r _ [363, 364, 365, 2, 366, 25, 13, 367, 368, 369, 24, 370, 99, 371, 372, 238, 373, 374, 187, 188, 32, 189, 43, 47] (by decide +kernel) (by decide +kernel)
set_option maxRecDepth 20000 in
theorem ggL_law_L_pass_q3 : GoodIn wsL_law wsL_pass_r2 := goodIn_r _ [51, 135, 52, 53, 168, 136, 137, 138, 139, 140, 141, 190, 191, 192, 42, 193, 57, 194, 195, 196, 197, 146, 198, 199] (by decide +kernel) (by decide +kernel)
set_option maxRecDepth 20000 in
theorem ggL_law_L_pass_q4 : GoodIn wsL_law wsL_pass_r3 := goodIn_r _ [200, 46, 201, 62, 202, 63, 64, 65, 66, 203, 204, 205, 50, 206, 74, 207, 163, 375, 376, 377, 378, 379, 380, 381] (by decide +kernel) (by decide +kernel)
set_option maxRecDepth 20000 in
theorem ggL_law_L_pass_q5 : GoodIn wsL_law wsL_pass_r4 := goodIn_r _ [382, 383, 348, 349, 350, 351, 356, 263, 264, 265, 357, 267, 268, 269, 297, 298, 299, 300, 261, 253, 254, 255, 270, 271] (by decide +kernel) (by decide +kernel)
set_option maxRecDepth 20000 in
theorem ggL_law_L_pass_q6 : GoodIn wsL_law wsL_pass_r5 := goodIn_r _ [272, 273, 296, 152, 153, 154, 155, 156, 157, 158, 317, 318, 319, 320, 287, 217, 218, 219, 256, 220, 221, 222, 223, 224] (by decide +kernel) (by decide +kernel)
set_option maxRecDepth 20000 in
theorem ggL_law_L_pass_q7 : GoodIn wsL_law wsL_pass_r6 := goodIn_r _ [225, 226, 227, 384, 385, 386, 387, 388, 389, 390, 391, 392, 393, 394, 395, 396, 397, 398, 399, 400, 401, 402, 403, 404] (by decide +kernel) (by decide +kernel)
set_option maxRecDepth 20000 in
theorem ggL_law_L_pass_q8 : GoodIn wsL_law wsL_pass_r7 := goodIn_r _ [405, 406, 407, 408, 314, 315, 316, 142, 143, 144, 145, 409, 148, 149, 150, 151, 410, 160, 161, 162, 113, 114, 115, 116] (by decide +kernel) (by decide +kernel)
set_option maxRecDepth 20000 in
theorem ggL_law_L_pass_q9 : GoodIn wsL_law wsL_pass_r8 := goodIn_r _ [17, 21, 117, 118, 119, 12, 120, 36, 121, 122, 123, 16, 124, 125, 126, 127, 128, 87, 129, 130, 131, 132, 133, 134] (by decide +kernel) (by decide +kernel)
set_option maxRecDepth 20000 in
theorem ggL_law_L_pass_q10 : GoodIn wsL_law wsL_pass_r9 := goodIn_r _ [147, 159, 164, 165, 166, 167, 240, 241, 242, 243, 244, 245, 246, 247, 248, 249, 250, 251, 252, 257, 258, 259, 260, 262] (by decide +kernel) (by decide +kernel)
set_option maxRecDepth 20000 in
theorem ggL_law_L_pass_q11 : GoodIn wsL_law wsL_pass_r10 := goodIn_r _ [266, 411, 412, 413, 414, 415, 284, 285, 286, 416, 417, 418, 419, 420, 421, 422, 423, 424, 173, 174, 175, 176, 177, 178] (by decide +kernel) (by decide +kernel)
set_option maxRecDepth 20000 in
theorem ggL_law_L_pass_q12 : GoodIn wsL_law wsL_pass_r11 := goodIn_r _ [179, 180, 181, 80, 182, 183, 184, 185, 33, 34, 186, 425, 426, 427, 428, 429, 228, 229, 230, 231, 232, 233, 234, 235] (by decide +kernel) (by decide +kernel)
set_option maxRecDepth 20000 in
theorem ggL_law_L_pass_q13 : GoodIn wsL_law wsL_pass_r12 := goodIn_r _ [236, 237, 239, 430, 431, 432, 433, 434, 435, 436, 437, 438] (by decide +kernel) (by decide +kernel)
set_option maxRecDepth 20000 in
theorem ggL_law_L_pass_q14 : GoodIn wsL_law wsX90 := goodIn_r _ [469, 470, 471, 472] (by decide +kernel) (by decide +kernel)
set_option maxRecDepth 20000 in
theorem ggL_law_L_pass_q15 : GoodIn wsL_law wsX60 := goodIn_r _ [473, 474, 475] (by decide +kernel) (by decide +kernel)
set_option maxRecDepth 20000 in
theorem ggL_law_L_pass_q16 : GoodIn wsL_law wsX10 := goodIn_r _ [487] (by decide +kernel) (by decide +kernel)
set_option maxRecDepth 20000 in
theorem ggL_law_L_pass_q17 : GoodIn wsL_law wsX80 := goodIn_r _ [488, 489, 490, 491, 492, 493, 494, 495, 496, 497, 498, 499, 500] (by decide +kernel) (by decide +kernel)
set_option maxRecDepth 20000 in
theorem ggL_law_L_pass_q18 : GoodIn wsL_law wsX50 := goodIn_r _ [501, 502] (by decide +kernel) (by decide +kernel)
set_option maxRecDepth 20000 in
theorem ggL_law_L_pass_q19 : GoodIn wsL_law wsX30 := goodIn_r _ [503, 504, 505, 506, 507] (by decide +kernel) (by decide +kernel)
set_option maxRecDepth 20000 in
theorem ggL_law_L_pass_q20 : GoodIn wsL_law wsX00 := goodIn_r _ [508, 509] (by decide +kernel) (by decide +kernel)
set_option maxRecDepth 20000 in
theorem ggL_law_L_pass_q21 : GoodIn wsL_law wsX40 := goodIn_r _ [479, 480, 481, 482, 483, 484, 485, 486] (by decide +kernel) (by decide +kernel)
set_option maxRecDepth 20000 in
theorem ggL_law_L_pass_q22 : GoodIn wsL_law wsX20 := goodIn_r _ [476, 477, 478] (by decide +kernel) (by decide +kernel)
set_option maxRecDepth 20000 in
theorem ggL_law_L_pass_q23 : GoodIn wsL_law wsX70 := goodIn_r _ [510, 511, 512, 513, 514] (by decide +kernel) (by decide +kernel)
theorem ggL_law_L_pass : GoodIn wsL_law wsL_pass := (zk_gcons ggL_law_L_pass_q1 (goodIn_app (goodIn_app (goodIn_app (goodIn_app (goodIn_app (goodIn_app (goodIn_app (goodIn_app (goodIn_app (goodIn_app (goodIn_app ggL_law_L_pass_q2 (goodIn_app ggL_law_L_pass_q3 (goodIn_app ggL_law_L_pass_q4 (goodIn_app ggL_law_L_pass_q5 (goodIn_app ggL_law_L_pass_q6 (goodIn_app ggL_law_L_pass_q7 (goodIn_app ggL_law_L_pass_q8 (goodIn_app ggL_law_L_pass_q9 (goodIn_app ggL_law_L_pass_q10 (goodIn_app ggL_law_L_pass_q11 (goodIn_app ggL_law_L_pass_q12 ggL_law_L_pass_q13))))))))))) ggL_law_L_pass_q14) ggL_law_L_pass_q15) ggL_law_L_pass_q16) ggL_law_L_pass_q17) ggL_law_L_pass_q18) ggL_law_L_pass_q19) ggL_law_L_pass_q20) ggL_law_L_pass_q21) ggL_law_L_pass_q22) ggL_law_L_pass_q23))
set_option maxRecDepth 20000 in
theorem gL_law_L_pass : GoodIn wsL_law (va_wsS RL 80 yL_pass wsL_pass) := goodIn_app (goodIn_of _ (by decide +kernel)) ggL_law_L_pass
set_option maxRecDepth 100000 in
theorem ggL_law_L_areAlike_q1_s0 : GoodIn wsL_law ([Cond.code yL_areAlike cL_areAlike 4 (some .boolean)] : List Cond) := fun w h => by
  rw [List.mem_singleton.mp h]
  exact ⟨List.mem_of_getElem? (i := 441) rfl, Or.inl rfl⟩
theorem ggL_law_L_areAlike_q1 : GoodIn wsL_law ([.code yL_areAlike cL_areAlike 4 (some .boolean)] : List Cond) := ggL_law_L_areAlike_q1_s0
set_option maxRecDepth 20000 in
theorem ggL_law_L_areAlike_q2 : GoodIn wsL_law wsL_areAlike_r1 := goodIn_r _ [113, 114, 115, 2, 116, 13, 17, 21, 117, 118, 119, 12, 120, 36, 121, 122, 123, 16, 124, 125, 126, 127, 128, 87] (by decide +kernel) (by decide +kernel)
set_option maxRecDepth 20000 in
theorem ggL_law_L_areAlike_q3 : GoodIn wsL_law wsL_areAlike_r2 := goodIn_r _ [129, 130, 131, 132, 133, 32, 134, 135, 43, 136, 51, 137, 138, 139, 140, 141, 142, 143, 144, 42, 145, 146, 147, 148] (by decide +kernel) (by decide +kernel)
set_option maxRecDepth 20000 in
theorem ggL_law_L_areAlike_q4 : GoodIn wsL_law wsL_areAlike_r3 := goodIn_r _ [149, 150, 151, 152, 153, 154, 155, 156, 157, 158, 57, 159, 160, 161, 50, 162, 163, 164, 165, 166, 167, 52, 53, 168] (by decide +kernel) (by decide +kernel)
set_option maxRecDepth 20000 in
theorem ggL_law_L_areAlike_q5 : GoodIn wsL_law wsL_areAlike_r4 := goodIn_r _ [240, 241, 242, 243, 244, 245, 246, 247, 248, 249, 250, 251, 47, 252, 253, 254, 46, 255, 65, 256, 257, 258, 259, 260] (by decide +kernel) (by decide +kernel)
set_option maxRecDepth 20000 in
theorem ggL_law_L_areAlike_q6 : GoodIn wsL_law wsL_areAlike_r5 := goodIn_r _ [261, 262, 263, 264, 265, 64, 266, 267, 268, 269, 62, 270, 271, 272, 273, 66] (by decide +kernel) (by decide +kernel)
set_option maxRecDepth 20000 in
theorem ggL_law_L_areAlike_q7 : GoodIn wsL_law wsX90 := goodIn_r _ [469, 470, 471, 472] (by decide +kernel) (by decide +kernel)
set_option maxRecDepth 20000 in
theorem ggL_law_L_areAlike_q8 : GoodIn wsL_law wsX40 := goodIn_r _ [479, 480, 481, 482, 483, 484, 485, 486] (by decide +kernel) (by decide +kernel)
set_option maxRecDepth 20000 in
theorem ggL_law_L_areAlike_q9 : GoodIn wsL_law wsX60 := goodIn_r _ [473, 474, 475] (by decide +kernel) (by decide +kernel)
set_option maxRecDepth 20000 in
theorem ggL_law_L_areAlike_q10 : GoodIn wsL_law wsX20 := goodIn_r _ [476, 477, 478] (by decide +kernel) (by decide +kernel)
set_option maxRecDepth 20000 in
theorem ggL_law_L_areAlike_q11 : GoodIn wsL_law wsX70 := goodIn_r _ [510, 511, 512, 513, 514] (by decide +kernel) (by decide +kernel)
set_option maxRecDepth 20000 in
theorem ggL_law_L_areAlike_q12 : GoodIn wsL_law wsX80 := goodIn_r _ [488, 489, 490, 491, 492, 493, 494, 495, 496, 497, 498, 499, 500] (by decide +kernel) (by decide +kernel)
set_option maxRecDepth 20000 in
theorem ggL_law_L_areAlike_q13 : GoodIn wsL_law wsX50 := goodIn_r _ [501, 502] (by decide +kernel) (by decide +kernel)
set_option maxRecDepth 20000 in
theorem ggL_law_L_areAlike_q14 : GoodIn wsL_law wsX00 := goodIn_r _ [508, 509] (by decide +kernel) (by decide +kernel)
set_option maxRecDepth 20000 in
theorem ggL_law_L_areAlike_q15 : GoodIn wsL_law wsX30 := goodIn_r _ [503, 504, 505, 506, 507] (by decide +kernel) (by decide +kernel)
theorem ggL_law_L_areAlike : GoodIn wsL_law wsL_areAlike := (zk_gcons ggL_law_L_areAlike_q1 (goodIn_app (goodIn_app (goodIn_app (goodIn_app (goodIn_app (goodIn_app (goodIn_app (goodIn_app (goodIn_app (goodIn_app ggL_law_L_areAlike_q2 (goodIn_app ggL_law_L_areAlike_q3 (goodIn_app ggL_law_L_areAlike_q4 (goodIn_app ggL_law_L_areAlike_q5 ggL_law_L_areAlike_q6)))) ggL_law_L_areAlike_q7) ggL_law_L_areAlike_q8) ggL_law_L_areAlike_q9) ggL_law_L_areAlike_q10) ggL_law_L_areAlike_q11) ggL_law_L_areAlike_q12) ggL_law_L_areAlike_q13) ggL_law_L_areAlike_q14) ggL_law_L_areAlike_q15))
set_option maxRecDepth 20000 in
theorem gL_law_L_areAlike : GoodIn wsL_law (va_wsS RL 83 yL_areAlike wsL_areAlike) := goodIn_app (goodIn_of _ (by decide +kernel)) ggL_law_L_areAlike
set_option maxRecDepth 100000 in
theorem ggL_law_L_leastRoom_q1_s0 : GoodIn wsL_law ([Cond.code yL_leastRoom cL_leastRoom 6 (some .boolean)] : List Cond) := fun w h => by
  rw [List.mem_singleton.mp h]
  exact ⟨List.mem_of_getElem? (i := 444) rfl, Or.inl rfl⟩
theorem ggL_law_L_leastRoom_q1 : GoodIn wsL_law ([.code yL_leastRoom cL_leastRoom 6 (some .boolean)] : List Cond) := ggL_law_L_leastRoom_q1_s0
set_option maxRecDepth 20000 in
theorem ggL_law_L_leastRoom_q2 : GoodIn wsL_law wsL_leastRoom_r1 := goodIn_r _ [445, 446, 447, 2, 448, 25, 13, 449, 450, 451, 24, 452, 99, 374, 187, 188, 32, 189, 43, 47, 51, 135, 52, 53] (by decide +kernel) (by decide +kernel)
set_option maxRecDepth 20000 in
theorem ggL_law_L_leastRoom_q3 : GoodIn wsL_law wsL_leastRoom_r2 := goodIn_r _ [168, 136, 137, 138, 139, 140, 141, 190, 191, 192, 42, 193, 57, 194, 195, 196, 197, 146, 198, 199, 200, 46, 201, 62] (by decide +kernel) (by decide +kernel)
set_option maxRecDepth 20000 in
theorem ggL_law_L_leastRoom_q4 : GoodIn wsL_law wsL_leastRoom_r3 := goodIn_r _ [202, 63, 64, 65, 66, 203, 204, 205, 50, 206, 74, 207, 163, 453, 454, 455, 456, 375, 376, 377, 378, 379, 372, 238] (by decide +kernel) (by decide +kernel)
set_option maxRecDepth 20000 in
theorem ggL_law_L_leastRoom_q5 : GoodIn wsL_law wsL_leastRoom_r4 := goodIn_r _ [373, 380, 381, 382, 383, 348, 349, 350, 351, 356, 263, 264, 265, 357, 267, 268, 269, 297, 298, 299, 300, 261, 253, 254] (by decide +kernel) (by decide +kernel)
set_option maxRecDepth 20000 in
theorem ggL_law_L_leastRoom_q6 : GoodIn wsL_law wsL_leastRoom_r5 := goodIn_r _ [255, 270, 271, 272, 273, 296, 152, 153, 154, 155, 156, 157, 158, 317, 318, 319, 320, 287, 217, 218, 219, 256, 220, 221] (by decide +kernel) (by decide +kernel)
set_option maxRecDepth 20000 in
theorem ggL_law_L_leastRoom_q7 : GoodIn wsL_law wsL_leastRoom_r6 := goodIn_r _ [222, 223, 224, 225, 226, 227, 384, 385, 386, 387, 388, 389, 390, 391, 392, 393, 394, 395, 396, 397, 398, 399, 400, 401] (by decide +kernel) (by decide +kernel)
set_option maxRecDepth 20000 in
theorem ggL_law_L_leastRoom_q8 : GoodIn wsL_law wsL_leastRoom_r7 := goodIn_r _ [402, 403, 404, 405, 406, 407, 408, 314, 315, 316, 142, 143, 144, 145, 113, 114, 115, 116, 17, 21, 117, 118, 119, 12] (by decide +kernel) (by decide +kernel)
set_option maxRecDepth 20000 in
theorem ggL_law_L_leastRoom_q9 : GoodIn wsL_law wsL_leastRoom_r8 := goodIn_r _ [120, 36, 121, 122, 123, 16, 124, 125, 126, 127, 128, 87, 129, 130, 131, 132, 133, 134, 147, 148, 149, 150, 151, 159] (by decide +kernel) (by decide +kernel)
set_option maxRecDepth 20000 in
theorem ggL_law_L_leastRoom_q10 : GoodIn wsL_law wsL_leastRoom_r9 := goodIn_r _ [160, 161, 162, 164, 165, 166, 167, 301, 302, 303, 304, 173, 174, 175, 176, 177, 178, 179, 180, 181, 80, 182, 183, 184] (by decide +kernel) (by decide +kernel)
set_option maxRecDepth 20000 in
theorem ggL_law_L_leastRoom_q11 : GoodIn wsL_law wsL_leastRoom_r10 := goodIn_r _ [185, 33, 34, 186, 305, 306, 307, 308, 228, 229, 230, 231, 232, 233, 234, 235, 236, 237, 239, 363, 364, 365, 366, 367] (by decide +kernel) (by decide +kernel)
set_option maxRecDepth 20000 in
theorem ggL_law_L_leastRoom_q12 : GoodIn wsL_law wsL_leastRoom_r11 := goodIn_r _ [368, 369, 370, 371, 409, 410, 457, 458, 459, 460, 461, 462, 463, 464, 465, 466, 467, 468] (by decide +kernel) (by decide +kernel)
set_option maxRecDepth 20000 in
theorem ggL_law_L_leastRoom_q13 : GoodIn wsL_law wsX90 := goodIn_r _ [469, 470, 471, 472] (by decide +kernel) (by decide +kernel)
set_option maxRecDepth 20000 in
theorem ggL_law_L_leastRoom_q14 : GoodIn wsL_law wsX60 := goodIn_r _ [473, 474, 475] (by decide +kernel) (by decide +kernel)
set_option maxRecDepth 20000 in
theorem ggL_law_L_leastRoom_q15 : GoodIn wsL_law wsX10 := goodIn_r _ [487] (by decide +kernel) (by decide +kernel)
set_option maxRecDepth 20000 in
theorem ggL_law_L_leastRoom_q16 : GoodIn wsL_law wsX80 := goodIn_r _ [488, 489, 490, 491, 492, 493, 494, 495, 496, 497, 498, 499, 500] (by decide +kernel) (by decide +kernel)
set_option maxRecDepth 20000 in
theorem ggL_law_L_leastRoom_q17 : GoodIn wsL_law wsX50 := goodIn_r _ [501, 502] (by decide +kernel) (by decide +kernel)
set_option maxRecDepth 20000 in
theorem ggL_law_L_leastRoom_q18 : GoodIn wsL_law wsX30 := goodIn_r _ [503, 504, 505, 506, 507] (by decide +kernel) (by decide +kernel)
set_option maxRecDepth 20000 in
theorem ggL_law_L_leastRoom_q19 : GoodIn wsL_law wsX00 := goodIn_r _ [508, 509] (by decide +kernel) (by decide +kernel)
set_option maxRecDepth 20000 in
theorem ggL_law_L_leastRoom_q20 : GoodIn wsL_law wsX40 := goodIn_r _ [479, 480, 481, 482, 483, 484, 485, 486] (by decide +kernel) (by decide +kernel)
set_option maxRecDepth 20000 in
theorem ggL_law_L_leastRoom_q21 : GoodIn wsL_law wsX20 := goodIn_r _ [476, 477, 478] (by decide +kernel) (by decide +kernel)
set_option maxRecDepth 20000 in
theorem ggL_law_L_leastRoom_q22 : GoodIn wsL_law wsX70 := goodIn_r _ [510, 511, 512, 513, 514] (by decide +kernel) (by decide +kernel)
theorem ggL_law_L_leastRoom : GoodIn wsL_law wsL_leastRoom := (zk_gcons ggL_law_L_leastRoom_q1 (goodIn_app (goodIn_app (goodIn_app (goodIn_app (goodIn_app (goodIn_app (goodIn_app (goodIn_app (goodIn_app (goodIn_app (goodIn_app ggL_law_L_leastRoom_q2 (goodIn_app ggL_law_L_leastRoom_q3 (goodIn_app ggL_law_L_leastRoom_q4 (goodIn_app ggL_law_L_leastRoom_q5 (goodIn_app ggL_law_L_leastRoom_q6 (goodIn_app ggL_law_L_leastRoom_q7 (goodIn_app ggL_law_L_leastRoom_q8 (goodIn_app ggL_law_L_leastRoom_q9 (goodIn_app ggL_law_L_leastRoom_q10 (goodIn_app ggL_law_L_leastRoom_q11 ggL_law_L_leastRoom_q12)))))))))) ggL_law_L_leastRoom_q13) ggL_law_L_leastRoom_q14) ggL_law_L_leastRoom_q15) ggL_law_L_leastRoom_q16) ggL_law_L_leastRoom_q17) ggL_law_L_leastRoom_q18) ggL_law_L_leastRoom_q19) ggL_law_L_leastRoom_q20) ggL_law_L_leastRoom_q21) ggL_law_L_leastRoom_q22))
set_option maxRecDepth 20000 in
theorem gL_law_L_leastRoom : GoodIn wsL_law (va_wsS RL 87 yL_leastRoom wsL_leastRoom) := goodIn_app (goodIn_of _ (by decide +kernel)) ggL_law_L_leastRoom
theorem dL_law_0 : decode cL_law 0 = .ok (.new 11, 3) := by decide +kernel
theorem dL_law_3 : decode cL_law 3 = .ok (.dup, 1) := by decide +kernel
theorem dL_law_4 : decode cL_law 4 = .ok (.invokespecial 67, 3) := by decide +kernel
theorem dL_law_7 : decode cL_law 7 = .ok (.astore_n 1, 1) := by decide +kernel
theorem dL_law_8 : decode cL_law 8 = .ok (.new 11, 3) := by decide +kernel
theorem dL_law_11 : decode cL_law 11 = .ok (.dup, 1) := by decide +kernel
theorem dL_law_12 : decode cL_law 12 = .ok (.invokespecial 67, 3) := by decide +kernel
theorem dL_law_15 : decode cL_law 15 = .ok (.astore_n 2, 1) := by decide +kernel
theorem dL_law_16 : decode cL_law 16 = .ok (.bipush 40, 2) := by decide +kernel
theorem dL_law_18 : decode cL_law 18 = .ok (.newarray .int, 2) := by decide +kernel
theorem dL_law_20 : decode cL_law 20 = .ok (.astore_n 3, 1) := by decide +kernel
theorem dL_law_21 : decode cL_law 21 = .ok (.iconst 0, 1) := by decide +kernel
theorem dL_law_22 : decode cL_law 22 = .ok (.istore 4, 2) := by decide +kernel
theorem dL_law_24 : decode cL_law 24 = .ok (.iload 4, 2) := by decide +kernel
theorem dL_law_26 : decode cL_law 26 = .ok (.bipush 6, 2) := by decide +kernel
theorem dL_law_28 : decode cL_law 28 = .ok (.if_icmp .ge 170, 3) := by decide +kernel
theorem dL_law_31 : decode cL_law 31 = .ok (.iconst 1, 1) := by decide +kernel
theorem dL_law_32 : decode cL_law 32 = .ok (.aload_n 0, 1) := by decide +kernel
theorem dL_law_33 : decode cL_law 33 = .ok (.bipush 40, 2) := by decide +kernel
theorem dL_law_35 : decode cL_law 35 = .ok (.iload 4, 2) := by decide +kernel
theorem dL_law_37 : decode cL_law 37 = .ok (.iadd, 1) := by decide +kernel
theorem dL_law_38 : decode cL_law 38 = .ok (.invokestatic 68, 3) := by decide +kernel
theorem dL_law_41 : decode cL_law 41 = .ok (.bipush 7, 2) := by decide +kernel
theorem dL_law_43 : decode cL_law 43 = .ok (.invokestatic 16, 3) := by decide +kernel
theorem dL_law_46 : decode cL_law 46 = .ok (.iadd, 1) := by decide +kernel
theorem dL_law_47 : decode cL_law 47 = .ok (.istore 5, 2) := by decide +kernel
theorem dL_law_49 : decode cL_law 49 = .ok (.iconst 0, 1) := by decide +kernel
theorem dL_law_50 : decode cL_law 50 = .ok (.istore 6, 2) := by decide +kernel
theorem dL_law_52 : decode cL_law 52 = .ok (.iload 6, 2) := by decide +kernel
theorem dL_law_54 : decode cL_law 54 = .ok (.iload 5, 2) := by decide +kernel
theorem dL_law_56 : decode cL_law 56 = .ok (.if_icmp .ge 33, 3) := by decide +kernel
theorem dL_law_59 : decode cL_law 59 = .ok (.aload_n 1, 1) := by decide +kernel
theorem dL_law_60 : decode cL_law 60 = .ok (.aload_n 2, 1) := by decide +kernel
theorem dL_law_61 : decode cL_law 61 = .ok (.aload_n 0, 1) := by decide +kernel
theorem dL_law_62 : decode cL_law 62 = .ok (.bipush 6, 2) := by decide +kernel
theorem dL_law_64 : decode cL_law 64 = .ok (.iload 4, 2) := by decide +kernel
theorem dL_law_66 : decode cL_law 66 = .ok (.imul, 1) := by decide +kernel
theorem dL_law_67 : decode cL_law 67 = .ok (.iload 6, 2) := by decide +kernel
theorem dL_law_69 : decode cL_law 69 = .ok (.iadd, 1) := by decide +kernel
theorem dL_law_70 : decode cL_law 70 = .ok (.iconst 1, 1) := by decide +kernel
theorem dL_law_71 : decode cL_law 71 = .ok (.iadd, 1) := by decide +kernel
theorem dL_law_72 : decode cL_law 72 = .ok (.invokestatic 68, 3) := by decide +kernel
theorem dL_law_75 : decode cL_law 75 = .ok (.invokestatic 72, 3) := by decide +kernel
theorem dL_law_78 : decode cL_law 78 = .ok (.ifCond .ne 5, 3) := by decide +kernel
theorem dL_law_81 : decode cL_law 81 = .ok (.iconst 0, 1) := by decide +kernel
theorem dL_law_82 : decode cL_law 82 = .ok (.ireturn, 1) := by decide +kernel
theorem dL_law_83 : decode cL_law 83 = .ok (.iinc 6 1, 3) := by decide +kernel
theorem dL_law_86 : decode cL_law 86 = .ok (.goto (-34), 3) := by decide +kernel
theorem dL_law_89 : decode cL_law 89 = .ok (.aload_n 0, 1) := by decide +kernel
theorem dL_law_90 : decode cL_law 90 = .ok (.bipush 50, 2) := by decide +kernel
theorem dL_law_92 : decode cL_law 92 = .ok (.iload 4, 2) := by decide +kernel
theorem dL_law_94 : decode cL_law 94 = .ok (.iadd, 1) := by decide +kernel
theorem dL_law_95 : decode cL_law 95 = .ok (.invokestatic 68, 3) := by decide +kernel
theorem dL_law_98 : decode cL_law 98 = .ok (.istore 6, 2) := by decide +kernel
theorem dL_law_100 : decode cL_law 100 = .ok (.aload_n 1, 1) := by decide +kernel
theorem dL_law_101 : decode cL_law 101 = .ok (.invokestatic 76, 3) := by decide +kernel
theorem dL_law_104 : decode cL_law 104 = .ok (.ifCond .eq 53, 3) := by decide +kernel
theorem dL_law_107 : decode cL_law 107 = .ok (.aload_n 1, 1) := by decide +kernel
theorem dL_law_108 : decode cL_law 108 = .ok (.aload_n 2, 1) := by decide +kernel
theorem dL_law_109 : decode cL_law 109 = .ok (.iconst 1, 1) := by decide +kernel
theorem dL_law_110 : decode cL_law 110 = .ok (.iload 6, 2) := by decide +kernel
theorem dL_law_112 : decode cL_law 112 = .ok (.iload 6, 2) := by decide +kernel
theorem dL_law_114 : decode cL_law 114 = .ok (.bipush 10, 2) := by decide +kernel
theorem dL_law_116 : decode cL_law 116 = .ok (.ishr, 1) := by decide +kernel
theorem dL_law_117 : decode cL_law 117 = .ok (.iconst 2, 1) := by decide +kernel
theorem dL_law_118 : decode cL_law 118 = .ok (.invokestatic 16, 3) := by decide +kernel
theorem dL_law_121 : decode cL_law 121 = .ok (.ifCond .ne 8, 3) := by decide +kernel
theorem dL_law_124 : decode cL_law 124 = .ok (.bipush 10, 2) := by decide +kernel
theorem dL_law_126 : decode cL_law 126 = .ok (.goto 5, 3) := by decide +kernel
theorem dL_law_129 : decode cL_law 129 = .ok (.bipush 70, 2) := by decide +kernel
theorem dL_law_131 : decode cL_law 131 = .ok (.invokestatic 16, 3) := by decide +kernel
theorem dL_law_134 : decode cL_law 134 = .ok (.iadd, 1) := by decide +kernel
theorem dL_law_135 : decode cL_law 135 = .ok (.aload_n 3, 1) := by decide +kernel
theorem dL_law_136 : decode cL_law 136 = .ok (.invokestatic 80, 3) := by decide +kernel
theorem dL_law_139 : decode cL_law 139 = .ok (.ifCond .eq 18, 3) := by decide +kernel
theorem dL_law_142 : decode cL_law 142 = .ok (.aload_n 1, 1) := by decide +kernel
theorem dL_law_143 : decode cL_law 143 = .ok (.aload_n 2, 1) := by decide +kernel
theorem dL_law_144 : decode cL_law 144 = .ok (.invokestatic 83, 3) := by decide +kernel
theorem dL_law_147 : decode cL_law 147 = .ok (.ifCond .eq 10, 3) := by decide +kernel
theorem dL_law_150 : decode cL_law 150 = .ok (.aload_n 2, 1) := by decide +kernel
theorem dL_law_151 : decode cL_law 151 = .ok (.invokestatic 76, 3) := by decide +kernel
theorem dL_law_154 : decode cL_law 154 = .ok (.ifCond .ne 5, 3) := by decide +kernel
theorem dL_law_157 : decode cL_law 157 = .ok (.iconst 0, 1) := by decide +kernel
theorem dL_law_158 : decode cL_law 158 = .ok (.ireturn, 1) := by decide +kernel
theorem dL_law_159 : decode cL_law 159 = .ok (.iload 6, 2) := by decide +kernel
theorem dL_law_161 : decode cL_law 161 = .ok (.bipush 16, 2) := by decide +kernel
theorem dL_law_163 : decode cL_law 163 = .ok (.ishr, 1) := by decide +kernel
theorem dL_law_164 : decode cL_law 164 = .ok (.iconst 3, 1) := by decide +kernel
theorem dL_law_165 : decode cL_law 165 = .ok (.invokestatic 16, 3) := by decide +kernel
theorem dL_law_168 : decode cL_law 168 = .ok (.ifCond .ne 24, 3) := by decide +kernel
theorem dL_law_171 : decode cL_law 171 = .ok (.aload_n 1, 1) := by decide +kernel
theorem dL_law_172 : decode cL_law 172 = .ok (.iconst 1, 1) := by decide +kernel
theorem dL_law_173 : decode cL_law 173 = .ok (.iload 6, 2) := by decide +kernel
theorem dL_law_175 : decode cL_law 175 = .ok (.bipush 18, 2) := by decide +kernel
theorem dL_law_177 : decode cL_law 177 = .ok (.ishr, 1) := by decide +kernel
theorem dL_law_178 : decode cL_law 178 = .ok (.bipush 40, 2) := by decide +kernel
theorem dL_law_180 : decode cL_law 180 = .ok (.invokestatic 16, 3) := by decide +kernel
theorem dL_law_183 : decode cL_law 183 = .ok (.iadd, 1) := by decide +kernel
theorem dL_law_184 : decode cL_law 184 = .ok (.invokestatic 87, 3) := by decide +kernel
theorem dL_law_187 : decode cL_law 187 = .ok (.ifCond .ne 5, 3) := by decide +kernel
theorem dL_law_190 : decode cL_law 190 = .ok (.iconst 0, 1) := by decide +kernel
theorem dL_law_191 : decode cL_law 191 = .ok (.ireturn, 1) := by decide +kernel
theorem dL_law_192 : decode cL_law 192 = .ok (.iinc 4 1, 3) := by decide +kernel
theorem dL_law_195 : decode cL_law 195 = .ok (.goto (-171), 3) := by decide +kernel
theorem dL_law_198 : decode cL_law 198 = .ok (.aload_n 1, 1) := by decide +kernel
theorem dL_law_199 : decode cL_law 199 = .ok (.aload_n 2, 1) := by decide +kernel
theorem dL_law_200 : decode cL_law 200 = .ok (.invokestatic 83, 3) := by decide +kernel
theorem dL_law_203 : decode cL_law 203 = .ok (.ireturn, 1) := by decide +kernel
