set_option maxRecDepth 20000 in
theorem ggL_law_X9_init_q1 : GoodIn wsL_law ([.code yX9_init cX9_init 1 none] : List Cond) := goodIn_r _ [8] (by decide +kernel) (by decide +kernel)
set_option maxRecDepth 20000 in
theorem ggL_law_X9_init_q2 : GoodIn wsL_law wsX9_init_r1 := goodIn_r _ [9, 10, 11, 12, 13, 14, 15, 16, 17, 18, 19, 20, 21, 22, 23, 24, 25, 26, 27, 28, 29, 30, 31, 32] (by decide +kernel) (by decide +kernel)
set_option maxRecDepth 20000 in
theorem ggL_law_X9_init_q3 : GoodIn wsL_law wsX9_init_r2 := goodIn_r _ [33, 34, 35, 36, 37, 38, 39, 40, 41, 42, 43, 44, 45, 46, 47, 48, 49, 50, 51, 52, 53, 54, 55, 56] (by decide +kernel) (by decide +kernel)
set_option maxRecDepth 20000 in
theorem ggL_law_X9_init_q4 : GoodIn wsL_law wsX9_init_r3 := goodIn_r _ [57, 58, 59, 60, 61, 62, 63, 64, 65, 66, 67, 68, 69, 70, 71, 72, 73, 74, 75, 76, 77, 78, 79, 80] (by decide +kernel) (by decide +kernel)
set_option maxRecDepth 20000 in
theorem ggL_law_X9_init_q5 : GoodIn wsL_law wsX9_init_r4 := goodIn_r _ [81, 82, 83, 84, 85, 86, 87, 88, 89, 90, 91, 92, 93, 94, 95, 96, 97, 98, 99, 100, 101, 102] (by decide +kernel) (by decide +kernel)
set_option maxRecDepth 20000 in
theorem ggL_law_X9_init_q6 : GoodIn wsL_law wsX60 := goodIn_r _ [925, 926, 927] (by decide +kernel) (by decide +kernel)
set_option maxRecDepth 20000 in
theorem ggL_law_X9_init_q7 : GoodIn wsL_law wsX90 := goodIn_r _ [905, 906, 907, 908] (by decide +kernel) (by decide +kernel)
set_option maxRecDepth 20000 in
theorem ggL_law_X9_init_q8 : GoodIn wsL_law wsX20 := goodIn_r _ [928, 929, 930] (by decide +kernel) (by decide +kernel)
set_option maxRecDepth 20000 in
theorem ggL_law_X9_init_q9 : GoodIn wsL_law wsX40 := goodIn_r _ [931, 932, 933, 934, 935, 936, 937, 938] (by decide +kernel) (by decide +kernel)
set_option maxRecDepth 20000 in
theorem ggL_law_X9_init_q10 : GoodIn wsL_law wsX10 := goodIn_r _ [939] (by decide +kernel) (by decide +kernel)
set_option maxRecDepth 20000 in
theorem ggL_law_X9_init_q11 : GoodIn wsL_law wsX80 := goodIn_r _ [940, 941, 942, 943, 944, 945, 946, 947, 948, 949, 950, 951, 952] (by decide +kernel) (by decide +kernel)
set_option maxRecDepth 20000 in
theorem ggL_law_X9_init_q12 : GoodIn wsL_law wsX50 := goodIn_r _ [953, 954] (by decide +kernel) (by decide +kernel)
set_option maxRecDepth 20000 in
theorem ggL_law_X9_init_q13 : GoodIn wsL_law wsX30 := goodIn_r _ [955, 956, 957, 958, 959] (by decide +kernel) (by decide +kernel)
set_option maxRecDepth 20000 in
theorem ggL_law_X9_init_q14 : GoodIn wsL_law wsX00 := goodIn_r _ [960, 961] (by decide +kernel) (by decide +kernel)
set_option maxRecDepth 20000 in
theorem ggL_law_X9_init_q15 : GoodIn wsL_law wsX70 := goodIn_r _ [962, 963, 964, 965, 966] (by decide +kernel) (by decide +kernel)
theorem ggL_law_X9_init : GoodIn wsL_law wsX9_init := (zk_gcons ggL_law_X9_init_q1 (goodIn_app (goodIn_app (goodIn_app (goodIn_app (goodIn_app (goodIn_app (goodIn_app (goodIn_app (goodIn_app (goodIn_app (goodIn_app ggL_law_X9_init_q2 (goodIn_app ggL_law_X9_init_q3 (goodIn_app ggL_law_X9_init_q4 ggL_law_X9_init_q5))) ggL_law_X9_init_q6) ggL_law_X9_init_q7) ggL_law_X9_init_q8) ggL_law_X9_init_q9) ggL_law_X9_init_q10) ggL_law_X9_init_q11) ggL_law_X9_init_q12) ggL_law_X9_init_q13) ggL_law_X9_init_q14) ggL_law_X9_init_q15))
set_option maxRecDepth 20000 in
theorem gL_law_X9_init : GoodIn wsL_law (wsX9_init) := ggL_law_X9_init
set_option maxRecDepth 20000 in
theorem ggL_law_X10_init : GoodIn wsL_law wsX10_init := goodIn_r _ [105, 106, 10, 11, 59, 107, 108, 37, 109, 110, 111, 112, 113, 114, 115, 116, 117, 909, 910, 911, 912, 913, 914, 915, 916, 917, 918, 919, 920, 921, 922, 923, 924] (by decide +kernel) (by decide +kernel)
set_option maxRecDepth 20000 in
theorem gL_law_X10_init : GoodIn wsL_law (wsX10_init) := ggL_law_X10_init
set_option maxRecDepth 20000 in
theorem ggL_law_X9_give_q1 : GoodIn wsL_law ([.code yX9_give cX9_give 4 (some .int)] : List Cond) := goodIn_r _ [121] (by decide +kernel) (by decide +kernel)
set_option maxRecDepth 20000 in
theorem ggL_law_X9_give_q2 : GoodIn wsL_law wsX9_give_r1 := goodIn_r _ [19, 15, 122, 123, 124, 18, 125, 126, 127, 128, 129, 130, 83, 131, 132, 133, 14, 134, 35, 38, 36, 135, 136, 137] (by decide +kernel) (by decide +kernel)
set_option maxRecDepth 20000 in
theorem ggL_law_X9_give_q3 : GoodIn wsL_law wsX9_give_r2 := goodIn_r _ [34, 138, 45, 49, 53, 139, 54, 55, 140, 141, 142, 143, 144, 145, 146, 147, 148, 149, 44, 150, 60, 151, 152, 153] (by decide +kernel) (by decide +kernel)
set_option maxRecDepth 20000 in
theorem ggL_law_X9_give_q4 : GoodIn wsL_law wsX9_give_r3 := goodIn_r _ [154, 155, 156, 157, 158, 48, 159, 65, 160, 66, 67, 68, 69, 161, 162, 163, 52, 164, 77, 165, 166, 167, 168, 169] (by decide +kernel) (by decide +kernel)
set_option maxRecDepth 20000 in
theorem ggL_law_X9_give_q5 : GoodIn wsL_law wsX9_give_r4 := goodIn_r _ [170, 171, 172, 173, 174, 175, 176, 177, 178, 179, 180, 181, 182, 183, 184, 185, 186, 187, 188, 189, 190, 191, 192, 193] (by decide +kernel) (by decide +kernel)
set_option maxRecDepth 20000 in
theorem ggL_law_X9_give_q6 : GoodIn wsL_law wsX9_give_r5 := goodIn_r _ [2, 194, 195, 196, 197, 198, 199, 200, 201, 202, 203] (by decide +kernel) (by decide +kernel)
set_option maxRecDepth 20000 in
theorem ggL_law_X9_give_q7 : GoodIn wsL_law wsX90 := goodIn_r _ [905, 906, 907, 908] (by decide +kernel) (by decide +kernel)
set_option maxRecDepth 20000 in
theorem ggL_law_X9_give_q8 : GoodIn wsL_law wsX60 := goodIn_r _ [925, 926, 927] (by decide +kernel) (by decide +kernel)
set_option maxRecDepth 20000 in
theorem ggL_law_X9_give_q9 : GoodIn wsL_law wsX20 := goodIn_r _ [928, 929, 930] (by decide +kernel) (by decide +kernel)
set_option maxRecDepth 20000 in
theorem ggL_law_X9_give_q10 : GoodIn wsL_law wsX80 := goodIn_r _ [940, 941, 942, 943, 944, 945, 946, 947, 948, 949, 950, 951, 952] (by decide +kernel) (by decide +kernel)
set_option maxRecDepth 20000 in
theorem ggL_law_X9_give_q11 : GoodIn wsL_law wsX50 := goodIn_r _ [953, 954] (by decide +kernel) (by decide +kernel)
set_option maxRecDepth 20000 in
theorem ggL_law_X9_give_q12 : GoodIn wsL_law wsX30 := goodIn_r _ [955, 956, 957, 958, 959] (by decide +kernel) (by decide +kernel)
set_option maxRecDepth 20000 in
theorem ggL_law_X9_give_q13 : GoodIn wsL_law wsX00 := goodIn_r _ [960, 961] (by decide +kernel) (by decide +kernel)
theorem ggL_law_X9_give : GoodIn wsL_law wsX9_give := (zk_gcons ggL_law_X9_give_q1 (goodIn_app (goodIn_app (goodIn_app (goodIn_app (goodIn_app (goodIn_app (goodIn_app (goodIn_app ggL_law_X9_give_q2 (goodIn_app ggL_law_X9_give_q3 (goodIn_app ggL_law_X9_give_q4 (goodIn_app ggL_law_X9_give_q5 ggL_law_X9_give_q6)))) ggL_law_X9_give_q7) ggL_law_X9_give_q8) ggL_law_X9_give_q9) ggL_law_X9_give_q10) ggL_law_X9_give_q11) ggL_law_X9_give_q12) ggL_law_X9_give_q13))
set_option maxRecDepth 20000 in
theorem gL_law_X9_give : GoodIn wsL_law (wsV RL 13 RX9 yX9_give wsX9_give) := goodIn_app (goodIn_of _ (by decide +kernel)) ggL_law_X9_give
set_option maxRecDepth 20000 in
theorem ggL_law_X10_give_q1 : GoodIn wsL_law ([.code yX10_give cX10_give 6 (some .int)] : List Cond) := goodIn_r _ [207] (by decide +kernel) (by decide +kernel)
set_option maxRecDepth 20000 in
theorem ggL_law_X10_give_q2 : GoodIn wsL_law wsX10_give_r1 := goodIn_r _ [107, 208, 209, 210, 5, 211, 212, 213, 214, 215, 216, 217, 110, 111, 112, 108, 109, 218, 219, 220, 221, 222, 223, 224] (by decide +kernel) (by decide +kernel)
set_option maxRecDepth 20000 in
theorem ggL_law_X10_give_q3 : GoodIn wsL_law wsX10_give_r2 := goodIn_r _ [225] (by decide +kernel) (by decide +kernel)
set_option maxRecDepth 20000 in
theorem ggL_law_X10_give_q4 : GoodIn wsL_law wsX100 := goodIn_r _ [909, 910, 911, 912, 913, 914, 915, 916, 917, 918, 919, 920, 921, 922, 923, 924] (by decide +kernel) (by decide +kernel)
theorem ggL_law_X10_give : GoodIn wsL_law wsX10_give := (zk_gcons ggL_law_X10_give_q1 (goodIn_app (goodIn_app ggL_law_X10_give_q2 ggL_law_X10_give_q3) ggL_law_X10_give_q4))
set_option maxRecDepth 20000 in
theorem gL_law_X10_give : GoodIn wsL_law (wsV RL 17 RX10 yX10_give wsX10_give) := goodIn_app (goodIn_of _ (by decide +kernel)) ggL_law_X10_give
set_option maxRecDepth 20000 in
theorem ggL_law_X9_breakOff_q1 : GoodIn wsL_law ([.code yX9_breakOff cX9_breakOff 2 (some .int)] : List Cond) := goodIn_r _ [229] (by decide +kernel) (by decide +kernel)
set_option maxRecDepth 20000 in
theorem ggL_law_X9_breakOff_q2 : GoodIn wsL_law wsX9_breakOff_r1 := goodIn_r _ [19, 15, 122, 123, 124, 18, 125, 126, 127, 128, 129, 130, 83, 131, 132, 133, 14, 134, 35, 38, 36, 135, 136, 137] (by decide +kernel) (by decide +kernel)
set_option maxRecDepth 20000 in
theorem ggL_law_X9_breakOff_q3 : GoodIn wsL_law wsX9_breakOff_r2 := goodIn_r _ [34, 138, 45, 49, 53, 139, 54, 55, 140, 141, 142, 143, 144, 145, 146, 147, 148, 149, 44, 150, 60, 151, 152, 153] (by decide +kernel) (by decide +kernel)
set_option maxRecDepth 20000 in
theorem ggL_law_X9_breakOff_q4 : GoodIn wsL_law wsX9_breakOff_r3 := goodIn_r _ [154, 155, 156, 157, 158, 48, 159, 65, 160, 66, 67, 68, 69, 161, 162, 163, 52, 164, 77, 165, 166, 230, 231, 232] (by decide +kernel) (by decide +kernel)
set_option maxRecDepth 20000 in
theorem ggL_law_X9_breakOff_q5 : GoodIn wsL_law wsX9_breakOff_r4 := goodIn_r _ [233, 234, 235, 236, 237, 238, 239, 240, 241, 242, 243, 244, 245, 246, 180, 181, 182, 191, 192, 193, 2, 194, 195, 196] (by decide +kernel) (by decide +kernel)
set_option maxRecDepth 20000 in
theorem ggL_law_X9_breakOff_q6 : GoodIn wsL_law wsX9_breakOff_r5 := goodIn_r _ [197, 198, 199, 200, 201, 202, 203] (by decide +kernel) (by decide +kernel)
set_option maxRecDepth 20000 in
theorem ggL_law_X9_breakOff_q7 : GoodIn wsL_law wsX90 := goodIn_r _ [905, 906, 907, 908] (by decide +kernel) (by decide +kernel)
set_option maxRecDepth 20000 in
theorem ggL_law_X9_breakOff_q8 : GoodIn wsL_law wsX60 := goodIn_r _ [925, 926, 927] (by decide +kernel) (by decide +kernel)
set_option maxRecDepth 20000 in
theorem ggL_law_X9_breakOff_q9 : GoodIn wsL_law wsX20 := goodIn_r _ [928, 929, 930] (by decide +kernel) (by decide +kernel)
set_option maxRecDepth 20000 in
theorem ggL_law_X9_breakOff_q10 : GoodIn wsL_law wsX80 := goodIn_r _ [940, 941, 942, 943, 944, 945, 946, 947, 948, 949, 950, 951, 952] (by decide +kernel) (by decide +kernel)
set_option maxRecDepth 20000 in
theorem ggL_law_X9_breakOff_q11 : GoodIn wsL_law wsX50 := goodIn_r _ [953, 954] (by decide +kernel) (by decide +kernel)
set_option maxRecDepth 20000 in
theorem ggL_law_X9_breakOff_q12 : GoodIn wsL_law wsX30 := goodIn_r _ [955, 956, 957, 958, 959] (by decide +kernel) (by decide +kernel)
set_option maxRecDepth 20000 in
theorem ggL_law_X9_breakOff_q13 : GoodIn wsL_law wsX00 := goodIn_r _ [960, 961] (by decide +kernel) (by decide +kernel)
theorem ggL_law_X9_breakOff : GoodIn wsL_law wsX9_breakOff := (zk_gcons ggL_law_X9_breakOff_q1 (goodIn_app (goodIn_app (goodIn_app (goodIn_app (goodIn_app (goodIn_app (goodIn_app (goodIn_app ggL_law_X9_breakOff_q2 (goodIn_app ggL_law_X9_breakOff_q3 (goodIn_app ggL_law_X9_breakOff_q4 (goodIn_app ggL_law_X9_breakOff_q5 ggL_law_X9_breakOff_q6)))) ggL_law_X9_breakOff_q7) ggL_law_X9_breakOff_q8) ggL_law_X9_breakOff_q9) ggL_law_X9_breakOff_q10) ggL_law_X9_breakOff_q11) ggL_law_X9_breakOff_q12) ggL_law_X9_breakOff_q13))
set_option maxRecDepth 20000 in
theorem gL_law_X9_breakOff : GoodIn wsL_law (wsV RL 18 RX9 yX9_breakOff wsX9_breakOff) := goodIn_app (goodIn_of _ (by decide +kernel)) ggL_law_X9_breakOff
set_option maxRecDepth 20000 in
theorem ggL_law_X10_breakOff_q1 : GoodIn wsL_law ([.code yX10_breakOff cX10_breakOff 2 (some .int)] : List Cond) := goodIn_r _ [250] (by decide +kernel) (by decide +kernel)
set_option maxRecDepth 20000 in
theorem ggL_law_X10_breakOff_q2 : GoodIn wsL_law wsX10_breakOff_r1 := goodIn_r _ [107, 251, 252, 253, 5, 254, 208, 209, 210, 211, 212, 213, 214, 215, 216, 217, 110, 111, 112, 108, 109, 255, 256, 257] (by decide +kernel) (by decide +kernel)
set_option maxRecDepth 20000 in
theorem ggL_law_X10_breakOff_q3 : GoodIn wsL_law wsX10_breakOff_r2 := goodIn_r _ [258] (by decide +kernel) (by decide +kernel)
set_option maxRecDepth 20000 in
theorem ggL_law_X10_breakOff_q4 : GoodIn wsL_law wsX100 := goodIn_r _ [909, 910, 911, 912, 913, 914, 915, 916, 917, 918, 919, 920, 921, 922, 923, 924] (by decide +kernel) (by decide +kernel)
theorem ggL_law_X10_breakOff : GoodIn wsL_law wsX10_breakOff := (zk_gcons ggL_law_X10_breakOff_q1 (goodIn_app (goodIn_app ggL_law_X10_breakOff_q2 ggL_law_X10_breakOff_q3) ggL_law_X10_breakOff_q4))
set_option maxRecDepth 20000 in
theorem gL_law_X10_breakOff : GoodIn wsL_law (wsV RL 22 RX10 yX10_breakOff wsX10_breakOff) := goodIn_app (goodIn_of _ (by decide +kernel)) ggL_law_X10_breakOff
set_option maxRecDepth 20000 in
theorem ggL_law_X9_move_q1 : GoodIn wsL_law ([.code yX9_move cX9_move 3 (some .int)] : List Cond) := goodIn_r _ [262] (by decide +kernel) (by decide +kernel)
set_option maxRecDepth 20000 in
theorem ggL_law_X9_move_q2 : GoodIn wsL_law wsX9_move_r1 := goodIn_r _ [19, 15, 122, 123, 124, 18, 125, 126, 127, 128, 129, 130, 83, 131, 132, 133, 14, 134, 35, 38, 36, 135, 136, 137] (by decide +kernel) (by decide +kernel)
set_option maxRecDepth 20000 in
theorem ggL_law_X9_move_q3 : GoodIn wsL_law wsX9_move_r2 := goodIn_r _ [34, 138, 45, 49, 53, 139, 54, 55, 140, 141, 142, 143, 144, 145, 146, 147, 148, 149, 44, 150, 60, 151, 152, 153] (by decide +kernel) (by decide +kernel)
set_option maxRecDepth 20000 in
theorem ggL_law_X9_move_q4 : GoodIn wsL_law wsX9_move_r3 := goodIn_r _ [154, 155, 156, 157, 158, 48, 159, 65, 160, 66, 67, 68, 69, 161, 162, 163, 52, 164, 77, 165, 166, 263, 264, 265] (by decide +kernel) (by decide +kernel)
set_option maxRecDepth 20000 in
theorem ggL_law_X9_move_q5 : GoodIn wsL_law wsX9_move_r4 := goodIn_r _ [266, 234, 235, 236, 237, 267, 268, 269, 270, 242, 243, 244, 245, 271, 272, 273, 274, 275, 276, 277, 278, 279, 280, 281] (by decide +kernel) (by decide +kernel)
set_option maxRecDepth 20000 in
theorem ggL_law_X9_move_q6 : GoodIn wsL_law wsX9_move_r5 := goodIn_r _ [282, 283, 246, 180, 181, 182, 183, 184, 185, 186, 187, 188, 189, 190, 191, 192, 193, 2, 194, 195, 196, 197, 198, 199] (by decide +kernel) (by decide +kernel)
set_option maxRecDepth 20000 in
theorem ggL_law_X9_move_q7 : GoodIn wsL_law wsX9_move_r6 := goodIn_r _ [200, 201, 202, 203] (by decide +kernel) (by decide +kernel)
set_option maxRecDepth 20000 in
theorem ggL_law_X9_move_q8 : GoodIn wsL_law wsX90 := goodIn_r _ [905, 906, 907, 908] (by decide +kernel) (by decide +kernel)
set_option maxRecDepth 20000 in
theorem ggL_law_X9_move_q9 : GoodIn wsL_law wsX60 := goodIn_r _ [925, 926, 927] (by decide +kernel) (by decide +kernel)
set_option maxRecDepth 20000 in
theorem ggL_law_X9_move_q10 : GoodIn wsL_law wsX20 := goodIn_r _ [928, 929, 930] (by decide +kernel) (by decide +kernel)
set_option maxRecDepth 20000 in
theorem ggL_law_X9_move_q11 : GoodIn wsL_law wsX80 := goodIn_r _ [940, 941, 942, 943, 944, 945, 946, 947, 948, 949, 950, 951, 952] (by decide +kernel) (by decide +kernel)
set_option maxRecDepth 20000 in
theorem ggL_law_X9_move_q12 : GoodIn wsL_law wsX50 := goodIn_r _ [953, 954] (by decide +kernel) (by decide +kernel)
set_option maxRecDepth 20000 in
theorem ggL_law_X9_move_q13 : GoodIn wsL_law wsX30 := goodIn_r _ [955, 956, 957, 958, 959] (by decide +kernel) (by decide +kernel)
set_option maxRecDepth 20000 in
theorem ggL_law_X9_move_q14 : GoodIn wsL_law wsX00 := goodIn_r _ [960, 961] (by decide +kernel) (by decide +kernel)
theorem ggL_law_X9_move : GoodIn wsL_law wsX9_move := (zk_gcons ggL_law_X9_move_q1 (goodIn_app (goodIn_app (goodIn_app (goodIn_app (goodIn_app (goodIn_app (goodIn_app (goodIn_app ggL_law_X9_move_q2 (goodIn_app ggL_law_X9_move_q3 (goodIn_app ggL_law_X9_move_q4 (goodIn_app ggL_law_X9_move_q5 (goodIn_app ggL_law_X9_move_q6 ggL_law_X9_move_q7))))) ggL_law_X9_move_q8) ggL_law_X9_move_q9) ggL_law_X9_move_q10) ggL_law_X9_move_q11) ggL_law_X9_move_q12) ggL_law_X9_move_q13) ggL_law_X9_move_q14))
set_option maxRecDepth 20000 in
theorem gL_law_X9_move : GoodIn wsL_law (wsV RL 23 RX9 yX9_move wsX9_move) := goodIn_app (goodIn_of _ (by decide +kernel)) ggL_law_X9_move
set_option maxRecDepth 20000 in
theorem ggL_law_X10_move_q1 : GoodIn wsL_law ([.code yX10_move cX10_move 4 (some .int)] : List Cond) := goodIn_r _ [287] (by decide +kernel) (by decide +kernel)
set_option maxRecDepth 20000 in
theorem ggL_law_X10_move_q2 : GoodIn wsL_law wsX10_move_r1 := goodIn_r _ [107, 251, 252, 253, 5, 254, 208, 209, 210, 211, 212, 213, 214, 215, 216, 217, 110, 111, 112, 108, 109, 218, 219, 220] (by decide +kernel) (by decide +kernel)
set_option maxRecDepth 20000 in
theorem ggL_law_X10_move_q3 : GoodIn wsL_law wsX10_move_r2 := goodIn_r _ [221, 222, 223, 224, 225] (by decide +kernel) (by decide +kernel)
set_option maxRecDepth 20000 in
theorem ggL_law_X10_move_q4 : GoodIn wsL_law wsX100 := goodIn_r _ [909, 910, 911, 912, 913, 914, 915, 916, 917, 918, 919, 920, 921, 922, 923, 924] (by decide +kernel) (by decide +kernel)
theorem ggL_law_X10_move : GoodIn wsL_law wsX10_move := (zk_gcons ggL_law_X10_move_q1 (goodIn_app (goodIn_app ggL_law_X10_move_q2 ggL_law_X10_move_q3) ggL_law_X10_move_q4))
set_option maxRecDepth 20000 in
theorem gL_law_X10_move : GoodIn wsL_law (wsV RL 27 RX10 yX10_move wsX10_move) := goodIn_app (goodIn_of _ (by decide +kernel)) ggL_law_X10_move
set_option maxRecDepth 20000 in
theorem ggL_law_X9_pass_q1 : GoodIn wsL_law ([.code yX9_pass cX9_pass 2 (some .int)] : List Cond) := goodIn_r _ [291] (by decide +kernel) (by decide +kernel)
set_option maxRecDepth 20000 in
theorem ggL_law_X9_pass_q2 : GoodIn wsL_law wsX9_pass_r1 := goodIn_r _ [19, 15, 122, 123, 124, 18, 125, 126, 127, 128, 129, 130, 83, 131, 132, 133, 14, 134, 35, 38, 36, 135, 136, 137] (by decide +kernel) (by decide +kernel)
set_option maxRecDepth 20000 in
theorem ggL_law_X9_pass_q3 : GoodIn wsL_law wsX9_pass_r2 := goodIn_r _ [34, 138, 45, 49, 53, 139, 54, 55, 140, 141, 142, 143, 144, 145, 146, 147, 148, 149, 44, 150, 60, 151, 152, 153] (by decide +kernel) (by decide +kernel)
set_option maxRecDepth 20000 in
theorem ggL_law_X9_pass_q4 : GoodIn wsL_law wsX9_pass_r3 := goodIn_r _ [154, 155, 156, 157, 158, 48, 159, 65, 160, 66, 67, 68, 69, 161, 162, 163, 52, 164, 77, 165, 166, 292, 293, 294] (by decide +kernel) (by decide +kernel)
set_option maxRecDepth 20000 in
theorem ggL_law_X9_pass_q5 : GoodIn wsL_law wsX9_pass_r4 := goodIn_r _ [295, 296, 297, 298, 299, 300, 301, 302, 303, 304, 305, 202, 306, 307, 308, 309, 310, 311, 312, 313, 314, 315, 316, 317] (by decide +kernel) (by decide +kernel)
set_option maxRecDepth 20000 in
theorem ggL_law_X9_pass_q6 : GoodIn wsL_law wsX9_pass_r5 := goodIn_r _ [318, 319, 320, 321, 322, 272, 273, 274, 275, 276, 277, 278, 279, 280, 281, 282, 283, 267, 268, 269, 270, 242, 243, 244] (by decide +kernel) (by decide +kernel)
set_option maxRecDepth 20000 in
theorem ggL_law_X9_pass_q7 : GoodIn wsL_law wsX9_pass_r6 := goodIn_r _ [245, 323, 324, 325, 326, 246, 180, 181, 182, 271, 183, 184, 185, 186, 187, 188, 189, 190, 327, 328, 329, 330, 331, 332] (by decide +kernel) (by decide +kernel)
set_option maxRecDepth 20000 in
theorem ggL_law_X9_pass_q8 : GoodIn wsL_law wsX9_pass_r7 := goodIn_r _ [333, 334, 335, 336, 337, 338, 339, 340, 341, 342, 343, 344, 345, 346, 347, 348, 349, 350, 351, 352, 353, 354, 171, 172] (by decide +kernel) (by decide +kernel)
set_option maxRecDepth 20000 in
theorem ggL_law_X9_pass_q9 : GoodIn wsL_law wsX9_pass_r8 := goodIn_r _ [173, 174, 191, 192, 193, 2, 194, 195, 196, 197, 198, 199, 200, 201, 203] (by decide +kernel) (by decide +kernel)
set_option maxRecDepth 20000 in
theorem ggL_law_X9_pass_q10 : GoodIn wsL_law wsX90 := goodIn_r _ [905, 906, 907, 908] (by decide +kernel) (by decide +kernel)
set_option maxRecDepth 20000 in
theorem ggL_law_X9_pass_q11 : GoodIn wsL_law wsX60 := goodIn_r _ [925, 926, 927] (by decide +kernel) (by decide +kernel)
set_option maxRecDepth 20000 in
theorem ggL_law_X9_pass_q12 : GoodIn wsL_law wsX20 := goodIn_r _ [928, 929, 930] (by decide +kernel) (by decide +kernel)
set_option maxRecDepth 20000 in
theorem ggL_law_X9_pass_q13 : GoodIn wsL_law wsX80 := goodIn_r _ [940, 941, 942, 943, 944, 945, 946, 947, 948, 949, 950, 951, 952] (by decide +kernel) (by decide +kernel)
set_option maxRecDepth 20000 in
theorem ggL_law_X9_pass_q14 : GoodIn wsL_law wsX50 := goodIn_r _ [953, 954] (by decide +kernel) (by decide +kernel)
set_option maxRecDepth 20000 in
theorem ggL_law_X9_pass_q15 : GoodIn wsL_law wsX30 := goodIn_r _ [955, 956, 957, 958, 959] (by decide +kernel) (by decide +kernel)
set_option maxRecDepth 20000 in
theorem ggL_law_X9_pass_q16 : GoodIn wsL_law wsX00 := goodIn_r _ [960, 961] (by decide +kernel) (by decide +kernel)
theorem ggL_law_X9_pass : GoodIn wsL_law wsX9_pass := (zk_gcons ggL_law_X9_pass_q1 (goodIn_app (goodIn_app (goodIn_app (goodIn_app (goodIn_app (goodIn_app (goodIn_app (goodIn_app ggL_law_X9_pass_q2 (goodIn_app ggL_law_X9_pass_q3 (goodIn_app ggL_law_X9_pass_q4 (goodIn_app ggL_law_X9_pass_q5 (goodIn_app ggL_law_X9_pass_q6 (goodIn_app ggL_law_X9_pass_q7 (goodIn_app ggL_law_X9_pass_q8 ggL_law_X9_pass_q9))))))) ggL_law_X9_pass_q10) ggL_law_X9_pass_q11) ggL_law_X9_pass_q12) ggL_law_X9_pass_q13) ggL_law_X9_pass_q14) ggL_law_X9_pass_q15) ggL_law_X9_pass_q16))
set_option maxRecDepth 20000 in
theorem gL_law_X9_pass : GoodIn wsL_law (wsV RL 28 RX9 yX9_pass wsX9_pass) := goodIn_app (goodIn_of _ (by decide +kernel)) ggL_law_X9_pass
set_option maxRecDepth 20000 in
theorem ggL_law_X10_pass_q1 : GoodIn wsL_law ([.code yX10_pass cX10_pass 4 (some .int)] : List Cond) := goodIn_r _ [358] (by decide +kernel) (by decide +kernel)
set_option maxRecDepth 20000 in
theorem ggL_law_X10_pass_q2 : GoodIn wsL_law wsX10_pass_r1 := goodIn_r _ [107, 208, 209, 210, 5, 211, 212, 213, 214, 215, 216, 217, 110, 111, 112, 108, 109, 359, 360, 361, 362, 363, 364, 365] (by decide +kernel) (by decide +kernel)
set_option maxRecDepth 20000 in
theorem ggL_law_X10_pass_q3 : GoodIn wsL_law wsX10_pass_r2 := goodIn_r _ [366, 367, 368, 369, 370, 371, 372, 373, 374, 375, 376, 377, 378, 218, 219, 220, 221, 222, 223, 224, 225, 379, 380, 381] (by decide +kernel) (by decide +kernel)
set_option maxRecDepth 20000 in
theorem ggL_law_X10_pass_q4 : GoodIn wsL_law wsX10_pass_r3 := goodIn_r _ [382, 383, 384, 385, 386, 387, 388, 389, 390, 391, 392, 393, 394, 255, 256, 257, 258, 395, 396, 397, 398] (by decide +kernel) (by decide +kernel)
set_option maxRecDepth 20000 in
theorem ggL_law_X10_pass_q5 : GoodIn wsL_law wsX100 := goodIn_r _ [909, 910, 911, 912, 913, 914, 915, 916, 917, 918, 919, 920, 921, 922, 923, 924] (by decide +kernel) (by decide +kernel)
theorem ggL_law_X10_pass : GoodIn wsL_law wsX10_pass := (zk_gcons ggL_law_X10_pass_q1 (goodIn_app (goodIn_app ggL_law_X10_pass_q2 (goodIn_app ggL_law_X10_pass_q3 ggL_law_X10_pass_q4)) ggL_law_X10_pass_q5))
set_option maxRecDepth 20000 in
theorem gL_law_X10_pass : GoodIn wsL_law (wsV RL 31 RX10 yX10_pass wsX10_pass) := goodIn_app (goodIn_of _ (by decide +kernel)) ggL_law_X10_pass
set_option maxRecDepth 20000 in
theorem ggL_law_X9_sweep_q1 : GoodIn wsL_law ([.code yX9_sweep cX9_sweep 1 (some .int)] : List Cond) := goodIn_r _ [402] (by decide +kernel) (by decide +kernel)
set_option maxRecDepth 20000 in
theorem ggL_law_X9_sweep_q2 : GoodIn wsL_law wsX9_sweep_r1 := goodIn_r _ [19, 15, 122, 123, 124, 18, 125, 126, 127, 128, 129, 130, 83, 131, 132, 133, 14, 134, 35, 38, 36, 135, 136, 137] (by decide +kernel) (by decide +kernel)
set_option maxRecDepth 20000 in
theorem ggL_law_X9_sweep_q3 : GoodIn wsL_law wsX9_sweep_r2 := goodIn_r _ [34, 138, 45, 49, 53, 139, 54, 55, 140, 141, 142, 143, 144, 145, 146, 147, 148, 149, 44, 150, 60, 151, 152, 153] (by decide +kernel) (by decide +kernel)
set_option maxRecDepth 20000 in
theorem ggL_law_X9_sweep_q4 : GoodIn wsL_law wsX9_sweep_r3 := goodIn_r _ [154, 155, 156, 157, 158, 48, 159, 65, 160, 66, 67, 68, 69, 161, 162, 163, 52, 164, 77, 165, 166, 403, 352, 353] (by decide +kernel) (by decide +kernel)
set_option maxRecDepth 20000 in
theorem ggL_law_X9_sweep_q5 : GoodIn wsL_law wsX9_sweep_r4 := goodIn_r _ [354, 171, 172, 173, 174, 267, 268, 269, 270, 242, 243, 244, 245, 272, 273, 274, 275, 276, 277, 278, 279, 280, 281, 282] (by decide +kernel) (by decide +kernel)
set_option maxRecDepth 20000 in
theorem ggL_law_X9_sweep_q6 : GoodIn wsL_law wsX9_sweep_r5 := goodIn_r _ [283, 323, 324, 325, 326, 246, 180, 181, 182, 191, 192, 193, 2, 194, 195, 196, 197, 198, 199, 200, 201, 202, 203] (by decide +kernel) (by decide +kernel)
set_option maxRecDepth 20000 in
theorem ggL_law_X9_sweep_q7 : GoodIn wsL_law wsX90 := goodIn_r _ [905, 906, 907, 908] (by decide +kernel) (by decide +kernel)
set_option maxRecDepth 20000 in
theorem ggL_law_X9_sweep_q8 : GoodIn wsL_law wsX60 := goodIn_r _ [925, 926, 927] (by decide +kernel) (by decide +kernel)
set_option maxRecDepth 20000 in
theorem ggL_law_X9_sweep_q9 : GoodIn wsL_law wsX20 := goodIn_r _ [928, 929, 930] (by decide +kernel) (by decide +kernel)
set_option maxRecDepth 20000 in
theorem ggL_law_X9_sweep_q10 : GoodIn wsL_law wsX80 := goodIn_r _ [940, 941, 942, 943, 944, 945, 946, 947, 948, 949, 950, 951, 952] (by decide +kernel) (by decide +kernel)
set_option maxRecDepth 20000 in
theorem ggL_law_X9_sweep_q11 : GoodIn wsL_law wsX50 := goodIn_r _ [953, 954] (by decide +kernel) (by decide +kernel)
set_option maxRecDepth 20000 in
theorem ggL_law_X9_sweep_q12 : GoodIn wsL_law wsX30 := goodIn_r _ [955, 956, 957, 958, 959] (by decide +kernel) (by decide +kernel)
set_option maxRecDepth 20000 in
theorem ggL_law_X9_sweep_q13 : GoodIn wsL_law wsX00 := goodIn_r _ [960, 961] (by decide +kernel) (by decide +kernel)
theorem ggL_law_X9_sweep : GoodIn wsL_law wsX9_sweep := (zk_gcons ggL_law_X9_sweep_q1 (goodIn_app (goodIn_app (goodIn_app (goodIn_app (goodIn_app (goodIn_app (goodIn_app (goodIn_app ggL_law_X9_sweep_q2 (goodIn_app ggL_law_X9_sweep_q3 (goodIn_app ggL_law_X9_sweep_q4 (goodIn_app ggL_law_X9_sweep_q5 ggL_law_X9_sweep_q6)))) ggL_law_X9_sweep_q7) ggL_law_X9_sweep_q8) ggL_law_X9_sweep_q9) ggL_law_X9_sweep_q10) ggL_law_X9_sweep_q11) ggL_law_X9_sweep_q12) ggL_law_X9_sweep_q13))
set_option maxRecDepth 20000 in
theorem gL_law_X9_sweep : GoodIn wsL_law (wsV RL 32 RX9 yX9_sweep wsX9_sweep) := goodIn_app (goodIn_of _ (by decide +kernel)) ggL_law_X9_sweep
set_option maxRecDepth 20000 in
theorem ggL_law_X10_sweep_q1 : GoodIn wsL_law ([.code yX10_sweep cX10_sweep 1 (some .int)] : List Cond) := goodIn_r _ [407] (by decide +kernel) (by decide +kernel)
set_option maxRecDepth 20000 in
theorem ggL_law_X10_sweep_q2 : GoodIn wsL_law wsX10_sweep_r1 := goodIn_r _ [208, 209, 210, 5, 211, 212, 213, 214, 215, 216, 217, 110, 111, 112, 107, 108, 109, 395, 396, 397, 398, 375, 376, 377] (by decide +kernel) (by decide +kernel)
set_option maxRecDepth 20000 in
theorem ggL_law_X10_sweep_q3 : GoodIn wsL_law wsX10_sweep_r2 := goodIn_r _ [378] (by decide +kernel) (by decide +kernel)
set_option maxRecDepth 20000 in
theorem ggL_law_X10_sweep_q4 : GoodIn wsL_law wsX100 := goodIn_r _ [909, 910, 911, 912, 913, 914, 915, 916, 917, 918, 919, 920, 921, 922, 923, 924] (by decide +kernel) (by decide +kernel)
theorem ggL_law_X10_sweep : GoodIn wsL_law wsX10_sweep := (zk_gcons ggL_law_X10_sweep_q1 (goodIn_app (goodIn_app ggL_law_X10_sweep_q2 ggL_law_X10_sweep_q3) ggL_law_X10_sweep_q4))
set_option maxRecDepth 20000 in
theorem gL_law_X10_sweep : GoodIn wsL_law (wsV RL 36 RX10 yX10_sweep wsX10_sweep) := goodIn_app (goodIn_of _ (by decide +kernel)) ggL_law_X10_sweep
set_option maxRecDepth 20000 in
theorem ggL_law_X9_set_q1 : GoodIn wsL_law ([.code yX9_set cX9_set 3 (some .int)] : List Cond) := goodIn_r _ [411] (by decide +kernel) (by decide +kernel)
set_option maxRecDepth 20000 in
theorem ggL_law_X9_set_q2 : GoodIn wsL_law wsX9_set_r1 := goodIn_r _ [19, 15, 122, 123, 124, 18, 125, 126, 127, 128, 129, 130, 83, 131, 132, 133, 14, 134, 35, 38, 36, 135, 136, 137] (by decide +kernel) (by decide +kernel)
set_option maxRecDepth 20000 in
theorem ggL_law_X9_set_q3 : GoodIn wsL_law wsX9_set_r2 := goodIn_r _ [34, 138, 45, 49, 53, 139, 54, 55, 140, 141, 142, 143, 144, 145, 146, 147, 148, 149, 44, 150, 60, 151, 152, 153] (by decide +kernel) (by decide +kernel)
set_option maxRecDepth 20000 in
theorem ggL_law_X9_set_q4 : GoodIn wsL_law wsX9_set_r3 := goodIn_r _ [154, 155, 156, 157, 158, 48, 159, 65, 160, 66, 67, 68, 69, 161, 162, 163, 52, 164, 77, 165, 166, 412, 413, 414] (by decide +kernel) (by decide +kernel)
set_option maxRecDepth 20000 in
theorem ggL_law_X9_set_q5 : GoodIn wsL_law wsX9_set_r4 := goodIn_r _ [415, 416, 417, 418, 419, 191, 192, 193, 2, 194, 195, 196, 197, 198, 199, 200, 201, 202, 203] (by decide +kernel) (by decide +kernel)
set_option maxRecDepth 20000 in
theorem ggL_law_X9_set_q6 : GoodIn wsL_law wsX90 := goodIn_r _ [905, 906, 907, 908] (by decide +kernel) (by decide +kernel)
set_option maxRecDepth 20000 in
theorem ggL_law_X9_set_q7 : GoodIn wsL_law wsX60 := goodIn_r _ [925, 926, 927] (by decide +kernel) (by decide +kernel)
set_option maxRecDepth 20000 in
theorem ggL_law_X9_set_q8 : GoodIn wsL_law wsX20 := goodIn_r _ [928, 929, 930] (by decide +kernel) (by decide +kernel)
set_option maxRecDepth 20000 in
theorem ggL_law_X9_set_q9 : GoodIn wsL_law wsX80 := goodIn_r _ [940, 941, 942, 943, 944, 945, 946, 947, 948, 949, 950, 951, 952] (by decide +kernel) (by decide +kernel)
set_option maxRecDepth 20000 in
theorem ggL_law_X9_set_q10 : GoodIn wsL_law wsX50 := goodIn_r _ [953, 954] (by decide +kernel) (by decide +kernel)
set_option maxRecDepth 20000 in
theorem ggL_law_X9_set_q11 : GoodIn wsL_law wsX30 := goodIn_r _ [955, 956, 957, 958, 959] (by decide +kernel) (by decide +kernel)
set_option maxRecDepth 20000 in
theorem ggL_law_X9_set_q12 : GoodIn wsL_law wsX00 := goodIn_r _ [960, 961] (by decide +kernel) (by decide +kernel)
theorem ggL_law_X9_set : GoodIn wsL_law wsX9_set := (zk_gcons ggL_law_X9_set_q1 (goodIn_app (goodIn_app (goodIn_app (goodIn_app (goodIn_app (goodIn_app (goodIn_app (goodIn_app ggL_law_X9_set_q2 (goodIn_app ggL_law_X9_set_q3 (goodIn_app ggL_law_X9_set_q4 ggL_law_X9_set_q5))) ggL_law_X9_set_q6) ggL_law_X9_set_q7) ggL_law_X9_set_q8) ggL_law_X9_set_q9) ggL_law_X9_set_q10) ggL_law_X9_set_q11) ggL_law_X9_set_q12))
set_option maxRecDepth 20000 in
theorem gL_law_X9_set : GoodIn wsL_law (wsV RL 37 RX9 yX9_set wsX9_set) := goodIn_app (goodIn_of _ (by decide +kernel)) ggL_law_X9_set
set_option maxRecDepth 20000 in
theorem ggL_law_X10_set : GoodIn wsL_law wsX10_set := goodIn_r _ [423, 107, 208, 209, 210, 5, 211, 212, 213, 214, 215, 216, 217, 110, 111, 112, 108, 109, 909, 910, 911, 912, 913, 914, 915, 916, 917, 918, 919, 920, 921, 922, 923, 924] (by decide +kernel) (by decide +kernel)
set_option maxRecDepth 20000 in
theorem gL_law_X10_set : GoodIn wsL_law (wsV RL 40 RX10 yX10_set wsX10_set) := goodIn_app (goodIn_of _ (by decide +kernel)) ggL_law_X10_set
set_option maxRecDepth 20000 in
theorem ggL_law_X9_take_q1 : GoodIn wsL_law ([.code yX9_take cX9_take 2 (some .int)] : List Cond) := goodIn_r _ [427] (by decide +kernel) (by decide +kernel)
set_option maxRecDepth 20000 in
theorem ggL_law_X9_take_q2 : GoodIn wsL_law wsX9_take_r1 := goodIn_r _ [19, 15, 122, 123, 124, 18, 125, 126, 127, 128, 129, 130, 83, 131, 132, 133, 14, 134, 35, 38, 36, 135, 136, 137] (by decide +kernel) (by decide +kernel)
set_option maxRecDepth 20000 in
theorem ggL_law_X9_take_q3 : GoodIn wsL_law wsX9_take_r2 := goodIn_r _ [34, 138, 45, 49, 53, 139, 54, 55, 140, 141, 142, 143, 144, 145, 146, 147, 148, 149, 44, 150, 60, 151, 152, 153] (by decide +kernel) (by decide +kernel)
set_option maxRecDepth 20000 in
theorem ggL_law_X9_take_q4 : GoodIn wsL_law wsX9_take_r3 := goodIn_r _ [154, 155, 156, 157, 158, 48, 159, 65, 160, 66, 67, 68, 69, 161, 162, 163, 52, 164, 77, 165, 166, 428, 429, 430] (by decide +kernel) (by decide +kernel)
set_option maxRecDepth 20000 in
theorem ggL_law_X9_take_q5 : GoodIn wsL_law wsX9_take_r4 := goodIn_r _ [431, 191, 192, 193, 2, 194, 195, 196, 197, 198, 199, 200, 201, 202, 203] (by decide +kernel) (by decide +kernel)
set_option maxRecDepth 20000 in
theorem ggL_law_X9_take_q6 : GoodIn wsL_law wsX90 := goodIn_r _ [905, 906, 907, 908] (by decide +kernel) (by decide +kernel)
set_option maxRecDepth 20000 in
theorem ggL_law_X9_take_q7 : GoodIn wsL_law wsX20 := goodIn_r _ [928, 929, 930] (by decide +kernel) (by decide +kernel)
set_option maxRecDepth 20000 in
theorem ggL_law_X9_take_q8 : GoodIn wsL_law wsX60 := goodIn_r _ [925, 926, 927] (by decide +kernel) (by decide +kernel)
set_option maxRecDepth 20000 in
theorem ggL_law_X9_take_q9 : GoodIn wsL_law wsX80 := goodIn_r _ [940, 941, 942, 943, 944, 945, 946, 947, 948, 949, 950, 951, 952] (by decide +kernel) (by decide +kernel)
set_option maxRecDepth 20000 in
theorem ggL_law_X9_take_q10 : GoodIn wsL_law wsX50 := goodIn_r _ [953, 954] (by decide +kernel) (by decide +kernel)
set_option maxRecDepth 20000 in
theorem ggL_law_X9_take_q11 : GoodIn wsL_law wsX30 := goodIn_r _ [955, 956, 957, 958, 959] (by decide +kernel) (by decide +kernel)
set_option maxRecDepth 20000 in
theorem ggL_law_X9_take_q12 : GoodIn wsL_law wsX00 := goodIn_r _ [960, 961] (by decide +kernel) (by decide +kernel)
theorem ggL_law_X9_take : GoodIn wsL_law wsX9_take := (zk_gcons ggL_law_X9_take_q1 (goodIn_app (goodIn_app (goodIn_app (goodIn_app (goodIn_app (goodIn_app (goodIn_app (goodIn_app ggL_law_X9_take_q2 (goodIn_app ggL_law_X9_take_q3 (goodIn_app ggL_law_X9_take_q4 ggL_law_X9_take_q5))) ggL_law_X9_take_q6) ggL_law_X9_take_q7) ggL_law_X9_take_q8) ggL_law_X9_take_q9) ggL_law_X9_take_q10) ggL_law_X9_take_q11) ggL_law_X9_take_q12))
set_option maxRecDepth 20000 in
theorem gL_law_X9_take : GoodIn wsL_law (wsV RL 41 RX9 yX9_take wsX9_take) := goodIn_app (goodIn_of _ (by decide +kernel)) ggL_law_X9_take
set_option maxRecDepth 20000 in
theorem ggL_law_X10_take : GoodIn wsL_law wsX10_take := goodIn_r _ [435, 109, 108, 107, 208, 209, 210, 5, 211, 212, 213, 214, 215, 216, 217, 110, 111, 112, 909, 910, 911, 912, 913, 914, 915, 916, 917, 918, 919, 920, 921, 922, 923, 924] (by decide +kernel) (by decide +kernel)
set_option maxRecDepth 20000 in
theorem gL_law_X10_take : GoodIn wsL_law (wsV RL 44 RX10 yX10_take wsX10_take) := goodIn_app (goodIn_of _ (by decide +kernel)) ggL_law_X10_take
set_option maxRecDepth 20000 in
theorem ggL_law_X9_restore_q1 : GoodIn wsL_law ([.code yX9_restore cX9_restore 2 (some .int)] : List Cond) := goodIn_r _ [439] (by decide +kernel) (by decide +kernel)
set_option maxRecDepth 20000 in
theorem ggL_law_X9_restore_q2 : GoodIn wsL_law wsX9_restore_r1 := goodIn_r _ [19, 15, 122, 123, 124, 18, 125, 126, 127, 128, 129, 130, 83, 131, 132, 133, 14, 134, 35, 38, 36, 135, 136, 137] (by decide +kernel) (by decide +kernel)
set_option maxRecDepth 20000 in
theorem ggL_law_X9_restore_q3 : GoodIn wsL_law wsX9_restore_r2 := goodIn_r _ [34, 138, 45, 49, 53, 139, 54, 55, 140, 141, 142, 143, 144, 145, 146, 147, 148, 149, 44, 150, 60, 151, 152, 153] (by decide +kernel) (by decide +kernel)
set_option maxRecDepth 20000 in
theorem ggL_law_X9_restore_q4 : GoodIn wsL_law wsX9_restore_r3 := goodIn_r _ [154, 155, 156, 157, 158, 48, 159, 65, 160, 66, 67, 68, 69, 161, 162, 163, 52, 164, 77, 165, 166, 440, 441, 442] (by decide +kernel) (by decide +kernel)
set_option maxRecDepth 20000 in
theorem ggL_law_X9_restore_q5 : GoodIn wsL_law wsX9_restore_r4 := goodIn_r _ [443, 191, 192, 193, 2, 194, 195, 196, 197, 198, 199, 200, 201, 202, 203] (by decide +kernel) (by decide +kernel)
set_option maxRecDepth 20000 in
theorem ggL_law_X9_restore_q6 : GoodIn wsL_law wsX90 := goodIn_r _ [905, 906, 907, 908] (by decide +kernel) (by decide +kernel)
set_option maxRecDepth 20000 in
theorem ggL_law_X9_restore_q7 : GoodIn wsL_law wsX20 := goodIn_r _ [928, 929, 930] (by decide +kernel) (by decide +kernel)
set_option maxRecDepth 20000 in
theorem ggL_law_X9_restore_q8 : GoodIn wsL_law wsX60 := goodIn_r _ [925, 926, 927] (by decide +kernel) (by decide +kernel)
set_option maxRecDepth 20000 in
theorem ggL_law_X9_restore_q9 : GoodIn wsL_law wsX80 := goodIn_r _ [940, 941, 942, 943, 944, 945, 946, 947, 948, 949, 950, 951, 952] (by decide +kernel) (by decide +kernel)
set_option maxRecDepth 20000 in
theorem ggL_law_X9_restore_q10 : GoodIn wsL_law wsX50 := goodIn_r _ [953, 954] (by decide +kernel) (by decide +kernel)
set_option maxRecDepth 20000 in
theorem ggL_law_X9_restore_q11 : GoodIn wsL_law wsX30 := goodIn_r _ [955, 956, 957, 958, 959] (by decide +kernel) (by decide +kernel)
set_option maxRecDepth 20000 in
theorem ggL_law_X9_restore_q12 : GoodIn wsL_law wsX00 := goodIn_r _ [960, 961] (by decide +kernel) (by decide +kernel)
theorem ggL_law_X9_restore : GoodIn wsL_law wsX9_restore := (zk_gcons ggL_law_X9_restore_q1 (goodIn_app (goodIn_app (goodIn_app (goodIn_app (goodIn_app (goodIn_app (goodIn_app (goodIn_app ggL_law_X9_restore_q2 (goodIn_app ggL_law_X9_restore_q3 (goodIn_app ggL_law_X9_restore_q4 ggL_law_X9_restore_q5))) ggL_law_X9_restore_q6) ggL_law_X9_restore_q7) ggL_law_X9_restore_q8) ggL_law_X9_restore_q9) ggL_law_X9_restore_q10) ggL_law_X9_restore_q11) ggL_law_X9_restore_q12))
set_option maxRecDepth 20000 in
theorem gL_law_X9_restore : GoodIn wsL_law (wsV RL 45 RX9 yX9_restore wsX9_restore) := goodIn_app (goodIn_of _ (by decide +kernel)) ggL_law_X9_restore
set_option maxRecDepth 20000 in
theorem ggL_law_X10_restore : GoodIn wsL_law wsX10_restore := goodIn_r _ [447, 109, 107, 108, 208, 209, 210, 5, 211, 212, 213, 214, 215, 216, 217, 110, 111, 112, 909, 910, 911, 912, 913, 914, 915, 916, 917, 918, 919, 920, 921, 922, 923, 924] (by decide +kernel) (by decide +kernel)
set_option maxRecDepth 20000 in
theorem gL_law_X10_restore : GoodIn wsL_law (wsV RL 48 RX10 yX10_restore wsX10_restore) := goodIn_app (goodIn_of _ (by decide +kernel)) ggL_law_X10_restore
set_option maxRecDepth 20000 in
theorem ggL_law_X9_undo_q1 : GoodIn wsL_law ([.code yX9_undo cX9_undo 1 (some .int)] : List Cond) := goodIn_r _ [451] (by decide +kernel) (by decide +kernel)
set_option maxRecDepth 20000 in
theorem ggL_law_X9_undo_q2 : GoodIn wsL_law wsX9_undo_r1 := goodIn_r _ [19, 15, 452, 453, 454, 18, 455, 199, 126, 456, 457, 458, 459, 127, 128, 129, 130, 83, 131, 132, 133, 14, 134, 35] (by decide +kernel) (by decide +kernel)
set_option maxRecDepth 20000 in
theorem ggL_law_X9_undo_q3 : GoodIn wsL_law wsX9_undo_r2 := goodIn_r _ [38, 36, 135, 136, 137, 34, 138, 45, 49, 53, 139, 54, 55, 140, 141, 142, 143, 144, 145, 146, 147, 148, 149, 44] (by decide +kernel) (by decide +kernel)
set_option maxRecDepth 20000 in
theorem ggL_law_X9_undo_q4 : GoodIn wsL_law wsX9_undo_r3 := goodIn_r _ [150, 60, 151, 152, 153, 154, 155, 156, 157, 158, 48, 159, 65, 160, 66, 67, 68, 69, 161, 162, 163, 52, 164, 77] (by decide +kernel) (by decide +kernel)
set_option maxRecDepth 20000 in
theorem ggL_law_X9_undo_q5 : GoodIn wsL_law wsX9_undo_r4 := goodIn_r _ [165, 166] (by decide +kernel) (by decide +kernel)
set_option maxRecDepth 20000 in
theorem ggL_law_X9_undo_q6 : GoodIn wsL_law wsX90 := goodIn_r _ [905, 906, 907, 908] (by decide +kernel) (by decide +kernel)
set_option maxRecDepth 20000 in
theorem ggL_law_X9_undo_q7 : GoodIn wsL_law wsX20 := goodIn_r _ [928, 929, 930] (by decide +kernel) (by decide +kernel)
set_option maxRecDepth 20000 in
theorem ggL_law_X9_undo_q8 : GoodIn wsL_law wsX60 := goodIn_r _ [925, 926, 927] (by decide +kernel) (by decide +kernel)
set_option maxRecDepth 20000 in
theorem ggL_law_X9_undo_q9 : GoodIn wsL_law wsX80 := goodIn_r _ [940, 941, 942, 943, 944, 945, 946, 947, 948, 949, 950, 951, 952] (by decide +kernel) (by decide +kernel)
set_option maxRecDepth 20000 in
theorem ggL_law_X9_undo_q10 : GoodIn wsL_law wsX50 := goodIn_r _ [953, 954] (by decide +kernel) (by decide +kernel)
set_option maxRecDepth 20000 in
theorem ggL_law_X9_undo_q11 : GoodIn wsL_law wsX30 := goodIn_r _ [955, 956, 957, 958, 959] (by decide +kernel) (by decide +kernel)
set_option maxRecDepth 20000 in
theorem ggL_law_X9_undo_q12 : GoodIn wsL_law wsX00 := goodIn_r _ [960, 961] (by decide +kernel) (by decide +kernel)
theorem ggL_law_X9_undo : GoodIn wsL_law wsX9_undo := (zk_gcons ggL_law_X9_undo_q1 (goodIn_app (goodIn_app (goodIn_app (goodIn_app (goodIn_app (goodIn_app (goodIn_app (goodIn_app ggL_law_X9_undo_q2 (goodIn_app ggL_law_X9_undo_q3 (goodIn_app ggL_law_X9_undo_q4 ggL_law_X9_undo_q5))) ggL_law_X9_undo_q6) ggL_law_X9_undo_q7) ggL_law_X9_undo_q8) ggL_law_X9_undo_q9) ggL_law_X9_undo_q10) ggL_law_X9_undo_q11) ggL_law_X9_undo_q12))
set_option maxRecDepth 20000 in
theorem gL_law_X9_undo : GoodIn wsL_law (wsV RL 49 RX9 yX9_undo wsX9_undo) := goodIn_app (goodIn_of _ (by decide +kernel)) ggL_law_X9_undo
set_option maxRecDepth 20000 in
theorem ggL_law_X10_undo : GoodIn wsL_law wsX10_undo := goodIn_r _ [463, 217, 107, 110, 108, 109, 111, 909, 910, 911, 912, 913, 914, 915, 916, 917, 918, 919, 920, 921, 922, 923, 924] (by decide +kernel) (by decide +kernel)
set_option maxRecDepth 20000 in
theorem gL_law_X10_undo : GoodIn wsL_law (wsV RL 52 RX10 yX10_undo wsX10_undo) := goodIn_app (goodIn_of _ (by decide +kernel)) ggL_law_X10_undo
set_option maxRecDepth 20000 in
theorem ggL_law_X9_append : GoodIn wsL_law wsX9_append := goodIn_r _ [467, 23, 468, 469, 470, 90, 471, 472, 97, 905, 906, 907, 908, 931, 932, 933, 934, 935, 936, 937, 938, 962, 963, 964, 965, 966] (by decide +kernel) (by decide +kernel)
set_option maxRecDepth 20000 in
theorem gL_law_X9_append : GoodIn wsL_law (wsV RL 53 RX9 yX9_append wsX9_append) := goodIn_app (goodIn_of _ (by decide +kernel)) ggL_law_X9_append
set_option maxRecDepth 20000 in
theorem ggL_law_X10_append : GoodIn wsL_law wsX10_append := goodIn_r _ [476, 477, 115, 909, 910, 911, 912, 913, 914, 915, 916, 917, 918, 919, 920, 921, 922, 923, 924] (by decide +kernel) (by decide +kernel)
set_option maxRecDepth 20000 in
theorem gL_law_X10_append : GoodIn wsL_law (wsV RL 56 RX10 yX10_append wsX10_append) := goodIn_app (goodIn_of _ (by decide +kernel)) ggL_law_X10_append
set_option maxRecDepth 20000 in
theorem ggL_law_X9_clearText : GoodIn wsL_law wsX9_clearText := goodIn_r _ [481, 23, 482, 483, 484, 90, 485, 472, 905, 906, 907, 908, 931, 932, 933, 934, 935, 936, 937, 938, 962, 963, 964, 965, 966] (by decide +kernel) (by decide +kernel)
set_option maxRecDepth 20000 in
theorem gL_law_X9_clearText : GoodIn wsL_law (wsV RL 57 RX9 yX9_clearText wsX9_clearText) := goodIn_app (goodIn_of _ (by decide +kernel)) ggL_law_X9_clearText
set_option maxRecDepth 20000 in
theorem ggL_law_X10_clearText : GoodIn wsL_law wsX10_clearText := goodIn_r _ [489, 477, 909, 910, 911, 912, 913, 914, 915, 916, 917, 918, 919, 920, 921, 922, 923, 924] (by decide +kernel) (by decide +kernel)
set_option maxRecDepth 20000 in
theorem gL_law_X10_clearText : GoodIn wsL_law (wsV RL 60 RX10 yX10_clearText wsX10_clearText) := goodIn_app (goodIn_of _ (by decide +kernel)) ggL_law_X10_clearText
set_option maxRecDepth 20000 in
theorem ggL_law_X9_run_q1 : GoodIn wsL_law ([.code yX9_run cX9_run 2 (some .int)] : List Cond) := goodIn_r _ [493] (by decide +kernel) (by decide +kernel)
set_option maxRecDepth 20000 in
theorem ggL_law_X9_run_q2 : GoodIn wsL_law wsX9_run_r1 := goodIn_r _ [19, 15, 23, 122, 123, 124, 18, 125, 126, 127, 128, 129, 130, 83, 131, 132, 133, 14, 134, 35, 38, 36, 135, 136] (by decide +kernel) (by decide +kernel)
set_option maxRecDepth 20000 in
theorem ggL_law_X9_run_q3 : GoodIn wsL_law wsX9_run_r2 := goodIn_r _ [137, 34, 138, 45, 49, 53, 139, 54, 55, 140, 141, 142, 143, 144, 145, 146, 147, 148, 149, 44, 150, 60, 151, 152] (by decide +kernel) (by decide +kernel)
set_option maxRecDepth 20000 in
theorem ggL_law_X9_run_q4 : GoodIn wsL_law wsX9_run_r3 := goodIn_r _ [153, 154, 155, 156, 157, 158, 48, 159, 65, 160, 66, 67, 68, 69, 161, 162, 163, 52, 164, 77, 165, 166, 494, 495] (by decide +kernel) (by decide +kernel)
set_option maxRecDepth 20000 in
theorem ggL_law_X9_run_q5 : GoodIn wsL_law wsX9_run_r4 := goodIn_r _ [496, 22, 497, 91, 498, 499, 500, 501, 502, 503, 504, 90, 505, 506, 507, 508, 509, 510, 511, 512, 92, 513, 514, 515] (by decide +kernel) (by decide +kernel)
set_option maxRecDepth 20000 in
theorem ggL_law_X9_run_q6 : GoodIn wsL_law wsX9_run_r5 := goodIn_r _ [516, 517, 518, 519, 520, 472, 97, 521, 522, 523, 524, 525, 526, 527, 528, 529, 530, 531, 532, 533, 534, 535, 536, 537] (by decide +kernel) (by decide +kernel)
set_option maxRecDepth 20000 in
theorem ggL_law_X9_run_q7 : GoodIn wsL_law wsX9_run_r6 := goodIn_r _ [538, 539, 540, 541, 542, 543, 544, 545, 546, 547, 548, 549, 550, 551, 552, 553, 554, 555, 556, 557, 558, 559, 560, 561] (by decide +kernel) (by decide +kernel)
set_option maxRecDepth 20000 in
theorem ggL_law_X9_run_q8 : GoodIn wsL_law wsX9_run_r7 := goodIn_r _ [562, 563, 564, 565, 566, 567, 568, 569, 570, 571, 572, 573, 574, 575, 576, 577, 578, 579, 580, 581, 582, 583, 584, 585] (by decide +kernel) (by decide +kernel)
set_option maxRecDepth 20000 in
theorem ggL_law_X9_run_q9 : GoodIn wsL_law wsX9_run_r8 := goodIn_r _ [586, 587, 588, 589, 590, 591, 592, 593, 594, 595, 596, 597, 93, 598, 599, 600, 601, 602, 603, 604, 605, 606, 607, 608] (by decide +kernel) (by decide +kernel)
set_option maxRecDepth 20000 in
theorem ggL_law_X9_run_q10 : GoodIn wsL_law wsX9_run_r9 := goodIn_r _ [609, 610, 611, 612, 613, 614, 615, 2, 616, 617, 618, 619, 620, 621, 622, 623, 624, 167, 168, 169, 170, 171, 172, 173] (by decide +kernel) (by decide +kernel)
set_option maxRecDepth 20000 in
theorem ggL_law_X9_run_q11 : GoodIn wsL_law wsX9_run_r10 := goodIn_r _ [174, 175, 176, 177, 178, 179, 180, 181, 182, 183, 184, 185, 186, 187, 188, 189, 190, 230, 231, 232, 233, 234, 235, 236] (by decide +kernel) (by decide +kernel)
set_option maxRecDepth 20000 in
theorem ggL_law_X9_run_q12 : GoodIn wsL_law wsX9_run_r11 := goodIn_r _ [237, 238, 239, 240, 241, 242, 243, 244, 245, 246, 263, 264, 265, 266, 267, 268, 269, 270, 271, 272, 273, 274, 275, 276] (by decide +kernel) (by decide +kernel)
set_option maxRecDepth 20000 in
theorem ggL_law_X9_run_q13 : GoodIn wsL_law wsX9_run_r12 := goodIn_r _ [277, 278, 279, 280, 281, 282, 283, 292, 293, 294, 295, 296, 297, 298, 299, 300, 301, 302, 303, 304, 305, 202, 306, 307] (by decide +kernel) (by decide +kernel)
set_option maxRecDepth 20000 in
theorem ggL_law_X9_run_q14 : GoodIn wsL_law wsX9_run_r13 := goodIn_r _ [308, 309, 310, 311, 312, 313, 314, 315, 316, 317, 318, 319, 320, 321, 322, 323, 324, 325, 326, 327, 328, 329, 330, 331] (by decide +kernel) (by decide +kernel)
set_option maxRecDepth 20000 in
theorem ggL_law_X9_run_q15 : GoodIn wsL_law wsX9_run_r14 := goodIn_r _ [332, 333, 334, 335, 336, 337, 338, 339, 340, 341, 342, 343, 344, 345, 346, 347, 348, 349, 350, 351, 352, 353, 354, 403] (by decide +kernel) (by decide +kernel)
set_option maxRecDepth 20000 in
theorem ggL_law_X9_run_q16 : GoodIn wsL_law wsX9_run_r15 := goodIn_r _ [625, 626, 627, 628, 629, 630, 631, 632, 633, 457, 458, 459, 634, 635, 636, 637, 482, 483, 484, 485, 638, 639, 640, 641] (by decide +kernel) (by decide +kernel)
set_option maxRecDepth 20000 in
theorem ggL_law_X9_run_q17 : GoodIn wsL_law wsX9_run_r16 := goodIn_r _ [191, 192, 193, 194, 195, 196, 197, 198, 199, 200, 201, 203] (by decide +kernel) (by decide +kernel)
set_option maxRecDepth 20000 in
theorem ggL_law_X9_run_q18 : GoodIn wsL_law wsX90 := goodIn_r _ [905, 906, 907, 908] (by decide +kernel) (by decide +kernel)
set_option maxRecDepth 20000 in
theorem ggL_law_X9_run_q19 : GoodIn wsL_law wsX40 := goodIn_r _ [931, 932, 933, 934, 935, 936, 937, 938] (by decide +kernel) (by decide +kernel)
set_option maxRecDepth 20000 in
theorem ggL_law_X9_run_q20 : GoodIn wsL_law wsX20 := goodIn_r _ [928, 929, 930] (by decide +kernel) (by decide +kernel)
set_option maxRecDepth 20000 in
theorem ggL_law_X9_run_q21 : GoodIn wsL_law wsX60 := goodIn_r _ [925, 926, 927] (by decide +kernel) (by decide +kernel)
set_option maxRecDepth 20000 in
theorem ggL_law_X9_run_q22 : GoodIn wsL_law wsX80 := goodIn_r _ [940, 941, 942, 943, 944, 945, 946, 947, 948, 949, 950, 951, 952] (by decide +kernel) (by decide +kernel)
set_option maxRecDepth 20000 in
theorem ggL_law_X9_run_q23 : GoodIn wsL_law wsX50 := goodIn_r _ [953, 954] (by decide +kernel) (by decide +kernel)
set_option maxRecDepth 20000 in
theorem ggL_law_X9_run_q24 : GoodIn wsL_law wsX30 := goodIn_r _ [955, 956, 957, 958, 959] (by decide +kernel) (by decide +kernel)
set_option maxRecDepth 20000 in
theorem ggL_law_X9_run_q25 : GoodIn wsL_law wsX00 := goodIn_r _ [960, 961] (by decide +kernel) (by decide +kernel)
set_option maxRecDepth 20000 in
theorem ggL_law_X9_run_q26 : GoodIn wsL_law wsX70 := goodIn_r _ [962, 963, 964, 965, 966] (by decide +kernel) (by decide +kernel)
theorem ggL_law_X9_run : GoodIn wsL_law wsX9_run := (zk_gcons ggL_law_X9_run_q1 (goodIn_app (goodIn_app (goodIn_app (goodIn_app (goodIn_app (goodIn_app (goodIn_app (goodIn_app (goodIn_app (goodIn_app ggL_law_X9_run_q2 (goodIn_app ggL_law_X9_run_q3 (goodIn_app ggL_law_X9_run_q4 (goodIn_app ggL_law_X9_run_q5 (goodIn_app ggL_law_X9_run_q6 (goodIn_app ggL_law_X9_run_q7 (goodIn_app ggL_law_X9_run_q8 (goodIn_app ggL_law_X9_run_q9 (goodIn_app ggL_law_X9_run_q10 (goodIn_app ggL_law_X9_run_q11 (goodIn_app ggL_law_X9_run_q12 (goodIn_app ggL_law_X9_run_q13 (goodIn_app ggL_law_X9_run_q14 (goodIn_app ggL_law_X9_run_q15 (goodIn_app ggL_law_X9_run_q16 ggL_law_X9_run_q17))))))))))))))) ggL_law_X9_run_q18) ggL_law_X9_run_q19) ggL_law_X9_run_q20) ggL_law_X9_run_q21) ggL_law_X9_run_q22) ggL_law_X9_run_q23) ggL_law_X9_run_q24) ggL_law_X9_run_q25) ggL_law_X9_run_q26))
set_option maxRecDepth 20000 in
theorem gL_law_X9_run : GoodIn wsL_law (wsV RL 61 RX9 yX9_run wsX9_run) := goodIn_app (goodIn_of _ (by decide +kernel)) ggL_law_X9_run
set_option maxRecDepth 20000 in
theorem ggL_law_X10_run_q1 : GoodIn wsL_law ([.code yX10_run cX10_run 5 (some .int)] : List Cond) := goodIn_r _ [645] (by decide +kernel) (by decide +kernel)
set_option maxRecDepth 20000 in
theorem ggL_law_X10_run_q2 : GoodIn wsL_law wsX10_run_r1 := goodIn_r _ [112, 107, 212, 646, 647, 477, 648, 649, 650, 5, 651, 115, 652, 653, 654, 655, 656, 657, 658, 659, 660, 661, 662, 663] (by decide +kernel) (by decide +kernel)
set_option maxRecDepth 20000 in
theorem ggL_law_X10_run_q3 : GoodIn wsL_law wsX10_run_r2 := goodIn_r _ [664, 665, 666, 667, 668, 669, 670, 671, 672, 673, 674, 117, 675, 676, 677, 678, 679, 680, 681, 682, 683, 684, 685, 686] (by decide +kernel) (by decide +kernel)
set_option maxRecDepth 20000 in
theorem ggL_law_X10_run_q4 : GoodIn wsL_law wsX10_run_r3 := goodIn_r _ [687, 116, 688, 689, 690, 691, 692, 205, 206, 207, 208, 209, 210, 211, 213, 214, 215, 216, 217, 110, 111, 108, 109, 218] (by decide +kernel) (by decide +kernel)
set_option maxRecDepth 20000 in
theorem ggL_law_X10_run_q5 : GoodIn wsL_law wsX10_run_r4 := goodIn_r _ [219, 220, 221, 222, 223, 224, 225, 693, 248, 249, 250, 251, 252, 253, 254, 255, 256, 257, 258, 694, 285, 286, 287, 695] (by decide +kernel) (by decide +kernel)
set_option maxRecDepth 20000 in
theorem ggL_law_X10_run_q6 : GoodIn wsL_law wsX10_run_r5 := goodIn_r _ [356, 357, 358, 359, 360, 361, 362, 363, 364, 365, 366, 367, 368, 369, 370, 371, 372, 373, 374, 375, 376, 377, 378, 379] (by decide +kernel) (by decide +kernel)
set_option maxRecDepth 20000 in
theorem ggL_law_X10_run_q7 : GoodIn wsL_law wsX10_run_r6 := goodIn_r _ [380, 381, 382, 383, 384, 385, 386, 387, 388, 389, 390, 391, 392, 393, 394, 395, 396, 397, 398, 696, 405, 406, 407] (by decide +kernel) (by decide +kernel)
set_option maxRecDepth 20000 in
theorem ggL_law_X10_run_q8 : GoodIn wsL_law wsX100 := goodIn_r _ [909, 910, 911, 912, 913, 914, 915, 916, 917, 918, 919, 920, 921, 922, 923, 924] (by decide +kernel) (by decide +kernel)
theorem ggL_law_X10_run : GoodIn wsL_law wsX10_run := (zk_gcons ggL_law_X10_run_q1 (goodIn_app (goodIn_app ggL_law_X10_run_q2 (goodIn_app ggL_law_X10_run_q3 (goodIn_app ggL_law_X10_run_q4 (goodIn_app ggL_law_X10_run_q5 (goodIn_app ggL_law_X10_run_q6 ggL_law_X10_run_q7))))) ggL_law_X10_run_q8))
set_option maxRecDepth 20000 in
theorem gL_law_X10_run : GoodIn wsL_law (wsV RL 64 RX10 yX10_run wsX10_run) := goodIn_app (goodIn_of _ (by decide +kernel)) ggL_law_X10_run
set_option maxRecDepth 20000 in
theorem ggL_law_X9_failure : GoodIn wsL_law wsX9_failure := goodIn_r _ [700, 23, 634, 635, 636, 22, 637, 597, 93, 905, 906, 907, 908, 931, 932, 933, 934, 935, 936, 937, 938] (by decide +kernel) (by decide +kernel)
set_option maxRecDepth 20000 in
theorem gL_law_X9_failure : GoodIn wsL_law (wsV RL 65 RX9 yX9_failure wsX9_failure) := goodIn_app (goodIn_of _ (by decide +kernel)) ggL_law_X9_failure
set_option maxRecDepth 20000 in
theorem ggL_law_X10_failure : GoodIn wsL_law wsX10_failure := goodIn_r _ [704, 687, 116, 909, 910, 911, 912, 913, 914, 915, 916, 917, 918, 919, 920, 921, 922, 923, 924] (by decide +kernel) (by decide +kernel)
set_option maxRecDepth 20000 in
theorem gL_law_X10_failure : GoodIn wsL_law (wsV RL 68 RX10 yX10_failure wsX10_failure) := goodIn_app (goodIn_of _ (by decide +kernel)) ggL_law_X10_failure
set_option maxRecDepth 20000 in
theorem ggL_law_X9_count_q1 : GoodIn wsL_law ([.code yX9_count cX9_count 2 (some .int)] : List Cond) := goodIn_r _ [708] (by decide +kernel) (by decide +kernel)
set_option maxRecDepth 20000 in
theorem ggL_law_X9_count_q2 : GoodIn wsL_law wsX9_count_r1 := goodIn_r _ [15, 19, 23, 709, 710, 711, 14, 712, 38, 713, 714, 715, 18, 716, 199, 717, 718, 719, 90, 720, 472, 721, 722, 723] (by decide +kernel) (by decide +kernel)
set_option maxRecDepth 20000 in
theorem ggL_law_X9_count_q3 : GoodIn wsL_law wsX9_count_r2 := goodIn_r _ [34, 724, 139, 45, 141, 53, 142, 143, 144, 145, 146, 171, 172, 173, 44, 174, 155, 725, 726, 727, 728, 729, 268, 269] (by decide +kernel) (by decide +kernel)
set_option maxRecDepth 20000 in
theorem ggL_law_X9_count_q4 : GoodIn wsL_law wsX9_count_r3 := goodIn_r _ [270, 242, 243, 244, 245, 60, 296, 297, 298, 52, 299, 166, 416, 417, 418, 419, 54, 55, 140] (by decide +kernel) (by decide +kernel)
set_option maxRecDepth 20000 in
theorem ggL_law_X9_count_q5 : GoodIn wsL_law wsX90 := goodIn_r _ [905, 906, 907, 908] (by decide +kernel) (by decide +kernel)
set_option maxRecDepth 20000 in
theorem ggL_law_X9_count_q6 : GoodIn wsL_law wsX40 := goodIn_r _ [931, 932, 933, 934, 935, 936, 937, 938] (by decide +kernel) (by decide +kernel)
set_option maxRecDepth 20000 in
theorem ggL_law_X9_count_q7 : GoodIn wsL_law wsX60 := goodIn_r _ [925, 926, 927] (by decide +kernel) (by decide +kernel)
set_option maxRecDepth 20000 in
theorem ggL_law_X9_count_q8 : GoodIn wsL_law wsX20 := goodIn_r _ [928, 929, 930] (by decide +kernel) (by decide +kernel)
set_option maxRecDepth 20000 in
theorem ggL_law_X9_count_q9 : GoodIn wsL_law wsX70 := goodIn_r _ [962, 963, 964, 965, 966] (by decide +kernel) (by decide +kernel)
set_option maxRecDepth 20000 in
theorem ggL_law_X9_count_q10 : GoodIn wsL_law wsX80 := goodIn_r _ [940, 941, 942, 943, 944, 945, 946, 947, 948, 949, 950, 951, 952] (by decide +kernel) (by decide +kernel)
set_option maxRecDepth 20000 in
theorem ggL_law_X9_count_q11 : GoodIn wsL_law wsX50 := goodIn_r _ [953, 954] (by decide +kernel) (by decide +kernel)
set_option maxRecDepth 20000 in
theorem ggL_law_X9_count_q12 : GoodIn wsL_law wsX00 := goodIn_r _ [960, 961] (by decide +kernel) (by decide +kernel)
theorem ggL_law_X9_count : GoodIn wsL_law wsX9_count := (zk_gcons ggL_law_X9_count_q1 (goodIn_app (goodIn_app (goodIn_app (goodIn_app (goodIn_app (goodIn_app (goodIn_app (goodIn_app (goodIn_app ggL_law_X9_count_q2 (goodIn_app ggL_law_X9_count_q3 ggL_law_X9_count_q4)) ggL_law_X9_count_q5) ggL_law_X9_count_q6) ggL_law_X9_count_q7) ggL_law_X9_count_q8) ggL_law_X9_count_q9) ggL_law_X9_count_q10) ggL_law_X9_count_q11) ggL_law_X9_count_q12))
set_option maxRecDepth 20000 in
theorem gL_law_X9_count : GoodIn wsL_law (wsV RL 69 RX9 yX9_count wsX9_count) := goodIn_app (goodIn_of _ (by decide +kernel)) ggL_law_X9_count
set_option maxRecDepth 20000 in
theorem ggL_law_X10_count : GoodIn wsL_law wsX10_count := goodIn_r _ [733, 107, 217, 477, 255, 256, 257, 5, 258, 734, 735, 736, 737, 109, 909, 910, 911, 912, 913, 914, 915, 916, 917, 918, 919, 920, 921, 922, 923, 924] (by decide +kernel) (by decide +kernel)
set_option maxRecDepth 20000 in
theorem gL_law_X10_count : GoodIn wsL_law (wsV RL 72 RX10 yX10_count wsX10_count) := goodIn_app (goodIn_of _ (by decide +kernel)) ggL_law_X10_count
set_option maxRecDepth 20000 in
theorem ggL_law_X9_promise_q1 : GoodIn wsL_law ([.code yX9_promise cX9_promise 3 (some .int)] : List Cond) := goodIn_r _ [741] (by decide +kernel) (by decide +kernel)
set_option maxRecDepth 20000 in
theorem ggL_law_X9_promise_q2 : GoodIn wsL_law wsX9_promise_r1 := goodIn_r _ [15, 742, 235, 236, 44, 237, 155, 743, 744, 745, 34, 746, 49, 45, 747, 277, 278, 48, 279, 68, 271, 243, 244, 245] (by decide +kernel) (by decide +kernel)
set_option maxRecDepth 20000 in
theorem ggL_law_X9_promise_q3 : GoodIn wsL_law wsX9_promise_r2 := goodIn_r _ [60, 748, 749, 750, 751, 276, 752, 316, 317, 318, 67, 753, 320, 321, 322, 65, 280, 281, 282, 283, 69] (by decide +kernel) (by decide +kernel)
set_option maxRecDepth 20000 in
theorem ggL_law_X9_promise_q4 : GoodIn wsL_law wsX90 := goodIn_r _ [905, 906, 907, 908] (by decide +kernel) (by decide +kernel)
set_option maxRecDepth 20000 in
theorem ggL_law_X9_promise_q5 : GoodIn wsL_law wsX60 := goodIn_r _ [925, 926, 927] (by decide +kernel) (by decide +kernel)
set_option maxRecDepth 20000 in
theorem ggL_law_X9_promise_q6 : GoodIn wsL_law wsX80 := goodIn_r _ [940, 941, 942, 943, 944, 945, 946, 947, 948, 949, 950, 951, 952] (by decide +kernel) (by decide +kernel)
set_option maxRecDepth 20000 in
theorem ggL_law_X9_promise_q7 : GoodIn wsL_law wsX50 := goodIn_r _ [953, 954] (by decide +kernel) (by decide +kernel)
set_option maxRecDepth 20000 in
theorem ggL_law_X9_promise_q8 : GoodIn wsL_law wsX30 := goodIn_r _ [955, 956, 957, 958, 959] (by decide +kernel) (by decide +kernel)
theorem ggL_law_X9_promise : GoodIn wsL_law wsX9_promise := (zk_gcons ggL_law_X9_promise_q1 (goodIn_app (goodIn_app (goodIn_app (goodIn_app (goodIn_app (goodIn_app ggL_law_X9_promise_q2 ggL_law_X9_promise_q3) ggL_law_X9_promise_q4) ggL_law_X9_promise_q5) ggL_law_X9_promise_q6) ggL_law_X9_promise_q7) ggL_law_X9_promise_q8))
set_option maxRecDepth 20000 in
theorem gL_law_X9_promise : GoodIn wsL_law (wsV RL 73 RX9 yX9_promise wsX9_promise) := goodIn_app (goodIn_of _ (by decide +kernel)) ggL_law_X9_promise
set_option maxRecDepth 20000 in
theorem ggL_law_X10_promise : GoodIn wsL_law wsX10_promise := goodIn_r _ [757, 107, 251, 252, 253, 5, 254, 758, 759, 760, 761, 909, 910, 911, 912, 913, 914, 915, 916, 917, 918, 919, 920, 921, 922, 923, 924] (by decide +kernel) (by decide +kernel)
set_option maxRecDepth 20000 in
theorem gL_law_X10_promise : GoodIn wsL_law (wsV RL 76 RX10 yX10_promise wsX10_promise) := goodIn_app (goodIn_of _ (by decide +kernel)) ggL_law_X10_promise
set_option maxRecDepth 20000 in
theorem ggL_law_X9_slot_q1 : GoodIn wsL_law ([.code yX9_slot cX9_slot 4 (some .int)] : List Cond) := goodIn_r _ [765] (by decide +kernel) (by decide +kernel)
set_option maxRecDepth 20000 in
theorem ggL_law_X9_slot_q2 : GoodIn wsL_law wsX9_slot_r1 := goodIn_r _ [15, 766, 767, 768, 34, 769, 49, 45, 315, 316, 317, 48, 318, 67, 770, 771, 772, 773, 319, 320, 321, 322, 65, 267] (by decide +kernel) (by decide +kernel)
set_option maxRecDepth 20000 in
theorem ggL_law_X9_slot_q3 : GoodIn wsL_law wsX9_slot_r2 := goodIn_r _ [268, 269, 44, 270, 242, 243, 244, 245, 60, 774, 281, 282, 283, 69, 775, 776, 777, 778, 779, 780, 781, 782, 783, 201] (by decide +kernel) (by decide +kernel)
set_option maxRecDepth 20000 in
theorem ggL_law_X9_slot_q4 : GoodIn wsL_law wsX9_slot_r3 := goodIn_r _ [202, 203, 271] (by decide +kernel) (by decide +kernel)
set_option maxRecDepth 20000 in
theorem ggL_law_X9_slot_q5 : GoodIn wsL_law wsX90 := goodIn_r _ [905, 906, 907, 908] (by decide +kernel) (by decide +kernel)
set_option maxRecDepth 20000 in
theorem ggL_law_X9_slot_q6 : GoodIn wsL_law wsX60 := goodIn_r _ [925, 926, 927] (by decide +kernel) (by decide +kernel)
set_option maxRecDepth 20000 in
theorem ggL_law_X9_slot_q7 : GoodIn wsL_law wsX80 := goodIn_r _ [940, 941, 942, 943, 944, 945, 946, 947, 948, 949, 950, 951, 952] (by decide +kernel) (by decide +kernel)
set_option maxRecDepth 20000 in
theorem ggL_law_X9_slot_q8 : GoodIn wsL_law wsX30 := goodIn_r _ [955, 956, 957, 958, 959] (by decide +kernel) (by decide +kernel)
set_option maxRecDepth 20000 in
theorem ggL_law_X9_slot_q9 : GoodIn wsL_law wsX50 := goodIn_r _ [953, 954] (by decide +kernel) (by decide +kernel)
theorem ggL_law_X9_slot : GoodIn wsL_law wsX9_slot := (zk_gcons ggL_law_X9_slot_q1 (goodIn_app (goodIn_app (goodIn_app (goodIn_app (goodIn_app (goodIn_app ggL_law_X9_slot_q2 (goodIn_app ggL_law_X9_slot_q3 ggL_law_X9_slot_q4)) ggL_law_X9_slot_q5) ggL_law_X9_slot_q6) ggL_law_X9_slot_q7) ggL_law_X9_slot_q8) ggL_law_X9_slot_q9))
set_option maxRecDepth 20000 in
theorem gL_law_X9_slot : GoodIn wsL_law (wsV RL 77 RX9 yX9_slot wsX9_slot) := goodIn_app (goodIn_of _ (by decide +kernel)) ggL_law_X9_slot
set_option maxRecDepth 20000 in
theorem ggL_law_X10_slot : GoodIn wsL_law wsX10_slot := goodIn_r _ [787, 107, 367, 368, 369, 5, 370, 909, 910, 911, 912, 913, 914, 915, 916, 917, 918, 919, 920, 921, 922, 923, 924] (by decide +kernel) (by decide +kernel)
set_option maxRecDepth 20000 in
theorem gL_law_X10_slot : GoodIn wsL_law (wsV RL 80 RX10 yX10_slot wsX10_slot) := goodIn_app (goodIn_of _ (by decide +kernel)) ggL_law_X10_slot
set_option maxRecDepth 20000 in
theorem ggL_law_X9_stands_q1 : GoodIn wsL_law ([.code yX9_stands cX9_stands 7 (some .int)] : List Cond) := goodIn_r _ [791] (by decide +kernel) (by decide +kernel)
set_option maxRecDepth 20000 in
theorem ggL_law_X9_stands_q2 : GoodIn wsL_law ([.fieldLink RX9 12 "PromiseWheel" "state" "LPromiseWheel$State;", .methodLink RX9 152 yX3_at, .instanceMethod yX3_at, .selects RX3 yX3_at yX3_at, .initialized RX3, .code yX3_at cX3_at 5 (some .int), .methodLink RX3 39 yX3_lengthOf, .instanceMethod yX3_lengthOf, .selects RX3 yX3_lengthOf yX3_lengthOf, .code yX3_lengthOf cX3_lengthOf 2 (some .int), .fieldLink RX3 18 "PromiseWheel$Lines" "length" "[I", .methodLink RX3 43 yX3_frontOf, .instanceMethod yX3_frontOf, .selects RX3 yX3_frontOf yX3_frontOf, .code yX3_frontOf cX3_frontOf 2 (some .int), .fieldLink RX3 9 "PromiseWheel$Lines" "first" "[I", .methodLink RX3 46 yX3_follower, .instanceMethod yX3_follower, .selects RX3 yX3_follower yX3_follower, .code yX3_follower cX3_follower 2 (some .int), .fieldLink RX3 24 "PromiseWheel$Lines" "behind" "[I"] : List Cond) := goodIn_r _ [15, 792, 793, 794, 48, 795, 752, 316, 317, 318, 67, 753, 320, 321, 322, 65, 280, 281, 282, 283, 69] (by decide +kernel) (by decide +kernel)
set_option maxRecDepth 20000 in
theorem ggL_law_X9_stands_q3 : GoodIn wsL_law wsX90 := goodIn_r _ [905, 906, 907, 908] (by decide +kernel) (by decide +kernel)
set_option maxRecDepth 20000 in
theorem ggL_law_X9_stands_q4 : GoodIn wsL_law wsX60 := goodIn_r _ [925, 926, 927] (by decide +kernel) (by decide +kernel)
set_option maxRecDepth 20000 in
theorem ggL_law_X9_stands_q5 : GoodIn wsL_law wsX80 := goodIn_r _ [940, 941, 942, 943, 944, 945, 946, 947, 948, 949, 950, 951, 952] (by decide +kernel) (by decide +kernel)
set_option maxRecDepth 20000 in
theorem ggL_law_X9_stands_q6 : GoodIn wsL_law wsX30 := goodIn_r _ [955, 956, 957, 958, 959] (by decide +kernel) (by decide +kernel)
theorem ggL_law_X9_stands : GoodIn wsL_law wsX9_stands := (zk_gcons ggL_law_X9_stands_q1 (goodIn_app (goodIn_app (goodIn_app (goodIn_app ggL_law_X9_stands_q2 ggL_law_X9_stands_q3) ggL_law_X9_stands_q4) ggL_law_X9_stands_q5) ggL_law_X9_stands_q6))
set_option maxRecDepth 20000 in
theorem gL_law_X9_stands : GoodIn wsL_law (wsV RL 81 RX9 yX9_stands wsX9_stands) := goodIn_app (goodIn_of _ (by decide +kernel)) ggL_law_X9_stands
set_option maxRecDepth 20000 in
theorem ggL_law_X10_stands : GoodIn wsL_law wsX10_stands := goodIn_r _ [799, 107, 758, 759, 760, 5, 761, 909, 910, 911, 912, 913, 914, 915, 916, 917, 918, 919, 920, 921, 922, 923, 924] (by decide +kernel) (by decide +kernel)
set_option maxRecDepth 20000 in
theorem gL_law_X10_stands : GoodIn wsL_law (wsV RL 84 RX10 yX10_stands wsX10_stands) := goodIn_app (goodIn_of _ (by decide +kernel)) ggL_law_X10_stands
set_option maxRecDepth 20000 in
theorem ggL_law_X9_call : GoodIn wsL_law wsX9_call := goodIn_r _ [803, 15, 804, 805, 806, 52, 807, 166, 808, 201, 202, 203, 77, 343, 344, 345, 346, 905, 906, 907, 908, 925, 926, 927, 940, 941, 942, 943, 944, 945, 946, 947, 948, 949, 950, 951, 952, 960, 961] (by decide +kernel) (by decide +kernel)
set_option maxRecDepth 20000 in
theorem gL_law_X9_call : GoodIn wsL_law (wsV RL 85 RX9 yX9_call wsX9_call) := goodIn_app (goodIn_of _ (by decide +kernel)) ggL_law_X9_call
set_option maxRecDepth 20000 in
theorem ggL_law_X10_call : GoodIn wsL_law wsX10_call := goodIn_r _ [812, 107, 909, 910, 911, 912, 913, 914, 915, 916, 917, 918, 919, 920, 921, 922, 923, 924] (by decide +kernel) (by decide +kernel)
set_option maxRecDepth 20000 in
theorem gL_law_X10_call : GoodIn wsL_law (wsV RL 88 RX10 yX10_call wsX10_call) := goodIn_app (goodIn_of _ (by decide +kernel)) ggL_law_X10_call
set_option maxRecDepth 20000 in
theorem ggL_law_X9_next_q1 : GoodIn wsL_law ([.code yX9_next cX9_next 5 (some .int)] : List Cond) := goodIn_r _ [816] (by decide +kernel) (by decide +kernel)
set_option maxRecDepth 20000 in
theorem ggL_law_X9_next_q2 : GoodIn wsL_law wsX9_next_r1 := goodIn_r _ [15, 817, 818, 819, 34, 820, 45, 171, 172, 173, 44, 174, 155, 267, 268, 269, 270, 242, 243, 244, 245, 60, 779, 780] (by decide +kernel) (by decide +kernel)
set_option maxRecDepth 20000 in
theorem ggL_law_X9_next_q3 : GoodIn wsL_law wsX9_next_r2 := goodIn_r _ [781, 782, 783, 201, 202, 203, 821, 822, 823, 824, 825, 826, 827, 828, 311, 312, 313, 314, 139, 775, 776, 777, 778, 49] (by decide +kernel) (by decide +kernel)
set_option maxRecDepth 20000 in
theorem ggL_law_X9_next_q4 : GoodIn wsL_law wsX9_next_r3 := goodIn_r _ [315, 316, 317, 48, 318, 67, 319, 320, 321, 322, 65, 774, 281, 282, 283, 69, 829] (by decide +kernel) (by decide +kernel)
set_option maxRecDepth 20000 in
theorem ggL_law_X9_next_q5 : GoodIn wsL_law wsX90 := goodIn_r _ [905, 906, 907, 908] (by decide +kernel) (by decide +kernel)
set_option maxRecDepth 20000 in
theorem ggL_law_X9_next_q6 : GoodIn wsL_law wsX60 := goodIn_r _ [925, 926, 927] (by decide +kernel) (by decide +kernel)
set_option maxRecDepth 20000 in
theorem ggL_law_X9_next_q7 : GoodIn wsL_law wsX80 := goodIn_r _ [940, 941, 942, 943, 944, 945, 946, 947, 948, 949, 950, 951, 952] (by decide +kernel) (by decide +kernel)
set_option maxRecDepth 20000 in
theorem ggL_law_X9_next_q8 : GoodIn wsL_law wsX50 := goodIn_r _ [953, 954] (by decide +kernel) (by decide +kernel)
set_option maxRecDepth 20000 in
theorem ggL_law_X9_next_q9 : GoodIn wsL_law wsX30 := goodIn_r _ [955, 956, 957, 958, 959] (by decide +kernel) (by decide +kernel)
theorem ggL_law_X9_next : GoodIn wsL_law wsX9_next := (zk_gcons ggL_law_X9_next_q1 (goodIn_app (goodIn_app (goodIn_app (goodIn_app (goodIn_app (goodIn_app ggL_law_X9_next_q2 (goodIn_app ggL_law_X9_next_q3 ggL_law_X9_next_q4)) ggL_law_X9_next_q5) ggL_law_X9_next_q6) ggL_law_X9_next_q7) ggL_law_X9_next_q8) ggL_law_X9_next_q9))
set_option maxRecDepth 20000 in
theorem gL_law_X9_next : GoodIn wsL_law (wsV RL 89 RX9 yX9_next wsX9_next) := goodIn_app (goodIn_of _ (by decide +kernel)) ggL_law_X9_next
set_option maxRecDepth 20000 in
theorem ggL_law_X10_next : GoodIn wsL_law wsX10_next := goodIn_r _ [833, 107, 834, 835, 836, 5, 837, 838, 839, 840, 841, 842, 843, 844, 845, 909, 910, 911, 912, 913, 914, 915, 916, 917, 918, 919, 920, 921, 922, 923, 924] (by decide +kernel) (by decide +kernel)
set_option maxRecDepth 20000 in
theorem gL_law_X10_next : GoodIn wsL_law (wsV RL 92 RX10 yX10_next wsX10_next) := goodIn_app (goodIn_of _ (by decide +kernel)) ggL_law_X10_next
set_option maxRecDepth 20000 in
theorem ggL_law_X9_when_q1 : GoodIn wsL_law ([.code yX9_when cX9_when 3 (some .int)] : List Cond) := goodIn_r _ [849] (by decide +kernel) (by decide +kernel)
set_option maxRecDepth 20000 in
theorem ggL_law_X9_when_q2 : GoodIn wsL_law wsX9_when_r1 := goodIn_r _ [15, 27, 742, 235, 236, 44, 237, 155, 850, 239, 240, 241, 242, 243, 244, 245, 60, 851, 852, 853, 26, 854, 102, 855] (by decide +kernel) (by decide +kernel)
set_option maxRecDepth 20000 in
theorem ggL_law_X9_when_q3 : GoodIn wsL_law wsX9_when_r2 := goodIn_r _ [136, 137, 34, 138, 45, 49, 53, 139, 54, 55, 140, 141, 142, 143, 144, 145, 146, 147, 148, 149, 150, 151, 152, 153] (by decide +kernel) (by decide +kernel)
set_option maxRecDepth 20000 in
theorem ggL_law_X9_when_q4 : GoodIn wsL_law wsX9_when_r3 := goodIn_r _ [154, 156, 157, 158, 48, 159, 65, 160, 66, 67, 68, 69, 161, 162, 163, 52, 164, 77, 165, 166, 856, 857, 301, 302] (by decide +kernel) (by decide +kernel)
set_option maxRecDepth 20000 in
theorem ggL_law_X9_when_q5 : GoodIn wsL_law wsX9_when_r4 := goodIn_r _ [303, 304, 305, 202, 306, 307, 308, 309, 310, 311, 312, 313, 314, 315, 316, 317, 318, 319, 320, 321, 322, 272, 273, 274] (by decide +kernel) (by decide +kernel)
set_option maxRecDepth 20000 in
theorem ggL_law_X9_when_q6 : GoodIn wsL_law wsX9_when_r5 := goodIn_r _ [275, 276, 277, 278, 279, 280, 281, 282, 283, 267, 268, 269, 270, 323, 324, 325, 326, 246, 180, 181, 182, 271, 183, 184] (by decide +kernel) (by decide +kernel)
set_option maxRecDepth 20000 in
theorem ggL_law_X9_when_q7 : GoodIn wsL_law wsX9_when_r6 := goodIn_r _ [185, 186, 187, 188, 189, 190, 327, 328, 329, 330, 331, 332, 333, 334, 335, 336, 337, 338, 339, 340, 341, 342, 343, 344] (by decide +kernel) (by decide +kernel)
set_option maxRecDepth 20000 in
theorem ggL_law_X9_when_q8 : GoodIn wsL_law wsX9_when_r7 := goodIn_r _ [345, 346, 347, 348, 349, 350, 351, 352, 353, 354, 171, 172, 173, 174] (by decide +kernel) (by decide +kernel)
set_option maxRecDepth 20000 in
theorem ggL_law_X9_when_q9 : GoodIn wsL_law wsX90 := goodIn_r _ [905, 906, 907, 908] (by decide +kernel) (by decide +kernel)
set_option maxRecDepth 20000 in
theorem ggL_law_X9_when_q10 : GoodIn wsL_law wsX60 := goodIn_r _ [925, 926, 927] (by decide +kernel) (by decide +kernel)
set_option maxRecDepth 20000 in
theorem ggL_law_X9_when_q11 : GoodIn wsL_law wsX80 := goodIn_r _ [940, 941, 942, 943, 944, 945, 946, 947, 948, 949, 950, 951, 952] (by decide +kernel) (by decide +kernel)
set_option maxRecDepth 20000 in
theorem ggL_law_X9_when_q12 : GoodIn wsL_law wsX50 := goodIn_r _ [953, 954] (by decide +kernel) (by decide +kernel)
set_option maxRecDepth 20000 in
theorem ggL_law_X9_when_q13 : GoodIn wsL_law wsX10 := goodIn_r _ [939] (by decide +kernel) (by decide +kernel)
set_option maxRecDepth 20000 in
theorem ggL_law_X9_when_q14 : GoodIn wsL_law wsX30 := goodIn_r _ [955, 956, 957, 958, 959] (by decide +kernel) (by decide +kernel)
set_option maxRecDepth 20000 in
theorem ggL_law_X9_when_q15 : GoodIn wsL_law wsX00 := goodIn_r _ [960, 961] (by decide +kernel) (by decide +kernel)
theorem ggL_law_X9_when : GoodIn wsL_law wsX9_when := (zk_gcons ggL_law_X9_when_q1 (goodIn_app (goodIn_app (goodIn_app (goodIn_app (goodIn_app (goodIn_app (goodIn_app (goodIn_app ggL_law_X9_when_q2 (goodIn_app ggL_law_X9_when_q3 (goodIn_app ggL_law_X9_when_q4 (goodIn_app ggL_law_X9_when_q5 (goodIn_app ggL_law_X9_when_q6 (goodIn_app ggL_law_X9_when_q7 ggL_law_X9_when_q8)))))) ggL_law_X9_when_q9) ggL_law_X9_when_q10) ggL_law_X9_when_q11) ggL_law_X9_when_q12) ggL_law_X9_when_q13) ggL_law_X9_when_q14) ggL_law_X9_when_q15))
set_option maxRecDepth 20000 in
theorem gL_law_X9_when : GoodIn wsL_law (wsV RL 93 RX9 yX9_when wsX9_when) := goodIn_app (goodIn_of _ (by decide +kernel)) ggL_law_X9_when
set_option maxRecDepth 20000 in
theorem ggL_law_X10_when_q1 : GoodIn wsL_law ([.code yX10_when cX10_when 4 (some .int)] : List Cond) := goodIn_r _ [861] (by decide +kernel) (by decide +kernel)
set_option maxRecDepth 20000 in
theorem ggL_law_X10_when_q2 : GoodIn wsL_law wsX10_when_r1 := goodIn_r _ [107, 251, 252, 253, 5, 254, 862, 863, 864, 865, 113, 359, 360, 361, 362, 363, 364, 365, 366, 367, 368, 369, 370, 371] (by decide +kernel) (by decide +kernel)
set_option maxRecDepth 20000 in
theorem ggL_law_X10_when_q3 : GoodIn wsL_law wsX10_when_r2 := goodIn_r _ [372, 373, 374, 375, 376, 377, 378, 218, 219, 220, 221, 222, 223, 224, 225, 379, 380, 381, 382, 383, 384, 385, 386, 387] (by decide +kernel) (by decide +kernel)
set_option maxRecDepth 20000 in
theorem ggL_law_X10_when_q4 : GoodIn wsL_law wsX10_when_r3 := goodIn_r _ [388, 389, 390, 391, 392, 393, 394, 255, 256, 257, 258, 395, 396, 397, 398, 866, 867, 868, 869] (by decide +kernel) (by decide +kernel)
set_option maxRecDepth 20000 in
theorem ggL_law_X10_when_q5 : GoodIn wsL_law wsX100 := goodIn_r _ [909, 910, 911, 912, 913, 914, 915, 916, 917, 918, 919, 920, 921, 922, 923, 924] (by decide +kernel) (by decide +kernel)
theorem ggL_law_X10_when : GoodIn wsL_law wsX10_when := (zk_gcons ggL_law_X10_when_q1 (goodIn_app (goodIn_app ggL_law_X10_when_q2 (goodIn_app ggL_law_X10_when_q3 ggL_law_X10_when_q4)) ggL_law_X10_when_q5))
set_option maxRecDepth 20000 in
theorem gL_law_X10_when : GoodIn wsL_law (wsV RL 96 RX10 yX10_when wsX10_when) := goodIn_app (goodIn_of _ (by decide +kernel)) ggL_law_X10_when
set_option maxRecDepth 20000 in
theorem ggL_law_X9_would_q1 : GoodIn wsL_law ([.code yX9_would cX9_would 3 (some .int)] : List Cond) := goodIn_r _ [873] (by decide +kernel) (by decide +kernel)
set_option maxRecDepth 20000 in
theorem ggL_law_X9_would_q2 : GoodIn wsL_law wsX9_would_r1 := goodIn_r _ [27, 15, 874, 875, 876, 26, 877, 102, 878, 305, 202, 306, 855, 136, 137, 34, 138, 45, 49, 53, 139, 54, 55, 140] (by decide +kernel) (by decide +kernel)
set_option maxRecDepth 20000 in
theorem ggL_law_X9_would_q3 : GoodIn wsL_law wsX9_would_r2 := goodIn_r _ [141, 142, 143, 144, 145, 146, 147, 148, 149, 44, 150, 60, 151, 152, 153, 154, 155, 156, 157, 158, 48, 159, 65, 160] (by decide +kernel) (by decide +kernel)
set_option maxRecDepth 20000 in
theorem ggL_law_X9_would_q4 : GoodIn wsL_law wsX9_would_r3 := goodIn_r _ [66, 67, 68, 69, 161, 162, 163, 52, 164, 77, 165, 166, 857, 301, 302, 303, 304, 307, 308, 309, 310, 311, 312, 313] (by decide +kernel) (by decide +kernel)
set_option maxRecDepth 20000 in
theorem ggL_law_X9_would_q5 : GoodIn wsL_law wsX9_would_r4 := goodIn_r _ [314, 315, 316, 317, 318, 319, 320, 321, 322, 272, 273, 274, 275, 276, 277, 278, 279, 280, 281, 282, 283, 267, 268, 269] (by decide +kernel) (by decide +kernel)
set_option maxRecDepth 20000 in
theorem ggL_law_X9_would_q6 : GoodIn wsL_law wsX9_would_r5 := goodIn_r _ [270, 242, 243, 244, 245, 323, 324, 325, 326, 246, 180, 181, 182, 271, 183, 184, 185, 186, 187, 188, 189, 190, 327, 328] (by decide +kernel) (by decide +kernel)
set_option maxRecDepth 20000 in
theorem ggL_law_X9_would_q7 : GoodIn wsL_law wsX9_would_r6 := goodIn_r _ [329, 330, 331, 332, 333, 334, 335, 336, 337, 338, 339, 340, 341, 342, 343, 344, 345, 346, 347, 348, 349, 350, 351, 352] (by decide +kernel) (by decide +kernel)
set_option maxRecDepth 20000 in
theorem ggL_law_X9_would_q8 : GoodIn wsL_law wsX9_would_r7 := goodIn_r _ [353, 354, 171, 172, 173, 174, 879, 726, 727, 728, 729, 880, 297, 298, 299] (by decide +kernel) (by decide +kernel)
set_option maxRecDepth 20000 in
theorem ggL_law_X9_would_q9 : GoodIn wsL_law wsX90 := goodIn_r _ [905, 906, 907, 908] (by decide +kernel) (by decide +kernel)
set_option maxRecDepth 20000 in
theorem ggL_law_X9_would_q10 : GoodIn wsL_law wsX60 := goodIn_r _ [925, 926, 927] (by decide +kernel) (by decide +kernel)
set_option maxRecDepth 20000 in
theorem ggL_law_X9_would_q11 : GoodIn wsL_law wsX10 := goodIn_r _ [939] (by decide +kernel) (by decide +kernel)
set_option maxRecDepth 20000 in
theorem ggL_law_X9_would_q12 : GoodIn wsL_law wsX80 := goodIn_r _ [940, 941, 942, 943, 944, 945, 946, 947, 948, 949, 950, 951, 952] (by decide +kernel) (by decide +kernel)
set_option maxRecDepth 20000 in
theorem ggL_law_X9_would_q13 : GoodIn wsL_law wsX50 := goodIn_r _ [953, 954] (by decide +kernel) (by decide +kernel)
set_option maxRecDepth 20000 in
theorem ggL_law_X9_would_q14 : GoodIn wsL_law wsX30 := goodIn_r _ [955, 956, 957, 958, 959] (by decide +kernel) (by decide +kernel)
set_option maxRecDepth 20000 in
theorem ggL_law_X9_would_q15 : GoodIn wsL_law wsX00 := goodIn_r _ [960, 961] (by decide +kernel) (by decide +kernel)
theorem ggL_law_X9_would : GoodIn wsL_law wsX9_would := (zk_gcons ggL_law_X9_would_q1 (goodIn_app (goodIn_app (goodIn_app (goodIn_app (goodIn_app (goodIn_app (goodIn_app (goodIn_app ggL_law_X9_would_q2 (goodIn_app ggL_law_X9_would_q3 (goodIn_app ggL_law_X9_would_q4 (goodIn_app ggL_law_X9_would_q5 (goodIn_app ggL_law_X9_would_q6 (goodIn_app ggL_law_X9_would_q7 ggL_law_X9_would_q8)))))) ggL_law_X9_would_q9) ggL_law_X9_would_q10) ggL_law_X9_would_q11) ggL_law_X9_would_q12) ggL_law_X9_would_q13) ggL_law_X9_would_q14) ggL_law_X9_would_q15))
set_option maxRecDepth 20000 in
theorem gL_law_X9_would : GoodIn wsL_law (wsV RL 97 RX9 yX9_would wsX9_would) := goodIn_app (goodIn_of _ (by decide +kernel)) ggL_law_X9_would
set_option maxRecDepth 20000 in
theorem ggL_law_X10_would_q1 : GoodIn wsL_law ([.code yX10_would cX10_would 6 (some .int)] : List Cond) := goodIn_r _ [884] (by decide +kernel) (by decide +kernel)
set_option maxRecDepth 20000 in
theorem ggL_law_X10_would_q2 : GoodIn wsL_law wsX10_would_r1 := goodIn_r _ [107, 113, 862, 863, 864, 5, 865, 359, 360, 361, 362, 363, 364, 365, 366, 367, 368, 369, 370, 371, 372, 373, 374, 375] (by decide +kernel) (by decide +kernel)
set_option maxRecDepth 20000 in
theorem ggL_law_X10_would_q3 : GoodIn wsL_law wsX10_would_r2 := goodIn_r _ [376, 377, 378, 218, 219, 220, 221, 222, 223, 224, 225, 379, 380, 381, 382, 383, 384, 385, 386, 387, 388, 389, 390, 391] (by decide +kernel) (by decide +kernel)
set_option maxRecDepth 20000 in
theorem ggL_law_X10_would_q4 : GoodIn wsL_law wsX10_would_r3 := goodIn_r _ [392, 393, 394, 255, 256, 257, 258, 395, 396, 397, 398, 866, 867, 868, 869] (by decide +kernel) (by decide +kernel)
set_option maxRecDepth 20000 in
theorem ggL_law_X10_would_q5 : GoodIn wsL_law wsX100 := goodIn_r _ [909, 910, 911, 912, 913, 914, 915, 916, 917, 918, 919, 920, 921, 922, 923, 924] (by decide +kernel) (by decide +kernel)
theorem ggL_law_X10_would : GoodIn wsL_law wsX10_would := (zk_gcons ggL_law_X10_would_q1 (goodIn_app (goodIn_app ggL_law_X10_would_q2 (goodIn_app ggL_law_X10_would_q3 ggL_law_X10_would_q4)) ggL_law_X10_would_q5))
set_option maxRecDepth 20000 in
theorem gL_law_X10_would : GoodIn wsL_law (wsV RL 100 RX10 yX10_would wsX10_would) := goodIn_app (goodIn_of _ (by decide +kernel)) ggL_law_X10_would
set_option maxRecDepth 20000 in
theorem ggL_law_X9_leastRoom_q1 : GoodIn wsL_law ([.code yX9_leastRoom cX9_leastRoom 2 (some .int)] : List Cond) := goodIn_r _ [888] (by decide +kernel) (by decide +kernel)
set_option maxRecDepth 20000 in
theorem ggL_law_X9_leastRoom_q2 : GoodIn wsL_law wsX9_leastRoom_r1 := goodIn_r _ [27, 15, 889, 890, 891, 26, 892, 102, 855, 136, 137, 34, 138, 45, 49, 53, 139, 54, 55, 140, 141, 142, 143, 144] (by decide +kernel) (by decide +kernel)
set_option maxRecDepth 20000 in
theorem ggL_law_X9_leastRoom_q3 : GoodIn wsL_law wsX9_leastRoom_r2 := goodIn_r _ [145, 146, 147, 148, 149, 44, 150, 60, 151, 152, 153, 154, 155, 156, 157, 158, 48, 159, 65, 160, 66, 67, 68, 69] (by decide +kernel) (by decide +kernel)
set_option maxRecDepth 20000 in
theorem ggL_law_X9_leastRoom_q4 : GoodIn wsL_law wsX9_leastRoom_r3 := goodIn_r _ [161, 162, 163, 52, 164, 77, 165, 166, 893, 894, 895, 896, 857, 301, 302, 303, 304, 305, 202, 306, 307, 308, 309, 310] (by decide +kernel) (by decide +kernel)
set_option maxRecDepth 20000 in
theorem ggL_law_X9_leastRoom_q5 : GoodIn wsL_law wsX9_leastRoom_r4 := goodIn_r _ [311, 312, 313, 314, 315, 316, 317, 318, 319, 320, 321, 322, 272, 273, 274, 275, 276, 277, 278, 279, 280, 281, 282, 283] (by decide +kernel) (by decide +kernel)
set_option maxRecDepth 20000 in
theorem ggL_law_X9_leastRoom_q6 : GoodIn wsL_law wsX9_leastRoom_r5 := goodIn_r _ [267, 268, 269, 270, 242, 243, 244, 245, 323, 324, 325, 326, 246, 180, 181, 182, 271, 183, 184, 185, 186, 187, 188, 189] (by decide +kernel) (by decide +kernel)
set_option maxRecDepth 20000 in
theorem ggL_law_X9_leastRoom_q7 : GoodIn wsL_law wsX9_leastRoom_r6 := goodIn_r _ [190, 327, 328, 329, 330, 331, 332, 333, 334, 335, 336, 337, 338, 339, 340, 341, 342, 343, 344, 345, 346, 347, 348, 349] (by decide +kernel) (by decide +kernel)
set_option maxRecDepth 20000 in
theorem ggL_law_X9_leastRoom_q8 : GoodIn wsL_law wsX9_leastRoom_r7 := goodIn_r _ [350, 351, 352, 353, 354, 171, 172, 173, 174] (by decide +kernel) (by decide +kernel)
set_option maxRecDepth 20000 in
theorem ggL_law_X9_leastRoom_q9 : GoodIn wsL_law wsX90 := goodIn_r _ [905, 906, 907, 908] (by decide +kernel) (by decide +kernel)
set_option maxRecDepth 20000 in
theorem ggL_law_X9_leastRoom_q10 : GoodIn wsL_law wsX60 := goodIn_r _ [925, 926, 927] (by decide +kernel) (by decide +kernel)
set_option maxRecDepth 20000 in
theorem ggL_law_X9_leastRoom_q11 : GoodIn wsL_law wsX10 := goodIn_r _ [939] (by decide +kernel) (by decide +kernel)
set_option maxRecDepth 20000 in
theorem ggL_law_X9_leastRoom_q12 : GoodIn wsL_law wsX80 := goodIn_r _ [940, 941, 942, 943, 944, 945, 946, 947, 948, 949, 950, 951, 952] (by decide +kernel) (by decide +kernel)
set_option maxRecDepth 20000 in
theorem ggL_law_X9_leastRoom_q13 : GoodIn wsL_law wsX50 := goodIn_r _ [953, 954] (by decide +kernel) (by decide +kernel)
set_option maxRecDepth 20000 in
theorem ggL_law_X9_leastRoom_q14 : GoodIn wsL_law wsX30 := goodIn_r _ [955, 956, 957, 958, 959] (by decide +kernel) (by decide +kernel)
set_option maxRecDepth 20000 in
theorem ggL_law_X9_leastRoom_q15 : GoodIn wsL_law wsX00 := goodIn_r _ [960, 961] (by decide +kernel) (by decide +kernel)
theorem ggL_law_X9_leastRoom : GoodIn wsL_law wsX9_leastRoom := (zk_gcons ggL_law_X9_leastRoom_q1 (goodIn_app (goodIn_app (goodIn_app (goodIn_app (goodIn_app (goodIn_app (goodIn_app (goodIn_app ggL_law_X9_leastRoom_q2 (goodIn_app ggL_law_X9_leastRoom_q3 (goodIn_app ggL_law_X9_leastRoom_q4 (goodIn_app ggL_law_X9_leastRoom_q5 (goodIn_app ggL_law_X9_leastRoom_q6 (goodIn_app ggL_law_X9_leastRoom_q7 ggL_law_X9_leastRoom_q8)))))) ggL_law_X9_leastRoom_q9) ggL_law_X9_leastRoom_q10) ggL_law_X9_leastRoom_q11) ggL_law_X9_leastRoom_q12) ggL_law_X9_leastRoom_q13) ggL_law_X9_leastRoom_q14) ggL_law_X9_leastRoom_q15))
set_option maxRecDepth 20000 in
theorem gL_law_X9_leastRoom : GoodIn wsL_law (wsV RL 101 RX9 yX9_leastRoom wsX9_leastRoom) := goodIn_app (goodIn_of _ (by decide +kernel)) ggL_law_X9_leastRoom
set_option maxRecDepth 20000 in
theorem ggL_law_X10_leastRoom_q1 : GoodIn wsL_law ([.code yX10_leastRoom cX10_leastRoom 4 (some .int)] : List Cond) := goodIn_r _ [900] (by decide +kernel) (by decide +kernel)
set_option maxRecDepth 20000 in
theorem ggL_law_X10_leastRoom_q2 : GoodIn wsL_law wsX10_leastRoom_r1 := goodIn_r _ [901, 902, 903, 5, 904, 107, 113, 862, 863, 864, 865, 359, 360, 361, 362, 363, 364, 365, 366, 367, 368, 369, 370, 371] (by decide +kernel) (by decide +kernel)
set_option maxRecDepth 20000 in
theorem ggL_law_X10_leastRoom_q3 : GoodIn wsL_law wsX10_leastRoom_r2 := goodIn_r _ [372, 373, 374, 375, 376, 377, 378, 218, 219, 220, 221, 222, 223, 224, 225, 379, 380, 381, 382, 383, 384, 385, 386, 387] (by decide +kernel) (by decide +kernel)
set_option maxRecDepth 20000 in
theorem ggL_law_X10_leastRoom_q4 : GoodIn wsL_law wsX10_leastRoom_r3 := goodIn_r _ [388, 389, 390, 391, 392, 393, 394, 255, 256, 257, 258, 395, 396, 397, 398, 866, 867, 868, 869] (by decide +kernel) (by decide +kernel)
set_option maxRecDepth 20000 in
theorem ggL_law_X10_leastRoom_q5 : GoodIn wsL_law wsX100 := goodIn_r _ [909, 910, 911, 912, 913, 914, 915, 916, 917, 918, 919, 920, 921, 922, 923, 924] (by decide +kernel) (by decide +kernel)
theorem ggL_law_X10_leastRoom : GoodIn wsL_law wsX10_leastRoom := (zk_gcons ggL_law_X10_leastRoom_q1 (goodIn_app (goodIn_app ggL_law_X10_leastRoom_q2 (goodIn_app ggL_law_X10_leastRoom_q3 ggL_law_X10_leastRoom_q4)) ggL_law_X10_leastRoom_q5))
set_option maxRecDepth 20000 in
theorem gL_law_X10_leastRoom : GoodIn wsL_law (wsV RL 104 RX10 yX10_leastRoom wsX10_leastRoom) := goodIn_app (goodIn_of _ (by decide +kernel)) ggL_law_X10_leastRoom
theorem dL_law_0 : decode cL_law 0 = .ok (.new 7, 3) := by decide +kernel
theorem dL_law_3 : decode cL_law 3 = .ok (.dup, 1) := by decide +kernel
theorem dL_law_4 : decode cL_law 4 = .ok (.invokespecial 9, 3) := by decide +kernel
theorem dL_law_7 : decode cL_law 7 = .ok (.astore_n 1, 1) := by decide +kernel
theorem dL_law_8 : decode cL_law 8 = .ok (.new 10, 3) := by decide +kernel
theorem dL_law_11 : decode cL_law 11 = .ok (.dup, 1) := by decide +kernel
theorem dL_law_12 : decode cL_law 12 = .ok (.invokespecial 12, 3) := by decide +kernel
theorem dL_law_15 : decode cL_law 15 = .ok (.astore_n 2, 1) := by decide +kernel
theorem dL_law_16 : decode cL_law 16 = .ok (.iconst 0, 1) := by decide +kernel
theorem dL_law_17 : decode cL_law 17 = .ok (.istore_n 3, 1) := by decide +kernel
theorem dL_law_18 : decode cL_law 18 = .ok (.iload_n 3, 1) := by decide +kernel
theorem dL_law_19 : decode cL_law 19 = .ok (.aload_n 0, 1) := by decide +kernel
theorem dL_law_20 : decode cL_law 20 = .ok (.arraylength, 1) := by decide +kernel
theorem dL_law_21 : decode cL_law 21 = .ok (.iconst 4, 1) := by decide +kernel
theorem dL_law_22 : decode cL_law 22 = .ok (.isub, 1) := by decide +kernel
theorem dL_law_23 : decode cL_law 23 = .ok (.if_icmp .gt 705, 3) := by decide +kernel
theorem dL_law_26 : decode cL_law 26 = .ok (.aload_n 0, 1) := by decide +kernel
theorem dL_law_27 : decode cL_law 27 = .ok (.iload_n 3, 1) := by decide +kernel
theorem dL_law_28 : decode cL_law 28 = .ok (.iaload, 1) := by decide +kernel
theorem dL_law_29 : decode cL_law 29 = .ok (.bipush 31, 2) := by decide +kernel
theorem dL_law_31 : decode cL_law 31 = .ok (.iand, 1) := by decide +kernel
theorem dL_law_32 : decode cL_law 32 = .ok (.tableswitch 690 0 21 #[104, 147, 170, 203, 226, 239, 272, 295, 318, 331, 354, 367, 380, 403, 426, 459, 502, 545, 578, 611, 634, 667], 104) := by decide +kernel
theorem dL_law_136 : decode cL_law 136 = .ok (.aload_n 1, 1) := by decide +kernel
theorem dL_law_137 : decode cL_law 137 = .ok (.aload_n 0, 1) := by decide +kernel
theorem dL_law_138 : decode cL_law 138 = .ok (.iload_n 3, 1) := by decide +kernel
theorem dL_law_139 : decode cL_law 139 = .ok (.iconst 1, 1) := by decide +kernel
theorem dL_law_140 : decode cL_law 140 = .ok (.iadd, 1) := by decide +kernel
theorem dL_law_141 : decode cL_law 141 = .ok (.iaload, 1) := by decide +kernel
theorem dL_law_142 : decode cL_law 142 = .ok (.aload_n 0, 1) := by decide +kernel
theorem dL_law_143 : decode cL_law 143 = .ok (.iload_n 3, 1) := by decide +kernel
theorem dL_law_144 : decode cL_law 144 = .ok (.iconst 2, 1) := by decide +kernel
theorem dL_law_145 : decode cL_law 145 = .ok (.iadd, 1) := by decide +kernel
theorem dL_law_146 : decode cL_law 146 = .ok (.iaload, 1) := by decide +kernel
theorem dL_law_147 : decode cL_law 147 = .ok (.aload_n 0, 1) := by decide +kernel
theorem dL_law_148 : decode cL_law 148 = .ok (.iload_n 3, 1) := by decide +kernel
theorem dL_law_149 : decode cL_law 149 = .ok (.iconst 3, 1) := by decide +kernel
theorem dL_law_150 : decode cL_law 150 = .ok (.iadd, 1) := by decide +kernel
theorem dL_law_151 : decode cL_law 151 = .ok (.iaload, 1) := by decide +kernel
theorem dL_law_152 : decode cL_law 152 = .ok (.invokevirtual 13, 3) := by decide +kernel
theorem dL_law_155 : decode cL_law 155 = .ok (.aload_n 2, 1) := by decide +kernel
theorem dL_law_156 : decode cL_law 156 = .ok (.aload_n 0, 1) := by decide +kernel
theorem dL_law_157 : decode cL_law 157 = .ok (.iload_n 3, 1) := by decide +kernel
theorem dL_law_158 : decode cL_law 158 = .ok (.iconst 1, 1) := by decide +kernel
theorem dL_law_159 : decode cL_law 159 = .ok (.iadd, 1) := by decide +kernel
theorem dL_law_160 : decode cL_law 160 = .ok (.iaload, 1) := by decide +kernel
theorem dL_law_161 : decode cL_law 161 = .ok (.aload_n 0, 1) := by decide +kernel
theorem dL_law_162 : decode cL_law 162 = .ok (.iload_n 3, 1) := by decide +kernel
theorem dL_law_163 : decode cL_law 163 = .ok (.iconst 2, 1) := by decide +kernel
theorem dL_law_164 : decode cL_law 164 = .ok (.iadd, 1) := by decide +kernel
theorem dL_law_165 : decode cL_law 165 = .ok (.iaload, 1) := by decide +kernel
theorem dL_law_166 : decode cL_law 166 = .ok (.aload_n 0, 1) := by decide +kernel
theorem dL_law_167 : decode cL_law 167 = .ok (.iload_n 3, 1) := by decide +kernel
theorem dL_law_168 : decode cL_law 168 = .ok (.iconst 3, 1) := by decide +kernel
theorem dL_law_169 : decode cL_law 169 = .ok (.iadd, 1) := by decide +kernel
theorem dL_law_170 : decode cL_law 170 = .ok (.iaload, 1) := by decide +kernel
theorem dL_law_171 : decode cL_law 171 = .ok (.invokevirtual 17, 3) := by decide +kernel
theorem dL_law_174 : decode cL_law 174 = .ok (.if_icmp .eq 548, 3) := by decide +kernel
theorem dL_law_177 : decode cL_law 177 = .ok (.iconst 0, 1) := by decide +kernel
theorem dL_law_178 : decode cL_law 178 = .ok (.ireturn, 1) := by decide +kernel
theorem dL_law_179 : decode cL_law 179 = .ok (.aload_n 1, 1) := by decide +kernel
theorem dL_law_180 : decode cL_law 180 = .ok (.aload_n 0, 1) := by decide +kernel
theorem dL_law_181 : decode cL_law 181 = .ok (.iload_n 3, 1) := by decide +kernel
theorem dL_law_182 : decode cL_law 182 = .ok (.iconst 1, 1) := by decide +kernel
theorem dL_law_183 : decode cL_law 183 = .ok (.iadd, 1) := by decide +kernel
theorem dL_law_184 : decode cL_law 184 = .ok (.iaload, 1) := by decide +kernel
theorem dL_law_185 : decode cL_law 185 = .ok (.invokevirtual 18, 3) := by decide +kernel
theorem dL_law_188 : decode cL_law 188 = .ok (.aload_n 2, 1) := by decide +kernel
theorem dL_law_189 : decode cL_law 189 = .ok (.aload_n 0, 1) := by decide +kernel
theorem dL_law_190 : decode cL_law 190 = .ok (.iload_n 3, 1) := by decide +kernel
theorem dL_law_191 : decode cL_law 191 = .ok (.iconst 1, 1) := by decide +kernel
theorem dL_law_192 : decode cL_law 192 = .ok (.iadd, 1) := by decide +kernel
theorem dL_law_193 : decode cL_law 193 = .ok (.iaload, 1) := by decide +kernel
theorem dL_law_194 : decode cL_law 194 = .ok (.invokevirtual 22, 3) := by decide +kernel
theorem dL_law_197 : decode cL_law 197 = .ok (.if_icmp .eq 525, 3) := by decide +kernel
theorem dL_law_200 : decode cL_law 200 = .ok (.iconst 0, 1) := by decide +kernel
theorem dL_law_201 : decode cL_law 201 = .ok (.ireturn, 1) := by decide +kernel
theorem dL_law_202 : decode cL_law 202 = .ok (.aload_n 1, 1) := by decide +kernel
theorem dL_law_203 : decode cL_law 203 = .ok (.aload_n 0, 1) := by decide +kernel
theorem dL_law_204 : decode cL_law 204 = .ok (.iload_n 3, 1) := by decide +kernel
theorem dL_law_205 : decode cL_law 205 = .ok (.iconst 1, 1) := by decide +kernel
theorem dL_law_206 : decode cL_law 206 = .ok (.iadd, 1) := by decide +kernel
theorem dL_law_207 : decode cL_law 207 = .ok (.iaload, 1) := by decide +kernel
theorem dL_law_208 : decode cL_law 208 = .ok (.aload_n 0, 1) := by decide +kernel
theorem dL_law_209 : decode cL_law 209 = .ok (.iload_n 3, 1) := by decide +kernel
theorem dL_law_210 : decode cL_law 210 = .ok (.iconst 2, 1) := by decide +kernel
theorem dL_law_211 : decode cL_law 211 = .ok (.iadd, 1) := by decide +kernel
theorem dL_law_212 : decode cL_law 212 = .ok (.iaload, 1) := by decide +kernel
theorem dL_law_213 : decode cL_law 213 = .ok (.invokevirtual 23, 3) := by decide +kernel
theorem dL_law_216 : decode cL_law 216 = .ok (.aload_n 2, 1) := by decide +kernel
theorem dL_law_217 : decode cL_law 217 = .ok (.aload_n 0, 1) := by decide +kernel
theorem dL_law_218 : decode cL_law 218 = .ok (.iload_n 3, 1) := by decide +kernel
theorem dL_law_219 : decode cL_law 219 = .ok (.iconst 1, 1) := by decide +kernel
theorem dL_law_220 : decode cL_law 220 = .ok (.iadd, 1) := by decide +kernel
theorem dL_law_221 : decode cL_law 221 = .ok (.iaload, 1) := by decide +kernel
theorem dL_law_222 : decode cL_law 222 = .ok (.aload_n 0, 1) := by decide +kernel
theorem dL_law_223 : decode cL_law 223 = .ok (.iload_n 3, 1) := by decide +kernel
theorem dL_law_224 : decode cL_law 224 = .ok (.iconst 2, 1) := by decide +kernel
theorem dL_law_225 : decode cL_law 225 = .ok (.iadd, 1) := by decide +kernel
theorem dL_law_226 : decode cL_law 226 = .ok (.iaload, 1) := by decide +kernel
theorem dL_law_227 : decode cL_law 227 = .ok (.invokevirtual 27, 3) := by decide +kernel
theorem dL_law_230 : decode cL_law 230 = .ok (.if_icmp .eq 492, 3) := by decide +kernel
theorem dL_law_233 : decode cL_law 233 = .ok (.iconst 0, 1) := by decide +kernel
theorem dL_law_234 : decode cL_law 234 = .ok (.ireturn, 1) := by decide +kernel
theorem dL_law_235 : decode cL_law 235 = .ok (.aload_n 1, 1) := by decide +kernel
theorem dL_law_236 : decode cL_law 236 = .ok (.aload_n 0, 1) := by decide +kernel
theorem dL_law_237 : decode cL_law 237 = .ok (.iload_n 3, 1) := by decide +kernel
theorem dL_law_238 : decode cL_law 238 = .ok (.iconst 1, 1) := by decide +kernel
theorem dL_law_239 : decode cL_law 239 = .ok (.iadd, 1) := by decide +kernel
theorem dL_law_240 : decode cL_law 240 = .ok (.iaload, 1) := by decide +kernel
theorem dL_law_241 : decode cL_law 241 = .ok (.invokevirtual 28, 3) := by decide +kernel
theorem dL_law_244 : decode cL_law 244 = .ok (.aload_n 2, 1) := by decide +kernel
theorem dL_law_245 : decode cL_law 245 = .ok (.aload_n 0, 1) := by decide +kernel
theorem dL_law_246 : decode cL_law 246 = .ok (.iload_n 3, 1) := by decide +kernel
theorem dL_law_247 : decode cL_law 247 = .ok (.iconst 1, 1) := by decide +kernel
theorem dL_law_248 : decode cL_law 248 = .ok (.iadd, 1) := by decide +kernel
theorem dL_law_249 : decode cL_law 249 = .ok (.iaload, 1) := by decide +kernel
theorem dL_law_250 : decode cL_law 250 = .ok (.invokevirtual 31, 3) := by decide +kernel
theorem dL_law_253 : decode cL_law 253 = .ok (.if_icmp .eq 469, 3) := by decide +kernel
theorem dL_law_256 : decode cL_law 256 = .ok (.iconst 0, 1) := by decide +kernel
theorem dL_law_257 : decode cL_law 257 = .ok (.ireturn, 1) := by decide +kernel
theorem dL_law_258 : decode cL_law 258 = .ok (.aload_n 1, 1) := by decide +kernel
theorem dL_law_259 : decode cL_law 259 = .ok (.invokevirtual 32, 3) := by decide +kernel
theorem dL_law_262 : decode cL_law 262 = .ok (.aload_n 2, 1) := by decide +kernel
theorem dL_law_263 : decode cL_law 263 = .ok (.invokevirtual 36, 3) := by decide +kernel
theorem dL_law_266 : decode cL_law 266 = .ok (.if_icmp .eq 456, 3) := by decide +kernel
theorem dL_law_269 : decode cL_law 269 = .ok (.iconst 0, 1) := by decide +kernel
theorem dL_law_270 : decode cL_law 270 = .ok (.ireturn, 1) := by decide +kernel
theorem dL_law_271 : decode cL_law 271 = .ok (.aload_n 1, 1) := by decide +kernel
theorem dL_law_272 : decode cL_law 272 = .ok (.aload_n 0, 1) := by decide +kernel
theorem dL_law_273 : decode cL_law 273 = .ok (.iload_n 3, 1) := by decide +kernel
theorem dL_law_274 : decode cL_law 274 = .ok (.iconst 1, 1) := by decide +kernel
theorem dL_law_275 : decode cL_law 275 = .ok (.iadd, 1) := by decide +kernel
theorem dL_law_276 : decode cL_law 276 = .ok (.iaload, 1) := by decide +kernel
theorem dL_law_277 : decode cL_law 277 = .ok (.aload_n 0, 1) := by decide +kernel
theorem dL_law_278 : decode cL_law 278 = .ok (.iload_n 3, 1) := by decide +kernel
theorem dL_law_279 : decode cL_law 279 = .ok (.iconst 2, 1) := by decide +kernel
theorem dL_law_280 : decode cL_law 280 = .ok (.iadd, 1) := by decide +kernel
theorem dL_law_281 : decode cL_law 281 = .ok (.iaload, 1) := by decide +kernel
theorem dL_law_282 : decode cL_law 282 = .ok (.invokevirtual 37, 3) := by decide +kernel
theorem dL_law_285 : decode cL_law 285 = .ok (.aload_n 2, 1) := by decide +kernel
theorem dL_law_286 : decode cL_law 286 = .ok (.aload_n 0, 1) := by decide +kernel
theorem dL_law_287 : decode cL_law 287 = .ok (.iload_n 3, 1) := by decide +kernel
theorem dL_law_288 : decode cL_law 288 = .ok (.iconst 1, 1) := by decide +kernel
theorem dL_law_289 : decode cL_law 289 = .ok (.iadd, 1) := by decide +kernel
theorem dL_law_290 : decode cL_law 290 = .ok (.iaload, 1) := by decide +kernel
theorem dL_law_291 : decode cL_law 291 = .ok (.aload_n 0, 1) := by decide +kernel
theorem dL_law_292 : decode cL_law 292 = .ok (.iload_n 3, 1) := by decide +kernel
theorem dL_law_293 : decode cL_law 293 = .ok (.iconst 2, 1) := by decide +kernel
theorem dL_law_294 : decode cL_law 294 = .ok (.iadd, 1) := by decide +kernel
theorem dL_law_295 : decode cL_law 295 = .ok (.iaload, 1) := by decide +kernel
theorem dL_law_296 : decode cL_law 296 = .ok (.invokevirtual 40, 3) := by decide +kernel
theorem dL_law_299 : decode cL_law 299 = .ok (.if_icmp .eq 423, 3) := by decide +kernel
theorem dL_law_302 : decode cL_law 302 = .ok (.iconst 0, 1) := by decide +kernel
theorem dL_law_303 : decode cL_law 303 = .ok (.ireturn, 1) := by decide +kernel
theorem dL_law_304 : decode cL_law 304 = .ok (.aload_n 1, 1) := by decide +kernel
theorem dL_law_305 : decode cL_law 305 = .ok (.aload_n 0, 1) := by decide +kernel
theorem dL_law_306 : decode cL_law 306 = .ok (.iload_n 3, 1) := by decide +kernel
theorem dL_law_307 : decode cL_law 307 = .ok (.iconst 1, 1) := by decide +kernel
theorem dL_law_308 : decode cL_law 308 = .ok (.iadd, 1) := by decide +kernel
theorem dL_law_309 : decode cL_law 309 = .ok (.iaload, 1) := by decide +kernel
theorem dL_law_310 : decode cL_law 310 = .ok (.invokevirtual 41, 3) := by decide +kernel
theorem dL_law_313 : decode cL_law 313 = .ok (.aload_n 2, 1) := by decide +kernel
theorem dL_law_314 : decode cL_law 314 = .ok (.aload_n 0, 1) := by decide +kernel
theorem dL_law_315 : decode cL_law 315 = .ok (.iload_n 3, 1) := by decide +kernel
theorem dL_law_316 : decode cL_law 316 = .ok (.iconst 1, 1) := by decide +kernel
theorem dL_law_317 : decode cL_law 317 = .ok (.iadd, 1) := by decide +kernel
theorem dL_law_318 : decode cL_law 318 = .ok (.iaload, 1) := by decide +kernel
theorem dL_law_319 : decode cL_law 319 = .ok (.invokevirtual 44, 3) := by decide +kernel
theorem dL_law_322 : decode cL_law 322 = .ok (.if_icmp .eq 400, 3) := by decide +kernel
theorem dL_law_325 : decode cL_law 325 = .ok (.iconst 0, 1) := by decide +kernel
theorem dL_law_326 : decode cL_law 326 = .ok (.ireturn, 1) := by decide +kernel
theorem dL_law_327 : decode cL_law 327 = .ok (.aload_n 1, 1) := by decide +kernel
theorem dL_law_328 : decode cL_law 328 = .ok (.aload_n 0, 1) := by decide +kernel
theorem dL_law_329 : decode cL_law 329 = .ok (.iload_n 3, 1) := by decide +kernel
theorem dL_law_330 : decode cL_law 330 = .ok (.iconst 1, 1) := by decide +kernel
theorem dL_law_331 : decode cL_law 331 = .ok (.iadd, 1) := by decide +kernel
theorem dL_law_332 : decode cL_law 332 = .ok (.iaload, 1) := by decide +kernel
theorem dL_law_333 : decode cL_law 333 = .ok (.invokevirtual 45, 3) := by decide +kernel
theorem dL_law_336 : decode cL_law 336 = .ok (.aload_n 2, 1) := by decide +kernel
theorem dL_law_337 : decode cL_law 337 = .ok (.aload_n 0, 1) := by decide +kernel
theorem dL_law_338 : decode cL_law 338 = .ok (.iload_n 3, 1) := by decide +kernel
theorem dL_law_339 : decode cL_law 339 = .ok (.iconst 1, 1) := by decide +kernel
theorem dL_law_340 : decode cL_law 340 = .ok (.iadd, 1) := by decide +kernel
theorem dL_law_341 : decode cL_law 341 = .ok (.iaload, 1) := by decide +kernel
theorem dL_law_342 : decode cL_law 342 = .ok (.invokevirtual 48, 3) := by decide +kernel
theorem dL_law_345 : decode cL_law 345 = .ok (.if_icmp .eq 377, 3) := by decide +kernel
theorem dL_law_348 : decode cL_law 348 = .ok (.iconst 0, 1) := by decide +kernel
theorem dL_law_349 : decode cL_law 349 = .ok (.ireturn, 1) := by decide +kernel
theorem dL_law_350 : decode cL_law 350 = .ok (.aload_n 1, 1) := by decide +kernel
theorem dL_law_351 : decode cL_law 351 = .ok (.invokevirtual 49, 3) := by decide +kernel
theorem dL_law_354 : decode cL_law 354 = .ok (.aload_n 2, 1) := by decide +kernel
theorem dL_law_355 : decode cL_law 355 = .ok (.invokevirtual 52, 3) := by decide +kernel
theorem dL_law_358 : decode cL_law 358 = .ok (.if_icmp .eq 364, 3) := by decide +kernel
theorem dL_law_361 : decode cL_law 361 = .ok (.iconst 0, 1) := by decide +kernel
theorem dL_law_362 : decode cL_law 362 = .ok (.ireturn, 1) := by decide +kernel
theorem dL_law_363 : decode cL_law 363 = .ok (.aload_n 1, 1) := by decide +kernel
theorem dL_law_364 : decode cL_law 364 = .ok (.aload_n 0, 1) := by decide +kernel
theorem dL_law_365 : decode cL_law 365 = .ok (.iload_n 3, 1) := by decide +kernel
theorem dL_law_366 : decode cL_law 366 = .ok (.iconst 1, 1) := by decide +kernel
theorem dL_law_367 : decode cL_law 367 = .ok (.iadd, 1) := by decide +kernel
theorem dL_law_368 : decode cL_law 368 = .ok (.iaload, 1) := by decide +kernel
theorem dL_law_369 : decode cL_law 369 = .ok (.invokevirtual 53, 3) := by decide +kernel
theorem dL_law_372 : decode cL_law 372 = .ok (.aload_n 2, 1) := by decide +kernel
theorem dL_law_373 : decode cL_law 373 = .ok (.aload_n 0, 1) := by decide +kernel
theorem dL_law_374 : decode cL_law 374 = .ok (.iload_n 3, 1) := by decide +kernel
theorem dL_law_375 : decode cL_law 375 = .ok (.iconst 1, 1) := by decide +kernel
theorem dL_law_376 : decode cL_law 376 = .ok (.iadd, 1) := by decide +kernel
theorem dL_law_377 : decode cL_law 377 = .ok (.iaload, 1) := by decide +kernel
theorem dL_law_378 : decode cL_law 378 = .ok (.invokevirtual 56, 3) := by decide +kernel
theorem dL_law_381 : decode cL_law 381 = .ok (.if_icmp .eq 341, 3) := by decide +kernel
theorem dL_law_384 : decode cL_law 384 = .ok (.iconst 0, 1) := by decide +kernel
theorem dL_law_385 : decode cL_law 385 = .ok (.ireturn, 1) := by decide +kernel
theorem dL_law_386 : decode cL_law 386 = .ok (.aload_n 1, 1) := by decide +kernel
theorem dL_law_387 : decode cL_law 387 = .ok (.invokevirtual 57, 3) := by decide +kernel
theorem dL_law_390 : decode cL_law 390 = .ok (.aload_n 2, 1) := by decide +kernel
theorem dL_law_391 : decode cL_law 391 = .ok (.invokevirtual 60, 3) := by decide +kernel
theorem dL_law_394 : decode cL_law 394 = .ok (.if_icmp .eq 328, 3) := by decide +kernel
theorem dL_law_397 : decode cL_law 397 = .ok (.iconst 0, 1) := by decide +kernel
theorem dL_law_398 : decode cL_law 398 = .ok (.ireturn, 1) := by decide +kernel
theorem dL_law_399 : decode cL_law 399 = .ok (.aload_n 1, 1) := by decide +kernel
theorem dL_law_400 : decode cL_law 400 = .ok (.invokevirtual 61, 3) := by decide +kernel
theorem dL_law_403 : decode cL_law 403 = .ok (.aload_n 2, 1) := by decide +kernel
theorem dL_law_404 : decode cL_law 404 = .ok (.invokevirtual 64, 3) := by decide +kernel
theorem dL_law_407 : decode cL_law 407 = .ok (.if_icmp .eq 315, 3) := by decide +kernel
theorem dL_law_410 : decode cL_law 410 = .ok (.iconst 0, 1) := by decide +kernel
theorem dL_law_411 : decode cL_law 411 = .ok (.ireturn, 1) := by decide +kernel
theorem dL_law_412 : decode cL_law 412 = .ok (.aload_n 1, 1) := by decide +kernel
theorem dL_law_413 : decode cL_law 413 = .ok (.aload_n 0, 1) := by decide +kernel
theorem dL_law_414 : decode cL_law 414 = .ok (.iload_n 3, 1) := by decide +kernel
theorem dL_law_415 : decode cL_law 415 = .ok (.iconst 1, 1) := by decide +kernel
theorem dL_law_416 : decode cL_law 416 = .ok (.iadd, 1) := by decide +kernel
theorem dL_law_417 : decode cL_law 417 = .ok (.iaload, 1) := by decide +kernel
theorem dL_law_418 : decode cL_law 418 = .ok (.invokevirtual 65, 3) := by decide +kernel
theorem dL_law_421 : decode cL_law 421 = .ok (.aload_n 2, 1) := by decide +kernel
theorem dL_law_422 : decode cL_law 422 = .ok (.aload_n 0, 1) := by decide +kernel
theorem dL_law_423 : decode cL_law 423 = .ok (.iload_n 3, 1) := by decide +kernel
theorem dL_law_424 : decode cL_law 424 = .ok (.iconst 1, 1) := by decide +kernel
theorem dL_law_425 : decode cL_law 425 = .ok (.iadd, 1) := by decide +kernel
theorem dL_law_426 : decode cL_law 426 = .ok (.iaload, 1) := by decide +kernel
theorem dL_law_427 : decode cL_law 427 = .ok (.invokevirtual 68, 3) := by decide +kernel
theorem dL_law_430 : decode cL_law 430 = .ok (.if_icmp .eq 292, 3) := by decide +kernel
theorem dL_law_433 : decode cL_law 433 = .ok (.iconst 0, 1) := by decide +kernel
theorem dL_law_434 : decode cL_law 434 = .ok (.ireturn, 1) := by decide +kernel
theorem dL_law_435 : decode cL_law 435 = .ok (.aload_n 1, 1) := by decide +kernel
theorem dL_law_436 : decode cL_law 436 = .ok (.aload_n 0, 1) := by decide +kernel
theorem dL_law_437 : decode cL_law 437 = .ok (.iload_n 3, 1) := by decide +kernel
theorem dL_law_438 : decode cL_law 438 = .ok (.iconst 1, 1) := by decide +kernel
theorem dL_law_439 : decode cL_law 439 = .ok (.iadd, 1) := by decide +kernel
theorem dL_law_440 : decode cL_law 440 = .ok (.iaload, 1) := by decide +kernel
theorem dL_law_441 : decode cL_law 441 = .ok (.invokevirtual 69, 3) := by decide +kernel
theorem dL_law_444 : decode cL_law 444 = .ok (.aload_n 2, 1) := by decide +kernel
theorem dL_law_445 : decode cL_law 445 = .ok (.aload_n 0, 1) := by decide +kernel
theorem dL_law_446 : decode cL_law 446 = .ok (.iload_n 3, 1) := by decide +kernel
theorem dL_law_447 : decode cL_law 447 = .ok (.iconst 1, 1) := by decide +kernel
theorem dL_law_448 : decode cL_law 448 = .ok (.iadd, 1) := by decide +kernel
theorem dL_law_449 : decode cL_law 449 = .ok (.iaload, 1) := by decide +kernel
theorem dL_law_450 : decode cL_law 450 = .ok (.invokevirtual 72, 3) := by decide +kernel
theorem dL_law_453 : decode cL_law 453 = .ok (.if_icmp .eq 269, 3) := by decide +kernel
theorem dL_law_456 : decode cL_law 456 = .ok (.iconst 0, 1) := by decide +kernel
theorem dL_law_457 : decode cL_law 457 = .ok (.ireturn, 1) := by decide +kernel
theorem dL_law_458 : decode cL_law 458 = .ok (.aload_n 1, 1) := by decide +kernel
theorem dL_law_459 : decode cL_law 459 = .ok (.aload_n 0, 1) := by decide +kernel
theorem dL_law_460 : decode cL_law 460 = .ok (.iload_n 3, 1) := by decide +kernel
theorem dL_law_461 : decode cL_law 461 = .ok (.iconst 1, 1) := by decide +kernel
theorem dL_law_462 : decode cL_law 462 = .ok (.iadd, 1) := by decide +kernel
theorem dL_law_463 : decode cL_law 463 = .ok (.iaload, 1) := by decide +kernel
theorem dL_law_464 : decode cL_law 464 = .ok (.aload_n 0, 1) := by decide +kernel
theorem dL_law_465 : decode cL_law 465 = .ok (.iload_n 3, 1) := by decide +kernel
theorem dL_law_466 : decode cL_law 466 = .ok (.iconst 2, 1) := by decide +kernel
theorem dL_law_467 : decode cL_law 467 = .ok (.iadd, 1) := by decide +kernel
theorem dL_law_468 : decode cL_law 468 = .ok (.iaload, 1) := by decide +kernel
theorem dL_law_469 : decode cL_law 469 = .ok (.invokevirtual 73, 3) := by decide +kernel
theorem dL_law_472 : decode cL_law 472 = .ok (.aload_n 2, 1) := by decide +kernel
theorem dL_law_473 : decode cL_law 473 = .ok (.aload_n 0, 1) := by decide +kernel
theorem dL_law_474 : decode cL_law 474 = .ok (.iload_n 3, 1) := by decide +kernel
theorem dL_law_475 : decode cL_law 475 = .ok (.iconst 1, 1) := by decide +kernel
theorem dL_law_476 : decode cL_law 476 = .ok (.iadd, 1) := by decide +kernel
theorem dL_law_477 : decode cL_law 477 = .ok (.iaload, 1) := by decide +kernel
theorem dL_law_478 : decode cL_law 478 = .ok (.aload_n 0, 1) := by decide +kernel
theorem dL_law_479 : decode cL_law 479 = .ok (.iload_n 3, 1) := by decide +kernel
theorem dL_law_480 : decode cL_law 480 = .ok (.iconst 2, 1) := by decide +kernel
theorem dL_law_481 : decode cL_law 481 = .ok (.iadd, 1) := by decide +kernel
theorem dL_law_482 : decode cL_law 482 = .ok (.iaload, 1) := by decide +kernel
theorem dL_law_483 : decode cL_law 483 = .ok (.invokevirtual 76, 3) := by decide +kernel
theorem dL_law_486 : decode cL_law 486 = .ok (.if_icmp .eq 236, 3) := by decide +kernel
theorem dL_law_489 : decode cL_law 489 = .ok (.iconst 0, 1) := by decide +kernel
theorem dL_law_490 : decode cL_law 490 = .ok (.ireturn, 1) := by decide +kernel
theorem dL_law_491 : decode cL_law 491 = .ok (.aload_n 1, 1) := by decide +kernel
theorem dL_law_492 : decode cL_law 492 = .ok (.aload_n 0, 1) := by decide +kernel
theorem dL_law_493 : decode cL_law 493 = .ok (.iload_n 3, 1) := by decide +kernel
theorem dL_law_494 : decode cL_law 494 = .ok (.iconst 1, 1) := by decide +kernel
theorem dL_law_495 : decode cL_law 495 = .ok (.iadd, 1) := by decide +kernel
theorem dL_law_496 : decode cL_law 496 = .ok (.iaload, 1) := by decide +kernel
theorem dL_law_497 : decode cL_law 497 = .ok (.aload_n 0, 1) := by decide +kernel
theorem dL_law_498 : decode cL_law 498 = .ok (.iload_n 3, 1) := by decide +kernel
theorem dL_law_499 : decode cL_law 499 = .ok (.iconst 2, 1) := by decide +kernel
theorem dL_law_500 : decode cL_law 500 = .ok (.iadd, 1) := by decide +kernel
theorem dL_law_501 : decode cL_law 501 = .ok (.iaload, 1) := by decide +kernel
theorem dL_law_502 : decode cL_law 502 = .ok (.aload_n 0, 1) := by decide +kernel
theorem dL_law_503 : decode cL_law 503 = .ok (.iload_n 3, 1) := by decide +kernel
theorem dL_law_504 : decode cL_law 504 = .ok (.iconst 3, 1) := by decide +kernel
theorem dL_law_505 : decode cL_law 505 = .ok (.iadd, 1) := by decide +kernel
theorem dL_law_506 : decode cL_law 506 = .ok (.iaload, 1) := by decide +kernel
theorem dL_law_507 : decode cL_law 507 = .ok (.invokevirtual 77, 3) := by decide +kernel
theorem dL_law_510 : decode cL_law 510 = .ok (.aload_n 2, 1) := by decide +kernel
theorem dL_law_511 : decode cL_law 511 = .ok (.aload_n 0, 1) := by decide +kernel
theorem dL_law_512 : decode cL_law 512 = .ok (.iload_n 3, 1) := by decide +kernel
theorem dL_law_513 : decode cL_law 513 = .ok (.iconst 1, 1) := by decide +kernel
theorem dL_law_514 : decode cL_law 514 = .ok (.iadd, 1) := by decide +kernel
theorem dL_law_515 : decode cL_law 515 = .ok (.iaload, 1) := by decide +kernel
theorem dL_law_516 : decode cL_law 516 = .ok (.aload_n 0, 1) := by decide +kernel
theorem dL_law_517 : decode cL_law 517 = .ok (.iload_n 3, 1) := by decide +kernel
theorem dL_law_518 : decode cL_law 518 = .ok (.iconst 2, 1) := by decide +kernel
theorem dL_law_519 : decode cL_law 519 = .ok (.iadd, 1) := by decide +kernel
theorem dL_law_520 : decode cL_law 520 = .ok (.iaload, 1) := by decide +kernel
theorem dL_law_521 : decode cL_law 521 = .ok (.aload_n 0, 1) := by decide +kernel
theorem dL_law_522 : decode cL_law 522 = .ok (.iload_n 3, 1) := by decide +kernel
theorem dL_law_523 : decode cL_law 523 = .ok (.iconst 3, 1) := by decide +kernel
theorem dL_law_524 : decode cL_law 524 = .ok (.iadd, 1) := by decide +kernel
theorem dL_law_525 : decode cL_law 525 = .ok (.iaload, 1) := by decide +kernel
theorem dL_law_526 : decode cL_law 526 = .ok (.invokevirtual 80, 3) := by decide +kernel
theorem dL_law_529 : decode cL_law 529 = .ok (.if_icmp .eq 193, 3) := by decide +kernel
theorem dL_law_532 : decode cL_law 532 = .ok (.iconst 0, 1) := by decide +kernel
theorem dL_law_533 : decode cL_law 533 = .ok (.ireturn, 1) := by decide +kernel
theorem dL_law_534 : decode cL_law 534 = .ok (.aload_n 1, 1) := by decide +kernel
theorem dL_law_535 : decode cL_law 535 = .ok (.aload_n 0, 1) := by decide +kernel
theorem dL_law_536 : decode cL_law 536 = .ok (.iload_n 3, 1) := by decide +kernel
theorem dL_law_537 : decode cL_law 537 = .ok (.iconst 1, 1) := by decide +kernel
theorem dL_law_538 : decode cL_law 538 = .ok (.iadd, 1) := by decide +kernel
theorem dL_law_539 : decode cL_law 539 = .ok (.iaload, 1) := by decide +kernel
theorem dL_law_540 : decode cL_law 540 = .ok (.aload_n 0, 1) := by decide +kernel
theorem dL_law_541 : decode cL_law 541 = .ok (.iload_n 3, 1) := by decide +kernel
theorem dL_law_542 : decode cL_law 542 = .ok (.iconst 2, 1) := by decide +kernel
theorem dL_law_543 : decode cL_law 543 = .ok (.iadd, 1) := by decide +kernel
theorem dL_law_544 : decode cL_law 544 = .ok (.iaload, 1) := by decide +kernel
theorem dL_law_545 : decode cL_law 545 = .ok (.aload_n 0, 1) := by decide +kernel
theorem dL_law_546 : decode cL_law 546 = .ok (.iload_n 3, 1) := by decide +kernel
theorem dL_law_547 : decode cL_law 547 = .ok (.iconst 3, 1) := by decide +kernel
theorem dL_law_548 : decode cL_law 548 = .ok (.iadd, 1) := by decide +kernel
theorem dL_law_549 : decode cL_law 549 = .ok (.iaload, 1) := by decide +kernel
theorem dL_law_550 : decode cL_law 550 = .ok (.invokevirtual 81, 3) := by decide +kernel
theorem dL_law_553 : decode cL_law 553 = .ok (.aload_n 2, 1) := by decide +kernel
theorem dL_law_554 : decode cL_law 554 = .ok (.aload_n 0, 1) := by decide +kernel
theorem dL_law_555 : decode cL_law 555 = .ok (.iload_n 3, 1) := by decide +kernel
theorem dL_law_556 : decode cL_law 556 = .ok (.iconst 1, 1) := by decide +kernel
theorem dL_law_557 : decode cL_law 557 = .ok (.iadd, 1) := by decide +kernel
theorem dL_law_558 : decode cL_law 558 = .ok (.iaload, 1) := by decide +kernel
theorem dL_law_559 : decode cL_law 559 = .ok (.aload_n 0, 1) := by decide +kernel
theorem dL_law_560 : decode cL_law 560 = .ok (.iload_n 3, 1) := by decide +kernel
theorem dL_law_561 : decode cL_law 561 = .ok (.iconst 2, 1) := by decide +kernel
theorem dL_law_562 : decode cL_law 562 = .ok (.iadd, 1) := by decide +kernel
theorem dL_law_563 : decode cL_law 563 = .ok (.iaload, 1) := by decide +kernel
theorem dL_law_564 : decode cL_law 564 = .ok (.aload_n 0, 1) := by decide +kernel
theorem dL_law_565 : decode cL_law 565 = .ok (.iload_n 3, 1) := by decide +kernel
theorem dL_law_566 : decode cL_law 566 = .ok (.iconst 3, 1) := by decide +kernel
theorem dL_law_567 : decode cL_law 567 = .ok (.iadd, 1) := by decide +kernel
theorem dL_law_568 : decode cL_law 568 = .ok (.iaload, 1) := by decide +kernel
theorem dL_law_569 : decode cL_law 569 = .ok (.invokevirtual 84, 3) := by decide +kernel
theorem dL_law_572 : decode cL_law 572 = .ok (.if_icmp .eq 150, 3) := by decide +kernel
theorem dL_law_575 : decode cL_law 575 = .ok (.iconst 0, 1) := by decide +kernel
theorem dL_law_576 : decode cL_law 576 = .ok (.ireturn, 1) := by decide +kernel
theorem dL_law_577 : decode cL_law 577 = .ok (.aload_n 1, 1) := by decide +kernel
theorem dL_law_578 : decode cL_law 578 = .ok (.aload_n 0, 1) := by decide +kernel
theorem dL_law_579 : decode cL_law 579 = .ok (.iload_n 3, 1) := by decide +kernel
theorem dL_law_580 : decode cL_law 580 = .ok (.iconst 1, 1) := by decide +kernel
theorem dL_law_581 : decode cL_law 581 = .ok (.iadd, 1) := by decide +kernel
theorem dL_law_582 : decode cL_law 582 = .ok (.iaload, 1) := by decide +kernel
theorem dL_law_583 : decode cL_law 583 = .ok (.aload_n 0, 1) := by decide +kernel
theorem dL_law_584 : decode cL_law 584 = .ok (.iload_n 3, 1) := by decide +kernel
theorem dL_law_585 : decode cL_law 585 = .ok (.iconst 2, 1) := by decide +kernel
theorem dL_law_586 : decode cL_law 586 = .ok (.iadd, 1) := by decide +kernel
theorem dL_law_587 : decode cL_law 587 = .ok (.iaload, 1) := by decide +kernel
theorem dL_law_588 : decode cL_law 588 = .ok (.invokevirtual 85, 3) := by decide +kernel
theorem dL_law_591 : decode cL_law 591 = .ok (.aload_n 2, 1) := by decide +kernel
theorem dL_law_592 : decode cL_law 592 = .ok (.aload_n 0, 1) := by decide +kernel
theorem dL_law_593 : decode cL_law 593 = .ok (.iload_n 3, 1) := by decide +kernel
theorem dL_law_594 : decode cL_law 594 = .ok (.iconst 1, 1) := by decide +kernel
theorem dL_law_595 : decode cL_law 595 = .ok (.iadd, 1) := by decide +kernel
theorem dL_law_596 : decode cL_law 596 = .ok (.iaload, 1) := by decide +kernel
theorem dL_law_597 : decode cL_law 597 = .ok (.aload_n 0, 1) := by decide +kernel
theorem dL_law_598 : decode cL_law 598 = .ok (.iload_n 3, 1) := by decide +kernel
theorem dL_law_599 : decode cL_law 599 = .ok (.iconst 2, 1) := by decide +kernel
theorem dL_law_600 : decode cL_law 600 = .ok (.iadd, 1) := by decide +kernel
theorem dL_law_601 : decode cL_law 601 = .ok (.iaload, 1) := by decide +kernel
theorem dL_law_602 : decode cL_law 602 = .ok (.invokevirtual 88, 3) := by decide +kernel
theorem dL_law_605 : decode cL_law 605 = .ok (.if_icmp .eq 117, 3) := by decide +kernel
theorem dL_law_608 : decode cL_law 608 = .ok (.iconst 0, 1) := by decide +kernel
theorem dL_law_609 : decode cL_law 609 = .ok (.ireturn, 1) := by decide +kernel
theorem dL_law_610 : decode cL_law 610 = .ok (.aload_n 1, 1) := by decide +kernel
theorem dL_law_611 : decode cL_law 611 = .ok (.aload_n 0, 1) := by decide +kernel
theorem dL_law_612 : decode cL_law 612 = .ok (.iload_n 3, 1) := by decide +kernel
theorem dL_law_613 : decode cL_law 613 = .ok (.iconst 1, 1) := by decide +kernel
theorem dL_law_614 : decode cL_law 614 = .ok (.iadd, 1) := by decide +kernel
theorem dL_law_615 : decode cL_law 615 = .ok (.iaload, 1) := by decide +kernel
theorem dL_law_616 : decode cL_law 616 = .ok (.aload_n 0, 1) := by decide +kernel
theorem dL_law_617 : decode cL_law 617 = .ok (.iload_n 3, 1) := by decide +kernel
theorem dL_law_618 : decode cL_law 618 = .ok (.iconst 2, 1) := by decide +kernel
theorem dL_law_619 : decode cL_law 619 = .ok (.iadd, 1) := by decide +kernel
theorem dL_law_620 : decode cL_law 620 = .ok (.iaload, 1) := by decide +kernel
theorem dL_law_621 : decode cL_law 621 = .ok (.invokevirtual 89, 3) := by decide +kernel
theorem dL_law_624 : decode cL_law 624 = .ok (.aload_n 2, 1) := by decide +kernel
theorem dL_law_625 : decode cL_law 625 = .ok (.aload_n 0, 1) := by decide +kernel
theorem dL_law_626 : decode cL_law 626 = .ok (.iload_n 3, 1) := by decide +kernel
theorem dL_law_627 : decode cL_law 627 = .ok (.iconst 1, 1) := by decide +kernel
theorem dL_law_628 : decode cL_law 628 = .ok (.iadd, 1) := by decide +kernel
theorem dL_law_629 : decode cL_law 629 = .ok (.iaload, 1) := by decide +kernel
theorem dL_law_630 : decode cL_law 630 = .ok (.aload_n 0, 1) := by decide +kernel
theorem dL_law_631 : decode cL_law 631 = .ok (.iload_n 3, 1) := by decide +kernel
theorem dL_law_632 : decode cL_law 632 = .ok (.iconst 2, 1) := by decide +kernel
theorem dL_law_633 : decode cL_law 633 = .ok (.iadd, 1) := by decide +kernel
theorem dL_law_634 : decode cL_law 634 = .ok (.iaload, 1) := by decide +kernel
theorem dL_law_635 : decode cL_law 635 = .ok (.invokevirtual 92, 3) := by decide +kernel
theorem dL_law_638 : decode cL_law 638 = .ok (.if_icmp .eq 84, 3) := by decide +kernel
theorem dL_law_641 : decode cL_law 641 = .ok (.iconst 0, 1) := by decide +kernel
theorem dL_law_642 : decode cL_law 642 = .ok (.ireturn, 1) := by decide +kernel
theorem dL_law_643 : decode cL_law 643 = .ok (.aload_n 1, 1) := by decide +kernel
theorem dL_law_644 : decode cL_law 644 = .ok (.aload_n 0, 1) := by decide +kernel
theorem dL_law_645 : decode cL_law 645 = .ok (.iload_n 3, 1) := by decide +kernel
theorem dL_law_646 : decode cL_law 646 = .ok (.iconst 1, 1) := by decide +kernel
theorem dL_law_647 : decode cL_law 647 = .ok (.iadd, 1) := by decide +kernel
theorem dL_law_648 : decode cL_law 648 = .ok (.iaload, 1) := by decide +kernel
theorem dL_law_649 : decode cL_law 649 = .ok (.invokevirtual 93, 3) := by decide +kernel
theorem dL_law_652 : decode cL_law 652 = .ok (.aload_n 2, 1) := by decide +kernel
theorem dL_law_653 : decode cL_law 653 = .ok (.aload_n 0, 1) := by decide +kernel
theorem dL_law_654 : decode cL_law 654 = .ok (.iload_n 3, 1) := by decide +kernel
theorem dL_law_655 : decode cL_law 655 = .ok (.iconst 1, 1) := by decide +kernel
theorem dL_law_656 : decode cL_law 656 = .ok (.iadd, 1) := by decide +kernel
theorem dL_law_657 : decode cL_law 657 = .ok (.iaload, 1) := by decide +kernel
theorem dL_law_658 : decode cL_law 658 = .ok (.invokevirtual 96, 3) := by decide +kernel
theorem dL_law_661 : decode cL_law 661 = .ok (.if_icmp .eq 61, 3) := by decide +kernel
theorem dL_law_664 : decode cL_law 664 = .ok (.iconst 0, 1) := by decide +kernel
theorem dL_law_665 : decode cL_law 665 = .ok (.ireturn, 1) := by decide +kernel
theorem dL_law_666 : decode cL_law 666 = .ok (.aload_n 1, 1) := by decide +kernel
theorem dL_law_667 : decode cL_law 667 = .ok (.aload_n 0, 1) := by decide +kernel
theorem dL_law_668 : decode cL_law 668 = .ok (.iload_n 3, 1) := by decide +kernel
theorem dL_law_669 : decode cL_law 669 = .ok (.iconst 1, 1) := by decide +kernel
theorem dL_law_670 : decode cL_law 670 = .ok (.iadd, 1) := by decide +kernel
theorem dL_law_671 : decode cL_law 671 = .ok (.iaload, 1) := by decide +kernel
theorem dL_law_672 : decode cL_law 672 = .ok (.aload_n 0, 1) := by decide +kernel
theorem dL_law_673 : decode cL_law 673 = .ok (.iload_n 3, 1) := by decide +kernel
theorem dL_law_674 : decode cL_law 674 = .ok (.iconst 2, 1) := by decide +kernel
theorem dL_law_675 : decode cL_law 675 = .ok (.iadd, 1) := by decide +kernel
theorem dL_law_676 : decode cL_law 676 = .ok (.iaload, 1) := by decide +kernel
theorem dL_law_677 : decode cL_law 677 = .ok (.invokevirtual 97, 3) := by decide +kernel
theorem dL_law_680 : decode cL_law 680 = .ok (.aload_n 2, 1) := by decide +kernel
theorem dL_law_681 : decode cL_law 681 = .ok (.aload_n 0, 1) := by decide +kernel
theorem dL_law_682 : decode cL_law 682 = .ok (.iload_n 3, 1) := by decide +kernel
theorem dL_law_683 : decode cL_law 683 = .ok (.iconst 1, 1) := by decide +kernel
theorem dL_law_684 : decode cL_law 684 = .ok (.iadd, 1) := by decide +kernel
theorem dL_law_685 : decode cL_law 685 = .ok (.iaload, 1) := by decide +kernel
theorem dL_law_686 : decode cL_law 686 = .ok (.aload_n 0, 1) := by decide +kernel
theorem dL_law_687 : decode cL_law 687 = .ok (.iload_n 3, 1) := by decide +kernel
theorem dL_law_688 : decode cL_law 688 = .ok (.iconst 2, 1) := by decide +kernel
theorem dL_law_689 : decode cL_law 689 = .ok (.iadd, 1) := by decide +kernel
theorem dL_law_690 : decode cL_law 690 = .ok (.iaload, 1) := by decide +kernel
theorem dL_law_691 : decode cL_law 691 = .ok (.invokevirtual 100, 3) := by decide +kernel
theorem dL_law_694 : decode cL_law 694 = .ok (.if_icmp .eq 28, 3) := by decide +kernel
theorem dL_law_697 : decode cL_law 697 = .ok (.iconst 0, 1) := by decide +kernel
theorem dL_law_698 : decode cL_law 698 = .ok (.ireturn, 1) := by decide +kernel
theorem dL_law_699 : decode cL_law 699 = .ok (.aload_n 1, 1) := by decide +kernel
theorem dL_law_700 : decode cL_law 700 = .ok (.aload_n 0, 1) := by decide +kernel
theorem dL_law_701 : decode cL_law 701 = .ok (.iload_n 3, 1) := by decide +kernel
theorem dL_law_702 : decode cL_law 702 = .ok (.iconst 1, 1) := by decide +kernel
theorem dL_law_703 : decode cL_law 703 = .ok (.iadd, 1) := by decide +kernel
theorem dL_law_704 : decode cL_law 704 = .ok (.iaload, 1) := by decide +kernel
theorem dL_law_705 : decode cL_law 705 = .ok (.invokevirtual 101, 3) := by decide +kernel
theorem dL_law_708 : decode cL_law 708 = .ok (.aload_n 2, 1) := by decide +kernel
theorem dL_law_709 : decode cL_law 709 = .ok (.aload_n 0, 1) := by decide +kernel
theorem dL_law_710 : decode cL_law 710 = .ok (.iload_n 3, 1) := by decide +kernel
theorem dL_law_711 : decode cL_law 711 = .ok (.iconst 1, 1) := by decide +kernel
theorem dL_law_712 : decode cL_law 712 = .ok (.iadd, 1) := by decide +kernel
theorem dL_law_713 : decode cL_law 713 = .ok (.iaload, 1) := by decide +kernel
theorem dL_law_714 : decode cL_law 714 = .ok (.invokevirtual 104, 3) := by decide +kernel
theorem dL_law_717 : decode cL_law 717 = .ok (.if_icmp .eq 5, 3) := by decide +kernel
theorem dL_law_720 : decode cL_law 720 = .ok (.iconst 0, 1) := by decide +kernel
theorem dL_law_721 : decode cL_law 721 = .ok (.ireturn, 1) := by decide +kernel
theorem dL_law_722 : decode cL_law 722 = .ok (.iinc 3 4, 3) := by decide +kernel
theorem dL_law_725 : decode cL_law 725 = .ok (.goto (-707), 3) := by decide +kernel
theorem dL_law_728 : decode cL_law 728 = .ok (.iconst 1, 1) := by decide +kernel
theorem dL_law_729 : decode cL_law 729 = .ok (.ireturn, 1) := by decide +kernel
