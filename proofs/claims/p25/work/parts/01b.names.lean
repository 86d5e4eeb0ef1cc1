theorem dX0_init_0 : decode cX0_init 0 = .ok (.aload_n 0, 1) := by decide +kernel
theorem dX0_init_1 : decode cX0_init 1 = .ok (.invokespecial 3, 3) := by decide +kernel
theorem dX0_init_4 : decode cX0_init 4 = .ok (.aload_n 0, 1) := by decide +kernel
theorem dX0_init_5 : decode cX0_init 5 = .ok (.bipush 36, 2) := by decide +kernel
theorem dX0_init_7 : decode cX0_init 7 = .ok (.newarray .int, 2) := by decide +kernel
theorem dX0_init_9 : decode cX0_init 9 = .ok (.putfield 11, 3) := by decide +kernel
theorem dX0_init_12 : decode cX0_init 12 = .ok (.return_, 1) := by decide +kernel
theorem dX0_copyFrom_0 : decode cX0_copyFrom 0 = .ok (.aload_n 1, 1) := by decide +kernel
theorem dX0_copyFrom_1 : decode cX0_copyFrom 1 = .ok (.getfield 11, 3) := by decide +kernel
theorem dX0_copyFrom_4 : decode cX0_copyFrom 4 = .ok (.iconst 0, 1) := by decide +kernel
theorem dX0_copyFrom_5 : decode cX0_copyFrom 5 = .ok (.aload_n 0, 1) := by decide +kernel
theorem dX0_copyFrom_6 : decode cX0_copyFrom 6 = .ok (.getfield 11, 3) := by decide +kernel
theorem dX0_copyFrom_9 : decode cX0_copyFrom 9 = .ok (.iconst 0, 1) := by decide +kernel
theorem dX0_copyFrom_10 : decode cX0_copyFrom 10 = .ok (.bipush 36, 2) := by decide +kernel
theorem dX0_copyFrom_12 : decode cX0_copyFrom 12 = .ok (.invokestatic 15, 3) := by decide +kernel
theorem dX0_copyFrom_15 : decode cX0_copyFrom 15 = .ok (.aload_n 0, 1) := by decide +kernel
theorem dX0_copyFrom_16 : decode cX0_copyFrom 16 = .ok (.aload_n 1, 1) := by decide +kernel
theorem dX0_copyFrom_17 : decode cX0_copyFrom 17 = .ok (.getfield 21, 3) := by decide +kernel
theorem dX0_copyFrom_20 : decode cX0_copyFrom 20 = .ok (.putfield 21, 3) := by decide +kernel
theorem dX0_copyFrom_23 : decode cX0_copyFrom 23 = .ok (.return_, 1) := by decide +kernel
theorem dX0_calls_0 : decode cX0_calls 0 = .ok (.aload_n 0, 1) := by decide +kernel
theorem dX0_calls_1 : decode cX0_calls 1 = .ok (.getfield 21, 3) := by decide +kernel
theorem dX0_calls_4 : decode cX0_calls 4 = .ok (.ireturn, 1) := by decide +kernel
set_option maxRecDepth 20000 in
theorem ggX0_write_J9_floorMod_7cf53 : GoodIn wsX0_write wsJ9_floorMod_7cf53 := goodIn_r _ [6] (by decide +kernel) (by decide +kernel)
set_option maxRecDepth 20000 in
theorem gX0_write_J9_floorMod_7cf53 : GoodIn wsX0_write (va_wsS RX0 25 yJ9_floorMod_7cf53 wsJ9_floorMod_7cf53) := goodIn_app (goodIn_of _ (by decide +kernel)) ggX0_write_J9_floorMod_7cf53
theorem dX0_write_0 : decode cX0_write 0 = .ok (.aload_n 0, 1) := by decide +kernel
theorem dX0_write_1 : decode cX0_write 1 = .ok (.getfield 21, 3) := by decide +kernel
theorem dX0_write_4 : decode cX0_write 4 = .ok (.bipush 12, 2) := by decide +kernel
theorem dX0_write_6 : decode cX0_write 6 = .ok (.invokestatic 25, 3) := by decide +kernel
theorem dX0_write_9 : decode cX0_write 9 = .ok (.iconst 3, 1) := by decide +kernel
theorem dX0_write_10 : decode cX0_write 10 = .ok (.imul, 1) := by decide +kernel
theorem dX0_write_11 : decode cX0_write 11 = .ok (.istore 4, 2) := by decide +kernel
theorem dX0_write_13 : decode cX0_write 13 = .ok (.aload_n 0, 1) := by decide +kernel
theorem dX0_write_14 : decode cX0_write 14 = .ok (.getfield 11, 3) := by decide +kernel
theorem dX0_write_17 : decode cX0_write 17 = .ok (.iload 4, 2) := by decide +kernel
theorem dX0_write_19 : decode cX0_write 19 = .ok (.iload_n 1, 1) := by decide +kernel
theorem dX0_write_20 : decode cX0_write 20 = .ok (.iastore, 1) := by decide +kernel
theorem dX0_write_21 : decode cX0_write 21 = .ok (.aload_n 0, 1) := by decide +kernel
theorem dX0_write_22 : decode cX0_write 22 = .ok (.getfield 11, 3) := by decide +kernel
theorem dX0_write_25 : decode cX0_write 25 = .ok (.iload 4, 2) := by decide +kernel
theorem dX0_write_27 : decode cX0_write 27 = .ok (.iconst 1, 1) := by decide +kernel
theorem dX0_write_28 : decode cX0_write 28 = .ok (.iadd, 1) := by decide +kernel
theorem dX0_write_29 : decode cX0_write 29 = .ok (.iload_n 2, 1) := by decide +kernel
theorem dX0_write_30 : decode cX0_write 30 = .ok (.iastore, 1) := by decide +kernel
theorem dX0_write_31 : decode cX0_write 31 = .ok (.aload_n 0, 1) := by decide +kernel
theorem dX0_write_32 : decode cX0_write 32 = .ok (.getfield 11, 3) := by decide +kernel
theorem dX0_write_35 : decode cX0_write 35 = .ok (.iload 4, 2) := by decide +kernel
theorem dX0_write_37 : decode cX0_write 37 = .ok (.iconst 2, 1) := by decide +kernel
theorem dX0_write_38 : decode cX0_write 38 = .ok (.iadd, 1) := by decide +kernel
theorem dX0_write_39 : decode cX0_write 39 = .ok (.iload_n 3, 1) := by decide +kernel
theorem dX0_write_40 : decode cX0_write 40 = .ok (.iastore, 1) := by decide +kernel
theorem dX0_write_41 : decode cX0_write 41 = .ok (.aload_n 0, 1) := by decide +kernel
theorem dX0_write_42 : decode cX0_write 42 = .ok (.dup, 1) := by decide +kernel
theorem dX0_write_43 : decode cX0_write 43 = .ok (.getfield 21, 3) := by decide +kernel
theorem dX0_write_46 : decode cX0_write 46 = .ok (.iconst 1, 1) := by decide +kernel
theorem dX0_write_47 : decode cX0_write 47 = .ok (.iadd, 1) := by decide +kernel
theorem dX0_write_48 : decode cX0_write 48 = .ok (.putfield 21, 3) := by decide +kernel
theorem dX0_write_51 : decode cX0_write 51 = .ok (.return_, 1) := by decide +kernel
set_option maxRecDepth 20000 in
theorem ggX0_read_J9_floorMod_7cf53 : GoodIn wsX0_read wsJ9_floorMod_7cf53 := goodIn_r _ [10] (by decide +kernel) (by decide +kernel)
set_option maxRecDepth 20000 in
theorem gX0_read_J9_floorMod_7cf53 : GoodIn wsX0_read (va_wsS RX0 25 yJ9_floorMod_7cf53 wsJ9_floorMod_7cf53) := goodIn_app (goodIn_of _ (by decide +kernel)) ggX0_read_J9_floorMod_7cf53
theorem dX0_read_0 : decode cX0_read 0 = .ok (.iload_n 1, 1) := by decide +kernel
theorem dX0_read_1 : decode cX0_read 1 = .ok (.ifCond .lt 25, 3) := by decide +kernel
theorem dX0_read_4 : decode cX0_read 4 = .ok (.iload_n 1, 1) := by decide +kernel
theorem dX0_read_5 : decode cX0_read 5 = .ok (.aload_n 0, 1) := by decide +kernel
theorem dX0_read_6 : decode cX0_read 6 = .ok (.getfield 21, 3) := by decide +kernel
theorem dX0_read_9 : decode cX0_read 9 = .ok (.bipush 12, 2) := by decide +kernel
theorem dX0_read_11 : decode cX0_read 11 = .ok (.invokestatic 31, 3) := by decide +kernel
theorem dX0_read_14 : decode cX0_read 14 = .ok (.if_icmp .ge 12, 3) := by decide +kernel
theorem dX0_read_17 : decode cX0_read 17 = .ok (.iload_n 2, 1) := by decide +kernel
theorem dX0_read_18 : decode cX0_read 18 = .ok (.ifCond .lt 8, 3) := by decide +kernel
theorem dX0_read_21 : decode cX0_read 21 = .ok (.iload_n 2, 1) := by decide +kernel
theorem dX0_read_22 : decode cX0_read 22 = .ok (.iconst 3, 1) := by decide +kernel
theorem dX0_read_23 : decode cX0_read 23 = .ok (.if_icmp .lt 6, 3) := by decide +kernel
theorem dX0_read_26 : decode cX0_read 26 = .ok (.bipush (-9), 2) := by decide +kernel
theorem dX0_read_28 : decode cX0_read 28 = .ok (.ireturn, 1) := by decide +kernel
theorem dX0_read_29 : decode cX0_read 29 = .ok (.aload_n 0, 1) := by decide +kernel
theorem dX0_read_30 : decode cX0_read 30 = .ok (.getfield 11, 3) := by decide +kernel
theorem dX0_read_33 : decode cX0_read 33 = .ok (.aload_n 0, 1) := by decide +kernel
theorem dX0_read_34 : decode cX0_read 34 = .ok (.getfield 21, 3) := by decide +kernel
theorem dX0_read_37 : decode cX0_read 37 = .ok (.iconst 1, 1) := by decide +kernel
theorem dX0_read_38 : decode cX0_read 38 = .ok (.isub, 1) := by decide +kernel
theorem dX0_read_39 : decode cX0_read 39 = .ok (.iload_n 1, 1) := by decide +kernel
theorem dX0_read_40 : decode cX0_read 40 = .ok (.isub, 1) := by decide +kernel
theorem dX0_read_41 : decode cX0_read 41 = .ok (.bipush 12, 2) := by decide +kernel
theorem dX0_read_43 : decode cX0_read 43 = .ok (.invokestatic 25, 3) := by decide +kernel
theorem dX0_read_46 : decode cX0_read 46 = .ok (.iconst 3, 1) := by decide +kernel
theorem dX0_read_47 : decode cX0_read 47 = .ok (.imul, 1) := by decide +kernel
theorem dX0_read_48 : decode cX0_read 48 = .ok (.iload_n 2, 1) := by decide +kernel
theorem dX0_read_49 : decode cX0_read 49 = .ok (.iadd, 1) := by decide +kernel
theorem dX0_read_50 : decode cX0_read 50 = .ok (.iaload, 1) := by decide +kernel
theorem dX0_read_51 : decode cX0_read 51 = .ok (.ireturn, 1) := by decide +kernel
set_option maxRecDepth 20000 in
theorem ggX1_init_X8_init : GoodIn wsX1_init wsX8_init := goodIn_r _ [9, 10, 2, 3, 11, 12, 13, 14, 15, 16, 17, 18, 19, 20, 21, 22, 23, 24, 25, 26, 27, 28, 29, 30, 31, 32, 33, 34, 35, 36, 37, 38, 39, 40, 41, 42, 43, 44, 45, 46, 61, 62, 47, 48, 49, 50, 51, 52, 53, 54, 55, 56, 57, 58, 59, 63, 64, 65, 66, 67, 68, 69] (by decide +kernel) (by decide +kernel)
set_option maxRecDepth 20000 in
theorem gX1_init_X8_init_n11 : GoodIn wsX1_init (wsX8_init) := ggX1_init_X8_init
theorem dX1_init_0 : decode cX1_init 0 = .ok (.aload_n 0, 1) := by decide +kernel
theorem dX1_init_1 : decode cX1_init 1 = .ok (.invokespecial 3, 3) := by decide +kernel
theorem dX1_init_4 : decode cX1_init 4 = .ok (.aload_n 0, 1) := by decide +kernel
theorem dX1_init_5 : decode cX1_init 5 = .ok (.new 9, 3) := by decide +kernel
theorem dX1_init_8 : decode cX1_init 8 = .ok (.dup, 1) := by decide +kernel
theorem dX1_init_9 : decode cX1_init 9 = .ok (.invokespecial 11, 3) := by decide +kernel
theorem dX1_init_12 : decode cX1_init 12 = .ok (.putfield 12, 3) := by decide +kernel
theorem dX1_init_15 : decode cX1_init 15 = .ok (.return_, 1) := by decide +kernel
set_option maxRecDepth 20000 in
theorem ggX1_tickOfCall_X8_copyFrom : GoodIn wsX1_tickOfCall wsX8_copyFrom := goodIn_r _ [6, 7, 8, 9, 10, 11, 12, 13, 14, 15, 16, 17, 18, 19, 20, 21, 22, 23, 24, 25, 26, 27, 28, 29, 30, 31, 32, 33, 34, 35, 36, 37, 38, 39, 40, 41, 42, 43, 44, 45, 46, 47, 48, 49, 145, 146, 147, 148, 149, 150, 151, 152, 153, 154, 155, 156, 157, 158, 159, 160, 161, 162, 163, 164, 165, 166] (by decide +kernel) (by decide +kernel)
set_option maxRecDepth 20000 in
theorem gX1_tickOfCall_X8_copyFrom : GoodIn wsX1_tickOfCall (wsV RX1 18 RX8 yX8_copyFrom wsX8_copyFrom) := goodIn_app (goodIn_of _ (by decide +kernel)) ggX1_tickOfCall_X8_copyFrom
set_option maxRecDepth 20000 in
theorem ggX1_tickOfCall_X5_fact : GoodIn wsX1_tickOfCall wsX5_fact := goodIn_r _ [53, 25, 158, 159] (by decide +kernel) (by decide +kernel)
set_option maxRecDepth 20000 in
theorem gX1_tickOfCall_X5_fact : GoodIn wsX1_tickOfCall (wsV RX1 28 RX5 yX5_fact wsX5_fact) := goodIn_app (goodIn_of _ (by decide +kernel)) ggX1_tickOfCall_X5_fact
set_option maxRecDepth 20000 in
theorem ggX1_tickOfCall_X8_passTick : GoodIn wsX1_tickOfCall wsX8_passTick := goodIn_r _ [57, 10, 14, 12, 19, 8, 58, 59, 60, 61, 62, 63, 64, 5, 65, 7, 16, 66, 67, 68, 69, 70, 71, 72, 34, 73, 39, 74, 75, 76, 77, 36, 78, 79, 80, 81, 41, 38, 40, 82, 83, 84, 85, 86, 87, 88, 89, 90, 91, 92, 23, 93, 94, 51, 52, 53, 25, 95, 96, 97, 98, 17, 99, 100, 101, 102, 103, 104, 105, 106, 107, 108, 109, 110, 111, 112, 113, 114, 115, 116, 117, 118, 119, 11, 120, 121, 122, 123, 15, 9, 124, 125, 126, 45, 127, 49, 47, 128, 129, 130, 131, 132, 133, 134, 135, 13, 18, 136, 137, 138, 139, 140, 141, 142, 143, 30, 145, 146, 147, 148, 149, 150, 151, 152, 153, 154, 155, 156, 157, 160, 161, 162, 163, 164, 158, 159, 165, 166] (by decide +kernel) (by decide +kernel)
set_option maxRecDepth 20000 in
theorem gX1_tickOfCall_X8_passTick : GoodIn wsX1_tickOfCall (wsV RX1 32 RX8 yX8_passTick wsX8_passTick) := goodIn_app (goodIn_of _ (by decide +kernel)) ggX1_tickOfCall_X8_passTick
theorem dX1_tickOfCall_0 : decode cX1_tickOfCall 0 = .ok (.aload_n 0, 1) := by decide +kernel
theorem dX1_tickOfCall_1 : decode cX1_tickOfCall 1 = .ok (.getfield 12, 3) := by decide +kernel
theorem dX1_tickOfCall_4 : decode cX1_tickOfCall 4 = .ok (.aload_n 1, 1) := by decide +kernel
theorem dX1_tickOfCall_5 : decode cX1_tickOfCall 5 = .ok (.invokevirtual 18, 3) := by decide +kernel
theorem dX1_tickOfCall_8 : decode cX1_tickOfCall 8 = .ok (.aload_n 0, 1) := by decide +kernel
theorem dX1_tickOfCall_9 : decode cX1_tickOfCall 9 = .ok (.getfield 12, 3) := by decide +kernel
theorem dX1_tickOfCall_12 : decode cX1_tickOfCall 12 = .ok (.getfield 22, 3) := by decide +kernel
theorem dX1_tickOfCall_15 : decode cX1_tickOfCall 15 = .ok (.iload_n 2, 1) := by decide +kernel
theorem dX1_tickOfCall_16 : decode cX1_tickOfCall 16 = .ok (.iconst 4, 1) := by decide +kernel
theorem dX1_tickOfCall_17 : decode cX1_tickOfCall 17 = .ok (.invokevirtual 28, 3) := by decide +kernel
theorem dX1_tickOfCall_20 : decode cX1_tickOfCall 20 = .ok (.istore_n 3, 1) := by decide +kernel
theorem dX1_tickOfCall_21 : decode cX1_tickOfCall 21 = .ok (.iconst 0, 1) := by decide +kernel
theorem dX1_tickOfCall_22 : decode cX1_tickOfCall 22 = .ok (.istore 4, 2) := by decide +kernel
theorem dX1_tickOfCall_24 : decode cX1_tickOfCall 24 = .ok (.iload 4, 2) := by decide +kernel
theorem dX1_tickOfCall_26 : decode cX1_tickOfCall 26 = .ok (.sipush 600, 3) := by decide +kernel
theorem dX1_tickOfCall_29 : decode cX1_tickOfCall 29 = .ok (.if_icmp .ge 40, 3) := by decide +kernel
theorem dX1_tickOfCall_32 : decode cX1_tickOfCall 32 = .ok (.aload_n 0, 1) := by decide +kernel
theorem dX1_tickOfCall_33 : decode cX1_tickOfCall 33 = .ok (.getfield 12, 3) := by decide +kernel
theorem dX1_tickOfCall_36 : decode cX1_tickOfCall 36 = .ok (.invokevirtual 32, 3) := by decide +kernel
theorem dX1_tickOfCall_39 : decode cX1_tickOfCall 39 = .ok (.aload_n 0, 1) := by decide +kernel
theorem dX1_tickOfCall_40 : decode cX1_tickOfCall 40 = .ok (.getfield 12, 3) := by decide +kernel
theorem dX1_tickOfCall_43 : decode cX1_tickOfCall 43 = .ok (.getfield 22, 3) := by decide +kernel
theorem dX1_tickOfCall_46 : decode cX1_tickOfCall 46 = .ok (.iload_n 2, 1) := by decide +kernel
theorem dX1_tickOfCall_47 : decode cX1_tickOfCall 47 = .ok (.iconst 4, 1) := by decide +kernel
theorem dX1_tickOfCall_48 : decode cX1_tickOfCall 48 = .ok (.invokevirtual 28, 3) := by decide +kernel
theorem dX1_tickOfCall_51 : decode cX1_tickOfCall 51 = .ok (.iload_n 3, 1) := by decide +kernel
theorem dX1_tickOfCall_52 : decode cX1_tickOfCall 52 = .ok (.if_icmp .eq 11, 3) := by decide +kernel
theorem dX1_tickOfCall_55 : decode cX1_tickOfCall 55 = .ok (.aload_n 0, 1) := by decide +kernel
theorem dX1_tickOfCall_56 : decode cX1_tickOfCall 56 = .ok (.getfield 12, 3) := by decide +kernel
theorem dX1_tickOfCall_59 : decode cX1_tickOfCall 59 = .ok (.getfield 35, 3) := by decide +kernel
theorem dX1_tickOfCall_62 : decode cX1_tickOfCall 62 = .ok (.ireturn, 1) := by decide +kernel
theorem dX1_tickOfCall_63 : decode cX1_tickOfCall 63 = .ok (.iinc 4 1, 3) := by decide +kernel
theorem dX1_tickOfCall_66 : decode cX1_tickOfCall 66 = .ok (.goto (-42), 3) := by decide +kernel
theorem dX1_tickOfCall_69 : decode cX1_tickOfCall 69 = .ok (.bipush (-9), 2) := by decide +kernel
theorem dX1_tickOfCall_71 : decode cX1_tickOfCall 71 = .ok (.ireturn, 1) := by decide +kernel
set_option maxRecDepth 20000 in
theorem ggX1_outcome_X8_copyFrom : GoodIn wsX1_outcome wsX8_copyFrom := goodIn_r _ [10, 11, 12, 13, 14, 15, 16, 17, 18, 19, 20, 21, 22, 23, 24, 25, 26, 27, 28, 29, 30, 31, 32, 33, 34, 35, 36, 37, 38, 39, 40, 41, 42, 43, 44, 45, 46, 47, 48, 49, 50, 51, 52, 53, 154, 155, 156, 157, 158, 159, 160, 161, 162, 163, 164, 165, 166, 167, 168, 169, 170, 171, 172, 173, 174, 175] (by decide +kernel) (by decide +kernel)
set_option maxRecDepth 20000 in
theorem gX1_outcome_X8_copyFrom : GoodIn wsX1_outcome (wsV RX1 18 RX8 yX8_copyFrom wsX8_copyFrom) := goodIn_app (goodIn_of _ (by decide +kernel)) ggX1_outcome_X8_copyFrom
set_option maxRecDepth 20000 in
theorem ggX1_outcome_X8_passTick : GoodIn wsX1_outcome wsX8_passTick := goodIn_r _ [57, 14, 18, 16, 23, 12, 58, 3, 4, 5, 59, 60, 61, 9, 62, 11, 20, 63, 64, 65, 66, 67, 68, 69, 38, 70, 43, 71, 72, 73, 74, 40, 75, 76, 77, 78, 45, 42, 44, 79, 80, 81, 82, 83, 84, 85, 86, 87, 88, 89, 27, 90, 91, 92, 93, 94, 29, 95, 96, 97, 98, 21, 99, 100, 101, 102, 103, 104, 105, 106, 107, 108, 109, 110, 111, 112, 113, 114, 115, 116, 117, 118, 119, 15, 120, 121, 122, 123, 19, 13, 124, 125, 126, 49, 127, 53, 51, 128, 129, 130, 131, 132, 133, 134, 135, 17, 22, 136, 137, 138, 139, 140, 141, 142, 143, 34, 154, 155, 156, 157, 158, 159, 160, 161, 162, 163, 164, 165, 166, 169, 170, 171, 172, 173, 167, 168, 174, 175] (by decide +kernel) (by decide +kernel)
set_option maxRecDepth 20000 in
theorem gX1_outcome_X8_passTick : GoodIn wsX1_outcome (wsV RX1 32 RX8 yX8_passTick wsX8_passTick) := goodIn_app (goodIn_of _ (by decide +kernel)) ggX1_outcome_X8_passTick
set_option maxRecDepth 20000 in
theorem ggX1_outcome_X5_howManyIn : GoodIn wsX1_outcome wsX5_howManyIn := goodIn_r _ [147, 34, 148, 88, 89, 27, 90, 91, 92, 93, 94, 29, 167, 168] (by decide +kernel) (by decide +kernel)
set_option maxRecDepth 20000 in
theorem gX1_outcome_X5_howManyIn : GoodIn wsX1_outcome (wsV RX1 39 RX5 yX5_howManyIn wsX5_howManyIn) := goodIn_app (goodIn_of _ (by decide +kernel)) ggX1_outcome_X5_howManyIn
set_option maxRecDepth 20000 in
theorem ggX1_outcome_X0_calls : GoodIn wsX1_outcome wsX0_calls := goodIn_r _ [152, 53, 174, 175] (by decide +kernel) (by decide +kernel)
set_option maxRecDepth 20000 in
theorem gX1_outcome_X0_calls : GoodIn wsX1_outcome (wsV RX1 52 RX0 yX0_calls wsX0_calls) := goodIn_app (goodIn_of _ (by decide +kernel)) ggX1_outcome_X0_calls
theorem dX1_outcome_0 : decode cX1_outcome 0 = .ok (.aload_n 0, 1) := by decide +kernel
theorem dX1_outcome_1 : decode cX1_outcome 1 = .ok (.getfield 12, 3) := by decide +kernel
theorem dX1_outcome_4 : decode cX1_outcome 4 = .ok (.aload_n 1, 1) := by decide +kernel
theorem dX1_outcome_5 : decode cX1_outcome 5 = .ok (.invokevirtual 18, 3) := by decide +kernel
theorem dX1_outcome_8 : decode cX1_outcome 8 = .ok (.iconst 0, 1) := by decide +kernel
theorem dX1_outcome_9 : decode cX1_outcome 9 = .ok (.istore 4, 2) := by decide +kernel
theorem dX1_outcome_11 : decode cX1_outcome 11 = .ok (.iconst 0, 1) := by decide +kernel
theorem dX1_outcome_12 : decode cX1_outcome 12 = .ok (.istore 5, 2) := by decide +kernel
theorem dX1_outcome_14 : decode cX1_outcome 14 = .ok (.iload 5, 2) := by decide +kernel
theorem dX1_outcome_16 : decode cX1_outcome 16 = .ok (.iload_n 2, 1) := by decide +kernel
theorem dX1_outcome_17 : decode cX1_outcome 17 = .ok (.if_icmp .ge 34, 3) := by decide +kernel
theorem dX1_outcome_20 : decode cX1_outcome 20 = .ok (.aload_n 0, 1) := by decide +kernel
theorem dX1_outcome_21 : decode cX1_outcome 21 = .ok (.getfield 12, 3) := by decide +kernel
theorem dX1_outcome_24 : decode cX1_outcome 24 = .ok (.invokevirtual 32, 3) := by decide +kernel
theorem dX1_outcome_27 : decode cX1_outcome 27 = .ok (.iload 4, 2) := by decide +kernel
theorem dX1_outcome_29 : decode cX1_outcome 29 = .ok (.aload_n 0, 1) := by decide +kernel
theorem dX1_outcome_30 : decode cX1_outcome 30 = .ok (.getfield 12, 3) := by decide +kernel
theorem dX1_outcome_33 : decode cX1_outcome 33 = .ok (.getfield 22, 3) := by decide +kernel
theorem dX1_outcome_36 : decode cX1_outcome 36 = .ok (.iconst 1, 1) := by decide +kernel
theorem dX1_outcome_37 : decode cX1_outcome 37 = .ok (.invokevirtual 39, 3) := by decide +kernel
theorem dX1_outcome_40 : decode cX1_outcome 40 = .ok (.invokestatic 43, 3) := by decide +kernel
theorem dX1_outcome_43 : decode cX1_outcome 43 = .ok (.istore 4, 2) := by decide +kernel
theorem dX1_outcome_45 : decode cX1_outcome 45 = .ok (.iinc 5 1, 3) := by decide +kernel
theorem dX1_outcome_48 : decode cX1_outcome 48 = .ok (.goto (-34), 3) := by decide +kernel
theorem dX1_outcome_51 : decode cX1_outcome 51 = .ok (.iload_n 3, 1) := by decide +kernel
theorem dX1_outcome_52 : decode cX1_outcome 52 = .ok (.lookupswitch 60 #[(0, 28), (1, 47)], 28) := by decide +kernel
theorem dX1_outcome_80 : decode cX1_outcome 80 = .ok (.aload_n 0, 1) := by decide +kernel
theorem dX1_outcome_81 : decode cX1_outcome 81 = .ok (.getfield 12, 3) := by decide +kernel
theorem dX1_outcome_84 : decode cX1_outcome 84 = .ok (.getfield 48, 3) := by decide +kernel
theorem dX1_outcome_87 : decode cX1_outcome 87 = .ok (.invokevirtual 52, 3) := by decide +kernel
theorem dX1_outcome_90 : decode cX1_outcome 90 = .ok (.aload_n 1, 1) := by decide +kernel
theorem dX1_outcome_91 : decode cX1_outcome 91 = .ok (.getfield 48, 3) := by decide +kernel
theorem dX1_outcome_94 : decode cX1_outcome 94 = .ok (.invokevirtual 52, 3) := by decide +kernel
theorem dX1_outcome_97 : decode cX1_outcome 97 = .ok (.isub, 1) := by decide +kernel
theorem dX1_outcome_98 : decode cX1_outcome 98 = .ok (.ireturn, 1) := by decide +kernel
theorem dX1_outcome_99 : decode cX1_outcome 99 = .ok (.aload_n 0, 1) := by decide +kernel
theorem dX1_outcome_100 : decode cX1_outcome 100 = .ok (.getfield 12, 3) := by decide +kernel
theorem dX1_outcome_103 : decode cX1_outcome 103 = .ok (.getfield 58, 3) := by decide +kernel
theorem dX1_outcome_106 : decode cX1_outcome 106 = .ok (.aload_n 1, 1) := by decide +kernel
theorem dX1_outcome_107 : decode cX1_outcome 107 = .ok (.getfield 58, 3) := by decide +kernel
theorem dX1_outcome_110 : decode cX1_outcome 110 = .ok (.isub, 1) := by decide +kernel
theorem dX1_outcome_111 : decode cX1_outcome 111 = .ok (.ireturn, 1) := by decide +kernel
theorem dX1_outcome_112 : decode cX1_outcome 112 = .ok (.iload 4, 2) := by decide +kernel
theorem dX1_outcome_114 : decode cX1_outcome 114 = .ok (.ireturn, 1) := by decide +kernel
set_option maxRecDepth 20000 in
theorem ggX1_leastTimelyRoom_X8_copyFrom : GoodIn wsX1_leastTimelyRoom wsX8_copyFrom := goodIn_r _ [6, 7, 8, 9, 10, 11, 12, 13, 14, 15, 16, 17, 18, 19, 20, 21, 22, 23, 24, 25, 26, 27, 28, 29, 30, 31, 32, 33, 34, 35, 36, 37, 38, 39, 40, 41, 42, 43, 44, 45, 46, 47, 48, 49, 149, 150, 151, 152, 153, 154, 155, 156, 157, 158, 159, 160, 161, 162, 163, 164, 165, 166, 167, 168, 169, 170] (by decide +kernel) (by decide +kernel)
set_option maxRecDepth 20000 in
theorem gX1_leastTimelyRoom_X8_copyFrom : GoodIn wsX1_leastTimelyRoom (wsV RX1 18 RX8 yX8_copyFrom wsX8_copyFrom) := goodIn_app (goodIn_of _ (by decide +kernel)) ggX1_leastTimelyRoom_X8_copyFrom
set_option maxRecDepth 20000 in
theorem ggX1_leastTimelyRoom_X1_isTimely : GoodIn wsX1_leastTimelyRoom wsX1_isTimely := goodIn_r _ [54, 1, 55, 56, 57, 5, 58, 10, 14, 12, 19, 8, 59, 60, 61, 62, 63, 64, 65, 66, 7, 16, 67, 68, 69, 70, 71, 72, 73, 34, 74, 39, 75, 76, 77, 78, 36, 79, 80, 81, 82, 41, 38, 40, 83, 84, 85, 86, 87, 88, 89, 90, 91, 92, 93, 23, 94, 95, 96, 97, 98, 25, 99, 100, 101, 102, 17, 103, 104, 105, 106, 107, 108, 109, 110, 111, 112, 113, 114, 115, 116, 117, 118, 119, 120, 121, 122, 123, 11, 124, 125, 126, 127, 15, 9, 128, 129, 130, 45, 131, 49, 47, 132, 133, 134, 135, 136, 137, 138, 139, 13, 18, 140, 141, 142, 143, 144, 145, 146, 147, 30, 148, 149, 150, 151, 152, 153, 154, 155, 156, 157, 158, 159, 160, 161, 164, 165, 166, 167, 168, 162, 163, 169, 170] (by decide +kernel) (by decide +kernel)
set_option maxRecDepth 20000 in
theorem gX1_leastTimelyRoom_X1_isTimely : GoodIn wsX1_leastTimelyRoom (wsV RX1 64 RX1 yX1_isTimely wsX1_isTimely) := goodIn_app (goodIn_of _ (by decide +kernel)) ggX1_leastTimelyRoom_X1_isTimely
theorem dX1_leastTimelyRoom_0 : decode cX1_leastTimelyRoom 0 = .ok (.iconst 1, 1) := by decide +kernel
theorem dX1_leastTimelyRoom_1 : decode cX1_leastTimelyRoom 1 = .ok (.istore_n 3, 1) := by decide +kernel
theorem dX1_leastTimelyRoom_2 : decode cX1_leastTimelyRoom 2 = .ok (.iload_n 3, 1) := by decide +kernel
theorem dX1_leastTimelyRoom_3 : decode cX1_leastTimelyRoom 3 = .ok (.bipush 20, 2) := by decide +kernel
theorem dX1_leastTimelyRoom_5 : decode cX1_leastTimelyRoom 5 = .ok (.if_icmp .gt 35, 3) := by decide +kernel
theorem dX1_leastTimelyRoom_8 : decode cX1_leastTimelyRoom 8 = .ok (.aload_n 0, 1) := by decide +kernel
theorem dX1_leastTimelyRoom_9 : decode cX1_leastTimelyRoom 9 = .ok (.getfield 12, 3) := by decide +kernel
theorem dX1_leastTimelyRoom_12 : decode cX1_leastTimelyRoom 12 = .ok (.aload_n 1, 1) := by decide +kernel
theorem dX1_leastTimelyRoom_13 : decode cX1_leastTimelyRoom 13 = .ok (.invokevirtual 18, 3) := by decide +kernel
theorem dX1_leastTimelyRoom_16 : decode cX1_leastTimelyRoom 16 = .ok (.aload_n 0, 1) := by decide +kernel
theorem dX1_leastTimelyRoom_17 : decode cX1_leastTimelyRoom 17 = .ok (.getfield 12, 3) := by decide +kernel
theorem dX1_leastTimelyRoom_20 : decode cX1_leastTimelyRoom 20 = .ok (.iload_n 3, 1) := by decide +kernel
theorem dX1_leastTimelyRoom_21 : decode cX1_leastTimelyRoom 21 = .ok (.putfield 61, 3) := by decide +kernel
theorem dX1_leastTimelyRoom_24 : decode cX1_leastTimelyRoom 24 = .ok (.aload_n 0, 1) := by decide +kernel
theorem dX1_leastTimelyRoom_25 : decode cX1_leastTimelyRoom 25 = .ok (.iload_n 2, 1) := by decide +kernel
theorem dX1_leastTimelyRoom_26 : decode cX1_leastTimelyRoom 26 = .ok (.invokevirtual 64, 3) := by decide +kernel
theorem dX1_leastTimelyRoom_29 : decode cX1_leastTimelyRoom 29 = .ok (.ifCond .eq 5, 3) := by decide +kernel
theorem dX1_leastTimelyRoom_32 : decode cX1_leastTimelyRoom 32 = .ok (.iload_n 3, 1) := by decide +kernel
theorem dX1_leastTimelyRoom_33 : decode cX1_leastTimelyRoom 33 = .ok (.ireturn, 1) := by decide +kernel
theorem dX1_leastTimelyRoom_34 : decode cX1_leastTimelyRoom 34 = .ok (.iinc 3 1, 3) := by decide +kernel
theorem dX1_leastTimelyRoom_37 : decode cX1_leastTimelyRoom 37 = .ok (.goto (-35), 3) := by decide +kernel
theorem dX1_leastTimelyRoom_40 : decode cX1_leastTimelyRoom 40 = .ok (.bipush (-9), 2) := by decide +kernel
theorem dX1_leastTimelyRoom_42 : decode cX1_leastTimelyRoom 42 = .ok (.ireturn, 1) := by decide +kernel
set_option maxRecDepth 20000 in
theorem ggX1_isTimely_X8_passTick : GoodIn wsX1_isTimely wsX8_passTick := goodIn_r _ [6, 7, 8, 9, 10, 11, 12, 13, 14, 15, 16, 17, 18, 5, 19, 20, 21, 22, 23, 24, 25, 26, 27, 28, 29, 30, 31, 32, 33, 34, 35, 36, 37, 38, 39, 40, 41, 42, 43, 44, 45, 46, 47, 48, 49, 50, 51, 52, 53, 54, 55, 56, 57, 58, 59, 60, 61, 62, 63, 64, 65, 66, 67, 68, 69, 70, 71, 72, 73, 74, 75, 76, 77, 78, 79, 80, 81, 82, 83, 84, 85, 86, 87, 88, 89, 90, 91, 92, 93, 94, 95, 96, 97, 98, 99, 100, 101, 102, 103, 104, 105, 106, 107, 108, 109, 110, 111, 112, 113, 114, 115, 116, 117, 118, 119, 120, 122, 123, 124, 125, 126, 127, 128, 129, 130, 131, 132, 133, 134, 135, 136, 137, 138, 139, 140, 141, 142, 143] (by decide +kernel) (by decide +kernel)
set_option maxRecDepth 20000 in
theorem gX1_isTimely_X8_passTick : GoodIn wsX1_isTimely (wsV RX1 32 RX8 yX8_passTick wsX8_passTick) := goodIn_app (goodIn_of _ (by decide +kernel)) ggX1_isTimely_X8_passTick
theorem dX1_isTimely_0 : decode cX1_isTimely 0 = .ok (.aload_n 0, 1) := by decide +kernel
theorem dX1_isTimely_1 : decode cX1_isTimely 1 = .ok (.getfield 12, 3) := by decide +kernel
theorem dX1_isTimely_4 : decode cX1_isTimely 4 = .ok (.getfield 58, 3) := by decide +kernel
theorem dX1_isTimely_7 : decode cX1_isTimely 7 = .ok (.istore_n 2, 1) := by decide +kernel
theorem dX1_isTimely_8 : decode cX1_isTimely 8 = .ok (.iconst 0, 1) := by decide +kernel
theorem dX1_isTimely_9 : decode cX1_isTimely 9 = .ok (.istore_n 3, 1) := by decide +kernel
theorem dX1_isTimely_10 : decode cX1_isTimely 10 = .ok (.iload_n 3, 1) := by decide +kernel
theorem dX1_isTimely_11 : decode cX1_isTimely 11 = .ok (.iload_n 1, 1) := by decide +kernel
theorem dX1_isTimely_12 : decode cX1_isTimely 12 = .ok (.if_icmp .ge 27, 3) := by decide +kernel
theorem dX1_isTimely_15 : decode cX1_isTimely 15 = .ok (.aload_n 0, 1) := by decide +kernel
theorem dX1_isTimely_16 : decode cX1_isTimely 16 = .ok (.getfield 12, 3) := by decide +kernel
theorem dX1_isTimely_19 : decode cX1_isTimely 19 = .ok (.getfield 58, 3) := by decide +kernel
theorem dX1_isTimely_22 : decode cX1_isTimely 22 = .ok (.iload_n 2, 1) := by decide +kernel
theorem dX1_isTimely_23 : decode cX1_isTimely 23 = .ok (.if_icmp .ne 16, 3) := by decide +kernel
theorem dX1_isTimely_26 : decode cX1_isTimely 26 = .ok (.aload_n 0, 1) := by decide +kernel
theorem dX1_isTimely_27 : decode cX1_isTimely 27 = .ok (.getfield 12, 3) := by decide +kernel
theorem dX1_isTimely_30 : decode cX1_isTimely 30 = .ok (.invokevirtual 32, 3) := by decide +kernel
theorem dX1_isTimely_33 : decode cX1_isTimely 33 = .ok (.iinc 3 1, 3) := by decide +kernel
theorem dX1_isTimely_36 : decode cX1_isTimely 36 = .ok (.goto (-26), 3) := by decide +kernel
theorem dX1_isTimely_39 : decode cX1_isTimely 39 = .ok (.aload_n 0, 1) := by decide +kernel
theorem dX1_isTimely_40 : decode cX1_isTimely 40 = .ok (.getfield 12, 3) := by decide +kernel
theorem dX1_isTimely_43 : decode cX1_isTimely 43 = .ok (.getfield 58, 3) := by decide +kernel
theorem dX1_isTimely_46 : decode cX1_isTimely 46 = .ok (.iload_n 2, 1) := by decide +kernel
theorem dX1_isTimely_47 : decode cX1_isTimely 47 = .ok (.if_icmp .ne 7, 3) := by decide +kernel
theorem dX1_isTimely_50 : decode cX1_isTimely 50 = .ok (.iconst 1, 1) := by decide +kernel
theorem dX1_isTimely_51 : decode cX1_isTimely 51 = .ok (.goto 4, 3) := by decide +kernel
theorem dX1_isTimely_54 : decode cX1_isTimely 54 = .ok (.iconst 0, 1) := by decide +kernel
theorem dX1_isTimely_55 : decode cX1_isTimely 55 = .ok (.ireturn, 1) := by decide +kernel
set_option maxRecDepth 20000 in
theorem ggX2_init_X6_init : GoodIn wsX2_init wsX6_init := goodIn_r _ [10, 11, 2, 3, 12, 13, 14, 15, 16, 17, 18, 19, 20, 21, 22, 23, 24, 25, 26, 27, 28, 29, 30, 31, 32, 33, 34, 35, 36, 37, 38, 39, 40, 41, 42, 43, 44, 45, 46, 47, 48, 49, 50, 51, 52, 53, 54, 55, 56, 57, 64, 65, 66, 67, 68, 69, 70, 71, 72, 73, 74, 75, 76, 61, 62, 63, 77, 78, 79, 80, 81, 82, 83, 84, 85] (by decide +kernel) (by decide +kernel)
set_option maxRecDepth 20000 in
theorem gX2_init_X6_init : GoodIn wsX2_init (wsX6_init) := ggX2_init_X6_init
theorem dX2_init_0 : decode cX2_init 0 = .ok (.aload_n 0, 1) := by decide +kernel
theorem dX2_init_1 : decode cX2_init 1 = .ok (.invokespecial 5, 3) := by decide +kernel
theorem dX2_init_4 : decode cX2_init 4 = .ok (.aload_n 0, 1) := by decide +kernel
theorem dX2_init_5 : decode cX2_init 5 = .ok (.bipush 6, 2) := by decide +kernel
theorem dX2_init_7 : decode cX2_init 7 = .ok (.anewarray 11, 3) := by decide +kernel
theorem dX2_init_10 : decode cX2_init 10 = .ok (.putfield 13, 3) := by decide +kernel
theorem dX2_init_13 : decode cX2_init 13 = .ok (.iconst 0, 1) := by decide +kernel
theorem dX2_init_14 : decode cX2_init 14 = .ok (.istore_n 1, 1) := by decide +kernel
theorem dX2_init_15 : decode cX2_init 15 = .ok (.iload_n 1, 1) := by decide +kernel
theorem dX2_init_16 : decode cX2_init 16 = .ok (.bipush 6, 2) := by decide +kernel
theorem dX2_init_18 : decode cX2_init 18 = .ok (.if_icmp .ge 22, 3) := by decide +kernel
theorem dX2_init_21 : decode cX2_init 21 = .ok (.aload_n 0, 1) := by decide +kernel
theorem dX2_init_22 : decode cX2_init 22 = .ok (.getfield 13, 3) := by decide +kernel
theorem dX2_init_25 : decode cX2_init 25 = .ok (.iload_n 1, 1) := by decide +kernel
theorem dX2_init_26 : decode cX2_init 26 = .ok (.new 11, 3) := by decide +kernel
theorem dX2_init_29 : decode cX2_init 29 = .ok (.dup, 1) := by decide +kernel
theorem dX2_init_30 : decode cX2_init 30 = .ok (.invokespecial 17, 3) := by decide +kernel
theorem dX2_init_33 : decode cX2_init 33 = .ok (.aastore, 1) := by decide +kernel
theorem dX2_init_34 : decode cX2_init 34 = .ok (.iinc 1 1, 3) := by decide +kernel
theorem dX2_init_37 : decode cX2_init 37 = .ok (.goto (-22), 3) := by decide +kernel
theorem dX2_init_40 : decode cX2_init 40 = .ok (.return_, 1) := by decide +kernel
theorem dX2_size_0 : decode cX2_size 0 = .ok (.aload_n 0, 1) := by decide +kernel
theorem dX2_size_1 : decode cX2_size 1 = .ok (.getfield 18, 3) := by decide +kernel
theorem dX2_size_4 : decode cX2_size 4 = .ok (.ireturn, 1) := by decide +kernel
set_option maxRecDepth 20000 in
theorem ggX2_note_X2_rowAt : GoodIn wsX2_note wsX2_rowAt := goodIn_r _ [6, 7, 64, 65, 66] (by decide +kernel) (by decide +kernel)
set_option maxRecDepth 20000 in
theorem gX2_note_X2_rowAt : GoodIn wsX2_note (wsV RX2 25 RX2 yX2_rowAt wsX2_rowAt) := goodIn_app (goodIn_of _ (by decide +kernel)) ggX2_note_X2_rowAt
set_option maxRecDepth 20000 in
theorem ggX2_note_X6_copyFrom : GoodIn wsX2_note wsX6_copyFrom := goodIn_r _ [12, 13, 14, 15, 16, 17, 18, 19, 20, 21, 22, 23, 24, 25, 26, 27, 28, 29, 30, 31, 32, 33, 34, 35, 36, 37, 38, 39, 40, 41, 42, 43, 44, 45, 46, 47, 48, 49, 50, 51, 52, 53, 54, 55, 56, 57, 58, 59, 60, 61, 62, 63, 67, 68, 69, 70, 71, 72, 73, 74, 75, 76, 77, 78, 79, 80, 81, 82, 83, 84, 85, 86, 87, 88, 89, 90, 91] (by decide +kernel) (by decide +kernel)
set_option maxRecDepth 20000 in
theorem gX2_note_X6_copyFrom : GoodIn wsX2_note (wsV RX2 29 RX6 yX6_copyFrom wsX6_copyFrom) := goodIn_app (goodIn_of _ (by decide +kernel)) ggX2_note_X6_copyFrom
theorem dX2_note_0 : decode cX2_note 0 = .ok (.aload_n 0, 1) := by decide +kernel
theorem dX2_note_1 : decode cX2_note 1 = .ok (.aload_n 0, 1) := by decide +kernel
theorem dX2_note_2 : decode cX2_note 2 = .ok (.getfield 22, 3) := by decide +kernel
theorem dX2_note_5 : decode cX2_note 5 = .ok (.invokevirtual 25, 3) := by decide +kernel
theorem dX2_note_8 : decode cX2_note 8 = .ok (.astore_n 2, 1) := by decide +kernel
theorem dX2_note_9 : decode cX2_note 9 = .ok (.aload_n 2, 1) := by decide +kernel
theorem dX2_note_10 : decode cX2_note 10 = .ok (.ifnull 8, 3) := by decide +kernel
theorem dX2_note_13 : decode cX2_note 13 = .ok (.aload_n 2, 1) := by decide +kernel
theorem dX2_note_14 : decode cX2_note 14 = .ok (.aload_n 1, 1) := by decide +kernel
theorem dX2_note_15 : decode cX2_note 15 = .ok (.invokevirtual 29, 3) := by decide +kernel
theorem dX2_note_18 : decode cX2_note 18 = .ok (.return_, 1) := by decide +kernel
theorem dX2_keepNoted_0 : decode cX2_keepNoted 0 = .ok (.aload_n 0, 1) := by decide +kernel
theorem dX2_keepNoted_1 : decode cX2_keepNoted 1 = .ok (.aload_n 0, 1) := by decide +kernel
theorem dX2_keepNoted_2 : decode cX2_keepNoted 2 = .ok (.getfield 22, 3) := by decide +kernel
theorem dX2_keepNoted_5 : decode cX2_keepNoted 5 = .ok (.iconst 1, 1) := by decide +kernel
theorem dX2_keepNoted_6 : decode cX2_keepNoted 6 = .ok (.iadd, 1) := by decide +kernel
theorem dX2_keepNoted_7 : decode cX2_keepNoted 7 = .ok (.bipush 6, 2) := by decide +kernel
theorem dX2_keepNoted_9 : decode cX2_keepNoted 9 = .ok (.irem, 1) := by decide +kernel
theorem dX2_keepNoted_10 : decode cX2_keepNoted 10 = .ok (.putfield 22, 3) := by decide +kernel
theorem dX2_keepNoted_13 : decode cX2_keepNoted 13 = .ok (.aload_n 0, 1) := by decide +kernel
theorem dX2_keepNoted_14 : decode cX2_keepNoted 14 = .ok (.aload_n 0, 1) := by decide +kernel
theorem dX2_keepNoted_15 : decode cX2_keepNoted 15 = .ok (.getfield 18, 3) := by decide +kernel
theorem dX2_keepNoted_18 : decode cX2_keepNoted 18 = .ok (.iconst 1, 1) := by decide +kernel
theorem dX2_keepNoted_19 : decode cX2_keepNoted 19 = .ok (.iadd, 1) := by decide +kernel
theorem dX2_keepNoted_20 : decode cX2_keepNoted 20 = .ok (.iconst 5, 1) := by decide +kernel
theorem dX2_keepNoted_21 : decode cX2_keepNoted 21 = .ok (.invokestatic 33, 3) := by decide +kernel
theorem dX2_keepNoted_24 : decode cX2_keepNoted 24 = .ok (.putfield 18, 3) := by decide +kernel
theorem dX2_keepNoted_27 : decode cX2_keepNoted 27 = .ok (.return_, 1) := by decide +kernel
set_option maxRecDepth 20000 in
theorem ggX2_copyNotedInto_X2_rowAt : GoodIn wsX2_copyNotedInto wsX2_rowAt := goodIn_r _ [6, 7, 64, 65, 66] (by decide +kernel) (by decide +kernel)
set_option maxRecDepth 20000 in
theorem gX2_copyNotedInto_X2_rowAt : GoodIn wsX2_copyNotedInto (wsV RX2 25 RX2 yX2_rowAt wsX2_rowAt) := goodIn_app (goodIn_of _ (by decide +kernel)) ggX2_copyNotedInto_X2_rowAt
set_option maxRecDepth 20000 in
theorem ggX2_copyNotedInto_X6_copyFrom : GoodIn wsX2_copyNotedInto wsX6_copyFrom := goodIn_r _ [12, 13, 14, 15, 16, 17, 18, 19, 20, 21, 22, 23, 24, 25, 26, 27, 28, 29, 30, 31, 32, 33, 34, 35, 36, 37, 38, 39, 40, 41, 42, 43, 44, 45, 46, 47, 48, 49, 50, 51, 52, 53, 54, 55, 56, 57, 58, 59, 60, 61, 62, 63, 67, 68, 69, 70, 71, 72, 73, 74, 75, 76, 77, 78, 79, 80, 81, 82, 83, 84, 85, 86, 87, 88, 89, 90, 91] (by decide +kernel) (by decide +kernel)
set_option maxRecDepth 20000 in
theorem gX2_copyNotedInto_X6_copyFrom : GoodIn wsX2_copyNotedInto (wsV RX2 29 RX6 yX6_copyFrom wsX6_copyFrom) := goodIn_app (goodIn_of _ (by decide +kernel)) ggX2_copyNotedInto_X6_copyFrom
theorem dX2_copyNotedInto_0 : decode cX2_copyNotedInto 0 = .ok (.aload_n 0, 1) := by decide +kernel
theorem dX2_copyNotedInto_1 : decode cX2_copyNotedInto 1 = .ok (.aload_n 0, 1) := by decide +kernel
theorem dX2_copyNotedInto_2 : decode cX2_copyNotedInto 2 = .ok (.getfield 22, 3) := by decide +kernel
theorem dX2_copyNotedInto_5 : decode cX2_copyNotedInto 5 = .ok (.invokevirtual 25, 3) := by decide +kernel
theorem dX2_copyNotedInto_8 : decode cX2_copyNotedInto 8 = .ok (.astore_n 2, 1) := by decide +kernel
theorem dX2_copyNotedInto_9 : decode cX2_copyNotedInto 9 = .ok (.aload_n 2, 1) := by decide +kernel
theorem dX2_copyNotedInto_10 : decode cX2_copyNotedInto 10 = .ok (.ifnull 8, 3) := by decide +kernel
theorem dX2_copyNotedInto_13 : decode cX2_copyNotedInto 13 = .ok (.aload_n 1, 1) := by decide +kernel
theorem dX2_copyNotedInto_14 : decode cX2_copyNotedInto 14 = .ok (.aload_n 2, 1) := by decide +kernel
theorem dX2_copyNotedInto_15 : decode cX2_copyNotedInto 15 = .ok (.invokevirtual 29, 3) := by decide +kernel
theorem dX2_copyNotedInto_18 : decode cX2_copyNotedInto 18 = .ok (.return_, 1) := by decide +kernel
set_option maxRecDepth 20000 in
theorem ggX2_stepBack_X2_copyNotedInto : GoodIn wsX2_stepBack wsX2_copyNotedInto := goodIn_r _ [7, 2, 8, 9, 10, 6, 11, 12, 13, 14, 15, 16, 17, 18, 19, 20, 21, 22, 23, 24, 25, 26, 27, 28, 29, 30, 31, 32, 33, 34, 35, 36, 37, 38, 39, 40, 41, 42, 43, 44, 45, 46, 47, 48, 49, 50, 51, 52, 53, 54, 55, 56, 57, 58, 59, 60, 61, 62, 63, 64, 65, 66, 67, 68, 69, 70, 71, 72, 73, 74, 75, 76, 77, 78, 79, 80, 81, 82, 83, 84, 85, 86, 87, 88, 89, 90, 91, 92, 93, 94, 95, 96] (by decide +kernel) (by decide +kernel)
set_option maxRecDepth 20000 in
theorem gX2_stepBack_X2_copyNotedInto : GoodIn wsX2_stepBack (wsV RX2 39 RX2 yX2_copyNotedInto wsX2_copyNotedInto) := goodIn_app (goodIn_of _ (by decide +kernel)) ggX2_stepBack_X2_copyNotedInto
theorem dX2_stepBack_0 : decode cX2_stepBack 0 = .ok (.aload_n 0, 1) := by decide +kernel
theorem dX2_stepBack_1 : decode cX2_stepBack 1 = .ok (.getfield 18, 3) := by decide +kernel
theorem dX2_stepBack_4 : decode cX2_stepBack 4 = .ok (.iconst 1, 1) := by decide +kernel
theorem dX2_stepBack_5 : decode cX2_stepBack 5 = .ok (.if_icmp .ge 6, 3) := by decide +kernel
theorem dX2_stepBack_8 : decode cX2_stepBack 8 = .ok (.bipush (-2), 2) := by decide +kernel
theorem dX2_stepBack_10 : decode cX2_stepBack 10 = .ok (.ireturn, 1) := by decide +kernel
theorem dX2_stepBack_11 : decode cX2_stepBack 11 = .ok (.aload_n 0, 1) := by decide +kernel
theorem dX2_stepBack_12 : decode cX2_stepBack 12 = .ok (.aload_n 0, 1) := by decide +kernel
theorem dX2_stepBack_13 : decode cX2_stepBack 13 = .ok (.getfield 22, 3) := by decide +kernel
theorem dX2_stepBack_16 : decode cX2_stepBack 16 = .ok (.bipush 6, 2) := by decide +kernel
theorem dX2_stepBack_18 : decode cX2_stepBack 18 = .ok (.iadd, 1) := by decide +kernel
theorem dX2_stepBack_19 : decode cX2_stepBack 19 = .ok (.iconst 1, 1) := by decide +kernel
theorem dX2_stepBack_20 : decode cX2_stepBack 20 = .ok (.isub, 1) := by decide +kernel
theorem dX2_stepBack_21 : decode cX2_stepBack 21 = .ok (.bipush 6, 2) := by decide +kernel
theorem dX2_stepBack_23 : decode cX2_stepBack 23 = .ok (.irem, 1) := by decide +kernel
theorem dX2_stepBack_24 : decode cX2_stepBack 24 = .ok (.putfield 22, 3) := by decide +kernel
theorem dX2_stepBack_27 : decode cX2_stepBack 27 = .ok (.aload_n 0, 1) := by decide +kernel
theorem dX2_stepBack_28 : decode cX2_stepBack 28 = .ok (.dup, 1) := by decide +kernel
theorem dX2_stepBack_29 : decode cX2_stepBack 29 = .ok (.getfield 18, 3) := by decide +kernel
theorem dX2_stepBack_32 : decode cX2_stepBack 32 = .ok (.iconst 1, 1) := by decide +kernel
theorem dX2_stepBack_33 : decode cX2_stepBack 33 = .ok (.isub, 1) := by decide +kernel
theorem dX2_stepBack_34 : decode cX2_stepBack 34 = .ok (.putfield 18, 3) := by decide +kernel
theorem dX2_stepBack_37 : decode cX2_stepBack 37 = .ok (.aload_n 0, 1) := by decide +kernel
theorem dX2_stepBack_38 : decode cX2_stepBack 38 = .ok (.aload_n 1, 1) := by decide +kernel
theorem dX2_stepBack_39 : decode cX2_stepBack 39 = .ok (.invokevirtual 39, 3) := by decide +kernel
theorem dX2_stepBack_42 : decode cX2_stepBack 42 = .ok (.aload_n 0, 1) := by decide +kernel
theorem dX2_stepBack_43 : decode cX2_stepBack 43 = .ok (.getfield 18, 3) := by decide +kernel
theorem dX2_stepBack_46 : decode cX2_stepBack 46 = .ok (.ireturn, 1) := by decide +kernel
theorem dX2_rowAt_0 : decode cX2_rowAt 0 = .ok (.iload_n 1, 1) := by decide +kernel
theorem dX2_rowAt_1 : decode cX2_rowAt 1 = .ok (.ifCond .lt 9, 3) := by decide +kernel
theorem dX2_rowAt_4 : decode cX2_rowAt 4 = .ok (.iload_n 1, 1) := by decide +kernel
theorem dX2_rowAt_5 : decode cX2_rowAt 5 = .ok (.bipush 6, 2) := by decide +kernel
theorem dX2_rowAt_7 : decode cX2_rowAt 7 = .ok (.if_icmp .lt 7, 3) := by decide +kernel
theorem dX2_rowAt_10 : decode cX2_rowAt 10 = .ok (.aconst_null, 1) := by decide +kernel
theorem dX2_rowAt_11 : decode cX2_rowAt 11 = .ok (.goto 9, 3) := by decide +kernel
theorem dX2_rowAt_14 : decode cX2_rowAt 14 = .ok (.aload_n 0, 1) := by decide +kernel
theorem dX2_rowAt_15 : decode cX2_rowAt 15 = .ok (.getfield 13, 3) := by decide +kernel
theorem dX2_rowAt_18 : decode cX2_rowAt 18 = .ok (.iload_n 1, 1) := by decide +kernel
theorem dX2_rowAt_19 : decode cX2_rowAt 19 = .ok (.aaload, 1) := by decide +kernel
theorem dX2_rowAt_20 : decode cX2_rowAt 20 = .ok (.areturn, 1) := by decide +kernel
set_option maxRecDepth 20000 in
theorem ggX3_init_J7_fill_53178 : GoodIn wsX3_init wsJ7_fill_53178 := goodIn_r _ [13] (by decide +kernel) (by decide +kernel)
set_option maxRecDepth 20000 in
theorem gX3_init_J7_fill_53178 : GoodIn wsX3_init (va_wsS RX3 27 yJ7_fill_53178 wsJ7_fill_53178) := goodIn_app (goodIn_of _ (by decide +kernel)) ggX3_init_J7_fill_53178
theorem dX3_init_0 : decode cX3_init 0 = .ok (.aload_n 0, 1) := by decide +kernel
theorem dX3_init_1 : decode cX3_init 1 = .ok (.invokespecial 3, 3) := by decide +kernel
theorem dX3_init_4 : decode cX3_init 4 = .ok (.aload_n 0, 1) := by decide +kernel
theorem dX3_init_5 : decode cX3_init 5 = .ok (.bipush 25, 2) := by decide +kernel
theorem dX3_init_7 : decode cX3_init 7 = .ok (.newarray .int, 2) := by decide +kernel
theorem dX3_init_9 : decode cX3_init 9 = .ok (.putfield 9, 3) := by decide +kernel
theorem dX3_init_12 : decode cX3_init 12 = .ok (.aload_n 0, 1) := by decide +kernel
theorem dX3_init_13 : decode cX3_init 13 = .ok (.bipush 25, 2) := by decide +kernel
theorem dX3_init_15 : decode cX3_init 15 = .ok (.newarray .int, 2) := by decide +kernel
theorem dX3_init_17 : decode cX3_init 17 = .ok (.putfield 15, 3) := by decide +kernel
theorem dX3_init_20 : decode cX3_init 20 = .ok (.aload_n 0, 1) := by decide +kernel
theorem dX3_init_21 : decode cX3_init 21 = .ok (.bipush 25, 2) := by decide +kernel
theorem dX3_init_23 : decode cX3_init 23 = .ok (.newarray .int, 2) := by decide +kernel
theorem dX3_init_25 : decode cX3_init 25 = .ok (.putfield 18, 3) := by decide +kernel
theorem dX3_init_28 : decode cX3_init 28 = .ok (.aload_n 0, 1) := by decide +kernel
theorem dX3_init_29 : decode cX3_init 29 = .ok (.bipush 40, 2) := by decide +kernel
theorem dX3_init_31 : decode cX3_init 31 = .ok (.newarray .int, 2) := by decide +kernel
theorem dX3_init_33 : decode cX3_init 33 = .ok (.putfield 21, 3) := by decide +kernel
theorem dX3_init_36 : decode cX3_init 36 = .ok (.aload_n 0, 1) := by decide +kernel
theorem dX3_init_37 : decode cX3_init 37 = .ok (.bipush 40, 2) := by decide +kernel
theorem dX3_init_39 : decode cX3_init 39 = .ok (.newarray .int, 2) := by decide +kernel
theorem dX3_init_41 : decode cX3_init 41 = .ok (.putfield 24, 3) := by decide +kernel
theorem dX3_init_44 : decode cX3_init 44 = .ok (.aload_n 0, 1) := by decide +kernel
theorem dX3_init_45 : decode cX3_init 45 = .ok (.getfield 9, 3) := by decide +kernel
theorem dX3_init_48 : decode cX3_init 48 = .ok (.iconst (-1), 1) := by decide +kernel
theorem dX3_init_49 : decode cX3_init 49 = .ok (.invokestatic 27, 3) := by decide +kernel
theorem dX3_init_52 : decode cX3_init 52 = .ok (.aload_n 0, 1) := by decide +kernel
theorem dX3_init_53 : decode cX3_init 53 = .ok (.getfield 15, 3) := by decide +kernel
theorem dX3_init_56 : decode cX3_init 56 = .ok (.iconst (-1), 1) := by decide +kernel
theorem dX3_init_57 : decode cX3_init 57 = .ok (.invokestatic 27, 3) := by decide +kernel
theorem dX3_init_60 : decode cX3_init 60 = .ok (.aload_n 0, 1) := by decide +kernel
theorem dX3_init_61 : decode cX3_init 61 = .ok (.getfield 21, 3) := by decide +kernel
theorem dX3_init_64 : decode cX3_init 64 = .ok (.iconst (-1), 1) := by decide +kernel
theorem dX3_init_65 : decode cX3_init 65 = .ok (.invokestatic 27, 3) := by decide +kernel
theorem dX3_init_68 : decode cX3_init 68 = .ok (.aload_n 0, 1) := by decide +kernel
theorem dX3_init_69 : decode cX3_init 69 = .ok (.getfield 24, 3) := by decide +kernel
theorem dX3_init_72 : decode cX3_init 72 = .ok (.iconst (-1), 1) := by decide +kernel
theorem dX3_init_73 : decode cX3_init 73 = .ok (.invokestatic 27, 3) := by decide +kernel
theorem dX3_init_76 : decode cX3_init 76 = .ok (.return_, 1) := by decide +kernel
theorem dX3_copyFrom_0 : decode cX3_copyFrom 0 = .ok (.aload_n 1, 1) := by decide +kernel
theorem dX3_copyFrom_1 : decode cX3_copyFrom 1 = .ok (.getfield 9, 3) := by decide +kernel
theorem dX3_copyFrom_4 : decode cX3_copyFrom 4 = .ok (.iconst 0, 1) := by decide +kernel
theorem dX3_copyFrom_5 : decode cX3_copyFrom 5 = .ok (.aload_n 0, 1) := by decide +kernel
theorem dX3_copyFrom_6 : decode cX3_copyFrom 6 = .ok (.getfield 9, 3) := by decide +kernel
theorem dX3_copyFrom_9 : decode cX3_copyFrom 9 = .ok (.iconst 0, 1) := by decide +kernel
theorem dX3_copyFrom_10 : decode cX3_copyFrom 10 = .ok (.bipush 25, 2) := by decide +kernel
theorem dX3_copyFrom_12 : decode cX3_copyFrom 12 = .ok (.invokestatic 33, 3) := by decide +kernel
theorem dX3_copyFrom_15 : decode cX3_copyFrom 15 = .ok (.aload_n 1, 1) := by decide +kernel
theorem dX3_copyFrom_16 : decode cX3_copyFrom 16 = .ok (.getfield 15, 3) := by decide +kernel
theorem dX3_copyFrom_19 : decode cX3_copyFrom 19 = .ok (.iconst 0, 1) := by decide +kernel
theorem dX3_copyFrom_20 : decode cX3_copyFrom 20 = .ok (.aload_n 0, 1) := by decide +kernel
theorem dX3_copyFrom_21 : decode cX3_copyFrom 21 = .ok (.getfield 15, 3) := by decide +kernel
theorem dX3_copyFrom_24 : decode cX3_copyFrom 24 = .ok (.iconst 0, 1) := by decide +kernel
theorem dX3_copyFrom_25 : decode cX3_copyFrom 25 = .ok (.bipush 25, 2) := by decide +kernel
theorem dX3_copyFrom_27 : decode cX3_copyFrom 27 = .ok (.invokestatic 33, 3) := by decide +kernel
theorem dX3_copyFrom_30 : decode cX3_copyFrom 30 = .ok (.aload_n 1, 1) := by decide +kernel
theorem dX3_copyFrom_31 : decode cX3_copyFrom 31 = .ok (.getfield 18, 3) := by decide +kernel
theorem dX3_copyFrom_34 : decode cX3_copyFrom 34 = .ok (.iconst 0, 1) := by decide +kernel
theorem dX3_copyFrom_35 : decode cX3_copyFrom 35 = .ok (.aload_n 0, 1) := by decide +kernel
theorem dX3_copyFrom_36 : decode cX3_copyFrom 36 = .ok (.getfield 18, 3) := by decide +kernel
theorem dX3_copyFrom_39 : decode cX3_copyFrom 39 = .ok (.iconst 0, 1) := by decide +kernel
theorem dX3_copyFrom_40 : decode cX3_copyFrom 40 = .ok (.bipush 25, 2) := by decide +kernel
theorem dX3_copyFrom_42 : decode cX3_copyFrom 42 = .ok (.invokestatic 33, 3) := by decide +kernel
theorem dX3_copyFrom_45 : decode cX3_copyFrom 45 = .ok (.aload_n 1, 1) := by decide +kernel
theorem dX3_copyFrom_46 : decode cX3_copyFrom 46 = .ok (.getfield 21, 3) := by decide +kernel
theorem dX3_copyFrom_49 : decode cX3_copyFrom 49 = .ok (.iconst 0, 1) := by decide +kernel
theorem dX3_copyFrom_50 : decode cX3_copyFrom 50 = .ok (.aload_n 0, 1) := by decide +kernel
theorem dX3_copyFrom_51 : decode cX3_copyFrom 51 = .ok (.getfield 21, 3) := by decide +kernel
theorem dX3_copyFrom_54 : decode cX3_copyFrom 54 = .ok (.iconst 0, 1) := by decide +kernel
theorem dX3_copyFrom_55 : decode cX3_copyFrom 55 = .ok (.bipush 40, 2) := by decide +kernel
theorem dX3_copyFrom_57 : decode cX3_copyFrom 57 = .ok (.invokestatic 33, 3) := by decide +kernel
theorem dX3_copyFrom_60 : decode cX3_copyFrom 60 = .ok (.aload_n 1, 1) := by decide +kernel
theorem dX3_copyFrom_61 : decode cX3_copyFrom 61 = .ok (.getfield 24, 3) := by decide +kernel
theorem dX3_copyFrom_64 : decode cX3_copyFrom 64 = .ok (.iconst 0, 1) := by decide +kernel
theorem dX3_copyFrom_65 : decode cX3_copyFrom 65 = .ok (.aload_n 0, 1) := by decide +kernel
theorem dX3_copyFrom_66 : decode cX3_copyFrom 66 = .ok (.getfield 24, 3) := by decide +kernel
theorem dX3_copyFrom_69 : decode cX3_copyFrom 69 = .ok (.iconst 0, 1) := by decide +kernel
theorem dX3_copyFrom_70 : decode cX3_copyFrom 70 = .ok (.bipush 40, 2) := by decide +kernel
theorem dX3_copyFrom_72 : decode cX3_copyFrom 72 = .ok (.invokestatic 33, 3) := by decide +kernel
theorem dX3_copyFrom_75 : decode cX3_copyFrom 75 = .ok (.return_, 1) := by decide +kernel
theorem dX3_lengthOf_0 : decode cX3_lengthOf 0 = .ok (.iload_n 1, 1) := by decide +kernel
theorem dX3_lengthOf_1 : decode cX3_lengthOf 1 = .ok (.ifCond .lt 9, 3) := by decide +kernel
theorem dX3_lengthOf_4 : decode cX3_lengthOf 4 = .ok (.iload_n 1, 1) := by decide +kernel
theorem dX3_lengthOf_5 : decode cX3_lengthOf 5 = .ok (.bipush 25, 2) := by decide +kernel
theorem dX3_lengthOf_7 : decode cX3_lengthOf 7 = .ok (.if_icmp .lt 7, 3) := by decide +kernel
theorem dX3_lengthOf_10 : decode cX3_lengthOf 10 = .ok (.iconst 0, 1) := by decide +kernel
theorem dX3_lengthOf_11 : decode cX3_lengthOf 11 = .ok (.goto 9, 3) := by decide +kernel
theorem dX3_lengthOf_14 : decode cX3_lengthOf 14 = .ok (.aload_n 0, 1) := by decide +kernel
theorem dX3_lengthOf_15 : decode cX3_lengthOf 15 = .ok (.getfield 18, 3) := by decide +kernel
theorem dX3_lengthOf_18 : decode cX3_lengthOf 18 = .ok (.iload_n 1, 1) := by decide +kernel
theorem dX3_lengthOf_19 : decode cX3_lengthOf 19 = .ok (.iaload, 1) := by decide +kernel
theorem dX3_lengthOf_20 : decode cX3_lengthOf 20 = .ok (.ireturn, 1) := by decide +kernel
theorem dX3_frontOf_0 : decode cX3_frontOf 0 = .ok (.iload_n 1, 1) := by decide +kernel
theorem dX3_frontOf_1 : decode cX3_frontOf 1 = .ok (.ifCond .lt 9, 3) := by decide +kernel
theorem dX3_frontOf_4 : decode cX3_frontOf 4 = .ok (.iload_n 1, 1) := by decide +kernel
theorem dX3_frontOf_5 : decode cX3_frontOf 5 = .ok (.bipush 25, 2) := by decide +kernel
theorem dX3_frontOf_7 : decode cX3_frontOf 7 = .ok (.if_icmp .lt 7, 3) := by decide +kernel
theorem dX3_frontOf_10 : decode cX3_frontOf 10 = .ok (.iconst (-1), 1) := by decide +kernel
theorem dX3_frontOf_11 : decode cX3_frontOf 11 = .ok (.goto 9, 3) := by decide +kernel
theorem dX3_frontOf_14 : decode cX3_frontOf 14 = .ok (.aload_n 0, 1) := by decide +kernel
theorem dX3_frontOf_15 : decode cX3_frontOf 15 = .ok (.getfield 9, 3) := by decide +kernel
theorem dX3_frontOf_18 : decode cX3_frontOf 18 = .ok (.iload_n 1, 1) := by decide +kernel
theorem dX3_frontOf_19 : decode cX3_frontOf 19 = .ok (.iaload, 1) := by decide +kernel
theorem dX3_frontOf_20 : decode cX3_frontOf 20 = .ok (.ireturn, 1) := by decide +kernel
theorem dX3_follower_0 : decode cX3_follower 0 = .ok (.iload_n 1, 1) := by decide +kernel
theorem dX3_follower_1 : decode cX3_follower 1 = .ok (.ifCond .lt 9, 3) := by decide +kernel
theorem dX3_follower_4 : decode cX3_follower 4 = .ok (.iload_n 1, 1) := by decide +kernel
theorem dX3_follower_5 : decode cX3_follower 5 = .ok (.bipush 40, 2) := by decide +kernel
theorem dX3_follower_7 : decode cX3_follower 7 = .ok (.if_icmp .lt 7, 3) := by decide +kernel
theorem dX3_follower_10 : decode cX3_follower 10 = .ok (.iconst (-1), 1) := by decide +kernel
theorem dX3_follower_11 : decode cX3_follower 11 = .ok (.goto 9, 3) := by decide +kernel
theorem dX3_follower_14 : decode cX3_follower 14 = .ok (.aload_n 0, 1) := by decide +kernel
theorem dX3_follower_15 : decode cX3_follower 15 = .ok (.getfield 24, 3) := by decide +kernel
theorem dX3_follower_18 : decode cX3_follower 18 = .ok (.iload_n 1, 1) := by decide +kernel
theorem dX3_follower_19 : decode cX3_follower 19 = .ok (.iaload, 1) := by decide +kernel
theorem dX3_follower_20 : decode cX3_follower 20 = .ok (.ireturn, 1) := by decide +kernel
theorem dX3_lineOf_0 : decode cX3_lineOf 0 = .ok (.iload_n 1, 1) := by decide +kernel
theorem dX3_lineOf_1 : decode cX3_lineOf 1 = .ok (.ifCond .lt 9, 3) := by decide +kernel
theorem dX3_lineOf_4 : decode cX3_lineOf 4 = .ok (.iload_n 1, 1) := by decide +kernel
theorem dX3_lineOf_5 : decode cX3_lineOf 5 = .ok (.bipush 40, 2) := by decide +kernel
theorem dX3_lineOf_7 : decode cX3_lineOf 7 = .ok (.if_icmp .lt 7, 3) := by decide +kernel
theorem dX3_lineOf_10 : decode cX3_lineOf 10 = .ok (.iconst (-1), 1) := by decide +kernel
theorem dX3_lineOf_11 : decode cX3_lineOf 11 = .ok (.goto 9, 3) := by decide +kernel
theorem dX3_lineOf_14 : decode cX3_lineOf 14 = .ok (.aload_n 0, 1) := by decide +kernel
theorem dX3_lineOf_15 : decode cX3_lineOf 15 = .ok (.getfield 21, 3) := by decide +kernel
theorem dX3_lineOf_18 : decode cX3_lineOf 18 = .ok (.iload_n 1, 1) := by decide +kernel
theorem dX3_lineOf_19 : decode cX3_lineOf 19 = .ok (.iaload, 1) := by decide +kernel
theorem dX3_lineOf_20 : decode cX3_lineOf 20 = .ok (.ireturn, 1) := by decide +kernel
set_option maxRecDepth 20000 in
theorem ggX3_placeOf_X3_lineOf : GoodIn wsX3_placeOf wsX3_lineOf := goodIn_r _ [5, 6, 22, 23, 24, 25, 26] (by decide +kernel) (by decide +kernel)
set_option maxRecDepth 20000 in
theorem gX3_placeOf_X3_lineOf : GoodIn wsX3_placeOf (wsV RX3 49 RX3 yX3_lineOf wsX3_lineOf) := goodIn_app (goodIn_of _ (by decide +kernel)) ggX3_placeOf_X3_lineOf
set_option maxRecDepth 20000 in
theorem ggX3_placeOf_X3_lengthOf : GoodIn wsX3_placeOf wsX3_lengthOf := goodIn_r _ [10, 11, 22, 23, 24, 25, 26] (by decide +kernel) (by decide +kernel)
set_option maxRecDepth 20000 in
theorem gX3_placeOf_X3_lengthOf : GoodIn wsX3_placeOf (wsV RX3 39 RX3 yX3_lengthOf wsX3_lengthOf) := goodIn_app (goodIn_of _ (by decide +kernel)) ggX3_placeOf_X3_lengthOf
set_option maxRecDepth 20000 in
theorem ggX3_placeOf_X3_frontOf : GoodIn wsX3_placeOf wsX3_frontOf := goodIn_r _ [15, 16, 22, 23, 24, 25, 26] (by decide +kernel) (by decide +kernel)
set_option maxRecDepth 20000 in
theorem gX3_placeOf_X3_frontOf : GoodIn wsX3_placeOf (wsV RX3 43 RX3 yX3_frontOf wsX3_frontOf) := goodIn_app (goodIn_of _ (by decide +kernel)) ggX3_placeOf_X3_frontOf
set_option maxRecDepth 20000 in
theorem ggX3_placeOf_X3_follower : GoodIn wsX3_placeOf wsX3_follower := goodIn_r _ [20, 21, 22, 23, 24, 25, 26] (by decide +kernel) (by decide +kernel)
set_option maxRecDepth 20000 in
theorem gX3_placeOf_X3_follower : GoodIn wsX3_placeOf (wsV RX3 46 RX3 yX3_follower wsX3_follower) := goodIn_app (goodIn_of _ (by decide +kernel)) ggX3_placeOf_X3_follower
theorem dX3_placeOf_0 : decode cX3_placeOf 0 = .ok (.aload_n 0, 1) := by decide +kernel
theorem dX3_placeOf_1 : decode cX3_placeOf 1 = .ok (.iload_n 1, 1) := by decide +kernel
theorem dX3_placeOf_2 : decode cX3_placeOf 2 = .ok (.invokevirtual 49, 3) := by decide +kernel
theorem dX3_placeOf_5 : decode cX3_placeOf 5 = .ok (.istore_n 2, 1) := by decide +kernel
theorem dX3_placeOf_6 : decode cX3_placeOf 6 = .ok (.aload_n 0, 1) := by decide +kernel
theorem dX3_placeOf_7 : decode cX3_placeOf 7 = .ok (.iload_n 2, 1) := by decide +kernel
theorem dX3_placeOf_8 : decode cX3_placeOf 8 = .ok (.invokevirtual 39, 3) := by decide +kernel
theorem dX3_placeOf_11 : decode cX3_placeOf 11 = .ok (.istore_n 3, 1) := by decide +kernel
theorem dX3_placeOf_12 : decode cX3_placeOf 12 = .ok (.aload_n 0, 1) := by decide +kernel
theorem dX3_placeOf_13 : decode cX3_placeOf 13 = .ok (.iload_n 2, 1) := by decide +kernel
theorem dX3_placeOf_14 : decode cX3_placeOf 14 = .ok (.invokevirtual 43, 3) := by decide +kernel
theorem dX3_placeOf_17 : decode cX3_placeOf 17 = .ok (.istore 4, 2) := by decide +kernel
theorem dX3_placeOf_19 : decode cX3_placeOf 19 = .ok (.iconst 0, 1) := by decide +kernel
theorem dX3_placeOf_20 : decode cX3_placeOf 20 = .ok (.istore 5, 2) := by decide +kernel
theorem dX3_placeOf_22 : decode cX3_placeOf 22 = .ok (.iload 5, 2) := by decide +kernel
theorem dX3_placeOf_24 : decode cX3_placeOf 24 = .ok (.iload_n 3, 1) := by decide +kernel
theorem dX3_placeOf_25 : decode cX3_placeOf 25 = .ok (.if_icmp .ge 26, 3) := by decide +kernel
theorem dX3_placeOf_28 : decode cX3_placeOf 28 = .ok (.iload 4, 2) := by decide +kernel
theorem dX3_placeOf_30 : decode cX3_placeOf 30 = .ok (.iload_n 1, 1) := by decide +kernel
theorem dX3_placeOf_31 : decode cX3_placeOf 31 = .ok (.if_icmp .ne 6, 3) := by decide +kernel
theorem dX3_placeOf_34 : decode cX3_placeOf 34 = .ok (.iload 5, 2) := by decide +kernel
theorem dX3_placeOf_36 : decode cX3_placeOf 36 = .ok (.ireturn, 1) := by decide +kernel
theorem dX3_placeOf_37 : decode cX3_placeOf 37 = .ok (.aload_n 0, 1) := by decide +kernel
theorem dX3_placeOf_38 : decode cX3_placeOf 38 = .ok (.iload 4, 2) := by decide +kernel
theorem dX3_placeOf_40 : decode cX3_placeOf 40 = .ok (.invokevirtual 46, 3) := by decide +kernel
theorem dX3_placeOf_43 : decode cX3_placeOf 43 = .ok (.istore 4, 2) := by decide +kernel
theorem dX3_placeOf_45 : decode cX3_placeOf 45 = .ok (.iinc 5 1, 3) := by decide +kernel
theorem dX3_placeOf_48 : decode cX3_placeOf 48 = .ok (.goto (-26), 3) := by decide +kernel
theorem dX3_placeOf_51 : decode cX3_placeOf 51 = .ok (.bipush (-9), 2) := by decide +kernel
theorem dX3_placeOf_53 : decode cX3_placeOf 53 = .ok (.ireturn, 1) := by decide +kernel
theorem dX3_join_0 : decode cX3_join 0 = .ok (.iload_n 1, 1) := by decide +kernel
theorem dX3_join_1 : decode cX3_join 1 = .ok (.ifCond .lt 19, 3) := by decide +kernel
theorem dX3_join_4 : decode cX3_join 4 = .ok (.iload_n 1, 1) := by decide +kernel
theorem dX3_join_5 : decode cX3_join 5 = .ok (.bipush 25, 2) := by decide +kernel
theorem dX3_join_7 : decode cX3_join 7 = .ok (.if_icmp .ge 13, 3) := by decide +kernel
theorem dX3_join_10 : decode cX3_join 10 = .ok (.iload_n 2, 1) := by decide +kernel
theorem dX3_join_11 : decode cX3_join 11 = .ok (.ifCond .lt 9, 3) := by decide +kernel
theorem dX3_join_14 : decode cX3_join 14 = .ok (.iload_n 2, 1) := by decide +kernel
theorem dX3_join_15 : decode cX3_join 15 = .ok (.bipush 40, 2) := by decide +kernel
theorem dX3_join_17 : decode cX3_join 17 = .ok (.if_icmp .lt 4, 3) := by decide +kernel
theorem dX3_join_20 : decode cX3_join 20 = .ok (.return_, 1) := by decide +kernel
theorem dX3_join_21 : decode cX3_join 21 = .ok (.aload_n 0, 1) := by decide +kernel
theorem dX3_join_22 : decode cX3_join 22 = .ok (.getfield 15, 3) := by decide +kernel
theorem dX3_join_25 : decode cX3_join 25 = .ok (.iload_n 1, 1) := by decide +kernel
theorem dX3_join_26 : decode cX3_join 26 = .ok (.iaload, 1) := by decide +kernel
theorem dX3_join_27 : decode cX3_join 27 = .ok (.istore_n 3, 1) := by decide +kernel
theorem dX3_join_28 : decode cX3_join 28 = .ok (.iload_n 3, 1) := by decide +kernel
theorem dX3_join_29 : decode cX3_join 29 = .ok (.ifCond .lt 9, 3) := by decide +kernel
theorem dX3_join_32 : decode cX3_join 32 = .ok (.iload_n 3, 1) := by decide +kernel
theorem dX3_join_33 : decode cX3_join 33 = .ok (.bipush 40, 2) := by decide +kernel
theorem dX3_join_35 : decode cX3_join 35 = .ok (.if_icmp .lt 13, 3) := by decide +kernel
theorem dX3_join_38 : decode cX3_join 38 = .ok (.aload_n 0, 1) := by decide +kernel
theorem dX3_join_39 : decode cX3_join 39 = .ok (.getfield 9, 3) := by decide +kernel
theorem dX3_join_42 : decode cX3_join 42 = .ok (.iload_n 1, 1) := by decide +kernel
theorem dX3_join_43 : decode cX3_join 43 = .ok (.iload_n 2, 1) := by decide +kernel
theorem dX3_join_44 : decode cX3_join 44 = .ok (.iastore, 1) := by decide +kernel
theorem dX3_join_45 : decode cX3_join 45 = .ok (.goto 10, 3) := by decide +kernel
theorem dX3_join_48 : decode cX3_join 48 = .ok (.aload_n 0, 1) := by decide +kernel
theorem dX3_join_49 : decode cX3_join 49 = .ok (.getfield 24, 3) := by decide +kernel
theorem dX3_join_52 : decode cX3_join 52 = .ok (.iload_n 3, 1) := by decide +kernel
theorem dX3_join_53 : decode cX3_join 53 = .ok (.iload_n 2, 1) := by decide +kernel
theorem dX3_join_54 : decode cX3_join 54 = .ok (.iastore, 1) := by decide +kernel
theorem dX3_join_55 : decode cX3_join 55 = .ok (.aload_n 0, 1) := by decide +kernel
theorem dX3_join_56 : decode cX3_join 56 = .ok (.getfield 15, 3) := by decide +kernel
theorem dX3_join_59 : decode cX3_join 59 = .ok (.iload_n 1, 1) := by decide +kernel
theorem dX3_join_60 : decode cX3_join 60 = .ok (.iload_n 2, 1) := by decide +kernel
theorem dX3_join_61 : decode cX3_join 61 = .ok (.iastore, 1) := by decide +kernel
theorem dX3_join_62 : decode cX3_join 62 = .ok (.aload_n 0, 1) := by decide +kernel
theorem dX3_join_63 : decode cX3_join 63 = .ok (.getfield 24, 3) := by decide +kernel
theorem dX3_join_66 : decode cX3_join 66 = .ok (.iload_n 2, 1) := by decide +kernel
theorem dX3_join_67 : decode cX3_join 67 = .ok (.iconst (-1), 1) := by decide +kernel
theorem dX3_join_68 : decode cX3_join 68 = .ok (.iastore, 1) := by decide +kernel
theorem dX3_join_69 : decode cX3_join 69 = .ok (.aload_n 0, 1) := by decide +kernel
theorem dX3_join_70 : decode cX3_join 70 = .ok (.getfield 21, 3) := by decide +kernel
theorem dX3_join_73 : decode cX3_join 73 = .ok (.iload_n 2, 1) := by decide +kernel
theorem dX3_join_74 : decode cX3_join 74 = .ok (.iload_n 1, 1) := by decide +kernel
theorem dX3_join_75 : decode cX3_join 75 = .ok (.iastore, 1) := by decide +kernel
theorem dX3_join_76 : decode cX3_join 76 = .ok (.aload_n 0, 1) := by decide +kernel
theorem dX3_join_77 : decode cX3_join 77 = .ok (.getfield 18, 3) := by decide +kernel
theorem dX3_join_80 : decode cX3_join 80 = .ok (.iload_n 1, 1) := by decide +kernel
theorem dX3_join_81 : decode cX3_join 81 = .ok (.dup2, 1) := by decide +kernel
theorem dX3_join_82 : decode cX3_join 82 = .ok (.iaload, 1) := by decide +kernel
theorem dX3_join_83 : decode cX3_join 83 = .ok (.iconst 1, 1) := by decide +kernel
theorem dX3_join_84 : decode cX3_join 84 = .ok (.iadd, 1) := by decide +kernel
theorem dX3_join_85 : decode cX3_join 85 = .ok (.iastore, 1) := by decide +kernel
theorem dX3_join_86 : decode cX3_join 86 = .ok (.return_, 1) := by decide +kernel
set_option maxRecDepth 20000 in
theorem ggX3_leave_X3_lineOf : GoodIn wsX3_leave wsX3_lineOf := goodIn_r _ [10, 4, 15, 16, 17, 18, 19] (by decide +kernel) (by decide +kernel)
set_option maxRecDepth 20000 in
theorem gX3_leave_X3_lineOf : GoodIn wsX3_leave (wsV RX3 49 RX3 yX3_lineOf wsX3_lineOf) := goodIn_app (goodIn_of _ (by decide +kernel)) ggX3_leave_X3_lineOf
set_option maxRecDepth 20000 in
theorem ggX3_leave_X3_follower : GoodIn wsX3_leave wsX3_follower := goodIn_r _ [14, 2, 15, 16, 17, 18, 19] (by decide +kernel) (by decide +kernel)
set_option maxRecDepth 20000 in
theorem gX3_leave_X3_follower : GoodIn wsX3_leave (wsV RX3 46 RX3 yX3_follower wsX3_follower) := goodIn_app (goodIn_of _ (by decide +kernel)) ggX3_leave_X3_follower
theorem dX3_leave_0 : decode cX3_leave 0 = .ok (.aload_n 0, 1) := by decide +kernel
theorem dX3_leave_1 : decode cX3_leave 1 = .ok (.iload_n 1, 1) := by decide +kernel
theorem dX3_leave_2 : decode cX3_leave 2 = .ok (.invokevirtual 49, 3) := by decide +kernel
theorem dX3_leave_5 : decode cX3_leave 5 = .ok (.istore_n 2, 1) := by decide +kernel
theorem dX3_leave_6 : decode cX3_leave 6 = .ok (.iload_n 2, 1) := by decide +kernel
theorem dX3_leave_7 : decode cX3_leave 7 = .ok (.ifCond .lt 19, 3) := by decide +kernel
theorem dX3_leave_10 : decode cX3_leave 10 = .ok (.iload_n 2, 1) := by decide +kernel
theorem dX3_leave_11 : decode cX3_leave 11 = .ok (.bipush 25, 2) := by decide +kernel
theorem dX3_leave_13 : decode cX3_leave 13 = .ok (.if_icmp .ge 13, 3) := by decide +kernel
theorem dX3_leave_16 : decode cX3_leave 16 = .ok (.iload_n 1, 1) := by decide +kernel
theorem dX3_leave_17 : decode cX3_leave 17 = .ok (.ifCond .lt 9, 3) := by decide +kernel
theorem dX3_leave_20 : decode cX3_leave 20 = .ok (.iload_n 1, 1) := by decide +kernel
theorem dX3_leave_21 : decode cX3_leave 21 = .ok (.bipush 40, 2) := by decide +kernel
theorem dX3_leave_23 : decode cX3_leave 23 = .ok (.if_icmp .lt 4, 3) := by decide +kernel
theorem dX3_leave_26 : decode cX3_leave 26 = .ok (.return_, 1) := by decide +kernel
theorem dX3_leave_27 : decode cX3_leave 27 = .ok (.iconst (-1), 1) := by decide +kernel
theorem dX3_leave_28 : decode cX3_leave 28 = .ok (.istore_n 3, 1) := by decide +kernel
theorem dX3_leave_29 : decode cX3_leave 29 = .ok (.aload_n 0, 1) := by decide +kernel
theorem dX3_leave_30 : decode cX3_leave 30 = .ok (.getfield 9, 3) := by decide +kernel
theorem dX3_leave_33 : decode cX3_leave 33 = .ok (.iload_n 2, 1) := by decide +kernel
theorem dX3_leave_34 : decode cX3_leave 34 = .ok (.iaload, 1) := by decide +kernel
theorem dX3_leave_35 : decode cX3_leave 35 = .ok (.istore 4, 2) := by decide +kernel
theorem dX3_leave_37 : decode cX3_leave 37 = .ok (.iconst 0, 1) := by decide +kernel
theorem dX3_leave_38 : decode cX3_leave 38 = .ok (.istore 5, 2) := by decide +kernel
theorem dX3_leave_40 : decode cX3_leave 40 = .ok (.iload 5, 2) := by decide +kernel
theorem dX3_leave_42 : decode cX3_leave 42 = .ok (.bipush 40, 2) := by decide +kernel
theorem dX3_leave_44 : decode cX3_leave 44 = .ok (.if_icmp .ge 26, 3) := by decide +kernel
theorem dX3_leave_47 : decode cX3_leave 47 = .ok (.iload 4, 2) := by decide +kernel
theorem dX3_leave_49 : decode cX3_leave 49 = .ok (.iload_n 1, 1) := by decide +kernel
theorem dX3_leave_50 : decode cX3_leave 50 = .ok (.if_icmp .eq 20, 3) := by decide +kernel
theorem dX3_leave_53 : decode cX3_leave 53 = .ok (.iload 4, 2) := by decide +kernel
theorem dX3_leave_55 : decode cX3_leave 55 = .ok (.istore_n 3, 1) := by decide +kernel
theorem dX3_leave_56 : decode cX3_leave 56 = .ok (.aload_n 0, 1) := by decide +kernel
theorem dX3_leave_57 : decode cX3_leave 57 = .ok (.iload 4, 2) := by decide +kernel
theorem dX3_leave_59 : decode cX3_leave 59 = .ok (.invokevirtual 46, 3) := by decide +kernel
theorem dX3_leave_62 : decode cX3_leave 62 = .ok (.istore 4, 2) := by decide +kernel
theorem dX3_leave_64 : decode cX3_leave 64 = .ok (.iinc 5 1, 3) := by decide +kernel
theorem dX3_leave_67 : decode cX3_leave 67 = .ok (.goto (-27), 3) := by decide +kernel
theorem dX3_leave_70 : decode cX3_leave 70 = .ok (.iload_n 3, 1) := by decide +kernel
theorem dX3_leave_71 : decode cX3_leave 71 = .ok (.ifCond .lt 9, 3) := by decide +kernel
theorem dX3_leave_74 : decode cX3_leave 74 = .ok (.iload_n 3, 1) := by decide +kernel
theorem dX3_leave_75 : decode cX3_leave 75 = .ok (.bipush 40, 2) := by decide +kernel
theorem dX3_leave_77 : decode cX3_leave 77 = .ok (.if_icmp .lt 18, 3) := by decide +kernel
theorem dX3_leave_80 : decode cX3_leave 80 = .ok (.aload_n 0, 1) := by decide +kernel
theorem dX3_leave_81 : decode cX3_leave 81 = .ok (.getfield 9, 3) := by decide +kernel
theorem dX3_leave_84 : decode cX3_leave 84 = .ok (.iload_n 2, 1) := by decide +kernel
theorem dX3_leave_85 : decode cX3_leave 85 = .ok (.aload_n 0, 1) := by decide +kernel
theorem dX3_leave_86 : decode cX3_leave 86 = .ok (.getfield 24, 3) := by decide +kernel
theorem dX3_leave_89 : decode cX3_leave 89 = .ok (.iload_n 1, 1) := by decide +kernel
theorem dX3_leave_90 : decode cX3_leave 90 = .ok (.iaload, 1) := by decide +kernel
theorem dX3_leave_91 : decode cX3_leave 91 = .ok (.iastore, 1) := by decide +kernel
theorem dX3_leave_92 : decode cX3_leave 92 = .ok (.goto 15, 3) := by decide +kernel
theorem dX3_leave_95 : decode cX3_leave 95 = .ok (.aload_n 0, 1) := by decide +kernel
theorem dX3_leave_96 : decode cX3_leave 96 = .ok (.getfield 24, 3) := by decide +kernel
theorem dX3_leave_99 : decode cX3_leave 99 = .ok (.iload_n 3, 1) := by decide +kernel
theorem dX3_leave_100 : decode cX3_leave 100 = .ok (.aload_n 0, 1) := by decide +kernel
theorem dX3_leave_101 : decode cX3_leave 101 = .ok (.getfield 24, 3) := by decide +kernel
theorem dX3_leave_104 : decode cX3_leave 104 = .ok (.iload_n 1, 1) := by decide +kernel
theorem dX3_leave_105 : decode cX3_leave 105 = .ok (.iaload, 1) := by decide +kernel
theorem dX3_leave_106 : decode cX3_leave 106 = .ok (.iastore, 1) := by decide +kernel
theorem dX3_leave_107 : decode cX3_leave 107 = .ok (.aload_n 0, 1) := by decide +kernel
theorem dX3_leave_108 : decode cX3_leave 108 = .ok (.getfield 15, 3) := by decide +kernel
theorem dX3_leave_111 : decode cX3_leave 111 = .ok (.iload_n 2, 1) := by decide +kernel
theorem dX3_leave_112 : decode cX3_leave 112 = .ok (.iaload, 1) := by decide +kernel
theorem dX3_leave_113 : decode cX3_leave 113 = .ok (.iload_n 1, 1) := by decide +kernel
theorem dX3_leave_114 : decode cX3_leave 114 = .ok (.if_icmp .ne 10, 3) := by decide +kernel
theorem dX3_leave_117 : decode cX3_leave 117 = .ok (.aload_n 0, 1) := by decide +kernel
theorem dX3_leave_118 : decode cX3_leave 118 = .ok (.getfield 15, 3) := by decide +kernel
theorem dX3_leave_121 : decode cX3_leave 121 = .ok (.iload_n 2, 1) := by decide +kernel
theorem dX3_leave_122 : decode cX3_leave 122 = .ok (.iload_n 3, 1) := by decide +kernel
theorem dX3_leave_123 : decode cX3_leave 123 = .ok (.iastore, 1) := by decide +kernel
theorem dX3_leave_124 : decode cX3_leave 124 = .ok (.aload_n 0, 1) := by decide +kernel
theorem dX3_leave_125 : decode cX3_leave 125 = .ok (.getfield 24, 3) := by decide +kernel
theorem dX3_leave_128 : decode cX3_leave 128 = .ok (.iload_n 1, 1) := by decide +kernel
theorem dX3_leave_129 : decode cX3_leave 129 = .ok (.iconst (-1), 1) := by decide +kernel
theorem dX3_leave_130 : decode cX3_leave 130 = .ok (.iastore, 1) := by decide +kernel
theorem dX3_leave_131 : decode cX3_leave 131 = .ok (.aload_n 0, 1) := by decide +kernel
theorem dX3_leave_132 : decode cX3_leave 132 = .ok (.getfield 21, 3) := by decide +kernel
theorem dX3_leave_135 : decode cX3_leave 135 = .ok (.iload_n 1, 1) := by decide +kernel
theorem dX3_leave_136 : decode cX3_leave 136 = .ok (.iconst (-1), 1) := by decide +kernel
theorem dX3_leave_137 : decode cX3_leave 137 = .ok (.iastore, 1) := by decide +kernel
theorem dX3_leave_138 : decode cX3_leave 138 = .ok (.aload_n 0, 1) := by decide +kernel
theorem dX3_leave_139 : decode cX3_leave 139 = .ok (.getfield 18, 3) := by decide +kernel
theorem dX3_leave_142 : decode cX3_leave 142 = .ok (.iload_n 2, 1) := by decide +kernel
theorem dX3_leave_143 : decode cX3_leave 143 = .ok (.dup2, 1) := by decide +kernel
theorem dX3_leave_144 : decode cX3_leave 144 = .ok (.iaload, 1) := by decide +kernel
theorem dX3_leave_145 : decode cX3_leave 145 = .ok (.iconst 1, 1) := by decide +kernel
theorem dX3_leave_146 : decode cX3_leave 146 = .ok (.isub, 1) := by decide +kernel
theorem dX3_leave_147 : decode cX3_leave 147 = .ok (.iastore, 1) := by decide +kernel
theorem dX3_leave_148 : decode cX3_leave 148 = .ok (.return_, 1) := by decide +kernel
set_option maxRecDepth 20000 in
theorem ggX4_init_X7_init : GoodIn wsX4_init wsX7_init := goodIn_r _ [12, 13, 2, 3, 8, 14, 15, 16, 17, 18, 19] (by decide +kernel) (by decide +kernel)
set_option maxRecDepth 20000 in
theorem gX4_init_X7_init_n11 : GoodIn wsX4_init (wsX7_init) := ggX4_init_X7_init
theorem dX4_init_0 : decode cX4_init 0 = .ok (.aload_n 0, 1) := by decide +kernel
theorem dX4_init_1 : decode cX4_init 1 = .ok (.invokespecial 3, 3) := by decide +kernel
theorem dX4_init_4 : decode cX4_init 4 = .ok (.aload_n 0, 1) := by decide +kernel
theorem dX4_init_5 : decode cX4_init 5 = .ok (.new 9, 3) := by decide +kernel
theorem dX4_init_8 : decode cX4_init 8 = .ok (.dup, 1) := by decide +kernel
theorem dX4_init_9 : decode cX4_init 9 = .ok (.invokespecial 11, 3) := by decide +kernel
theorem dX4_init_12 : decode cX4_init 12 = .ok (.putfield 12, 3) := by decide +kernel
theorem dX4_init_15 : decode cX4_init 15 = .ok (.aload_n 0, 1) := by decide +kernel
theorem dX4_init_16 : decode cX4_init 16 = .ok (.iconst 3, 1) := by decide +kernel
theorem dX4_init_17 : decode cX4_init 17 = .ok (.newarray .int, 2) := by decide +kernel
theorem dX4_init_19 : decode cX4_init 19 = .ok (.putfield 18, 3) := by decide +kernel
theorem dX4_init_22 : decode cX4_init 22 = .ok (.aload_n 0, 1) := by decide +kernel
theorem dX4_init_23 : decode cX4_init 23 = .ok (.iconst 4, 1) := by decide +kernel
theorem dX4_init_24 : decode cX4_init 24 = .ok (.newarray .int, 2) := by decide +kernel
theorem dX4_init_26 : decode cX4_init 26 = .ok (.putfield 22, 3) := by decide +kernel
theorem dX4_init_29 : decode cX4_init 29 = .ok (.return_, 1) := by decide +kernel
