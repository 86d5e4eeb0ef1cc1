theorem dX5_init_0 : decode cX5_init 0 = .ok (.aload_n 0, 1) := by decide +kernel
theorem dX5_init_1 : decode cX5_init 1 = .ok (.invokespecial 3, 3) := by decide +kernel
theorem dX5_init_4 : decode cX5_init 4 = .ok (.aload_n 0, 1) := by decide +kernel
theorem dX5_init_5 : decode cX5_init 5 = .ok (.sipush 240, 3) := by decide +kernel
theorem dX5_init_8 : decode cX5_init 8 = .ok (.newarray .int, 2) := by decide +kernel
theorem dX5_init_10 : decode cX5_init 10 = .ok (.putfield 11, 3) := by decide +kernel
theorem dX5_init_13 : decode cX5_init 13 = .ok (.return_, 1) := by decide +kernel
theorem dX5_copyFrom_0 : decode cX5_copyFrom 0 = .ok (.aload_n 1, 1) := by decide +kernel
theorem dX5_copyFrom_1 : decode cX5_copyFrom 1 = .ok (.getfield 11, 3) := by decide +kernel
theorem dX5_copyFrom_4 : decode cX5_copyFrom 4 = .ok (.iconst 0, 1) := by decide +kernel
theorem dX5_copyFrom_5 : decode cX5_copyFrom 5 = .ok (.aload_n 0, 1) := by decide +kernel
theorem dX5_copyFrom_6 : decode cX5_copyFrom 6 = .ok (.getfield 11, 3) := by decide +kernel
theorem dX5_copyFrom_9 : decode cX5_copyFrom 9 = .ok (.iconst 0, 1) := by decide +kernel
theorem dX5_copyFrom_10 : decode cX5_copyFrom 10 = .ok (.sipush 240, 3) := by decide +kernel
theorem dX5_copyFrom_13 : decode cX5_copyFrom 13 = .ok (.invokestatic 15, 3) := by decide +kernel
theorem dX5_copyFrom_16 : decode cX5_copyFrom 16 = .ok (.aload_n 0, 1) := by decide +kernel
theorem dX5_copyFrom_17 : decode cX5_copyFrom 17 = .ok (.aload_n 1, 1) := by decide +kernel
theorem dX5_copyFrom_18 : decode cX5_copyFrom 18 = .ok (.getfield 21, 3) := by decide +kernel
theorem dX5_copyFrom_21 : decode cX5_copyFrom 21 = .ok (.putfield 21, 3) := by decide +kernel
theorem dX5_copyFrom_24 : decode cX5_copyFrom 24 = .ok (.return_, 1) := by decide +kernel
theorem dX5_given_0 : decode cX5_given 0 = .ok (.aload_n 0, 1) := by decide +kernel
theorem dX5_given_1 : decode cX5_given 1 = .ok (.getfield 21, 3) := by decide +kernel
theorem dX5_given_4 : decode cX5_given 4 = .ok (.ireturn, 1) := by decide +kernel
theorem dX5_has_0 : decode cX5_has 0 = .ok (.iload_n 1, 1) := by decide +kernel
theorem dX5_has_1 : decode cX5_has 1 = .ok (.ifCond .lt 15, 3) := by decide +kernel
theorem dX5_has_4 : decode cX5_has 4 = .ok (.iload_n 1, 1) := by decide +kernel
theorem dX5_has_5 : decode cX5_has 5 = .ok (.aload_n 0, 1) := by decide +kernel
theorem dX5_has_6 : decode cX5_has 6 = .ok (.getfield 21, 3) := by decide +kernel
theorem dX5_has_9 : decode cX5_has 9 = .ok (.if_icmp .ge 7, 3) := by decide +kernel
theorem dX5_has_12 : decode cX5_has 12 = .ok (.iconst 1, 1) := by decide +kernel
theorem dX5_has_13 : decode cX5_has 13 = .ok (.goto 4, 3) := by decide +kernel
theorem dX5_has_16 : decode cX5_has 16 = .ok (.iconst 0, 1) := by decide +kernel
theorem dX5_has_17 : decode cX5_has 17 = .ok (.ireturn, 1) := by decide +kernel
theorem dX5_fact_0 : decode cX5_fact 0 = .ok (.iload_n 1, 1) := by decide +kernel
theorem dX5_fact_1 : decode cX5_fact 1 = .ok (.ifCond .lt 19, 3) := by decide +kernel
theorem dX5_fact_4 : decode cX5_fact 4 = .ok (.iload_n 1, 1) := by decide +kernel
theorem dX5_fact_5 : decode cX5_fact 5 = .ok (.bipush 40, 2) := by decide +kernel
theorem dX5_fact_7 : decode cX5_fact 7 = .ok (.if_icmp .ge 13, 3) := by decide +kernel
theorem dX5_fact_10 : decode cX5_fact 10 = .ok (.iload_n 2, 1) := by decide +kernel
theorem dX5_fact_11 : decode cX5_fact 11 = .ok (.ifCond .lt 9, 3) := by decide +kernel
theorem dX5_fact_14 : decode cX5_fact 14 = .ok (.iload_n 2, 1) := by decide +kernel
theorem dX5_fact_15 : decode cX5_fact 15 = .ok (.bipush 6, 2) := by decide +kernel
theorem dX5_fact_17 : decode cX5_fact 17 = .ok (.if_icmp .lt 5, 3) := by decide +kernel
theorem dX5_fact_20 : decode cX5_fact 20 = .ok (.iconst 0, 1) := by decide +kernel
theorem dX5_fact_21 : decode cX5_fact 21 = .ok (.ireturn, 1) := by decide +kernel
theorem dX5_fact_22 : decode cX5_fact 22 = .ok (.aload_n 0, 1) := by decide +kernel
theorem dX5_fact_23 : decode cX5_fact 23 = .ok (.getfield 11, 3) := by decide +kernel
theorem dX5_fact_26 : decode cX5_fact 26 = .ok (.iload_n 1, 1) := by decide +kernel
theorem dX5_fact_27 : decode cX5_fact 27 = .ok (.bipush 6, 2) := by decide +kernel
theorem dX5_fact_29 : decode cX5_fact 29 = .ok (.imul, 1) := by decide +kernel
theorem dX5_fact_30 : decode cX5_fact 30 = .ok (.iload_n 2, 1) := by decide +kernel
theorem dX5_fact_31 : decode cX5_fact 31 = .ok (.iadd, 1) := by decide +kernel
theorem dX5_fact_32 : decode cX5_fact 32 = .ok (.iaload, 1) := by decide +kernel
theorem dX5_fact_33 : decode cX5_fact 33 = .ok (.ireturn, 1) := by decide +kernel
theorem dX5_write_0 : decode cX5_write 0 = .ok (.iload_n 1, 1) := by decide +kernel
theorem dX5_write_1 : decode cX5_write 1 = .ok (.ifCond .lt 19, 3) := by decide +kernel
theorem dX5_write_4 : decode cX5_write 4 = .ok (.iload_n 1, 1) := by decide +kernel
theorem dX5_write_5 : decode cX5_write 5 = .ok (.bipush 40, 2) := by decide +kernel
theorem dX5_write_7 : decode cX5_write 7 = .ok (.if_icmp .ge 13, 3) := by decide +kernel
theorem dX5_write_10 : decode cX5_write 10 = .ok (.iload_n 2, 1) := by decide +kernel
theorem dX5_write_11 : decode cX5_write 11 = .ok (.ifCond .lt 9, 3) := by decide +kernel
theorem dX5_write_14 : decode cX5_write 14 = .ok (.iload_n 2, 1) := by decide +kernel
theorem dX5_write_15 : decode cX5_write 15 = .ok (.bipush 6, 2) := by decide +kernel
theorem dX5_write_17 : decode cX5_write 17 = .ok (.if_icmp .lt 4, 3) := by decide +kernel
theorem dX5_write_20 : decode cX5_write 20 = .ok (.return_, 1) := by decide +kernel
theorem dX5_write_21 : decode cX5_write 21 = .ok (.aload_n 0, 1) := by decide +kernel
theorem dX5_write_22 : decode cX5_write 22 = .ok (.getfield 11, 3) := by decide +kernel
theorem dX5_write_25 : decode cX5_write 25 = .ok (.iload_n 1, 1) := by decide +kernel
theorem dX5_write_26 : decode cX5_write 26 = .ok (.bipush 6, 2) := by decide +kernel
theorem dX5_write_28 : decode cX5_write 28 = .ok (.imul, 1) := by decide +kernel
theorem dX5_write_29 : decode cX5_write 29 = .ok (.iload_n 2, 1) := by decide +kernel
theorem dX5_write_30 : decode cX5_write 30 = .ok (.iadd, 1) := by decide +kernel
theorem dX5_write_31 : decode cX5_write 31 = .ok (.iload_n 3, 1) := by decide +kernel
theorem dX5_write_32 : decode cX5_write 32 = .ok (.iastore, 1) := by decide +kernel
theorem dX5_write_33 : decode cX5_write 33 = .ok (.return_, 1) := by decide +kernel
set_option maxRecDepth 20000 in
theorem ggX5_isIn_X5_fact : GoodIn wsX5_isIn wsX5_fact := goodIn_r _ [5, 6, 7, 8] (by decide +kernel) (by decide +kernel)
set_option maxRecDepth 20000 in
theorem gX5_isIn_X5_fact : GoodIn wsX5_isIn (wsV RX5 25 RX5 yX5_fact wsX5_fact) := goodIn_app (goodIn_of _ (by decide +kernel)) ggX5_isIn_X5_fact
theorem dX5_isIn_0 : decode cX5_isIn 0 = .ok (.aload_n 0, 1) := by decide +kernel
theorem dX5_isIn_1 : decode cX5_isIn 1 = .ok (.iload_n 1, 1) := by decide +kernel
theorem dX5_isIn_2 : decode cX5_isIn 2 = .ok (.iconst 0, 1) := by decide +kernel
theorem dX5_isIn_3 : decode cX5_isIn 3 = .ok (.invokevirtual 25, 3) := by decide +kernel
theorem dX5_isIn_6 : decode cX5_isIn 6 = .ok (.iload_n 2, 1) := by decide +kernel
theorem dX5_isIn_7 : decode cX5_isIn 7 = .ok (.if_icmp .ne 7, 3) := by decide +kernel
theorem dX5_isIn_10 : decode cX5_isIn 10 = .ok (.iconst 1, 1) := by decide +kernel
theorem dX5_isIn_11 : decode cX5_isIn 11 = .ok (.goto 4, 3) := by decide +kernel
theorem dX5_isIn_14 : decode cX5_isIn 14 = .ok (.iconst 0, 1) := by decide +kernel
theorem dX5_isIn_15 : decode cX5_isIn 15 = .ok (.ireturn, 1) := by decide +kernel
set_option maxRecDepth 20000 in
theorem ggX5_isAlive_X5_fact : GoodIn wsX5_isAlive wsX5_fact := goodIn_r _ [5, 6, 7, 8] (by decide +kernel) (by decide +kernel)
set_option maxRecDepth 20000 in
theorem gX5_isAlive_X5_fact : GoodIn wsX5_isAlive (wsV RX5 25 RX5 yX5_fact wsX5_fact) := goodIn_app (goodIn_of _ (by decide +kernel)) ggX5_isAlive_X5_fact
theorem dX5_isAlive_0 : decode cX5_isAlive 0 = .ok (.aload_n 0, 1) := by decide +kernel
theorem dX5_isAlive_1 : decode cX5_isAlive 1 = .ok (.iload_n 1, 1) := by decide +kernel
theorem dX5_isAlive_2 : decode cX5_isAlive 2 = .ok (.iconst 0, 1) := by decide +kernel
theorem dX5_isAlive_3 : decode cX5_isAlive 3 = .ok (.invokevirtual 25, 3) := by decide +kernel
theorem dX5_isAlive_6 : decode cX5_isAlive 6 = .ok (.istore_n 2, 1) := by decide +kernel
theorem dX5_isAlive_7 : decode cX5_isAlive 7 = .ok (.iload_n 2, 1) := by decide +kernel
theorem dX5_isAlive_8 : decode cX5_isAlive 8 = .ok (.ifCond .eq 8, 3) := by decide +kernel
theorem dX5_isAlive_11 : decode cX5_isAlive 11 = .ok (.iload_n 2, 1) := by decide +kernel
theorem dX5_isAlive_12 : decode cX5_isAlive 12 = .ok (.iconst 1, 1) := by decide +kernel
theorem dX5_isAlive_13 : decode cX5_isAlive 13 = .ok (.if_icmp .ne 7, 3) := by decide +kernel
theorem dX5_isAlive_16 : decode cX5_isAlive 16 = .ok (.iconst 1, 1) := by decide +kernel
theorem dX5_isAlive_17 : decode cX5_isAlive 17 = .ok (.goto 4, 3) := by decide +kernel
theorem dX5_isAlive_20 : decode cX5_isAlive 20 = .ok (.iconst 0, 1) := by decide +kernel
theorem dX5_isAlive_21 : decode cX5_isAlive 21 = .ok (.ireturn, 1) := by decide +kernel
set_option maxRecDepth 20000 in
theorem ggX5_add_X5_write : GoodIn wsX5_add wsX5_write := goodIn_r _ [6, 7, 8, 9] (by decide +kernel) (by decide +kernel)
set_option maxRecDepth 20000 in
theorem gX5_add_X5_write : GoodIn wsX5_add (wsV RX5 29 RX5 yX5_write wsX5_write) := goodIn_app (goodIn_of _ (by decide +kernel)) ggX5_add_X5_write
theorem dX5_add_0 : decode cX5_add 0 = .ok (.aload_n 0, 1) := by decide +kernel
theorem dX5_add_1 : decode cX5_add 1 = .ok (.getfield 21, 3) := by decide +kernel
theorem dX5_add_4 : decode cX5_add 4 = .ok (.istore 4, 2) := by decide +kernel
theorem dX5_add_6 : decode cX5_add 6 = .ok (.aload_n 0, 1) := by decide +kernel
theorem dX5_add_7 : decode cX5_add 7 = .ok (.dup, 1) := by decide +kernel
theorem dX5_add_8 : decode cX5_add 8 = .ok (.getfield 21, 3) := by decide +kernel
theorem dX5_add_11 : decode cX5_add 11 = .ok (.iconst 1, 1) := by decide +kernel
theorem dX5_add_12 : decode cX5_add 12 = .ok (.iadd, 1) := by decide +kernel
theorem dX5_add_13 : decode cX5_add 13 = .ok (.putfield 21, 3) := by decide +kernel
theorem dX5_add_16 : decode cX5_add 16 = .ok (.aload_n 0, 1) := by decide +kernel
theorem dX5_add_17 : decode cX5_add 17 = .ok (.iload 4, 2) := by decide +kernel
theorem dX5_add_19 : decode cX5_add 19 = .ok (.iconst 0, 1) := by decide +kernel
theorem dX5_add_20 : decode cX5_add 20 = .ok (.iconst 0, 1) := by decide +kernel
theorem dX5_add_21 : decode cX5_add 21 = .ok (.invokevirtual 29, 3) := by decide +kernel
theorem dX5_add_24 : decode cX5_add 24 = .ok (.aload_n 0, 1) := by decide +kernel
theorem dX5_add_25 : decode cX5_add 25 = .ok (.iload 4, 2) := by decide +kernel
theorem dX5_add_27 : decode cX5_add 27 = .ok (.iconst 1, 1) := by decide +kernel
theorem dX5_add_28 : decode cX5_add 28 = .ok (.iload_n 1, 1) := by decide +kernel
theorem dX5_add_29 : decode cX5_add 29 = .ok (.invokevirtual 29, 3) := by decide +kernel
theorem dX5_add_32 : decode cX5_add 32 = .ok (.aload_n 0, 1) := by decide +kernel
theorem dX5_add_33 : decode cX5_add 33 = .ok (.iload 4, 2) := by decide +kernel
theorem dX5_add_35 : decode cX5_add 35 = .ok (.iconst 2, 1) := by decide +kernel
theorem dX5_add_36 : decode cX5_add 36 = .ok (.iload_n 2, 1) := by decide +kernel
theorem dX5_add_37 : decode cX5_add 37 = .ok (.invokevirtual 29, 3) := by decide +kernel
theorem dX5_add_40 : decode cX5_add 40 = .ok (.aload_n 0, 1) := by decide +kernel
theorem dX5_add_41 : decode cX5_add 41 = .ok (.iload 4, 2) := by decide +kernel
theorem dX5_add_43 : decode cX5_add 43 = .ok (.iconst 3, 1) := by decide +kernel
theorem dX5_add_44 : decode cX5_add 44 = .ok (.iload_n 3, 1) := by decide +kernel
theorem dX5_add_45 : decode cX5_add 45 = .ok (.invokevirtual 29, 3) := by decide +kernel
theorem dX5_add_48 : decode cX5_add 48 = .ok (.aload_n 0, 1) := by decide +kernel
theorem dX5_add_49 : decode cX5_add 49 = .ok (.iload 4, 2) := by decide +kernel
theorem dX5_add_51 : decode cX5_add 51 = .ok (.iconst 4, 1) := by decide +kernel
theorem dX5_add_52 : decode cX5_add 52 = .ok (.iconst 0, 1) := by decide +kernel
theorem dX5_add_53 : decode cX5_add 53 = .ok (.invokevirtual 29, 3) := by decide +kernel
theorem dX5_add_56 : decode cX5_add 56 = .ok (.aload_n 0, 1) := by decide +kernel
theorem dX5_add_57 : decode cX5_add 57 = .ok (.iload 4, 2) := by decide +kernel
theorem dX5_add_59 : decode cX5_add 59 = .ok (.iconst 5, 1) := by decide +kernel
theorem dX5_add_60 : decode cX5_add 60 = .ok (.iconst 0, 1) := by decide +kernel
theorem dX5_add_61 : decode cX5_add 61 = .ok (.invokevirtual 29, 3) := by decide +kernel
theorem dX5_add_64 : decode cX5_add 64 = .ok (.iload 4, 2) := by decide +kernel
theorem dX5_add_66 : decode cX5_add 66 = .ok (.ireturn, 1) := by decide +kernel
set_option maxRecDepth 20000 in
theorem ggX5_howManyIn_X5_isIn : GoodIn wsX5_howManyIn wsX5_isIn := goodIn_r _ [6, 7, 8, 9, 5, 10, 11, 12, 13] (by decide +kernel) (by decide +kernel)
set_option maxRecDepth 20000 in
theorem gX5_howManyIn_X5_isIn : GoodIn wsX5_howManyIn (wsV RX5 33 RX5 yX5_isIn wsX5_isIn) := goodIn_app (goodIn_of _ (by decide +kernel)) ggX5_howManyIn_X5_isIn
theorem dX5_howManyIn_0 : decode cX5_howManyIn 0 = .ok (.iconst 0, 1) := by decide +kernel
theorem dX5_howManyIn_1 : decode cX5_howManyIn 1 = .ok (.istore_n 2, 1) := by decide +kernel
theorem dX5_howManyIn_2 : decode cX5_howManyIn 2 = .ok (.iconst 0, 1) := by decide +kernel
theorem dX5_howManyIn_3 : decode cX5_howManyIn 3 = .ok (.istore_n 3, 1) := by decide +kernel
theorem dX5_howManyIn_4 : decode cX5_howManyIn 4 = .ok (.iload_n 3, 1) := by decide +kernel
theorem dX5_howManyIn_5 : decode cX5_howManyIn 5 = .ok (.aload_n 0, 1) := by decide +kernel
theorem dX5_howManyIn_6 : decode cX5_howManyIn 6 = .ok (.getfield 21, 3) := by decide +kernel
theorem dX5_howManyIn_9 : decode cX5_howManyIn 9 = .ok (.if_icmp .ge 21, 3) := by decide +kernel
theorem dX5_howManyIn_12 : decode cX5_howManyIn 12 = .ok (.aload_n 0, 1) := by decide +kernel
theorem dX5_howManyIn_13 : decode cX5_howManyIn 13 = .ok (.iload_n 3, 1) := by decide +kernel
theorem dX5_howManyIn_14 : decode cX5_howManyIn 14 = .ok (.iload_n 1, 1) := by decide +kernel
theorem dX5_howManyIn_15 : decode cX5_howManyIn 15 = .ok (.invokevirtual 33, 3) := by decide +kernel
theorem dX5_howManyIn_18 : decode cX5_howManyIn 18 = .ok (.ifCond .eq 6, 3) := by decide +kernel
theorem dX5_howManyIn_21 : decode cX5_howManyIn 21 = .ok (.iinc 2 1, 3) := by decide +kernel
theorem dX5_howManyIn_24 : decode cX5_howManyIn 24 = .ok (.iinc 3 1, 3) := by decide +kernel
theorem dX5_howManyIn_27 : decode cX5_howManyIn 27 = .ok (.goto (-23), 3) := by decide +kernel
theorem dX5_howManyIn_30 : decode cX5_howManyIn 30 = .ok (.iload_n 2, 1) := by decide +kernel
theorem dX5_howManyIn_31 : decode cX5_howManyIn 31 = .ok (.ireturn, 1) := by decide +kernel
set_option maxRecDepth 20000 in
theorem ggX5_earlier_X5_fact : GoodIn wsX5_earlier wsX5_fact := goodIn_r _ [9, 10, 11, 12] (by decide +kernel) (by decide +kernel)
set_option maxRecDepth 20000 in
theorem gX5_earlier_X5_fact : GoodIn wsX5_earlier (wsV RX5 25 RX5 yX5_fact wsX5_fact) := goodIn_app (goodIn_of _ (by decide +kernel)) ggX5_earlier_X5_fact
theorem dX5_earlier_0 : decode cX5_earlier 0 = .ok (.iload_n 1, 1) := by decide +kernel
theorem dX5_earlier_1 : decode cX5_earlier 1 = .ok (.iconst (-1), 1) := by decide +kernel
theorem dX5_earlier_2 : decode cX5_earlier 2 = .ok (.if_icmp .ne 5, 3) := by decide +kernel
theorem dX5_earlier_5 : decode cX5_earlier 5 = .ok (.iload_n 2, 1) := by decide +kernel
theorem dX5_earlier_6 : decode cX5_earlier 6 = .ok (.ireturn, 1) := by decide +kernel
theorem dX5_earlier_7 : decode cX5_earlier 7 = .ok (.iload_n 2, 1) := by decide +kernel
theorem dX5_earlier_8 : decode cX5_earlier 8 = .ok (.iconst (-1), 1) := by decide +kernel
theorem dX5_earlier_9 : decode cX5_earlier 9 = .ok (.if_icmp .ne 5, 3) := by decide +kernel
theorem dX5_earlier_12 : decode cX5_earlier 12 = .ok (.iload_n 1, 1) := by decide +kernel
theorem dX5_earlier_13 : decode cX5_earlier 13 = .ok (.ireturn, 1) := by decide +kernel
theorem dX5_earlier_14 : decode cX5_earlier 14 = .ok (.aload_n 0, 1) := by decide +kernel
theorem dX5_earlier_15 : decode cX5_earlier 15 = .ok (.iload_n 1, 1) := by decide +kernel
theorem dX5_earlier_16 : decode cX5_earlier 16 = .ok (.iconst 1, 1) := by decide +kernel
theorem dX5_earlier_17 : decode cX5_earlier 17 = .ok (.invokevirtual 25, 3) := by decide +kernel
theorem dX5_earlier_20 : decode cX5_earlier 20 = .ok (.istore_n 3, 1) := by decide +kernel
theorem dX5_earlier_21 : decode cX5_earlier 21 = .ok (.aload_n 0, 1) := by decide +kernel
theorem dX5_earlier_22 : decode cX5_earlier 22 = .ok (.iload_n 2, 1) := by decide +kernel
theorem dX5_earlier_23 : decode cX5_earlier 23 = .ok (.iconst 1, 1) := by decide +kernel
theorem dX5_earlier_24 : decode cX5_earlier 24 = .ok (.invokevirtual 25, 3) := by decide +kernel
theorem dX5_earlier_27 : decode cX5_earlier 27 = .ok (.istore 4, 2) := by decide +kernel
theorem dX5_earlier_29 : decode cX5_earlier 29 = .ok (.iload_n 3, 1) := by decide +kernel
theorem dX5_earlier_30 : decode cX5_earlier 30 = .ok (.iload 4, 2) := by decide +kernel
theorem dX5_earlier_32 : decode cX5_earlier 32 = .ok (.if_icmp .ne 9, 3) := by decide +kernel
theorem dX5_earlier_35 : decode cX5_earlier 35 = .ok (.iload_n 1, 1) := by decide +kernel
theorem dX5_earlier_36 : decode cX5_earlier 36 = .ok (.iload_n 2, 1) := by decide +kernel
theorem dX5_earlier_37 : decode cX5_earlier 37 = .ok (.invokestatic 37, 3) := by decide +kernel
theorem dX5_earlier_40 : decode cX5_earlier 40 = .ok (.ireturn, 1) := by decide +kernel
theorem dX5_earlier_41 : decode cX5_earlier 41 = .ok (.iload_n 3, 1) := by decide +kernel
theorem dX5_earlier_42 : decode cX5_earlier 42 = .ok (.iload 4, 2) := by decide +kernel
theorem dX5_earlier_44 : decode cX5_earlier 44 = .ok (.if_icmp .ge 7, 3) := by decide +kernel
theorem dX5_earlier_47 : decode cX5_earlier 47 = .ok (.iload_n 1, 1) := by decide +kernel
theorem dX5_earlier_48 : decode cX5_earlier 48 = .ok (.goto 4, 3) := by decide +kernel
theorem dX5_earlier_51 : decode cX5_earlier 51 = .ok (.iload_n 2, 1) := by decide +kernel
theorem dX5_earlier_52 : decode cX5_earlier 52 = .ok (.ireturn, 1) := by decide +kernel
set_option maxRecDepth 20000 in
theorem ggX6_init_X8_init : GoodIn wsX6_init wsX8_init := goodIn_r _ [12, 13, 2, 3, 14, 15, 16, 17, 18, 19, 20, 21, 22, 23, 24, 25, 26, 27, 28, 29, 30, 31, 32, 33, 34, 35, 36, 37, 38, 39, 40, 41, 42, 43, 44, 45, 46, 47, 48, 49, 66, 67, 50, 51, 52, 53, 54, 55, 56, 57, 58, 59, 60, 61, 62, 68, 69, 70, 71, 72, 73, 74] (by decide +kernel) (by decide +kernel)
set_option maxRecDepth 20000 in
theorem gX6_init_X8_init_n11 : GoodIn wsX6_init (wsX8_init) := ggX6_init_X8_init
theorem dX6_init_0 : decode cX6_init 0 = .ok (.aload_n 0, 1) := by decide +kernel
theorem dX6_init_1 : decode cX6_init 1 = .ok (.invokespecial 3, 3) := by decide +kernel
theorem dX6_init_4 : decode cX6_init 4 = .ok (.aload_n 0, 1) := by decide +kernel
theorem dX6_init_5 : decode cX6_init 5 = .ok (.new 9, 3) := by decide +kernel
theorem dX6_init_8 : decode cX6_init 8 = .ok (.dup, 1) := by decide +kernel
theorem dX6_init_9 : decode cX6_init 9 = .ok (.invokespecial 11, 3) := by decide +kernel
theorem dX6_init_12 : decode cX6_init 12 = .ok (.putfield 12, 3) := by decide +kernel
theorem dX6_init_15 : decode cX6_init 15 = .ok (.aload_n 0, 1) := by decide +kernel
theorem dX6_init_16 : decode cX6_init 16 = .ok (.iconst 2, 1) := by decide +kernel
theorem dX6_init_17 : decode cX6_init 17 = .ok (.anewarray 9, 3) := by decide +kernel
theorem dX6_init_20 : decode cX6_init 20 = .ok (.putfield 18, 3) := by decide +kernel
theorem dX6_init_23 : decode cX6_init 23 = .ok (.aload_n 0, 1) := by decide +kernel
theorem dX6_init_24 : decode cX6_init 24 = .ok (.iconst 2, 1) := by decide +kernel
theorem dX6_init_25 : decode cX6_init 25 = .ok (.newarray .boolean, 2) := by decide +kernel
theorem dX6_init_27 : decode cX6_init 27 = .ok (.putfield 22, 3) := by decide +kernel
theorem dX6_init_30 : decode cX6_init 30 = .ok (.iconst 0, 1) := by decide +kernel
theorem dX6_init_31 : decode cX6_init 31 = .ok (.istore_n 1, 1) := by decide +kernel
theorem dX6_init_32 : decode cX6_init 32 = .ok (.iload_n 1, 1) := by decide +kernel
theorem dX6_init_33 : decode cX6_init 33 = .ok (.iconst 2, 1) := by decide +kernel
theorem dX6_init_34 : decode cX6_init 34 = .ok (.if_icmp .ge 22, 3) := by decide +kernel
theorem dX6_init_37 : decode cX6_init 37 = .ok (.aload_n 0, 1) := by decide +kernel
theorem dX6_init_38 : decode cX6_init 38 = .ok (.getfield 18, 3) := by decide +kernel
theorem dX6_init_41 : decode cX6_init 41 = .ok (.iload_n 1, 1) := by decide +kernel
theorem dX6_init_42 : decode cX6_init 42 = .ok (.new 9, 3) := by decide +kernel
theorem dX6_init_45 : decode cX6_init 45 = .ok (.dup, 1) := by decide +kernel
theorem dX6_init_46 : decode cX6_init 46 = .ok (.invokespecial 11, 3) := by decide +kernel
theorem dX6_init_49 : decode cX6_init 49 = .ok (.aastore, 1) := by decide +kernel
theorem dX6_init_50 : decode cX6_init 50 = .ok (.iinc 1 1, 3) := by decide +kernel
theorem dX6_init_53 : decode cX6_init 53 = .ok (.goto (-21), 3) := by decide +kernel
theorem dX6_init_56 : decode cX6_init 56 = .ok (.return_, 1) := by decide +kernel
set_option maxRecDepth 20000 in
theorem ggX6_copyFrom_X8_copyFrom : GoodIn wsX6_copyFrom wsX8_copyFrom := goodIn_r _ [8, 9, 10, 11, 12, 13, 14, 15, 16, 17, 18, 19, 20, 21, 22, 23, 24, 25, 26, 27, 28, 29, 30, 31, 32, 33, 34, 35, 36, 37, 38, 39, 40, 41, 42, 43, 44, 45, 46, 47, 48, 49, 50, 51, 55, 56, 57, 58, 59, 60, 61, 62, 63, 64, 65, 66, 67, 68, 69, 70, 71, 72, 73, 74, 75, 76] (by decide +kernel) (by decide +kernel)
set_option maxRecDepth 20000 in
theorem gX6_copyFrom_X8_copyFrom : GoodIn wsX6_copyFrom (wsV RX6 26 RX8 yX8_copyFrom wsX8_copyFrom) := goodIn_app (goodIn_of _ (by decide +kernel)) ggX6_copyFrom_X8_copyFrom
theorem dX6_copyFrom_0 : decode cX6_copyFrom 0 = .ok (.aload_n 0, 1) := by decide +kernel
theorem dX6_copyFrom_1 : decode cX6_copyFrom 1 = .ok (.getfield 12, 3) := by decide +kernel
theorem dX6_copyFrom_4 : decode cX6_copyFrom 4 = .ok (.aload_n 1, 1) := by decide +kernel
theorem dX6_copyFrom_5 : decode cX6_copyFrom 5 = .ok (.getfield 12, 3) := by decide +kernel
theorem dX6_copyFrom_8 : decode cX6_copyFrom 8 = .ok (.invokevirtual 26, 3) := by decide +kernel
theorem dX6_copyFrom_11 : decode cX6_copyFrom 11 = .ok (.iconst 0, 1) := by decide +kernel
theorem dX6_copyFrom_12 : decode cX6_copyFrom 12 = .ok (.istore_n 2, 1) := by decide +kernel
theorem dX6_copyFrom_13 : decode cX6_copyFrom 13 = .ok (.iload_n 2, 1) := by decide +kernel
theorem dX6_copyFrom_14 : decode cX6_copyFrom 14 = .ok (.iconst 2, 1) := by decide +kernel
theorem dX6_copyFrom_15 : decode cX6_copyFrom 15 = .ok (.if_icmp .ge 60, 3) := by decide +kernel
theorem dX6_copyFrom_18 : decode cX6_copyFrom 18 = .ok (.aload_n 0, 1) := by decide +kernel
theorem dX6_copyFrom_19 : decode cX6_copyFrom 19 = .ok (.getfield 22, 3) := by decide +kernel
theorem dX6_copyFrom_22 : decode cX6_copyFrom 22 = .ok (.iload_n 2, 1) := by decide +kernel
theorem dX6_copyFrom_23 : decode cX6_copyFrom 23 = .ok (.aload_n 1, 1) := by decide +kernel
theorem dX6_copyFrom_24 : decode cX6_copyFrom 24 = .ok (.getfield 22, 3) := by decide +kernel
theorem dX6_copyFrom_27 : decode cX6_copyFrom 27 = .ok (.iload_n 2, 1) := by decide +kernel
theorem dX6_copyFrom_28 : decode cX6_copyFrom 28 = .ok (.baload, 1) := by decide +kernel
theorem dX6_copyFrom_29 : decode cX6_copyFrom 29 = .ok (.bastore, 1) := by decide +kernel
theorem dX6_copyFrom_30 : decode cX6_copyFrom 30 = .ok (.aload_n 0, 1) := by decide +kernel
theorem dX6_copyFrom_31 : decode cX6_copyFrom 31 = .ok (.getfield 18, 3) := by decide +kernel
theorem dX6_copyFrom_34 : decode cX6_copyFrom 34 = .ok (.iload_n 2, 1) := by decide +kernel
theorem dX6_copyFrom_35 : decode cX6_copyFrom 35 = .ok (.aaload, 1) := by decide +kernel
theorem dX6_copyFrom_36 : decode cX6_copyFrom 36 = .ok (.astore_n 3, 1) := by decide +kernel
theorem dX6_copyFrom_37 : decode cX6_copyFrom 37 = .ok (.aload_n 1, 1) := by decide +kernel
theorem dX6_copyFrom_38 : decode cX6_copyFrom 38 = .ok (.getfield 18, 3) := by decide +kernel
theorem dX6_copyFrom_41 : decode cX6_copyFrom 41 = .ok (.iload_n 2, 1) := by decide +kernel
theorem dX6_copyFrom_42 : decode cX6_copyFrom 42 = .ok (.aaload, 1) := by decide +kernel
theorem dX6_copyFrom_43 : decode cX6_copyFrom 43 = .ok (.astore 4, 2) := by decide +kernel
theorem dX6_copyFrom_45 : decode cX6_copyFrom 45 = .ok (.aload_n 0, 1) := by decide +kernel
theorem dX6_copyFrom_46 : decode cX6_copyFrom 46 = .ok (.getfield 22, 3) := by decide +kernel
theorem dX6_copyFrom_49 : decode cX6_copyFrom 49 = .ok (.iload_n 2, 1) := by decide +kernel
theorem dX6_copyFrom_50 : decode cX6_copyFrom 50 = .ok (.baload, 1) := by decide +kernel
theorem dX6_copyFrom_51 : decode cX6_copyFrom 51 = .ok (.ifCond .eq 18, 3) := by decide +kernel
theorem dX6_copyFrom_54 : decode cX6_copyFrom 54 = .ok (.aload_n 3, 1) := by decide +kernel
theorem dX6_copyFrom_55 : decode cX6_copyFrom 55 = .ok (.ifnull 14, 3) := by decide +kernel
theorem dX6_copyFrom_58 : decode cX6_copyFrom 58 = .ok (.aload 4, 2) := by decide +kernel
theorem dX6_copyFrom_60 : decode cX6_copyFrom 60 = .ok (.ifnull 9, 3) := by decide +kernel
theorem dX6_copyFrom_63 : decode cX6_copyFrom 63 = .ok (.aload_n 3, 1) := by decide +kernel
theorem dX6_copyFrom_64 : decode cX6_copyFrom 64 = .ok (.aload 4, 2) := by decide +kernel
theorem dX6_copyFrom_66 : decode cX6_copyFrom 66 = .ok (.invokevirtual 26, 3) := by decide +kernel
theorem dX6_copyFrom_69 : decode cX6_copyFrom 69 = .ok (.iinc 2 1, 3) := by decide +kernel
theorem dX6_copyFrom_72 : decode cX6_copyFrom 72 = .ok (.goto (-59), 3) := by decide +kernel
theorem dX6_copyFrom_75 : decode cX6_copyFrom 75 = .ok (.return_, 1) := by decide +kernel
theorem dX6_snapshotsTaken_0 : decode cX6_snapshotsTaken 0 = .ok (.iconst 0, 1) := by decide +kernel
theorem dX6_snapshotsTaken_1 : decode cX6_snapshotsTaken 1 = .ok (.istore_n 1, 1) := by decide +kernel
theorem dX6_snapshotsTaken_2 : decode cX6_snapshotsTaken 2 = .ok (.iconst 0, 1) := by decide +kernel
theorem dX6_snapshotsTaken_3 : decode cX6_snapshotsTaken 3 = .ok (.istore_n 2, 1) := by decide +kernel
theorem dX6_snapshotsTaken_4 : decode cX6_snapshotsTaken 4 = .ok (.iload_n 2, 1) := by decide +kernel
theorem dX6_snapshotsTaken_5 : decode cX6_snapshotsTaken 5 = .ok (.iconst 2, 1) := by decide +kernel
theorem dX6_snapshotsTaken_6 : decode cX6_snapshotsTaken 6 = .ok (.if_icmp .ge 21, 3) := by decide +kernel
theorem dX6_snapshotsTaken_9 : decode cX6_snapshotsTaken 9 = .ok (.aload_n 0, 1) := by decide +kernel
theorem dX6_snapshotsTaken_10 : decode cX6_snapshotsTaken 10 = .ok (.getfield 22, 3) := by decide +kernel
theorem dX6_snapshotsTaken_13 : decode cX6_snapshotsTaken 13 = .ok (.iload_n 2, 1) := by decide +kernel
theorem dX6_snapshotsTaken_14 : decode cX6_snapshotsTaken 14 = .ok (.baload, 1) := by decide +kernel
theorem dX6_snapshotsTaken_15 : decode cX6_snapshotsTaken 15 = .ok (.ifCond .eq 6, 3) := by decide +kernel
theorem dX6_snapshotsTaken_18 : decode cX6_snapshotsTaken 18 = .ok (.iinc 1 1, 3) := by decide +kernel
theorem dX6_snapshotsTaken_21 : decode cX6_snapshotsTaken 21 = .ok (.iinc 2 1, 3) := by decide +kernel
theorem dX6_snapshotsTaken_24 : decode cX6_snapshotsTaken 24 = .ok (.goto (-20), 3) := by decide +kernel
theorem dX6_snapshotsTaken_27 : decode cX6_snapshotsTaken 27 = .ok (.iload_n 1, 1) := by decide +kernel
theorem dX6_snapshotsTaken_28 : decode cX6_snapshotsTaken 28 = .ok (.ireturn, 1) := by decide +kernel
theorem dX7_init_0 : decode cX7_init 0 = .ok (.aload_n 0, 1) := by decide +kernel
theorem dX7_init_1 : decode cX7_init 1 = .ok (.invokespecial 3, 3) := by decide +kernel
theorem dX7_init_4 : decode cX7_init 4 = .ok (.aload_n 0, 1) := by decide +kernel
theorem dX7_init_5 : decode cX7_init 5 = .ok (.bipush 120, 2) := by decide +kernel
theorem dX7_init_7 : decode cX7_init 7 = .ok (.newarray .int, 2) := by decide +kernel
theorem dX7_init_9 : decode cX7_init 9 = .ok (.putfield 9, 3) := by decide +kernel
theorem dX7_init_12 : decode cX7_init 12 = .ok (.return_, 1) := by decide +kernel
theorem dX7_length_0 : decode cX7_length 0 = .ok (.aload_n 0, 1) := by decide +kernel
theorem dX7_length_1 : decode cX7_length 1 = .ok (.getfield 15, 3) := by decide +kernel
theorem dX7_length_4 : decode cX7_length 4 = .ok (.ireturn, 1) := by decide +kernel
set_option maxRecDepth 20000 in
theorem ggX8_init_X5_init : GoodIn wsX8_init wsX5_init := goodIn_r _ [19, 20, 2, 3, 21, 22, 40, 41] (by decide +kernel) (by decide +kernel)
set_option maxRecDepth 20000 in
theorem gX8_init_X5_init_n11 : GoodIn wsX8_init (wsX5_init) := ggX8_init_X5_init
set_option maxRecDepth 20000 in
theorem ggX8_init_X3_init : GoodIn wsX8_init wsX3_init := goodIn_r _ [25, 26, 2, 3, 21, 27, 28, 29, 30, 31, 32, 33, 34, 35, 55, 56, 57, 58, 59] (by decide +kernel) (by decide +kernel)
set_option maxRecDepth 20000 in
theorem gX8_init_X3_init : GoodIn wsX8_init (wsX3_init) := ggX8_init_X3_init
set_option maxRecDepth 20000 in
theorem ggX8_init_X0_init : GoodIn wsX8_init wsX0_init := goodIn_r _ [37, 38, 2, 3, 21, 39, 60, 61] (by decide +kernel) (by decide +kernel)
set_option maxRecDepth 20000 in
theorem gX8_init_X0_init_n27 : GoodIn wsX8_init (wsX0_init) := ggX8_init_X0_init
theorem dX8_init_0 : decode cX8_init 0 = .ok (.aload_n 0, 1) := by decide +kernel
theorem dX8_init_1 : decode cX8_init 1 = .ok (.invokespecial 3, 3) := by decide +kernel
theorem dX8_init_4 : decode cX8_init 4 = .ok (.aload_n 0, 1) := by decide +kernel
theorem dX8_init_5 : decode cX8_init 5 = .ok (.new 9, 3) := by decide +kernel
theorem dX8_init_8 : decode cX8_init 8 = .ok (.dup, 1) := by decide +kernel
theorem dX8_init_9 : decode cX8_init 9 = .ok (.invokespecial 11, 3) := by decide +kernel
theorem dX8_init_12 : decode cX8_init 12 = .ok (.putfield 12, 3) := by decide +kernel
theorem dX8_init_15 : decode cX8_init 15 = .ok (.aload_n 0, 1) := by decide +kernel
theorem dX8_init_16 : decode cX8_init 16 = .ok (.new 18, 3) := by decide +kernel
theorem dX8_init_19 : decode cX8_init 19 = .ok (.dup, 1) := by decide +kernel
theorem dX8_init_20 : decode cX8_init 20 = .ok (.invokespecial 20, 3) := by decide +kernel
theorem dX8_init_23 : decode cX8_init 23 = .ok (.putfield 21, 3) := by decide +kernel
theorem dX8_init_26 : decode cX8_init 26 = .ok (.aload_n 0, 1) := by decide +kernel
theorem dX8_init_27 : decode cX8_init 27 = .ok (.new 25, 3) := by decide +kernel
theorem dX8_init_30 : decode cX8_init 30 = .ok (.dup, 1) := by decide +kernel
theorem dX8_init_31 : decode cX8_init 31 = .ok (.invokespecial 27, 3) := by decide +kernel
theorem dX8_init_34 : decode cX8_init 34 = .ok (.putfield 28, 3) := by decide +kernel
theorem dX8_init_37 : decode cX8_init 37 = .ok (.aload_n 0, 1) := by decide +kernel
theorem dX8_init_38 : decode cX8_init 38 = .ok (.iconst 3, 1) := by decide +kernel
theorem dX8_init_39 : decode cX8_init 39 = .ok (.putfield 32, 3) := by decide +kernel
theorem dX8_init_42 : decode cX8_init 42 = .ok (.aload_n 0, 1) := by decide +kernel
theorem dX8_init_43 : decode cX8_init 43 = .ok (.iconst 5, 1) := by decide +kernel
theorem dX8_init_44 : decode cX8_init 44 = .ok (.putfield 36, 3) := by decide +kernel
theorem dX8_init_47 : decode cX8_init 47 = .ok (.return_, 1) := by decide +kernel
set_option maxRecDepth 20000 in
theorem ggX8_copyFrom_X5_copyFrom : GoodIn wsX8_copyFrom wsX5_copyFrom := goodIn_r _ [18, 19, 20, 21, 22, 23, 24, 57, 58] (by decide +kernel) (by decide +kernel)
set_option maxRecDepth 20000 in
theorem gX8_copyFrom_X5_copyFrom : GoodIn wsX8_copyFrom (wsV RX8 39 RX5 yX5_copyFrom wsX5_copyFrom) := goodIn_app (goodIn_of _ (by decide +kernel)) ggX8_copyFrom_X5_copyFrom
set_option maxRecDepth 20000 in
theorem ggX8_copyFrom_X3_copyFrom : GoodIn wsX8_copyFrom wsX3_copyFrom := goodIn_r _ [29, 30, 31, 21, 22, 23, 32, 33, 34, 35, 59, 60, 61, 62, 63] (by decide +kernel) (by decide +kernel)
set_option maxRecDepth 20000 in
theorem gX8_copyFrom_X3_copyFrom : GoodIn wsX8_copyFrom (wsV RX8 43 RX3 yX3_copyFrom wsX3_copyFrom) := goodIn_app (goodIn_of _ (by decide +kernel)) ggX8_copyFrom_X3_copyFrom
set_option maxRecDepth 20000 in
theorem ggX8_copyFrom_X0_copyFrom : GoodIn wsX8_copyFrom wsX0_copyFrom := goodIn_r _ [40, 41, 42, 21, 22, 23, 43, 64, 65] (by decide +kernel) (by decide +kernel)
set_option maxRecDepth 20000 in
theorem gX8_copyFrom_X0_copyFrom : GoodIn wsX8_copyFrom (wsV RX8 46 RX0 yX0_copyFrom wsX0_copyFrom) := goodIn_app (goodIn_of _ (by decide +kernel)) ggX8_copyFrom_X0_copyFrom
theorem dX8_copyFrom_0 : decode cX8_copyFrom 0 = .ok (.aload_n 0, 1) := by decide +kernel
theorem dX8_copyFrom_1 : decode cX8_copyFrom 1 = .ok (.getfield 12, 3) := by decide +kernel
theorem dX8_copyFrom_4 : decode cX8_copyFrom 4 = .ok (.aload_n 1, 1) := by decide +kernel
theorem dX8_copyFrom_5 : decode cX8_copyFrom 5 = .ok (.getfield 12, 3) := by decide +kernel
theorem dX8_copyFrom_8 : decode cX8_copyFrom 8 = .ok (.invokevirtual 39, 3) := by decide +kernel
theorem dX8_copyFrom_11 : decode cX8_copyFrom 11 = .ok (.aload_n 0, 1) := by decide +kernel
theorem dX8_copyFrom_12 : decode cX8_copyFrom 12 = .ok (.getfield 21, 3) := by decide +kernel
theorem dX8_copyFrom_15 : decode cX8_copyFrom 15 = .ok (.aload_n 1, 1) := by decide +kernel
theorem dX8_copyFrom_16 : decode cX8_copyFrom 16 = .ok (.getfield 21, 3) := by decide +kernel
theorem dX8_copyFrom_19 : decode cX8_copyFrom 19 = .ok (.invokevirtual 43, 3) := by decide +kernel
theorem dX8_copyFrom_22 : decode cX8_copyFrom 22 = .ok (.aload_n 0, 1) := by decide +kernel
theorem dX8_copyFrom_23 : decode cX8_copyFrom 23 = .ok (.getfield 28, 3) := by decide +kernel
theorem dX8_copyFrom_26 : decode cX8_copyFrom 26 = .ok (.aload_n 1, 1) := by decide +kernel
theorem dX8_copyFrom_27 : decode cX8_copyFrom 27 = .ok (.getfield 28, 3) := by decide +kernel
theorem dX8_copyFrom_30 : decode cX8_copyFrom 30 = .ok (.invokevirtual 46, 3) := by decide +kernel
theorem dX8_copyFrom_33 : decode cX8_copyFrom 33 = .ok (.aload_n 0, 1) := by decide +kernel
theorem dX8_copyFrom_34 : decode cX8_copyFrom 34 = .ok (.aload_n 1, 1) := by decide +kernel
theorem dX8_copyFrom_35 : decode cX8_copyFrom 35 = .ok (.getfield 49, 3) := by decide +kernel
theorem dX8_copyFrom_38 : decode cX8_copyFrom 38 = .ok (.putfield 49, 3) := by decide +kernel
theorem dX8_copyFrom_41 : decode cX8_copyFrom 41 = .ok (.aload_n 0, 1) := by decide +kernel
theorem dX8_copyFrom_42 : decode cX8_copyFrom 42 = .ok (.aload_n 1, 1) := by decide +kernel
theorem dX8_copyFrom_43 : decode cX8_copyFrom 43 = .ok (.getfield 32, 3) := by decide +kernel
theorem dX8_copyFrom_46 : decode cX8_copyFrom 46 = .ok (.putfield 32, 3) := by decide +kernel
theorem dX8_copyFrom_49 : decode cX8_copyFrom 49 = .ok (.aload_n 0, 1) := by decide +kernel
theorem dX8_copyFrom_50 : decode cX8_copyFrom 50 = .ok (.aload_n 1, 1) := by decide +kernel
theorem dX8_copyFrom_51 : decode cX8_copyFrom 51 = .ok (.getfield 36, 3) := by decide +kernel
theorem dX8_copyFrom_54 : decode cX8_copyFrom 54 = .ok (.putfield 36, 3) := by decide +kernel
theorem dX8_copyFrom_57 : decode cX8_copyFrom 57 = .ok (.aload_n 0, 1) := by decide +kernel
theorem dX8_copyFrom_58 : decode cX8_copyFrom 58 = .ok (.aload_n 1, 1) := by decide +kernel
theorem dX8_copyFrom_59 : decode cX8_copyFrom 59 = .ok (.getfield 52, 3) := by decide +kernel
theorem dX8_copyFrom_62 : decode cX8_copyFrom 62 = .ok (.putfield 52, 3) := by decide +kernel
theorem dX8_copyFrom_65 : decode cX8_copyFrom 65 = .ok (.aload_n 0, 1) := by decide +kernel
theorem dX8_copyFrom_66 : decode cX8_copyFrom 66 = .ok (.aload_n 1, 1) := by decide +kernel
theorem dX8_copyFrom_67 : decode cX8_copyFrom 67 = .ok (.getfield 55, 3) := by decide +kernel
theorem dX8_copyFrom_70 : decode cX8_copyFrom 70 = .ok (.putfield 55, 3) := by decide +kernel
theorem dX8_copyFrom_73 : decode cX8_copyFrom 73 = .ok (.aload_n 0, 1) := by decide +kernel
theorem dX8_copyFrom_74 : decode cX8_copyFrom 74 = .ok (.aload_n 1, 1) := by decide +kernel
theorem dX8_copyFrom_75 : decode cX8_copyFrom 75 = .ok (.getfield 58, 3) := by decide +kernel
theorem dX8_copyFrom_78 : decode cX8_copyFrom 78 = .ok (.putfield 58, 3) := by decide +kernel
theorem dX8_copyFrom_81 : decode cX8_copyFrom 81 = .ok (.aload_n 0, 1) := by decide +kernel
theorem dX8_copyFrom_82 : decode cX8_copyFrom 82 = .ok (.aload_n 1, 1) := by decide +kernel
theorem dX8_copyFrom_83 : decode cX8_copyFrom 83 = .ok (.getfield 61, 3) := by decide +kernel
theorem dX8_copyFrom_86 : decode cX8_copyFrom 86 = .ok (.putfield 61, 3) := by decide +kernel
theorem dX8_copyFrom_89 : decode cX8_copyFrom 89 = .ok (.aload_n 0, 1) := by decide +kernel
theorem dX8_copyFrom_90 : decode cX8_copyFrom 90 = .ok (.aload_n 1, 1) := by decide +kernel
theorem dX8_copyFrom_91 : decode cX8_copyFrom 91 = .ok (.getfield 64, 3) := by decide +kernel
theorem dX8_copyFrom_94 : decode cX8_copyFrom 94 = .ok (.putfield 64, 3) := by decide +kernel
theorem dX8_copyFrom_97 : decode cX8_copyFrom 97 = .ok (.aload_n 0, 1) := by decide +kernel
theorem dX8_copyFrom_98 : decode cX8_copyFrom 98 = .ok (.aload_n 1, 1) := by decide +kernel
theorem dX8_copyFrom_99 : decode cX8_copyFrom 99 = .ok (.getfield 67, 3) := by decide +kernel
theorem dX8_copyFrom_102 : decode cX8_copyFrom 102 = .ok (.putfield 67, 3) := by decide +kernel
theorem dX8_copyFrom_105 : decode cX8_copyFrom 105 = .ok (.aload_n 0, 1) := by decide +kernel
theorem dX8_copyFrom_106 : decode cX8_copyFrom 106 = .ok (.aload_n 1, 1) := by decide +kernel
theorem dX8_copyFrom_107 : decode cX8_copyFrom 107 = .ok (.getfield 70, 3) := by decide +kernel
theorem dX8_copyFrom_110 : decode cX8_copyFrom 110 = .ok (.putfield 70, 3) := by decide +kernel
theorem dX8_copyFrom_113 : decode cX8_copyFrom 113 = .ok (.return_, 1) := by decide +kernel
set_option maxRecDepth 20000 in
theorem ggX8_addPromise_X5_given : GoodIn wsX8_addPromise wsX5_given := goodIn_r _ [8, 9, 47, 48] (by decide +kernel) (by decide +kernel)
set_option maxRecDepth 20000 in
theorem gX8_addPromise_X5_given : GoodIn wsX8_addPromise (wsV RX8 73 RX5 yX5_given wsX5_given) := goodIn_app (goodIn_of _ (by decide +kernel)) ggX8_addPromise_X5_given
set_option maxRecDepth 20000 in
theorem ggX8_addPromise_X5_add : GoodIn wsX8_addPromise wsX5_add := goodIn_r _ [13, 9, 14, 15, 16, 7, 17, 18, 47, 48] (by decide +kernel) (by decide +kernel)
set_option maxRecDepth 20000 in
theorem gX8_addPromise_X5_add : GoodIn wsX8_addPromise (wsV RX8 77 RX5 yX5_add wsX5_add) := goodIn_app (goodIn_of _ (by decide +kernel)) ggX8_addPromise_X5_add
set_option maxRecDepth 20000 in
theorem ggX8_addPromise_X8_lineFor : GoodIn wsX8_addPromise wsX8_lineFor := goodIn_r _ [23, 2, 34, 35, 36, 37, 38, 39, 40, 41, 42, 43, 44, 45, 46] (by decide +kernel) (by decide +kernel)
set_option maxRecDepth 20000 in
theorem gX8_addPromise_X8_lineFor : GoodIn wsX8_addPromise (wsV RX8 81 RX8 yX8_lineFor wsX8_lineFor) := goodIn_app (goodIn_of _ (by decide +kernel)) ggX8_addPromise_X8_lineFor
set_option maxRecDepth 20000 in
theorem ggX8_addPromise_X3_join : GoodIn wsX8_addPromise wsX3_join := goodIn_r _ [28, 29, 30, 31, 32, 33, 49, 50, 51, 52, 53] (by decide +kernel) (by decide +kernel)
set_option maxRecDepth 20000 in
theorem gX8_addPromise_X3_join : GoodIn wsX8_addPromise (wsV RX8 85 RX3 yX3_join wsX3_join) := goodIn_app (goodIn_of _ (by decide +kernel)) ggX8_addPromise_X3_join
theorem dX8_addPromise_0 : decode cX8_addPromise 0 = .ok (.iload_n 1, 1) := by decide +kernel
theorem dX8_addPromise_1 : decode cX8_addPromise 1 = .ok (.iconst 1, 1) := by decide +kernel
theorem dX8_addPromise_2 : decode cX8_addPromise 2 = .ok (.if_icmp .lt 21, 3) := by decide +kernel
theorem dX8_addPromise_5 : decode cX8_addPromise 5 = .ok (.iload_n 1, 1) := by decide +kernel
theorem dX8_addPromise_6 : decode cX8_addPromise 6 = .ok (.sipush 511, 3) := by decide +kernel
theorem dX8_addPromise_9 : decode cX8_addPromise 9 = .ok (.if_icmp .gt 14, 3) := by decide +kernel
theorem dX8_addPromise_12 : decode cX8_addPromise 12 = .ok (.iload_n 2, 1) := by decide +kernel
theorem dX8_addPromise_13 : decode cX8_addPromise 13 = .ok (.ifCond .lt 10, 3) := by decide +kernel
theorem dX8_addPromise_16 : decode cX8_addPromise 16 = .ok (.iload_n 2, 1) := by decide +kernel
theorem dX8_addPromise_17 : decode cX8_addPromise 17 = .ok (.sipush 511, 3) := by decide +kernel
theorem dX8_addPromise_20 : decode cX8_addPromise 20 = .ok (.if_icmp .le 5, 3) := by decide +kernel
theorem dX8_addPromise_23 : decode cX8_addPromise 23 = .ok (.iconst (-1), 1) := by decide +kernel
theorem dX8_addPromise_24 : decode cX8_addPromise 24 = .ok (.ireturn, 1) := by decide +kernel
theorem dX8_addPromise_25 : decode cX8_addPromise 25 = .ok (.iload_n 2, 1) := by decide +kernel
theorem dX8_addPromise_26 : decode cX8_addPromise 26 = .ok (.ifCond .ne 7, 3) := by decide +kernel
theorem dX8_addPromise_29 : decode cX8_addPromise 29 = .ok (.iconst 0, 1) := by decide +kernel
theorem dX8_addPromise_30 : decode cX8_addPromise 30 = .ok (.goto 5, 3) := by decide +kernel
theorem dX8_addPromise_33 : decode cX8_addPromise 33 = .ok (.bipush 99, 2) := by decide +kernel
theorem dX8_addPromise_35 : decode cX8_addPromise 35 = .ok (.istore 4, 2) := by decide +kernel
theorem dX8_addPromise_37 : decode cX8_addPromise 37 = .ok (.iload_n 3, 1) := by decide +kernel
theorem dX8_addPromise_38 : decode cX8_addPromise 38 = .ok (.ifCond .lt 9, 3) := by decide +kernel
theorem dX8_addPromise_41 : decode cX8_addPromise 41 = .ok (.iload_n 3, 1) := by decide +kernel
theorem dX8_addPromise_42 : decode cX8_addPromise 42 = .ok (.iload 4, 2) := by decide +kernel
theorem dX8_addPromise_44 : decode cX8_addPromise 44 = .ok (.if_icmp .le 5, 3) := by decide +kernel
theorem dX8_addPromise_47 : decode cX8_addPromise 47 = .ok (.iconst (-1), 1) := by decide +kernel
theorem dX8_addPromise_48 : decode cX8_addPromise 48 = .ok (.ireturn, 1) := by decide +kernel
theorem dX8_addPromise_49 : decode cX8_addPromise 49 = .ok (.aload_n 0, 1) := by decide +kernel
theorem dX8_addPromise_50 : decode cX8_addPromise 50 = .ok (.getfield 12, 3) := by decide +kernel
theorem dX8_addPromise_53 : decode cX8_addPromise 53 = .ok (.invokevirtual 73, 3) := by decide +kernel
theorem dX8_addPromise_56 : decode cX8_addPromise 56 = .ok (.bipush 40, 2) := by decide +kernel
theorem dX8_addPromise_58 : decode cX8_addPromise 58 = .ok (.if_icmp .lt 6, 3) := by decide +kernel
theorem dX8_addPromise_61 : decode cX8_addPromise 61 = .ok (.bipush (-3), 2) := by decide +kernel
theorem dX8_addPromise_63 : decode cX8_addPromise 63 = .ok (.ireturn, 1) := by decide +kernel
theorem dX8_addPromise_64 : decode cX8_addPromise 64 = .ok (.aload_n 0, 1) := by decide +kernel
theorem dX8_addPromise_65 : decode cX8_addPromise 65 = .ok (.getfield 49, 3) := by decide +kernel
theorem dX8_addPromise_68 : decode cX8_addPromise 68 = .ok (.iload_n 1, 1) := by decide +kernel
theorem dX8_addPromise_69 : decode cX8_addPromise 69 = .ok (.iadd, 1) := by decide +kernel
theorem dX8_addPromise_70 : decode cX8_addPromise 70 = .ok (.istore 5, 2) := by decide +kernel
theorem dX8_addPromise_72 : decode cX8_addPromise 72 = .ok (.aload_n 0, 1) := by decide +kernel
theorem dX8_addPromise_73 : decode cX8_addPromise 73 = .ok (.getfield 12, 3) := by decide +kernel
theorem dX8_addPromise_76 : decode cX8_addPromise 76 = .ok (.iload 5, 2) := by decide +kernel
theorem dX8_addPromise_78 : decode cX8_addPromise 78 = .ok (.iload_n 2, 1) := by decide +kernel
theorem dX8_addPromise_79 : decode cX8_addPromise 79 = .ok (.iload_n 3, 1) := by decide +kernel
theorem dX8_addPromise_80 : decode cX8_addPromise 80 = .ok (.invokevirtual 77, 3) := by decide +kernel
theorem dX8_addPromise_83 : decode cX8_addPromise 83 = .ok (.istore 6, 2) := by decide +kernel
theorem dX8_addPromise_85 : decode cX8_addPromise 85 = .ok (.aload_n 0, 1) := by decide +kernel
theorem dX8_addPromise_86 : decode cX8_addPromise 86 = .ok (.getfield 21, 3) := by decide +kernel
theorem dX8_addPromise_89 : decode cX8_addPromise 89 = .ok (.aload_n 0, 1) := by decide +kernel
theorem dX8_addPromise_90 : decode cX8_addPromise 90 = .ok (.iload 5, 2) := by decide +kernel
theorem dX8_addPromise_92 : decode cX8_addPromise 92 = .ok (.invokevirtual 81, 3) := by decide +kernel
theorem dX8_addPromise_95 : decode cX8_addPromise 95 = .ok (.iload 6, 2) := by decide +kernel
theorem dX8_addPromise_97 : decode cX8_addPromise 97 = .ok (.invokevirtual 85, 3) := by decide +kernel
theorem dX8_addPromise_100 : decode cX8_addPromise 100 = .ok (.iload 6, 2) := by decide +kernel
theorem dX8_addPromise_102 : decode cX8_addPromise 102 = .ok (.ireturn, 1) := by decide +kernel
set_option maxRecDepth 20000 in
theorem ggX8_breakPromise_X5_has : GoodIn wsX8_breakPromise wsX5_has := goodIn_r _ [7, 8, 35, 36] (by decide +kernel) (by decide +kernel)
set_option maxRecDepth 20000 in
theorem gX8_breakPromise_X5_has : GoodIn wsX8_breakPromise (wsV RX8 89 RX5 yX5_has wsX5_has) := goodIn_app (goodIn_of _ (by decide +kernel)) ggX8_breakPromise_X5_has
set_option maxRecDepth 20000 in
theorem ggX8_breakPromise_X5_isAlive : GoodIn wsX8_breakPromise wsX5_isAlive := goodIn_r _ [12, 13, 14, 15, 6, 16, 17, 35, 36] (by decide +kernel) (by decide +kernel)
set_option maxRecDepth 20000 in
theorem gX8_breakPromise_X5_isAlive : GoodIn wsX8_breakPromise (wsV RX8 93 RX5 yX5_isAlive wsX5_isAlive) := goodIn_app (goodIn_of _ (by decide +kernel)) ggX8_breakPromise_X5_isAlive
set_option maxRecDepth 20000 in
theorem ggX8_breakPromise_X5_write : GoodIn wsX8_breakPromise wsX5_write := goodIn_r _ [21, 17, 35, 36] (by decide +kernel) (by decide +kernel)
set_option maxRecDepth 20000 in
theorem gX8_breakPromise_X5_write : GoodIn wsX8_breakPromise (wsV RX8 96 RX5 yX5_write wsX5_write) := goodIn_app (goodIn_of _ (by decide +kernel)) ggX8_breakPromise_X5_write
theorem dX8_breakPromise_0 : decode cX8_breakPromise 0 = .ok (.aload_n 0, 1) := by decide +kernel
theorem dX8_breakPromise_1 : decode cX8_breakPromise 1 = .ok (.getfield 12, 3) := by decide +kernel
theorem dX8_breakPromise_4 : decode cX8_breakPromise 4 = .ok (.iload_n 1, 1) := by decide +kernel
theorem dX8_breakPromise_5 : decode cX8_breakPromise 5 = .ok (.invokevirtual 89, 3) := by decide +kernel
theorem dX8_breakPromise_8 : decode cX8_breakPromise 8 = .ok (.ifCond .ne 5, 3) := by decide +kernel
theorem dX8_breakPromise_11 : decode cX8_breakPromise 11 = .ok (.iconst (-1), 1) := by decide +kernel
theorem dX8_breakPromise_12 : decode cX8_breakPromise 12 = .ok (.ireturn, 1) := by decide +kernel
theorem dX8_breakPromise_13 : decode cX8_breakPromise 13 = .ok (.aload_n 0, 1) := by decide +kernel
theorem dX8_breakPromise_14 : decode cX8_breakPromise 14 = .ok (.getfield 12, 3) := by decide +kernel
theorem dX8_breakPromise_17 : decode cX8_breakPromise 17 = .ok (.iload_n 1, 1) := by decide +kernel
theorem dX8_breakPromise_18 : decode cX8_breakPromise 18 = .ok (.invokevirtual 93, 3) := by decide +kernel
theorem dX8_breakPromise_21 : decode cX8_breakPromise 21 = .ok (.ifCond .ne 6, 3) := by decide +kernel
theorem dX8_breakPromise_24 : decode cX8_breakPromise 24 = .ok (.bipush (-2), 2) := by decide +kernel
theorem dX8_breakPromise_26 : decode cX8_breakPromise 26 = .ok (.ireturn, 1) := by decide +kernel
theorem dX8_breakPromise_27 : decode cX8_breakPromise 27 = .ok (.aload_n 0, 1) := by decide +kernel
theorem dX8_breakPromise_28 : decode cX8_breakPromise 28 = .ok (.getfield 12, 3) := by decide +kernel
theorem dX8_breakPromise_31 : decode cX8_breakPromise 31 = .ok (.iload_n 1, 1) := by decide +kernel
theorem dX8_breakPromise_32 : decode cX8_breakPromise 32 = .ok (.iconst 0, 1) := by decide +kernel
theorem dX8_breakPromise_33 : decode cX8_breakPromise 33 = .ok (.iconst 3, 1) := by decide +kernel
theorem dX8_breakPromise_34 : decode cX8_breakPromise 34 = .ok (.invokevirtual 96, 3) := by decide +kernel
theorem dX8_breakPromise_37 : decode cX8_breakPromise 37 = .ok (.aload_n 0, 1) := by decide +kernel
theorem dX8_breakPromise_38 : decode cX8_breakPromise 38 = .ok (.dup, 1) := by decide +kernel
theorem dX8_breakPromise_39 : decode cX8_breakPromise 39 = .ok (.getfield 55, 3) := by decide +kernel
theorem dX8_breakPromise_42 : decode cX8_breakPromise 42 = .ok (.iconst 1, 1) := by decide +kernel
theorem dX8_breakPromise_43 : decode cX8_breakPromise 43 = .ok (.iadd, 1) := by decide +kernel
theorem dX8_breakPromise_44 : decode cX8_breakPromise 44 = .ok (.putfield 55, 3) := by decide +kernel
theorem dX8_breakPromise_47 : decode cX8_breakPromise 47 = .ok (.aload_n 0, 1) := by decide +kernel
theorem dX8_breakPromise_48 : decode cX8_breakPromise 48 = .ok (.getfield 55, 3) := by decide +kernel
theorem dX8_breakPromise_51 : decode cX8_breakPromise 51 = .ok (.ireturn, 1) := by decide +kernel
set_option maxRecDepth 20000 in
theorem ggX8_movePromise_X5_has : GoodIn wsX8_movePromise wsX5_has := goodIn_r _ [8, 9, 64, 65] (by decide +kernel) (by decide +kernel)
set_option maxRecDepth 20000 in
theorem gX8_movePromise_X5_has : GoodIn wsX8_movePromise (wsV RX8 89 RX5 yX5_has wsX5_has) := goodIn_app (goodIn_of _ (by decide +kernel)) ggX8_movePromise_X5_has
set_option maxRecDepth 20000 in
theorem ggX8_movePromise_X5_isIn : GoodIn wsX8_movePromise wsX5_isIn := goodIn_r _ [13, 14, 15, 16, 7, 17, 18, 64, 65] (by decide +kernel) (by decide +kernel)
set_option maxRecDepth 20000 in
theorem gX8_movePromise_X5_isIn : GoodIn wsX8_movePromise (wsV RX8 100 RX5 yX5_isIn wsX5_isIn) := goodIn_app (goodIn_of _ (by decide +kernel)) ggX8_movePromise_X5_isIn
set_option maxRecDepth 20000 in
theorem ggX8_movePromise_X5_fact : GoodIn wsX8_movePromise wsX5_fact := goodIn_r _ [17, 18, 64, 65] (by decide +kernel) (by decide +kernel)
set_option maxRecDepth 20000 in
theorem gX8_movePromise_X5_fact : GoodIn wsX8_movePromise (wsV RX8 104 RX5 yX5_fact wsX5_fact) := goodIn_app (goodIn_of _ (by decide +kernel)) ggX8_movePromise_X5_fact
set_option maxRecDepth 20000 in
theorem ggX8_movePromise_X3_leave : GoodIn wsX8_movePromise wsX3_leave := goodIn_r _ [24, 25, 26, 27, 28, 29, 30, 31, 32, 23, 33, 34, 35, 36, 37, 66, 67, 68, 69, 70] (by decide +kernel) (by decide +kernel)
set_option maxRecDepth 20000 in
theorem gX8_movePromise_X3_leave : GoodIn wsX8_movePromise (wsV RX8 108 RX3 yX3_leave wsX3_leave) := goodIn_app (goodIn_of _ (by decide +kernel)) ggX8_movePromise_X3_leave
set_option maxRecDepth 20000 in
theorem ggX8_movePromise_X5_write : GoodIn wsX8_movePromise wsX5_write := goodIn_r _ [41, 18, 64, 65] (by decide +kernel) (by decide +kernel)
set_option maxRecDepth 20000 in
theorem gX8_movePromise_X5_write : GoodIn wsX8_movePromise (wsV RX8 96 RX5 yX5_write wsX5_write) := goodIn_app (goodIn_of _ (by decide +kernel)) ggX8_movePromise_X5_write
set_option maxRecDepth 20000 in
theorem ggX8_movePromise_X8_lineFor : GoodIn wsX8_movePromise wsX8_lineFor := goodIn_r _ [46, 2, 51, 52, 53, 54, 55, 56, 57, 58, 59, 60, 61, 62, 63] (by decide +kernel) (by decide +kernel)
set_option maxRecDepth 20000 in
theorem gX8_movePromise_X8_lineFor : GoodIn wsX8_movePromise (wsV RX8 81 RX8 yX8_lineFor wsX8_lineFor) := goodIn_app (goodIn_of _ (by decide +kernel)) ggX8_movePromise_X8_lineFor
set_option maxRecDepth 20000 in
theorem ggX8_movePromise_X3_join : GoodIn wsX8_movePromise wsX3_join := goodIn_r _ [50, 27, 25, 26, 28, 29, 66, 67, 68, 69, 70] (by decide +kernel) (by decide +kernel)
set_option maxRecDepth 20000 in
theorem gX8_movePromise_X3_join : GoodIn wsX8_movePromise (wsV RX8 85 RX3 yX3_join wsX3_join) := goodIn_app (goodIn_of _ (by decide +kernel)) ggX8_movePromise_X3_join
theorem dX8_movePromise_0 : decode cX8_movePromise 0 = .ok (.aload_n 0, 1) := by decide +kernel
theorem dX8_movePromise_1 : decode cX8_movePromise 1 = .ok (.getfield 12, 3) := by decide +kernel
theorem dX8_movePromise_4 : decode cX8_movePromise 4 = .ok (.iload_n 1, 1) := by decide +kernel
theorem dX8_movePromise_5 : decode cX8_movePromise 5 = .ok (.invokevirtual 89, 3) := by decide +kernel
theorem dX8_movePromise_8 : decode cX8_movePromise 8 = .ok (.ifCond .eq 15, 3) := by decide +kernel
theorem dX8_movePromise_11 : decode cX8_movePromise 11 = .ok (.iload_n 2, 1) := by decide +kernel
theorem dX8_movePromise_12 : decode cX8_movePromise 12 = .ok (.iconst 1, 1) := by decide +kernel
theorem dX8_movePromise_13 : decode cX8_movePromise 13 = .ok (.if_icmp .lt 10, 3) := by decide +kernel
theorem dX8_movePromise_16 : decode cX8_movePromise 16 = .ok (.iload_n 2, 1) := by decide +kernel
theorem dX8_movePromise_17 : decode cX8_movePromise 17 = .ok (.sipush 511, 3) := by decide +kernel
theorem dX8_movePromise_20 : decode cX8_movePromise 20 = .ok (.if_icmp .le 5, 3) := by decide +kernel
theorem dX8_movePromise_23 : decode cX8_movePromise 23 = .ok (.iconst (-1), 1) := by decide +kernel
theorem dX8_movePromise_24 : decode cX8_movePromise 24 = .ok (.ireturn, 1) := by decide +kernel
theorem dX8_movePromise_25 : decode cX8_movePromise 25 = .ok (.aload_n 0, 1) := by decide +kernel
theorem dX8_movePromise_26 : decode cX8_movePromise 26 = .ok (.getfield 12, 3) := by decide +kernel
theorem dX8_movePromise_29 : decode cX8_movePromise 29 = .ok (.iload_n 1, 1) := by decide +kernel
theorem dX8_movePromise_30 : decode cX8_movePromise 30 = .ok (.iconst 0, 1) := by decide +kernel
theorem dX8_movePromise_31 : decode cX8_movePromise 31 = .ok (.invokevirtual 100, 3) := by decide +kernel
theorem dX8_movePromise_34 : decode cX8_movePromise 34 = .ok (.ifCond .ne 6, 3) := by decide +kernel
theorem dX8_movePromise_37 : decode cX8_movePromise 37 = .ok (.bipush (-2), 2) := by decide +kernel
theorem dX8_movePromise_39 : decode cX8_movePromise 39 = .ok (.ireturn, 1) := by decide +kernel
theorem dX8_movePromise_40 : decode cX8_movePromise 40 = .ok (.aload_n 0, 1) := by decide +kernel
theorem dX8_movePromise_41 : decode cX8_movePromise 41 = .ok (.getfield 12, 3) := by decide +kernel
theorem dX8_movePromise_44 : decode cX8_movePromise 44 = .ok (.iload_n 1, 1) := by decide +kernel
theorem dX8_movePromise_45 : decode cX8_movePromise 45 = .ok (.iconst 1, 1) := by decide +kernel
theorem dX8_movePromise_46 : decode cX8_movePromise 46 = .ok (.invokevirtual 104, 3) := by decide +kernel
theorem dX8_movePromise_49 : decode cX8_movePromise 49 = .ok (.istore_n 3, 1) := by decide +kernel
theorem dX8_movePromise_50 : decode cX8_movePromise 50 = .ok (.aload_n 0, 1) := by decide +kernel
theorem dX8_movePromise_51 : decode cX8_movePromise 51 = .ok (.getfield 49, 3) := by decide +kernel
theorem dX8_movePromise_54 : decode cX8_movePromise 54 = .ok (.iload_n 2, 1) := by decide +kernel
theorem dX8_movePromise_55 : decode cX8_movePromise 55 = .ok (.iadd, 1) := by decide +kernel
theorem dX8_movePromise_56 : decode cX8_movePromise 56 = .ok (.istore 4, 2) := by decide +kernel
theorem dX8_movePromise_58 : decode cX8_movePromise 58 = .ok (.aload_n 0, 1) := by decide +kernel
theorem dX8_movePromise_59 : decode cX8_movePromise 59 = .ok (.getfield 21, 3) := by decide +kernel
theorem dX8_movePromise_62 : decode cX8_movePromise 62 = .ok (.iload_n 1, 1) := by decide +kernel
theorem dX8_movePromise_63 : decode cX8_movePromise 63 = .ok (.invokevirtual 108, 3) := by decide +kernel
theorem dX8_movePromise_66 : decode cX8_movePromise 66 = .ok (.aload_n 0, 1) := by decide +kernel
theorem dX8_movePromise_67 : decode cX8_movePromise 67 = .ok (.getfield 12, 3) := by decide +kernel
theorem dX8_movePromise_70 : decode cX8_movePromise 70 = .ok (.iload_n 1, 1) := by decide +kernel
theorem dX8_movePromise_71 : decode cX8_movePromise 71 = .ok (.iconst 1, 1) := by decide +kernel
theorem dX8_movePromise_72 : decode cX8_movePromise 72 = .ok (.iload 4, 2) := by decide +kernel
theorem dX8_movePromise_74 : decode cX8_movePromise 74 = .ok (.invokevirtual 96, 3) := by decide +kernel
theorem dX8_movePromise_77 : decode cX8_movePromise 77 = .ok (.aload_n 0, 1) := by decide +kernel
theorem dX8_movePromise_78 : decode cX8_movePromise 78 = .ok (.getfield 21, 3) := by decide +kernel
theorem dX8_movePromise_81 : decode cX8_movePromise 81 = .ok (.aload_n 0, 1) := by decide +kernel
theorem dX8_movePromise_82 : decode cX8_movePromise 82 = .ok (.iload 4, 2) := by decide +kernel
theorem dX8_movePromise_84 : decode cX8_movePromise 84 = .ok (.invokevirtual 81, 3) := by decide +kernel
theorem dX8_movePromise_87 : decode cX8_movePromise 87 = .ok (.iload_n 1, 1) := by decide +kernel
theorem dX8_movePromise_88 : decode cX8_movePromise 88 = .ok (.invokevirtual 85, 3) := by decide +kernel
theorem dX8_movePromise_91 : decode cX8_movePromise 91 = .ok (.iload_n 3, 1) := by decide +kernel
theorem dX8_movePromise_92 : decode cX8_movePromise 92 = .ok (.ireturn, 1) := by decide +kernel
set_option maxRecDepth 20000 in
theorem ggX8_passTicks_X0_calls : GoodIn wsX8_passTicks wsX0_calls := goodIn_r _ [7, 8, 137, 138] (by decide +kernel) (by decide +kernel)
set_option maxRecDepth 20000 in
theorem gX8_passTicks_X0_calls : GoodIn wsX8_passTicks (wsV RX8 112 RX0 yX0_calls wsX0_calls) := goodIn_app (goodIn_of _ (by decide +kernel)) ggX8_passTicks_X0_calls
set_option maxRecDepth 20000 in
theorem ggX8_passTicks_X8_passTick : GoodIn wsX8_passTicks wsX8_passTick := goodIn_r _ [13, 1, 14, 15, 16, 17, 18, 19, 20, 21, 22, 23, 24, 12, 25, 26, 27, 28, 29, 30, 31, 32, 33, 34, 35, 36, 37, 38, 39, 40, 41, 42, 43, 44, 45, 46, 47, 48, 49, 50, 51, 52, 53, 54, 55, 56, 57, 58, 59, 60, 61, 62, 63, 64, 65, 66, 67, 68, 69, 70, 71, 72, 73, 74, 75, 76, 77, 78, 79, 80, 81, 82, 83, 84, 85, 86, 87, 88, 89, 90, 91, 92, 93, 94, 95, 96, 97, 98, 99, 2, 100, 101, 102, 6, 103, 8, 104, 105, 106, 107, 108, 109, 110, 111, 112, 113, 114, 115, 116, 117, 118, 119, 120, 121, 122, 123, 124, 125, 126, 127, 128, 129, 130, 131, 132, 133, 134, 135, 136, 139, 140, 141, 142, 143, 144, 145, 137, 138] (by decide +kernel) (by decide +kernel)
set_option maxRecDepth 20000 in
theorem gX8_passTicks_X8_passTick : GoodIn wsX8_passTicks (wsV RX8 115 RX8 yX8_passTick wsX8_passTick) := goodIn_app (goodIn_of _ (by decide +kernel)) ggX8_passTicks_X8_passTick
theorem dX8_passTicks_0 : decode cX8_passTicks 0 = .ok (.iload_n 1, 1) := by decide +kernel
theorem dX8_passTicks_1 : decode cX8_passTicks 1 = .ok (.iconst 1, 1) := by decide +kernel
theorem dX8_passTicks_2 : decode cX8_passTicks 2 = .ok (.if_icmp .lt 10, 3) := by decide +kernel
theorem dX8_passTicks_5 : decode cX8_passTicks 5 = .ok (.iload_n 1, 1) := by decide +kernel
theorem dX8_passTicks_6 : decode cX8_passTicks 6 = .ok (.sipush 600, 3) := by decide +kernel
theorem dX8_passTicks_9 : decode cX8_passTicks 9 = .ok (.if_icmp .le 5, 3) := by decide +kernel
theorem dX8_passTicks_12 : decode cX8_passTicks 12 = .ok (.iconst (-1), 1) := by decide +kernel
theorem dX8_passTicks_13 : decode cX8_passTicks 13 = .ok (.ireturn, 1) := by decide +kernel
theorem dX8_passTicks_14 : decode cX8_passTicks 14 = .ok (.aload_n 0, 1) := by decide +kernel
theorem dX8_passTicks_15 : decode cX8_passTicks 15 = .ok (.getfield 49, 3) := by decide +kernel
theorem dX8_passTicks_18 : decode cX8_passTicks 18 = .ok (.iload_n 1, 1) := by decide +kernel
theorem dX8_passTicks_19 : decode cX8_passTicks 19 = .ok (.iadd, 1) := by decide +kernel
theorem dX8_passTicks_20 : decode cX8_passTicks 20 = .ok (.sipush 20000, 3) := by decide +kernel
theorem dX8_passTicks_23 : decode cX8_passTicks 23 = .ok (.if_icmp .le 6, 3) := by decide +kernel
theorem dX8_passTicks_26 : decode cX8_passTicks 26 = .ok (.bipush (-3), 2) := by decide +kernel
theorem dX8_passTicks_28 : decode cX8_passTicks 28 = .ok (.ireturn, 1) := by decide +kernel
theorem dX8_passTicks_29 : decode cX8_passTicks 29 = .ok (.aload_n 0, 1) := by decide +kernel
theorem dX8_passTicks_30 : decode cX8_passTicks 30 = .ok (.getfield 28, 3) := by decide +kernel
theorem dX8_passTicks_33 : decode cX8_passTicks 33 = .ok (.invokevirtual 112, 3) := by decide +kernel
theorem dX8_passTicks_36 : decode cX8_passTicks 36 = .ok (.istore_n 2, 1) := by decide +kernel
theorem dX8_passTicks_37 : decode cX8_passTicks 37 = .ok (.iconst 0, 1) := by decide +kernel
theorem dX8_passTicks_38 : decode cX8_passTicks 38 = .ok (.istore_n 3, 1) := by decide +kernel
theorem dX8_passTicks_39 : decode cX8_passTicks 39 = .ok (.iload_n 3, 1) := by decide +kernel
theorem dX8_passTicks_40 : decode cX8_passTicks 40 = .ok (.iload_n 1, 1) := by decide +kernel
theorem dX8_passTicks_41 : decode cX8_passTicks 41 = .ok (.if_icmp .ge 13, 3) := by decide +kernel
theorem dX8_passTicks_44 : decode cX8_passTicks 44 = .ok (.aload_n 0, 1) := by decide +kernel
theorem dX8_passTicks_45 : decode cX8_passTicks 45 = .ok (.invokevirtual 115, 3) := by decide +kernel
theorem dX8_passTicks_48 : decode cX8_passTicks 48 = .ok (.iinc 3 1, 3) := by decide +kernel
theorem dX8_passTicks_51 : decode cX8_passTicks 51 = .ok (.goto (-12), 3) := by decide +kernel
theorem dX8_passTicks_54 : decode cX8_passTicks 54 = .ok (.aload_n 0, 1) := by decide +kernel
theorem dX8_passTicks_55 : decode cX8_passTicks 55 = .ok (.getfield 28, 3) := by decide +kernel
theorem dX8_passTicks_58 : decode cX8_passTicks 58 = .ok (.invokevirtual 112, 3) := by decide +kernel
theorem dX8_passTicks_61 : decode cX8_passTicks 61 = .ok (.iload_n 2, 1) := by decide +kernel
theorem dX8_passTicks_62 : decode cX8_passTicks 62 = .ok (.isub, 1) := by decide +kernel
theorem dX8_passTicks_63 : decode cX8_passTicks 63 = .ok (.ireturn, 1) := by decide +kernel
set_option maxRecDepth 20000 in
theorem ggX8_sweepAll_X5_given : GoodIn wsX8_sweepAll wsX5_given := goodIn_r _ [8, 9, 60, 61] (by decide +kernel) (by decide +kernel)
set_option maxRecDepth 20000 in
theorem gX8_sweepAll_X5_given : GoodIn wsX8_sweepAll (wsV RX8 73 RX5 yX5_given wsX5_given) := goodIn_app (goodIn_of _ (by decide +kernel)) ggX8_sweepAll_X5_given
set_option maxRecDepth 20000 in
theorem ggX8_sweepAll_X5_isIn : GoodIn wsX8_sweepAll wsX5_isIn := goodIn_r _ [13, 14, 15, 16, 7, 17, 18, 60, 61] (by decide +kernel) (by decide +kernel)
set_option maxRecDepth 20000 in
theorem gX8_sweepAll_X5_isIn : GoodIn wsX8_sweepAll (wsV RX8 100 RX5 yX5_isIn wsX5_isIn) := goodIn_app (goodIn_of _ (by decide +kernel)) ggX8_sweepAll_X5_isIn
set_option maxRecDepth 20000 in
theorem ggX8_sweepAll_X3_leave : GoodIn wsX8_sweepAll wsX3_leave := goodIn_r _ [23, 24, 25, 26, 27, 28, 29, 30, 31, 22, 32, 33, 34, 35, 36, 62, 63, 64, 65, 66] (by decide +kernel) (by decide +kernel)
set_option maxRecDepth 20000 in
theorem gX8_sweepAll_X3_leave : GoodIn wsX8_sweepAll (wsV RX8 108 RX3 yX3_leave wsX3_leave) := goodIn_app (goodIn_of _ (by decide +kernel)) ggX8_sweepAll_X3_leave
set_option maxRecDepth 20000 in
theorem ggX8_sweepAll_X8_noteSwept : GoodIn wsX8_sweepAll wsX8_noteSwept := goodIn_r _ [41, 2, 42, 1, 43, 44, 45, 7, 46, 18, 47, 48, 49, 50, 51, 52, 53, 54, 55, 56, 57, 58, 59, 60, 61] (by decide +kernel) (by decide +kernel)
set_option maxRecDepth 20000 in
theorem gX8_sweepAll_X8_noteSwept : GoodIn wsX8_sweepAll (wsV RX8 118 RX8 yX8_noteSwept wsX8_noteSwept) := goodIn_app (goodIn_of _ (by decide +kernel)) ggX8_sweepAll_X8_noteSwept
theorem dX8_sweepAll_0 : decode cX8_sweepAll 0 = .ok (.aload_n 0, 1) := by decide +kernel
theorem dX8_sweepAll_1 : decode cX8_sweepAll 1 = .ok (.getfield 64, 3) := by decide +kernel
theorem dX8_sweepAll_4 : decode cX8_sweepAll 4 = .ok (.istore_n 1, 1) := by decide +kernel
theorem dX8_sweepAll_5 : decode cX8_sweepAll 5 = .ok (.iconst 0, 1) := by decide +kernel
theorem dX8_sweepAll_6 : decode cX8_sweepAll 6 = .ok (.istore_n 2, 1) := by decide +kernel
theorem dX8_sweepAll_7 : decode cX8_sweepAll 7 = .ok (.iload_n 2, 1) := by decide +kernel
theorem dX8_sweepAll_8 : decode cX8_sweepAll 8 = .ok (.aload_n 0, 1) := by decide +kernel
theorem dX8_sweepAll_9 : decode cX8_sweepAll 9 = .ok (.getfield 12, 3) := by decide +kernel
theorem dX8_sweepAll_12 : decode cX8_sweepAll 12 = .ok (.invokevirtual 73, 3) := by decide +kernel
theorem dX8_sweepAll_15 : decode cX8_sweepAll 15 = .ok (.if_icmp .ge 34, 3) := by decide +kernel
theorem dX8_sweepAll_18 : decode cX8_sweepAll 18 = .ok (.aload_n 0, 1) := by decide +kernel
theorem dX8_sweepAll_19 : decode cX8_sweepAll 19 = .ok (.getfield 12, 3) := by decide +kernel
theorem dX8_sweepAll_22 : decode cX8_sweepAll 22 = .ok (.iload_n 2, 1) := by decide +kernel
theorem dX8_sweepAll_23 : decode cX8_sweepAll 23 = .ok (.iconst 3, 1) := by decide +kernel
theorem dX8_sweepAll_24 : decode cX8_sweepAll 24 = .ok (.invokevirtual 100, 3) := by decide +kernel
theorem dX8_sweepAll_27 : decode cX8_sweepAll 27 = .ok (.ifCond .eq 16, 3) := by decide +kernel
theorem dX8_sweepAll_30 : decode cX8_sweepAll 30 = .ok (.aload_n 0, 1) := by decide +kernel
theorem dX8_sweepAll_31 : decode cX8_sweepAll 31 = .ok (.getfield 21, 3) := by decide +kernel
theorem dX8_sweepAll_34 : decode cX8_sweepAll 34 = .ok (.iload_n 2, 1) := by decide +kernel
theorem dX8_sweepAll_35 : decode cX8_sweepAll 35 = .ok (.invokevirtual 108, 3) := by decide +kernel
theorem dX8_sweepAll_38 : decode cX8_sweepAll 38 = .ok (.aload_n 0, 1) := by decide +kernel
theorem dX8_sweepAll_39 : decode cX8_sweepAll 39 = .ok (.iload_n 2, 1) := by decide +kernel
theorem dX8_sweepAll_40 : decode cX8_sweepAll 40 = .ok (.invokevirtual 118, 3) := by decide +kernel
theorem dX8_sweepAll_43 : decode cX8_sweepAll 43 = .ok (.iinc 2 1, 3) := by decide +kernel
theorem dX8_sweepAll_46 : decode cX8_sweepAll 46 = .ok (.goto (-39), 3) := by decide +kernel
theorem dX8_sweepAll_49 : decode cX8_sweepAll 49 = .ok (.aload_n 0, 1) := by decide +kernel
theorem dX8_sweepAll_50 : decode cX8_sweepAll 50 = .ok (.getfield 64, 3) := by decide +kernel
theorem dX8_sweepAll_53 : decode cX8_sweepAll 53 = .ok (.iload_n 1, 1) := by decide +kernel
theorem dX8_sweepAll_54 : decode cX8_sweepAll 54 = .ok (.isub, 1) := by decide +kernel
theorem dX8_sweepAll_55 : decode cX8_sweepAll 55 = .ok (.ireturn, 1) := by decide +kernel
set_option maxRecDepth 20000 in
theorem ggX8_changeSetting_X8_setting : GoodIn wsX8_changeSetting wsX8_setting := goodIn_r _ [8, 1, 2, 3, 9, 10, 11, 12, 13, 14, 15, 16, 17, 18, 19, 20, 21] (by decide +kernel) (by decide +kernel)
set_option maxRecDepth 20000 in
theorem gX8_changeSetting_X8_setting : GoodIn wsX8_changeSetting (wsV RX8 121 RX8 yX8_setting wsX8_setting) := goodIn_app (goodIn_of _ (by decide +kernel)) ggX8_changeSetting_X8_setting
theorem dX8_changeSetting_0 : decode cX8_changeSetting 0 = .ok (.aload_n 0, 1) := by decide +kernel
theorem dX8_changeSetting_1 : decode cX8_changeSetting 1 = .ok (.iload_n 1, 1) := by decide +kernel
theorem dX8_changeSetting_2 : decode cX8_changeSetting 2 = .ok (.invokevirtual 121, 3) := by decide +kernel
theorem dX8_changeSetting_5 : decode cX8_changeSetting 5 = .ok (.istore_n 3, 1) := by decide +kernel
theorem dX8_changeSetting_6 : decode cX8_changeSetting 6 = .ok (.iload_n 1, 1) := by decide +kernel
theorem dX8_changeSetting_7 : decode cX8_changeSetting 7 = .ok (.tableswitch 82 0 2 #[25, 45, 64], 25) := by decide +kernel
theorem dX8_changeSetting_32 : decode cX8_changeSetting 32 = .ok (.iload_n 2, 1) := by decide +kernel
theorem dX8_changeSetting_33 : decode cX8_changeSetting 33 = .ok (.iconst 1, 1) := by decide +kernel
theorem dX8_changeSetting_34 : decode cX8_changeSetting 34 = .ok (.if_icmp .lt 9, 3) := by decide +kernel
theorem dX8_changeSetting_37 : decode cX8_changeSetting 37 = .ok (.iload_n 2, 1) := by decide +kernel
theorem dX8_changeSetting_38 : decode cX8_changeSetting 38 = .ok (.bipush 20, 2) := by decide +kernel
theorem dX8_changeSetting_40 : decode cX8_changeSetting 40 = .ok (.if_icmp .le 5, 3) := by decide +kernel
theorem dX8_changeSetting_43 : decode cX8_changeSetting 43 = .ok (.iconst (-1), 1) := by decide +kernel
theorem dX8_changeSetting_44 : decode cX8_changeSetting 44 = .ok (.ireturn, 1) := by decide +kernel
theorem dX8_changeSetting_45 : decode cX8_changeSetting 45 = .ok (.aload_n 0, 1) := by decide +kernel
theorem dX8_changeSetting_46 : decode cX8_changeSetting 46 = .ok (.iload_n 2, 1) := by decide +kernel
theorem dX8_changeSetting_47 : decode cX8_changeSetting 47 = .ok (.putfield 32, 3) := by decide +kernel
theorem dX8_changeSetting_50 : decode cX8_changeSetting 50 = .ok (.iload_n 3, 1) := by decide +kernel
theorem dX8_changeSetting_51 : decode cX8_changeSetting 51 = .ok (.ireturn, 1) := by decide +kernel
theorem dX8_changeSetting_52 : decode cX8_changeSetting 52 = .ok (.iload_n 2, 1) := by decide +kernel
theorem dX8_changeSetting_53 : decode cX8_changeSetting 53 = .ok (.ifCond .lt 9, 3) := by decide +kernel
theorem dX8_changeSetting_56 : decode cX8_changeSetting 56 = .ok (.iload_n 2, 1) := by decide +kernel
theorem dX8_changeSetting_57 : decode cX8_changeSetting 57 = .ok (.bipush 40, 2) := by decide +kernel
theorem dX8_changeSetting_59 : decode cX8_changeSetting 59 = .ok (.if_icmp .le 5, 3) := by decide +kernel
theorem dX8_changeSetting_62 : decode cX8_changeSetting 62 = .ok (.iconst (-1), 1) := by decide +kernel
theorem dX8_changeSetting_63 : decode cX8_changeSetting 63 = .ok (.ireturn, 1) := by decide +kernel
theorem dX8_changeSetting_64 : decode cX8_changeSetting 64 = .ok (.aload_n 0, 1) := by decide +kernel
theorem dX8_changeSetting_65 : decode cX8_changeSetting 65 = .ok (.iload_n 2, 1) := by decide +kernel
theorem dX8_changeSetting_66 : decode cX8_changeSetting 66 = .ok (.putfield 36, 3) := by decide +kernel
theorem dX8_changeSetting_69 : decode cX8_changeSetting 69 = .ok (.iload_n 3, 1) := by decide +kernel
theorem dX8_changeSetting_70 : decode cX8_changeSetting 70 = .ok (.ireturn, 1) := by decide +kernel
theorem dX8_changeSetting_71 : decode cX8_changeSetting 71 = .ok (.iload_n 2, 1) := by decide +kernel
theorem dX8_changeSetting_72 : decode cX8_changeSetting 72 = .ok (.ifCond .lt 8, 3) := by decide +kernel
theorem dX8_changeSetting_75 : decode cX8_changeSetting 75 = .ok (.iload_n 2, 1) := by decide +kernel
theorem dX8_changeSetting_76 : decode cX8_changeSetting 76 = .ok (.iconst 1, 1) := by decide +kernel
theorem dX8_changeSetting_77 : decode cX8_changeSetting 77 = .ok (.if_icmp .le 5, 3) := by decide +kernel
theorem dX8_changeSetting_80 : decode cX8_changeSetting 80 = .ok (.iconst (-1), 1) := by decide +kernel
theorem dX8_changeSetting_81 : decode cX8_changeSetting 81 = .ok (.ireturn, 1) := by decide +kernel
theorem dX8_changeSetting_82 : decode cX8_changeSetting 82 = .ok (.aload_n 0, 1) := by decide +kernel
theorem dX8_changeSetting_83 : decode cX8_changeSetting 83 = .ok (.iload_n 2, 1) := by decide +kernel
theorem dX8_changeSetting_84 : decode cX8_changeSetting 84 = .ok (.putfield 52, 3) := by decide +kernel
theorem dX8_changeSetting_87 : decode cX8_changeSetting 87 = .ok (.iload_n 3, 1) := by decide +kernel
theorem dX8_changeSetting_88 : decode cX8_changeSetting 88 = .ok (.ireturn, 1) := by decide +kernel
theorem dX8_changeSetting_89 : decode cX8_changeSetting 89 = .ok (.iconst (-1), 1) := by decide +kernel
theorem dX8_changeSetting_90 : decode cX8_changeSetting 90 = .ok (.ireturn, 1) := by decide +kernel
theorem dX8_setting_0 : decode cX8_setting 0 = .ok (.iload_n 1, 1) := by decide +kernel
theorem dX8_setting_1 : decode cX8_setting 1 = .ok (.tableswitch 42 0 2 #[27, 32, 37], 27) := by decide +kernel
theorem dX8_setting_28 : decode cX8_setting 28 = .ok (.aload_n 0, 1) := by decide +kernel
theorem dX8_setting_29 : decode cX8_setting 29 = .ok (.getfield 32, 3) := by decide +kernel
theorem dX8_setting_32 : decode cX8_setting 32 = .ok (.ireturn, 1) := by decide +kernel
theorem dX8_setting_33 : decode cX8_setting 33 = .ok (.aload_n 0, 1) := by decide +kernel
theorem dX8_setting_34 : decode cX8_setting 34 = .ok (.getfield 36, 3) := by decide +kernel
theorem dX8_setting_37 : decode cX8_setting 37 = .ok (.ireturn, 1) := by decide +kernel
theorem dX8_setting_38 : decode cX8_setting 38 = .ok (.aload_n 0, 1) := by decide +kernel
theorem dX8_setting_39 : decode cX8_setting 39 = .ok (.getfield 52, 3) := by decide +kernel
theorem dX8_setting_42 : decode cX8_setting 42 = .ok (.ireturn, 1) := by decide +kernel
theorem dX8_setting_43 : decode cX8_setting 43 = .ok (.iconst (-1), 1) := by decide +kernel
theorem dX8_setting_44 : decode cX8_setting 44 = .ok (.ireturn, 1) := by decide +kernel
set_option maxRecDepth 20000 in
theorem ggX8_passTick_X8_letFall : GoodIn wsX8_passTick wsX8_letFall := goodIn_r _ [14, 5, 15, 16, 17, 18, 19, 13, 20, 1, 21, 22, 23, 24, 25, 26, 27, 28, 29, 30, 31, 32, 33, 34, 35, 36, 37, 38, 39, 40, 41, 42, 43, 44, 45, 46, 47, 48, 49, 50, 51, 52, 53, 54, 55, 56, 57, 58, 59, 60, 2, 61, 62, 63, 64, 65, 66, 67, 68, 69, 70, 71, 72, 73, 74, 116, 117, 118, 119, 120, 121, 122, 123, 124, 125, 126, 127, 128, 129, 130, 131, 132, 133, 134, 135] (by decide +kernel) (by decide +kernel)
set_option maxRecDepth 20000 in
theorem gX8_passTick_X8_letFall : GoodIn wsX8_passTick (wsV RX8 124 RX8 yX8_letFall wsX8_letFall) := goodIn_app (goodIn_of _ (by decide +kernel)) ggX8_passTick_X8_letFall
set_option maxRecDepth 20000 in
theorem ggX8_passTick_X8_letArrive : GoodIn wsX8_passTick wsX8_letArrive := goodIn_r _ [78, 5, 15, 17, 18, 19, 13, 20, 1, 21, 22, 23, 24, 25, 26, 27, 28, 29, 30, 31, 32, 33, 34, 35, 36, 37, 38, 39, 40, 41, 42, 43, 44, 45, 46, 47, 48, 49, 50, 51, 52, 53, 54, 55, 56, 57, 58, 59, 60, 2, 61, 62, 63, 64, 65, 71, 72, 73, 74, 116, 117, 118, 119, 120, 121, 122, 123, 124, 125, 126, 127, 128, 129, 130, 131, 132, 133, 134, 135] (by decide +kernel) (by decide +kernel)
set_option maxRecDepth 20000 in
theorem gX8_passTick_X8_letArrive : GoodIn wsX8_passTick (wsV RX8 127 RX8 yX8_letArrive wsX8_letArrive) := goodIn_app (goodIn_of _ (by decide +kernel)) ggX8_passTick_X8_letArrive
set_option maxRecDepth 20000 in
theorem ggX8_passTick_X8_serveQueue : GoodIn wsX8_passTick wsX8_serveQueue := goodIn_r _ [82, 5, 83, 15, 21, 22, 23, 24, 25, 26, 27, 28, 29, 30, 31, 32, 33, 34, 35, 36, 37, 38, 39, 40, 41, 42, 43, 44, 45, 46, 47, 48, 49, 50, 51, 52, 53, 54, 55, 56, 57, 58, 59, 13, 60, 2, 61, 62, 63, 64, 65, 84, 85, 86, 87, 1, 88, 89, 66, 90, 91, 92, 93, 94, 95, 96, 97, 98, 99, 100, 101, 102, 103, 104, 105, 106, 67, 68, 69, 70, 71, 72, 73, 74, 116, 117, 118, 119, 120, 121, 122, 123, 124, 125, 126, 127, 128, 129, 130, 131, 132, 133, 134, 135, 136, 137] (by decide +kernel) (by decide +kernel)
set_option maxRecDepth 20000 in
theorem gX8_passTick_X8_serveQueue : GoodIn wsX8_passTick (wsV RX8 130 RX8 yX8_serveQueue wsX8_serveQueue) := goodIn_app (goodIn_of _ (by decide +kernel)) ggX8_passTick_X8_serveQueue
set_option maxRecDepth 20000 in
theorem ggX8_passTick_X8_sweepAll : GoodIn wsX8_passTick wsX8_sweepAll := goodIn_r _ [110, 61, 15, 5, 111, 112, 113, 50, 114, 115, 47, 48, 49, 51, 52, 53, 54, 55, 56, 32, 33, 34, 24, 35, 31, 36, 37, 38, 26, 39, 40, 41, 42, 43, 44, 45, 46, 57, 58, 59, 13, 60, 2, 62, 63, 64, 65, 116, 117, 118, 119, 120, 121, 122, 123, 124, 125, 126, 127, 128, 134, 135, 129, 130, 131, 132, 133] (by decide +kernel) (by decide +kernel)
set_option maxRecDepth 20000 in
theorem gX8_passTick_X8_sweepAll : GoodIn wsX8_passTick (wsV RX8 133 RX8 yX8_sweepAll wsX8_sweepAll) := goodIn_app (goodIn_of _ (by decide +kernel)) ggX8_passTick_X8_sweepAll
set_option maxRecDepth 20000 in
theorem ggX8_passTick_X3_lengthOf : GoodIn wsX8_passTick wsX3_lengthOf := goodIn_r _ [25, 26, 129, 130, 131, 132, 133] (by decide +kernel) (by decide +kernel)
set_option maxRecDepth 20000 in
theorem gX8_passTick_X3_lengthOf : GoodIn wsX8_passTick (wsV RX8 136 RX3 yX3_lengthOf wsX3_lengthOf) := goodIn_app (goodIn_of _ (by decide +kernel)) ggX8_passTick_X3_lengthOf
theorem dX8_passTick_0 : decode cX8_passTick 0 = .ok (.aload_n 0, 1) := by decide +kernel
theorem dX8_passTick_1 : decode cX8_passTick 1 = .ok (.dup, 1) := by decide +kernel
theorem dX8_passTick_2 : decode cX8_passTick 2 = .ok (.getfield 49, 3) := by decide +kernel
theorem dX8_passTick_5 : decode cX8_passTick 5 = .ok (.iconst 1, 1) := by decide +kernel
theorem dX8_passTick_6 : decode cX8_passTick 6 = .ok (.iadd, 1) := by decide +kernel
theorem dX8_passTick_7 : decode cX8_passTick 7 = .ok (.putfield 49, 3) := by decide +kernel
theorem dX8_passTick_10 : decode cX8_passTick 10 = .ok (.aload_n 0, 1) := by decide +kernel
theorem dX8_passTick_11 : decode cX8_passTick 11 = .ok (.getfield 49, 3) := by decide +kernel
theorem dX8_passTick_14 : decode cX8_passTick 14 = .ok (.bipush 64, 2) := by decide +kernel
theorem dX8_passTick_16 : decode cX8_passTick 16 = .ok (.irem, 1) := by decide +kernel
theorem dX8_passTick_17 : decode cX8_passTick 17 = .ok (.ifCond .ne 8, 3) := by decide +kernel
theorem dX8_passTick_20 : decode cX8_passTick 20 = .ok (.aload_n 0, 1) := by decide +kernel
theorem dX8_passTick_21 : decode cX8_passTick 21 = .ok (.iconst 2, 1) := by decide +kernel
theorem dX8_passTick_22 : decode cX8_passTick 22 = .ok (.invokevirtual 124, 3) := by decide +kernel
theorem dX8_passTick_25 : decode cX8_passTick 25 = .ok (.aload_n 0, 1) := by decide +kernel
theorem dX8_passTick_26 : decode cX8_passTick 26 = .ok (.getfield 49, 3) := by decide +kernel
theorem dX8_passTick_29 : decode cX8_passTick 29 = .ok (.bipush 8, 2) := by decide +kernel
theorem dX8_passTick_31 : decode cX8_passTick 31 = .ok (.irem, 1) := by decide +kernel
theorem dX8_passTick_32 : decode cX8_passTick 32 = .ok (.ifCond .ne 8, 3) := by decide +kernel
theorem dX8_passTick_35 : decode cX8_passTick 35 = .ok (.aload_n 0, 1) := by decide +kernel
theorem dX8_passTick_36 : decode cX8_passTick 36 = .ok (.iconst 1, 1) := by decide +kernel
theorem dX8_passTick_37 : decode cX8_passTick 37 = .ok (.invokevirtual 124, 3) := by decide +kernel
theorem dX8_passTick_40 : decode cX8_passTick 40 = .ok (.aload_n 0, 1) := by decide +kernel
theorem dX8_passTick_41 : decode cX8_passTick 41 = .ok (.invokevirtual 127, 3) := by decide +kernel
theorem dX8_passTick_44 : decode cX8_passTick 44 = .ok (.aload_n 0, 1) := by decide +kernel
theorem dX8_passTick_45 : decode cX8_passTick 45 = .ok (.invokevirtual 130, 3) := by decide +kernel
theorem dX8_passTick_48 : decode cX8_passTick 48 = .ok (.aload_n 0, 1) := by decide +kernel
theorem dX8_passTick_49 : decode cX8_passTick 49 = .ok (.getfield 55, 3) := by decide +kernel
theorem dX8_passTick_52 : decode cX8_passTick 52 = .ok (.aload_n 0, 1) := by decide +kernel
theorem dX8_passTick_53 : decode cX8_passTick 53 = .ok (.getfield 36, 3) := by decide +kernel
theorem dX8_passTick_56 : decode cX8_passTick 56 = .ok (.if_icmp .le 8, 3) := by decide +kernel
theorem dX8_passTick_59 : decode cX8_passTick 59 = .ok (.aload_n 0, 1) := by decide +kernel
theorem dX8_passTick_60 : decode cX8_passTick 60 = .ok (.invokevirtual 133, 3) := by decide +kernel
theorem dX8_passTick_63 : decode cX8_passTick 63 = .ok (.pop, 1) := by decide +kernel
theorem dX8_passTick_64 : decode cX8_passTick 64 = .ok (.aload_n 0, 1) := by decide +kernel
theorem dX8_passTick_65 : decode cX8_passTick 65 = .ok (.aload_n 0, 1) := by decide +kernel
theorem dX8_passTick_66 : decode cX8_passTick 66 = .ok (.getfield 70, 3) := by decide +kernel
theorem dX8_passTick_69 : decode cX8_passTick 69 = .ok (.aload_n 0, 1) := by decide +kernel
theorem dX8_passTick_70 : decode cX8_passTick 70 = .ok (.getfield 21, 3) := by decide +kernel
theorem dX8_passTick_73 : decode cX8_passTick 73 = .ok (.bipush 24, 2) := by decide +kernel
theorem dX8_passTick_75 : decode cX8_passTick 75 = .ok (.invokevirtual 136, 3) := by decide +kernel
theorem dX8_passTick_78 : decode cX8_passTick 78 = .ok (.invokestatic 139, 3) := by decide +kernel
theorem dX8_passTick_81 : decode cX8_passTick 81 = .ok (.putfield 70, 3) := by decide +kernel
theorem dX8_passTick_84 : decode cX8_passTick 84 = .ok (.return_, 1) := by decide +kernel
set_option maxRecDepth 20000 in
theorem ggX8_letFall_X8_presentSlot : GoodIn wsX8_letFall wsX8_presentSlot := goodIn_r _ [8, 9, 65, 66, 67, 68, 69, 70, 71, 72, 73, 74, 75, 76, 77] (by decide +kernel) (by decide +kernel)
set_option maxRecDepth 20000 in
theorem gX8_letFall_X8_presentSlot : GoodIn wsX8_letFall (wsV RX8 144 RX8 yX8_presentSlot wsX8_presentSlot) := goodIn_app (goodIn_of _ (by decide +kernel)) ggX8_letFall_X8_presentSlot
set_option maxRecDepth 20000 in
theorem ggX8_letFall_X3_lengthOf : GoodIn wsX8_letFall wsX3_lengthOf := goodIn_r _ [14, 15, 78, 79, 80, 81, 82] (by decide +kernel) (by decide +kernel)
set_option maxRecDepth 20000 in
theorem gX8_letFall_X3_lengthOf : GoodIn wsX8_letFall (wsV RX8 136 RX3 yX3_lengthOf wsX3_lengthOf) := goodIn_app (goodIn_of _ (by decide +kernel)) ggX8_letFall_X3_lengthOf
set_option maxRecDepth 20000 in
theorem ggX8_letFall_X3_frontOf : GoodIn wsX8_letFall wsX3_frontOf := goodIn_r _ [19, 20, 78, 79, 80, 81, 82] (by decide +kernel) (by decide +kernel)
set_option maxRecDepth 20000 in
theorem gX8_letFall_X3_frontOf : GoodIn wsX8_letFall (wsV RX8 147 RX3 yX3_frontOf wsX3_frontOf) := goodIn_app (goodIn_of _ (by decide +kernel)) ggX8_letFall_X3_frontOf
set_option maxRecDepth 20000 in
theorem ggX8_letFall_X3_leave : GoodIn wsX8_letFall wsX3_leave := goodIn_r _ [24, 20, 25, 26, 27, 15, 28, 29, 30, 13, 31, 32, 33, 34, 35, 78, 79, 80, 81, 82] (by decide +kernel) (by decide +kernel)
set_option maxRecDepth 20000 in
theorem gX8_letFall_X3_leave : GoodIn wsX8_letFall (wsV RX8 108 RX3 yX3_leave wsX3_leave) := goodIn_app (goodIn_of _ (by decide +kernel)) ggX8_letFall_X3_leave
set_option maxRecDepth 20000 in
theorem ggX8_letFall_X5_isIn : GoodIn wsX8_letFall wsX5_isIn := goodIn_r _ [40, 41, 42, 43, 39, 44, 45, 83, 84] (by decide +kernel) (by decide +kernel)
set_option maxRecDepth 20000 in
theorem gX8_letFall_X5_isIn : GoodIn wsX8_letFall (wsV RX8 100 RX5 yX5_isIn wsX5_isIn) := goodIn_app (goodIn_of _ (by decide +kernel)) ggX8_letFall_X5_isIn
set_option maxRecDepth 20000 in
theorem ggX8_letFall_X8_noteSwept : GoodIn wsX8_letFall wsX8_noteSwept := goodIn_r _ [49, 2, 50, 51, 52, 53, 54, 39, 55, 45, 65, 66, 67, 68, 69, 70, 71, 72, 73, 74, 75, 76, 77, 83, 84] (by decide +kernel) (by decide +kernel)
set_option maxRecDepth 20000 in
theorem gX8_letFall_X8_noteSwept : GoodIn wsX8_letFall (wsV RX8 118 RX8 yX8_noteSwept wsX8_noteSwept) := goodIn_app (goodIn_of _ (by decide +kernel)) ggX8_letFall_X8_noteSwept
set_option maxRecDepth 20000 in
theorem ggX8_letFall_X5_fact : GoodIn wsX8_letFall wsX5_fact := goodIn_r _ [44, 45, 83, 84] (by decide +kernel) (by decide +kernel)
set_option maxRecDepth 20000 in
theorem gX8_letFall_X5_fact : GoodIn wsX8_letFall (wsV RX8 104 RX5 yX5_fact wsX5_fact) := goodIn_app (goodIn_of _ (by decide +kernel)) ggX8_letFall_X5_fact
set_option maxRecDepth 20000 in
theorem ggX8_letFall_X8_lineFor : GoodIn wsX8_letFall wsX8_lineFor := goodIn_r _ [60, 9, 65, 66, 67, 68, 69, 70, 71, 72, 73, 74, 75, 76, 77] (by decide +kernel) (by decide +kernel)
set_option maxRecDepth 20000 in
theorem gX8_letFall_X8_lineFor : GoodIn wsX8_letFall (wsV RX8 81 RX8 yX8_lineFor wsX8_lineFor) := goodIn_app (goodIn_of _ (by decide +kernel)) ggX8_letFall_X8_lineFor
set_option maxRecDepth 20000 in
theorem ggX8_letFall_X3_join : GoodIn wsX8_letFall wsX3_join := goodIn_r _ [64, 26, 20, 25, 27, 15, 78, 79, 80, 81, 82] (by decide +kernel) (by decide +kernel)
set_option maxRecDepth 20000 in
theorem gX8_letFall_X3_join : GoodIn wsX8_letFall (wsV RX8 85 RX3 yX3_join wsX3_join) := goodIn_app (goodIn_of _ (by decide +kernel)) ggX8_letFall_X3_join
theorem dX8_letFall_0 : decode cX8_letFall 0 = .ok (.iload_n 1, 1) := by decide +kernel
theorem dX8_letFall_1 : decode cX8_letFall 1 = .ok (.bipush 8, 2) := by decide +kernel
theorem dX8_letFall_3 : decode cX8_letFall 3 = .ok (.imul, 1) := by decide +kernel
theorem dX8_letFall_4 : decode cX8_letFall 4 = .ok (.aload_n 0, 1) := by decide +kernel
theorem dX8_letFall_5 : decode cX8_letFall 5 = .ok (.iload_n 1, 1) := by decide +kernel
theorem dX8_letFall_6 : decode cX8_letFall 6 = .ok (.invokevirtual 144, 3) := by decide +kernel
theorem dX8_letFall_9 : decode cX8_letFall 9 = .ok (.iadd, 1) := by decide +kernel
theorem dX8_letFall_10 : decode cX8_letFall 10 = .ok (.istore_n 2, 1) := by decide +kernel
theorem dX8_letFall_11 : decode cX8_letFall 11 = .ok (.aload_n 0, 1) := by decide +kernel
theorem dX8_letFall_12 : decode cX8_letFall 12 = .ok (.getfield 21, 3) := by decide +kernel
theorem dX8_letFall_15 : decode cX8_letFall 15 = .ok (.iload_n 2, 1) := by decide +kernel
theorem dX8_letFall_16 : decode cX8_letFall 16 = .ok (.invokevirtual 136, 3) := by decide +kernel
theorem dX8_letFall_19 : decode cX8_letFall 19 = .ok (.istore_n 3, 1) := by decide +kernel
theorem dX8_letFall_20 : decode cX8_letFall 20 = .ok (.iconst 0, 1) := by decide +kernel
theorem dX8_letFall_21 : decode cX8_letFall 21 = .ok (.istore 4, 2) := by decide +kernel
theorem dX8_letFall_23 : decode cX8_letFall 23 = .ok (.iload 4, 2) := by decide +kernel
theorem dX8_letFall_25 : decode cX8_letFall 25 = .ok (.iload_n 3, 1) := by decide +kernel
theorem dX8_letFall_26 : decode cX8_letFall 26 = .ok (.if_icmp .ge 83, 3) := by decide +kernel
theorem dX8_letFall_29 : decode cX8_letFall 29 = .ok (.aload_n 0, 1) := by decide +kernel
theorem dX8_letFall_30 : decode cX8_letFall 30 = .ok (.getfield 21, 3) := by decide +kernel
theorem dX8_letFall_33 : decode cX8_letFall 33 = .ok (.iload_n 2, 1) := by decide +kernel
theorem dX8_letFall_34 : decode cX8_letFall 34 = .ok (.invokevirtual 147, 3) := by decide +kernel
theorem dX8_letFall_37 : decode cX8_letFall 37 = .ok (.istore 5, 2) := by decide +kernel
theorem dX8_letFall_39 : decode cX8_letFall 39 = .ok (.aload_n 0, 1) := by decide +kernel
theorem dX8_letFall_40 : decode cX8_letFall 40 = .ok (.getfield 21, 3) := by decide +kernel
theorem dX8_letFall_43 : decode cX8_letFall 43 = .ok (.iload 5, 2) := by decide +kernel
theorem dX8_letFall_45 : decode cX8_letFall 45 = .ok (.invokevirtual 108, 3) := by decide +kernel
theorem dX8_letFall_48 : decode cX8_letFall 48 = .ok (.aload_n 0, 1) := by decide +kernel
theorem dX8_letFall_49 : decode cX8_letFall 49 = .ok (.getfield 12, 3) := by decide +kernel
theorem dX8_letFall_52 : decode cX8_letFall 52 = .ok (.iload 5, 2) := by decide +kernel
theorem dX8_letFall_54 : decode cX8_letFall 54 = .ok (.iconst 3, 1) := by decide +kernel
theorem dX8_letFall_55 : decode cX8_letFall 55 = .ok (.invokevirtual 100, 3) := by decide +kernel
theorem dX8_letFall_58 : decode cX8_letFall 58 = .ok (.ifCond .eq 12, 3) := by decide +kernel
theorem dX8_letFall_61 : decode cX8_letFall 61 = .ok (.aload_n 0, 1) := by decide +kernel
theorem dX8_letFall_62 : decode cX8_letFall 62 = .ok (.iload 5, 2) := by decide +kernel
theorem dX8_letFall_64 : decode cX8_letFall 64 = .ok (.invokevirtual 118, 3) := by decide +kernel
theorem dX8_letFall_67 : decode cX8_letFall 67 = .ok (.goto 36, 3) := by decide +kernel
theorem dX8_letFall_70 : decode cX8_letFall 70 = .ok (.aload_n 0, 1) := by decide +kernel
theorem dX8_letFall_71 : decode cX8_letFall 71 = .ok (.getfield 21, 3) := by decide +kernel
theorem dX8_letFall_74 : decode cX8_letFall 74 = .ok (.aload_n 0, 1) := by decide +kernel
theorem dX8_letFall_75 : decode cX8_letFall 75 = .ok (.aload_n 0, 1) := by decide +kernel
theorem dX8_letFall_76 : decode cX8_letFall 76 = .ok (.getfield 12, 3) := by decide +kernel
theorem dX8_letFall_79 : decode cX8_letFall 79 = .ok (.iload 5, 2) := by decide +kernel
theorem dX8_letFall_81 : decode cX8_letFall 81 = .ok (.iconst 1, 1) := by decide +kernel
theorem dX8_letFall_82 : decode cX8_letFall 82 = .ok (.invokevirtual 104, 3) := by decide +kernel
theorem dX8_letFall_85 : decode cX8_letFall 85 = .ok (.invokevirtual 81, 3) := by decide +kernel
theorem dX8_letFall_88 : decode cX8_letFall 88 = .ok (.iload 5, 2) := by decide +kernel
theorem dX8_letFall_90 : decode cX8_letFall 90 = .ok (.invokevirtual 85, 3) := by decide +kernel
theorem dX8_letFall_93 : decode cX8_letFall 93 = .ok (.aload_n 0, 1) := by decide +kernel
theorem dX8_letFall_94 : decode cX8_letFall 94 = .ok (.dup, 1) := by decide +kernel
theorem dX8_letFall_95 : decode cX8_letFall 95 = .ok (.getfield 61, 3) := by decide +kernel
theorem dX8_letFall_98 : decode cX8_letFall 98 = .ok (.iconst 1, 1) := by decide +kernel
theorem dX8_letFall_99 : decode cX8_letFall 99 = .ok (.iadd, 1) := by decide +kernel
theorem dX8_letFall_100 : decode cX8_letFall 100 = .ok (.putfield 61, 3) := by decide +kernel
theorem dX8_letFall_103 : decode cX8_letFall 103 = .ok (.iinc 4 1, 3) := by decide +kernel
theorem dX8_letFall_106 : decode cX8_letFall 106 = .ok (.goto (-83), 3) := by decide +kernel
theorem dX8_letFall_109 : decode cX8_letFall 109 = .ok (.return_, 1) := by decide +kernel
set_option maxRecDepth 20000 in
theorem ggX8_letArrive_X8_presentSlot : GoodIn wsX8_letArrive wsX8_presentSlot := goodIn_r _ [7, 8, 59, 60, 61, 62, 63, 64, 65, 66, 67, 68, 69, 70, 71] (by decide +kernel) (by decide +kernel)
set_option maxRecDepth 20000 in
theorem gX8_letArrive_X8_presentSlot : GoodIn wsX8_letArrive (wsV RX8 144 RX8 yX8_presentSlot wsX8_presentSlot) := goodIn_app (goodIn_of _ (by decide +kernel)) ggX8_letArrive_X8_presentSlot
set_option maxRecDepth 20000 in
theorem ggX8_letArrive_X3_lengthOf : GoodIn wsX8_letArrive wsX3_lengthOf := goodIn_r _ [13, 14, 72, 73, 74, 75, 76] (by decide +kernel) (by decide +kernel)
set_option maxRecDepth 20000 in
theorem gX8_letArrive_X3_lengthOf : GoodIn wsX8_letArrive (wsV RX8 136 RX3 yX3_lengthOf wsX3_lengthOf) := goodIn_app (goodIn_of _ (by decide +kernel)) ggX8_letArrive_X3_lengthOf
set_option maxRecDepth 20000 in
theorem ggX8_letArrive_X3_frontOf : GoodIn wsX8_letArrive wsX3_frontOf := goodIn_r _ [18, 19, 72, 73, 74, 75, 76] (by decide +kernel) (by decide +kernel)
set_option maxRecDepth 20000 in
theorem gX8_letArrive_X3_frontOf : GoodIn wsX8_letArrive (wsV RX8 147 RX3 yX3_frontOf wsX3_frontOf) := goodIn_app (goodIn_of _ (by decide +kernel)) ggX8_letArrive_X3_frontOf
set_option maxRecDepth 20000 in
theorem ggX8_letArrive_X3_leave : GoodIn wsX8_letArrive wsX3_leave := goodIn_r _ [23, 19, 24, 25, 26, 14, 27, 28, 29, 12, 30, 31, 32, 33, 34, 72, 73, 74, 75, 76] (by decide +kernel) (by decide +kernel)
set_option maxRecDepth 20000 in
theorem gX8_letArrive_X3_leave : GoodIn wsX8_letArrive (wsV RX8 108 RX3 yX3_leave wsX3_leave) := goodIn_app (goodIn_of _ (by decide +kernel)) ggX8_letArrive_X3_leave
set_option maxRecDepth 20000 in
theorem ggX8_letArrive_X5_isIn : GoodIn wsX8_letArrive wsX5_isIn := goodIn_r _ [39, 40, 41, 42, 38, 43, 44, 77, 78] (by decide +kernel) (by decide +kernel)
set_option maxRecDepth 20000 in
theorem gX8_letArrive_X5_isIn : GoodIn wsX8_letArrive (wsV RX8 100 RX5 yX5_isIn wsX5_isIn) := goodIn_app (goodIn_of _ (by decide +kernel)) ggX8_letArrive_X5_isIn
set_option maxRecDepth 20000 in
theorem ggX8_letArrive_X8_noteSwept : GoodIn wsX8_letArrive wsX8_noteSwept := goodIn_r _ [48, 2, 49, 50, 51, 52, 53, 38, 54, 44, 59, 60, 61, 62, 63, 64, 65, 66, 67, 68, 69, 70, 71, 77, 78] (by decide +kernel) (by decide +kernel)
set_option maxRecDepth 20000 in
theorem gX8_letArrive_X8_noteSwept : GoodIn wsX8_letArrive (wsV RX8 118 RX8 yX8_noteSwept wsX8_noteSwept) := goodIn_app (goodIn_of _ (by decide +kernel)) ggX8_letArrive_X8_noteSwept
set_option maxRecDepth 20000 in
theorem ggX8_letArrive_X5_write : GoodIn wsX8_letArrive wsX5_write := goodIn_r _ [54, 44, 77, 78] (by decide +kernel) (by decide +kernel)
set_option maxRecDepth 20000 in
theorem gX8_letArrive_X5_write : GoodIn wsX8_letArrive (wsV RX8 96 RX5 yX5_write wsX5_write) := goodIn_app (goodIn_of _ (by decide +kernel)) ggX8_letArrive_X5_write
set_option maxRecDepth 20000 in
theorem ggX8_letArrive_X3_join : GoodIn wsX8_letArrive wsX3_join := goodIn_r _ [58, 25, 19, 24, 26, 14, 72, 73, 74, 75, 76] (by decide +kernel) (by decide +kernel)
set_option maxRecDepth 20000 in
theorem gX8_letArrive_X3_join : GoodIn wsX8_letArrive (wsV RX8 85 RX3 yX3_join wsX3_join) := goodIn_app (goodIn_of _ (by decide +kernel)) ggX8_letArrive_X3_join
theorem dX8_letArrive_0 : decode cX8_letArrive 0 = .ok (.aload_n 0, 1) := by decide +kernel
theorem dX8_letArrive_1 : decode cX8_letArrive 1 = .ok (.iconst 0, 1) := by decide +kernel
theorem dX8_letArrive_2 : decode cX8_letArrive 2 = .ok (.invokevirtual 144, 3) := by decide +kernel
theorem dX8_letArrive_5 : decode cX8_letArrive 5 = .ok (.istore_n 1, 1) := by decide +kernel
theorem dX8_letArrive_6 : decode cX8_letArrive 6 = .ok (.aload_n 0, 1) := by decide +kernel
theorem dX8_letArrive_7 : decode cX8_letArrive 7 = .ok (.getfield 21, 3) := by decide +kernel
theorem dX8_letArrive_10 : decode cX8_letArrive 10 = .ok (.iload_n 1, 1) := by decide +kernel
theorem dX8_letArrive_11 : decode cX8_letArrive 11 = .ok (.invokevirtual 136, 3) := by decide +kernel
theorem dX8_letArrive_14 : decode cX8_letArrive 14 = .ok (.istore_n 2, 1) := by decide +kernel
theorem dX8_letArrive_15 : decode cX8_letArrive 15 = .ok (.iconst 0, 1) := by decide +kernel
theorem dX8_letArrive_16 : decode cX8_letArrive 16 = .ok (.istore_n 3, 1) := by decide +kernel
theorem dX8_letArrive_17 : decode cX8_letArrive 17 = .ok (.iload_n 3, 1) := by decide +kernel
theorem dX8_letArrive_18 : decode cX8_letArrive 18 = .ok (.iload_n 2, 1) := by decide +kernel
theorem dX8_letArrive_19 : decode cX8_letArrive 19 = .ok (.if_icmp .ge 72, 3) := by decide +kernel
theorem dX8_letArrive_22 : decode cX8_letArrive 22 = .ok (.aload_n 0, 1) := by decide +kernel
theorem dX8_letArrive_23 : decode cX8_letArrive 23 = .ok (.getfield 21, 3) := by decide +kernel
theorem dX8_letArrive_26 : decode cX8_letArrive 26 = .ok (.iload_n 1, 1) := by decide +kernel
theorem dX8_letArrive_27 : decode cX8_letArrive 27 = .ok (.invokevirtual 147, 3) := by decide +kernel
theorem dX8_letArrive_30 : decode cX8_letArrive 30 = .ok (.istore 4, 2) := by decide +kernel
theorem dX8_letArrive_32 : decode cX8_letArrive 32 = .ok (.aload_n 0, 1) := by decide +kernel
theorem dX8_letArrive_33 : decode cX8_letArrive 33 = .ok (.getfield 21, 3) := by decide +kernel
theorem dX8_letArrive_36 : decode cX8_letArrive 36 = .ok (.iload 4, 2) := by decide +kernel
theorem dX8_letArrive_38 : decode cX8_letArrive 38 = .ok (.invokevirtual 108, 3) := by decide +kernel
theorem dX8_letArrive_41 : decode cX8_letArrive 41 = .ok (.aload_n 0, 1) := by decide +kernel
theorem dX8_letArrive_42 : decode cX8_letArrive 42 = .ok (.getfield 12, 3) := by decide +kernel
theorem dX8_letArrive_45 : decode cX8_letArrive 45 = .ok (.iload 4, 2) := by decide +kernel
theorem dX8_letArrive_47 : decode cX8_letArrive 47 = .ok (.iconst 3, 1) := by decide +kernel
theorem dX8_letArrive_48 : decode cX8_letArrive 48 = .ok (.invokevirtual 100, 3) := by decide +kernel
theorem dX8_letArrive_51 : decode cX8_letArrive 51 = .ok (.ifCond .eq 12, 3) := by decide +kernel
theorem dX8_letArrive_54 : decode cX8_letArrive 54 = .ok (.aload_n 0, 1) := by decide +kernel
theorem dX8_letArrive_55 : decode cX8_letArrive 55 = .ok (.iload 4, 2) := by decide +kernel
theorem dX8_letArrive_57 : decode cX8_letArrive 57 = .ok (.invokevirtual 118, 3) := by decide +kernel
theorem dX8_letArrive_60 : decode cX8_letArrive 60 = .ok (.goto 25, 3) := by decide +kernel
theorem dX8_letArrive_63 : decode cX8_letArrive 63 = .ok (.aload_n 0, 1) := by decide +kernel
theorem dX8_letArrive_64 : decode cX8_letArrive 64 = .ok (.getfield 12, 3) := by decide +kernel
theorem dX8_letArrive_67 : decode cX8_letArrive 67 = .ok (.iload 4, 2) := by decide +kernel
theorem dX8_letArrive_69 : decode cX8_letArrive 69 = .ok (.iconst 0, 1) := by decide +kernel
theorem dX8_letArrive_70 : decode cX8_letArrive 70 = .ok (.iconst 1, 1) := by decide +kernel
theorem dX8_letArrive_71 : decode cX8_letArrive 71 = .ok (.invokevirtual 96, 3) := by decide +kernel
theorem dX8_letArrive_74 : decode cX8_letArrive 74 = .ok (.aload_n 0, 1) := by decide +kernel
theorem dX8_letArrive_75 : decode cX8_letArrive 75 = .ok (.getfield 21, 3) := by decide +kernel
theorem dX8_letArrive_78 : decode cX8_letArrive 78 = .ok (.bipush 24, 2) := by decide +kernel
theorem dX8_letArrive_80 : decode cX8_letArrive 80 = .ok (.iload 4, 2) := by decide +kernel
theorem dX8_letArrive_82 : decode cX8_letArrive 82 = .ok (.invokevirtual 85, 3) := by decide +kernel
theorem dX8_letArrive_85 : decode cX8_letArrive 85 = .ok (.iinc 3 1, 3) := by decide +kernel
theorem dX8_letArrive_88 : decode cX8_letArrive 88 = .ok (.goto (-71), 3) := by decide +kernel
theorem dX8_letArrive_91 : decode cX8_letArrive 91 = .ok (.return_, 1) := by decide +kernel
set_option maxRecDepth 20000 in
theorem ggX8_serveQueue_X3_lengthOf : GoodIn wsX8_serveQueue wsX3_lengthOf := goodIn_r _ [8, 9, 97, 98, 99, 100, 101] (by decide +kernel) (by decide +kernel)
set_option maxRecDepth 20000 in
theorem gX8_serveQueue_X3_lengthOf : GoodIn wsX8_serveQueue (wsV RX8 136 RX3 yX3_lengthOf wsX3_lengthOf) := goodIn_app (goodIn_of _ (by decide +kernel)) ggX8_serveQueue_X3_lengthOf
set_option maxRecDepth 20000 in
theorem ggX8_serveQueue_X3_frontOf : GoodIn wsX8_serveQueue wsX3_frontOf := goodIn_r _ [13, 14, 97, 98, 99, 100, 101] (by decide +kernel) (by decide +kernel)
set_option maxRecDepth 20000 in
theorem gX8_serveQueue_X3_frontOf : GoodIn wsX8_serveQueue (wsV RX8 147 RX3 yX3_frontOf wsX3_frontOf) := goodIn_app (goodIn_of _ (by decide +kernel)) ggX8_serveQueue_X3_frontOf
set_option maxRecDepth 20000 in
theorem ggX8_serveQueue_X3_leave : GoodIn wsX8_serveQueue wsX3_leave := goodIn_r _ [18, 14, 19, 20, 21, 9, 22, 23, 24, 7, 25, 26, 27, 28, 29, 97, 98, 99, 100, 101] (by decide +kernel) (by decide +kernel)
set_option maxRecDepth 20000 in
theorem gX8_serveQueue_X3_leave : GoodIn wsX8_serveQueue (wsV RX8 108 RX3 yX3_leave wsX3_leave) := goodIn_app (goodIn_of _ (by decide +kernel)) ggX8_serveQueue_X3_leave
set_option maxRecDepth 20000 in
theorem ggX8_serveQueue_X5_isIn : GoodIn wsX8_serveQueue wsX5_isIn := goodIn_r _ [34, 35, 36, 37, 33, 38, 39, 102, 103] (by decide +kernel) (by decide +kernel)
set_option maxRecDepth 20000 in
theorem gX8_serveQueue_X5_isIn : GoodIn wsX8_serveQueue (wsV RX8 100 RX5 yX5_isIn wsX5_isIn) := goodIn_app (goodIn_of _ (by decide +kernel)) ggX8_serveQueue_X5_isIn
set_option maxRecDepth 20000 in
theorem ggX8_serveQueue_X8_noteSwept : GoodIn wsX8_serveQueue wsX8_noteSwept := goodIn_r _ [44, 3, 45, 46, 47, 48, 49, 33, 50, 39, 84, 85, 86, 87, 88, 89, 90, 91, 92, 93, 94, 95, 96, 102, 103] (by decide +kernel) (by decide +kernel)
set_option maxRecDepth 20000 in
theorem gX8_serveQueue_X8_noteSwept : GoodIn wsX8_serveQueue (wsV RX8 118 RX8 yX8_noteSwept wsX8_noteSwept) := goodIn_app (goodIn_of _ (by decide +kernel)) ggX8_serveQueue_X8_noteSwept
set_option maxRecDepth 20000 in
theorem ggX8_serveQueue_X8_callPromise : GoodIn wsX8_serveQueue wsX8_callPromise := goodIn_r _ [54, 3, 55, 56, 57, 1, 58, 36, 37, 33, 38, 39, 47, 48, 49, 50, 59, 60, 61, 62, 63, 64, 65, 66, 67, 68, 69, 70, 71, 72, 43, 73, 74, 75, 76, 77, 78, 79, 80, 81, 82, 7, 83, 20, 14, 19, 21, 9, 84, 85, 86, 87, 88, 89, 90, 91, 92, 93, 94, 95, 96, 102, 103, 104, 105, 97, 98, 99, 100, 101] (by decide +kernel) (by decide +kernel)
set_option maxRecDepth 20000 in
theorem gX8_serveQueue_X8_callPromise : GoodIn wsX8_serveQueue (wsV RX8 150 RX8 yX8_callPromise wsX8_callPromise) := goodIn_app (goodIn_of _ (by decide +kernel)) ggX8_serveQueue_X8_callPromise
theorem dX8_serveQueue_0 : decode cX8_serveQueue 0 = .ok (.aload_n 0, 1) := by decide +kernel
theorem dX8_serveQueue_1 : decode cX8_serveQueue 1 = .ok (.getfield 21, 3) := by decide +kernel
theorem dX8_serveQueue_4 : decode cX8_serveQueue 4 = .ok (.bipush 24, 2) := by decide +kernel
theorem dX8_serveQueue_6 : decode cX8_serveQueue 6 = .ok (.invokevirtual 136, 3) := by decide +kernel
theorem dX8_serveQueue_9 : decode cX8_serveQueue 9 = .ok (.istore_n 1, 1) := by decide +kernel
theorem dX8_serveQueue_10 : decode cX8_serveQueue 10 = .ok (.iconst 0, 1) := by decide +kernel
theorem dX8_serveQueue_11 : decode cX8_serveQueue 11 = .ok (.istore_n 2, 1) := by decide +kernel
theorem dX8_serveQueue_12 : decode cX8_serveQueue 12 = .ok (.iconst 0, 1) := by decide +kernel
theorem dX8_serveQueue_13 : decode cX8_serveQueue 13 = .ok (.istore_n 3, 1) := by decide +kernel
theorem dX8_serveQueue_14 : decode cX8_serveQueue 14 = .ok (.iload_n 3, 1) := by decide +kernel
theorem dX8_serveQueue_15 : decode cX8_serveQueue 15 = .ok (.iload_n 1, 1) := by decide +kernel
theorem dX8_serveQueue_16 : decode cX8_serveQueue 16 = .ok (.if_icmp .ge 68, 3) := by decide +kernel
theorem dX8_serveQueue_19 : decode cX8_serveQueue 19 = .ok (.iload_n 2, 1) := by decide +kernel
theorem dX8_serveQueue_20 : decode cX8_serveQueue 20 = .ok (.aload_n 0, 1) := by decide +kernel
theorem dX8_serveQueue_21 : decode cX8_serveQueue 21 = .ok (.getfield 32, 3) := by decide +kernel
theorem dX8_serveQueue_24 : decode cX8_serveQueue 24 = .ok (.if_icmp .ge 60, 3) := by decide +kernel
theorem dX8_serveQueue_27 : decode cX8_serveQueue 27 = .ok (.aload_n 0, 1) := by decide +kernel
theorem dX8_serveQueue_28 : decode cX8_serveQueue 28 = .ok (.getfield 21, 3) := by decide +kernel
theorem dX8_serveQueue_31 : decode cX8_serveQueue 31 = .ok (.bipush 24, 2) := by decide +kernel
theorem dX8_serveQueue_33 : decode cX8_serveQueue 33 = .ok (.invokevirtual 147, 3) := by decide +kernel
theorem dX8_serveQueue_36 : decode cX8_serveQueue 36 = .ok (.istore 4, 2) := by decide +kernel
theorem dX8_serveQueue_38 : decode cX8_serveQueue 38 = .ok (.aload_n 0, 1) := by decide +kernel
theorem dX8_serveQueue_39 : decode cX8_serveQueue 39 = .ok (.getfield 21, 3) := by decide +kernel
theorem dX8_serveQueue_42 : decode cX8_serveQueue 42 = .ok (.iload 4, 2) := by decide +kernel
theorem dX8_serveQueue_44 : decode cX8_serveQueue 44 = .ok (.invokevirtual 108, 3) := by decide +kernel
theorem dX8_serveQueue_47 : decode cX8_serveQueue 47 = .ok (.aload_n 0, 1) := by decide +kernel
theorem dX8_serveQueue_48 : decode cX8_serveQueue 48 = .ok (.getfield 12, 3) := by decide +kernel
theorem dX8_serveQueue_51 : decode cX8_serveQueue 51 = .ok (.iload 4, 2) := by decide +kernel
theorem dX8_serveQueue_53 : decode cX8_serveQueue 53 = .ok (.iconst 3, 1) := by decide +kernel
theorem dX8_serveQueue_54 : decode cX8_serveQueue 54 = .ok (.invokevirtual 100, 3) := by decide +kernel
theorem dX8_serveQueue_57 : decode cX8_serveQueue 57 = .ok (.ifCond .eq 12, 3) := by decide +kernel
theorem dX8_serveQueue_60 : decode cX8_serveQueue 60 = .ok (.aload_n 0, 1) := by decide +kernel
theorem dX8_serveQueue_61 : decode cX8_serveQueue 61 = .ok (.iload 4, 2) := by decide +kernel
theorem dX8_serveQueue_63 : decode cX8_serveQueue 63 = .ok (.invokevirtual 118, 3) := by decide +kernel
theorem dX8_serveQueue_66 : decode cX8_serveQueue 66 = .ok (.goto 12, 3) := by decide +kernel
theorem dX8_serveQueue_69 : decode cX8_serveQueue 69 = .ok (.aload_n 0, 1) := by decide +kernel
theorem dX8_serveQueue_70 : decode cX8_serveQueue 70 = .ok (.iload 4, 2) := by decide +kernel
theorem dX8_serveQueue_72 : decode cX8_serveQueue 72 = .ok (.invokevirtual 150, 3) := by decide +kernel
theorem dX8_serveQueue_75 : decode cX8_serveQueue 75 = .ok (.iinc 2 1, 3) := by decide +kernel
theorem dX8_serveQueue_78 : decode cX8_serveQueue 78 = .ok (.iinc 3 1, 3) := by decide +kernel
theorem dX8_serveQueue_81 : decode cX8_serveQueue 81 = .ok (.goto (-67), 3) := by decide +kernel
theorem dX8_serveQueue_84 : decode cX8_serveQueue 84 = .ok (.return_, 1) := by decide +kernel
set_option maxRecDepth 20000 in
theorem ggX8_callPromise_X5_fact : GoodIn wsX8_callPromise wsX5_fact := goodIn_r _ [10, 11, 61, 62] (by decide +kernel) (by decide +kernel)
set_option maxRecDepth 20000 in
theorem gX8_callPromise_X5_fact : GoodIn wsX8_callPromise (wsV RX8 104 RX5 yX5_fact wsX5_fact) := goodIn_app (goodIn_of _ (by decide +kernel)) ggX8_callPromise_X5_fact
set_option maxRecDepth 20000 in
theorem ggX8_callPromise_X5_write : GoodIn wsX8_callPromise wsX5_write := goodIn_r _ [15, 11, 61, 62] (by decide +kernel) (by decide +kernel)
set_option maxRecDepth 20000 in
theorem gX8_callPromise_X5_write : GoodIn wsX8_callPromise (wsV RX8 96 RX5 yX5_write wsX5_write) := goodIn_app (goodIn_of _ (by decide +kernel)) ggX8_callPromise_X5_write
set_option maxRecDepth 20000 in
theorem ggX8_callPromise_X0_write : GoodIn wsX8_callPromise wsX0_write := goodIn_r _ [20, 21, 22, 23, 24, 25, 26, 63, 64] (by decide +kernel) (by decide +kernel)
set_option maxRecDepth 20000 in
theorem gX8_callPromise_X0_write : GoodIn wsX8_callPromise (wsV RX8 153 RX0 yX0_write wsX0_write) := goodIn_app (goodIn_of _ (by decide +kernel)) ggX8_callPromise_X0_write
set_option maxRecDepth 20000 in
theorem ggX8_callPromise_X8_dueOfRepetition : GoodIn wsX8_callPromise wsX8_dueOfRepetition := goodIn_r _ [31, 32, 2, 33, 48, 49, 50, 51, 52, 53, 54, 55, 56, 57, 58, 59, 60] (by decide +kernel) (by decide +kernel)
set_option maxRecDepth 20000 in
theorem gX8_callPromise_X8_dueOfRepetition : GoodIn wsX8_callPromise (wsV RX8 154 RX8 yX8_dueOfRepetition wsX8_dueOfRepetition) := goodIn_app (goodIn_of _ (by decide +kernel)) ggX8_callPromise_X8_dueOfRepetition
set_option maxRecDepth 20000 in
theorem ggX8_callPromise_X8_lineFor : GoodIn wsX8_callPromise wsX8_lineFor := goodIn_r _ [37, 2, 48, 49, 50, 51, 52, 53, 54, 55, 56, 57, 58, 59, 60] (by decide +kernel) (by decide +kernel)
set_option maxRecDepth 20000 in
theorem gX8_callPromise_X8_lineFor : GoodIn wsX8_callPromise (wsV RX8 81 RX8 yX8_lineFor wsX8_lineFor) := goodIn_app (goodIn_of _ (by decide +kernel)) ggX8_callPromise_X8_lineFor
set_option maxRecDepth 20000 in
theorem ggX8_callPromise_X3_join : GoodIn wsX8_callPromise wsX3_join := goodIn_r _ [42, 43, 44, 45, 46, 47, 65, 66, 67, 68, 69] (by decide +kernel) (by decide +kernel)
set_option maxRecDepth 20000 in
theorem gX8_callPromise_X3_join : GoodIn wsX8_callPromise (wsV RX8 85 RX3 yX3_join wsX3_join) := goodIn_app (goodIn_of _ (by decide +kernel)) ggX8_callPromise_X3_join
theorem dX8_callPromise_0 : decode cX8_callPromise 0 = .ok (.aload_n 0, 1) := by decide +kernel
theorem dX8_callPromise_1 : decode cX8_callPromise 1 = .ok (.getfield 12, 3) := by decide +kernel
theorem dX8_callPromise_4 : decode cX8_callPromise 4 = .ok (.iload_n 1, 1) := by decide +kernel
theorem dX8_callPromise_5 : decode cX8_callPromise 5 = .ok (.iconst 1, 1) := by decide +kernel
theorem dX8_callPromise_6 : decode cX8_callPromise 6 = .ok (.invokevirtual 104, 3) := by decide +kernel
theorem dX8_callPromise_9 : decode cX8_callPromise 9 = .ok (.istore_n 2, 1) := by decide +kernel
theorem dX8_callPromise_10 : decode cX8_callPromise 10 = .ok (.aload_n 0, 1) := by decide +kernel
theorem dX8_callPromise_11 : decode cX8_callPromise 11 = .ok (.getfield 49, 3) := by decide +kernel
theorem dX8_callPromise_14 : decode cX8_callPromise 14 = .ok (.iload_n 2, 1) := by decide +kernel
theorem dX8_callPromise_15 : decode cX8_callPromise 15 = .ok (.isub, 1) := by decide +kernel
theorem dX8_callPromise_16 : decode cX8_callPromise 16 = .ok (.istore_n 3, 1) := by decide +kernel
theorem dX8_callPromise_17 : decode cX8_callPromise 17 = .ok (.iload_n 3, 1) := by decide +kernel
theorem dX8_callPromise_18 : decode cX8_callPromise 18 = .ok (.ifCond .le 33, 3) := by decide +kernel
theorem dX8_callPromise_21 : decode cX8_callPromise 21 = .ok (.aload_n 0, 1) := by decide +kernel
theorem dX8_callPromise_22 : decode cX8_callPromise 22 = .ok (.dup, 1) := by decide +kernel
theorem dX8_callPromise_23 : decode cX8_callPromise 23 = .ok (.getfield 58, 3) := by decide +kernel
theorem dX8_callPromise_26 : decode cX8_callPromise 26 = .ok (.iconst 1, 1) := by decide +kernel
theorem dX8_callPromise_27 : decode cX8_callPromise 27 = .ok (.iadd, 1) := by decide +kernel
theorem dX8_callPromise_28 : decode cX8_callPromise 28 = .ok (.putfield 58, 3) := by decide +kernel
theorem dX8_callPromise_31 : decode cX8_callPromise 31 = .ok (.aload_n 0, 1) := by decide +kernel
theorem dX8_callPromise_32 : decode cX8_callPromise 32 = .ok (.getfield 12, 3) := by decide +kernel
theorem dX8_callPromise_35 : decode cX8_callPromise 35 = .ok (.iload_n 1, 1) := by decide +kernel
theorem dX8_callPromise_36 : decode cX8_callPromise 36 = .ok (.iconst 5, 1) := by decide +kernel
theorem dX8_callPromise_37 : decode cX8_callPromise 37 = .ok (.aload_n 0, 1) := by decide +kernel
theorem dX8_callPromise_38 : decode cX8_callPromise 38 = .ok (.getfield 12, 3) := by decide +kernel
theorem dX8_callPromise_41 : decode cX8_callPromise 41 = .ok (.iload_n 1, 1) := by decide +kernel
theorem dX8_callPromise_42 : decode cX8_callPromise 42 = .ok (.iconst 5, 1) := by decide +kernel
theorem dX8_callPromise_43 : decode cX8_callPromise 43 = .ok (.invokevirtual 104, 3) := by decide +kernel
theorem dX8_callPromise_46 : decode cX8_callPromise 46 = .ok (.iload_n 3, 1) := by decide +kernel
theorem dX8_callPromise_47 : decode cX8_callPromise 47 = .ok (.iadd, 1) := by decide +kernel
theorem dX8_callPromise_48 : decode cX8_callPromise 48 = .ok (.invokevirtual 96, 3) := by decide +kernel
theorem dX8_callPromise_51 : decode cX8_callPromise 51 = .ok (.aload_n 0, 1) := by decide +kernel
theorem dX8_callPromise_52 : decode cX8_callPromise 52 = .ok (.getfield 28, 3) := by decide +kernel
theorem dX8_callPromise_55 : decode cX8_callPromise 55 = .ok (.iload_n 1, 1) := by decide +kernel
theorem dX8_callPromise_56 : decode cX8_callPromise 56 = .ok (.iload_n 2, 1) := by decide +kernel
theorem dX8_callPromise_57 : decode cX8_callPromise 57 = .ok (.aload_n 0, 1) := by decide +kernel
theorem dX8_callPromise_58 : decode cX8_callPromise 58 = .ok (.getfield 49, 3) := by decide +kernel
theorem dX8_callPromise_61 : decode cX8_callPromise 61 = .ok (.invokevirtual 153, 3) := by decide +kernel
theorem dX8_callPromise_64 : decode cX8_callPromise 64 = .ok (.aload_n 0, 1) := by decide +kernel
theorem dX8_callPromise_65 : decode cX8_callPromise 65 = .ok (.getfield 12, 3) := by decide +kernel
theorem dX8_callPromise_68 : decode cX8_callPromise 68 = .ok (.iload_n 1, 1) := by decide +kernel
theorem dX8_callPromise_69 : decode cX8_callPromise 69 = .ok (.iconst 4, 1) := by decide +kernel
theorem dX8_callPromise_70 : decode cX8_callPromise 70 = .ok (.aload_n 0, 1) := by decide +kernel
theorem dX8_callPromise_71 : decode cX8_callPromise 71 = .ok (.getfield 12, 3) := by decide +kernel
theorem dX8_callPromise_74 : decode cX8_callPromise 74 = .ok (.iload_n 1, 1) := by decide +kernel
theorem dX8_callPromise_75 : decode cX8_callPromise 75 = .ok (.iconst 4, 1) := by decide +kernel
theorem dX8_callPromise_76 : decode cX8_callPromise 76 = .ok (.invokevirtual 104, 3) := by decide +kernel
theorem dX8_callPromise_79 : decode cX8_callPromise 79 = .ok (.iconst 1, 1) := by decide +kernel
theorem dX8_callPromise_80 : decode cX8_callPromise 80 = .ok (.iadd, 1) := by decide +kernel
theorem dX8_callPromise_81 : decode cX8_callPromise 81 = .ok (.invokevirtual 96, 3) := by decide +kernel
theorem dX8_callPromise_84 : decode cX8_callPromise 84 = .ok (.aload_n 0, 1) := by decide +kernel
theorem dX8_callPromise_85 : decode cX8_callPromise 85 = .ok (.getfield 12, 3) := by decide +kernel
theorem dX8_callPromise_88 : decode cX8_callPromise 88 = .ok (.iload_n 1, 1) := by decide +kernel
theorem dX8_callPromise_89 : decode cX8_callPromise 89 = .ok (.iconst 3, 1) := by decide +kernel
theorem dX8_callPromise_90 : decode cX8_callPromise 90 = .ok (.invokevirtual 104, 3) := by decide +kernel
theorem dX8_callPromise_93 : decode cX8_callPromise 93 = .ok (.istore 4, 2) := by decide +kernel
theorem dX8_callPromise_95 : decode cX8_callPromise 95 = .ok (.iload 4, 2) := by decide +kernel
theorem dX8_callPromise_97 : decode cX8_callPromise 97 = .ok (.iconst 1, 1) := by decide +kernel
theorem dX8_callPromise_98 : decode cX8_callPromise 98 = .ok (.if_icmp .ge 14, 3) := by decide +kernel
theorem dX8_callPromise_101 : decode cX8_callPromise 101 = .ok (.aload_n 0, 1) := by decide +kernel
theorem dX8_callPromise_102 : decode cX8_callPromise 102 = .ok (.getfield 12, 3) := by decide +kernel
theorem dX8_callPromise_105 : decode cX8_callPromise 105 = .ok (.iload_n 1, 1) := by decide +kernel
theorem dX8_callPromise_106 : decode cX8_callPromise 106 = .ok (.iconst 0, 1) := by decide +kernel
theorem dX8_callPromise_107 : decode cX8_callPromise 107 = .ok (.iconst 2, 1) := by decide +kernel
theorem dX8_callPromise_108 : decode cX8_callPromise 108 = .ok (.invokevirtual 96, 3) := by decide +kernel
theorem dX8_callPromise_111 : decode cX8_callPromise 111 = .ok (.return_, 1) := by decide +kernel
theorem dX8_callPromise_112 : decode cX8_callPromise 112 = .ok (.aload_n 0, 1) := by decide +kernel
theorem dX8_callPromise_113 : decode cX8_callPromise 113 = .ok (.iload_n 2, 1) := by decide +kernel
theorem dX8_callPromise_114 : decode cX8_callPromise 114 = .ok (.aload_n 0, 1) := by decide +kernel
theorem dX8_callPromise_115 : decode cX8_callPromise 115 = .ok (.getfield 12, 3) := by decide +kernel
theorem dX8_callPromise_118 : decode cX8_callPromise 118 = .ok (.iload_n 1, 1) := by decide +kernel
theorem dX8_callPromise_119 : decode cX8_callPromise 119 = .ok (.iconst 2, 1) := by decide +kernel
theorem dX8_callPromise_120 : decode cX8_callPromise 120 = .ok (.invokevirtual 104, 3) := by decide +kernel
theorem dX8_callPromise_123 : decode cX8_callPromise 123 = .ok (.invokevirtual 154, 3) := by decide +kernel
theorem dX8_callPromise_126 : decode cX8_callPromise 126 = .ok (.istore 5, 2) := by decide +kernel
theorem dX8_callPromise_128 : decode cX8_callPromise 128 = .ok (.aload_n 0, 1) := by decide +kernel
theorem dX8_callPromise_129 : decode cX8_callPromise 129 = .ok (.getfield 12, 3) := by decide +kernel
theorem dX8_callPromise_132 : decode cX8_callPromise 132 = .ok (.iload_n 1, 1) := by decide +kernel
theorem dX8_callPromise_133 : decode cX8_callPromise 133 = .ok (.iconst 3, 1) := by decide +kernel
theorem dX8_callPromise_134 : decode cX8_callPromise 134 = .ok (.iload 4, 2) := by decide +kernel
theorem dX8_callPromise_136 : decode cX8_callPromise 136 = .ok (.iconst 1, 1) := by decide +kernel
theorem dX8_callPromise_137 : decode cX8_callPromise 137 = .ok (.isub, 1) := by decide +kernel
theorem dX8_callPromise_138 : decode cX8_callPromise 138 = .ok (.invokevirtual 96, 3) := by decide +kernel
theorem dX8_callPromise_141 : decode cX8_callPromise 141 = .ok (.aload_n 0, 1) := by decide +kernel
theorem dX8_callPromise_142 : decode cX8_callPromise 142 = .ok (.getfield 12, 3) := by decide +kernel
theorem dX8_callPromise_145 : decode cX8_callPromise 145 = .ok (.iload_n 1, 1) := by decide +kernel
theorem dX8_callPromise_146 : decode cX8_callPromise 146 = .ok (.iconst 1, 1) := by decide +kernel
theorem dX8_callPromise_147 : decode cX8_callPromise 147 = .ok (.iload 5, 2) := by decide +kernel
theorem dX8_callPromise_149 : decode cX8_callPromise 149 = .ok (.invokevirtual 96, 3) := by decide +kernel
theorem dX8_callPromise_152 : decode cX8_callPromise 152 = .ok (.aload_n 0, 1) := by decide +kernel
theorem dX8_callPromise_153 : decode cX8_callPromise 153 = .ok (.getfield 12, 3) := by decide +kernel
theorem dX8_callPromise_156 : decode cX8_callPromise 156 = .ok (.iload_n 1, 1) := by decide +kernel
theorem dX8_callPromise_157 : decode cX8_callPromise 157 = .ok (.iconst 0, 1) := by decide +kernel
theorem dX8_callPromise_158 : decode cX8_callPromise 158 = .ok (.iconst 0, 1) := by decide +kernel
theorem dX8_callPromise_159 : decode cX8_callPromise 159 = .ok (.invokevirtual 96, 3) := by decide +kernel
theorem dX8_callPromise_162 : decode cX8_callPromise 162 = .ok (.aload_n 0, 1) := by decide +kernel
theorem dX8_callPromise_163 : decode cX8_callPromise 163 = .ok (.getfield 21, 3) := by decide +kernel
theorem dX8_callPromise_166 : decode cX8_callPromise 166 = .ok (.aload_n 0, 1) := by decide +kernel
theorem dX8_callPromise_167 : decode cX8_callPromise 167 = .ok (.iload 5, 2) := by decide +kernel
theorem dX8_callPromise_169 : decode cX8_callPromise 169 = .ok (.invokevirtual 81, 3) := by decide +kernel
theorem dX8_callPromise_172 : decode cX8_callPromise 172 = .ok (.iload_n 1, 1) := by decide +kernel
theorem dX8_callPromise_173 : decode cX8_callPromise 173 = .ok (.invokevirtual 85, 3) := by decide +kernel
theorem dX8_callPromise_176 : decode cX8_callPromise 176 = .ok (.return_, 1) := by decide +kernel
theorem dX8_dueOfRepetition_0 : decode cX8_dueOfRepetition 0 = .ok (.aload_n 0, 1) := by decide +kernel
theorem dX8_dueOfRepetition_1 : decode cX8_dueOfRepetition 1 = .ok (.getfield 52, 3) := by decide +kernel
theorem dX8_dueOfRepetition_4 : decode cX8_dueOfRepetition 4 = .ok (.iconst 1, 1) := by decide +kernel
theorem dX8_dueOfRepetition_5 : decode cX8_dueOfRepetition 5 = .ok (.if_icmp .eq 8, 3) := by decide +kernel
theorem dX8_dueOfRepetition_8 : decode cX8_dueOfRepetition 8 = .ok (.iload_n 2, 1) := by decide +kernel
theorem dX8_dueOfRepetition_9 : decode cX8_dueOfRepetition 9 = .ok (.iconst 1, 1) := by decide +kernel
theorem dX8_dueOfRepetition_10 : decode cX8_dueOfRepetition 10 = .ok (.if_icmp .ge 10, 3) := by decide +kernel
theorem dX8_dueOfRepetition_13 : decode cX8_dueOfRepetition 13 = .ok (.aload_n 0, 1) := by decide +kernel
theorem dX8_dueOfRepetition_14 : decode cX8_dueOfRepetition 14 = .ok (.getfield 49, 3) := by decide +kernel
theorem dX8_dueOfRepetition_17 : decode cX8_dueOfRepetition 17 = .ok (.iload_n 2, 1) := by decide +kernel
theorem dX8_dueOfRepetition_18 : decode cX8_dueOfRepetition 18 = .ok (.iadd, 1) := by decide +kernel
theorem dX8_dueOfRepetition_19 : decode cX8_dueOfRepetition 19 = .ok (.ireturn, 1) := by decide +kernel
theorem dX8_dueOfRepetition_20 : decode cX8_dueOfRepetition 20 = .ok (.aload_n 0, 1) := by decide +kernel
theorem dX8_dueOfRepetition_21 : decode cX8_dueOfRepetition 21 = .ok (.getfield 49, 3) := by decide +kernel
theorem dX8_dueOfRepetition_24 : decode cX8_dueOfRepetition 24 = .ok (.iload_n 1, 1) := by decide +kernel
theorem dX8_dueOfRepetition_25 : decode cX8_dueOfRepetition 25 = .ok (.isub, 1) := by decide +kernel
theorem dX8_dueOfRepetition_26 : decode cX8_dueOfRepetition 26 = .ok (.iload_n 2, 1) := by decide +kernel
theorem dX8_dueOfRepetition_27 : decode cX8_dueOfRepetition 27 = .ok (.idiv, 1) := by decide +kernel
theorem dX8_dueOfRepetition_28 : decode cX8_dueOfRepetition 28 = .ok (.iconst 1, 1) := by decide +kernel
theorem dX8_dueOfRepetition_29 : decode cX8_dueOfRepetition 29 = .ok (.iadd, 1) := by decide +kernel
theorem dX8_dueOfRepetition_30 : decode cX8_dueOfRepetition 30 = .ok (.istore_n 3, 1) := by decide +kernel
theorem dX8_dueOfRepetition_31 : decode cX8_dueOfRepetition 31 = .ok (.aload_n 0, 1) := by decide +kernel
theorem dX8_dueOfRepetition_32 : decode cX8_dueOfRepetition 32 = .ok (.dup, 1) := by decide +kernel
theorem dX8_dueOfRepetition_33 : decode cX8_dueOfRepetition 33 = .ok (.getfield 67, 3) := by decide +kernel
theorem dX8_dueOfRepetition_36 : decode cX8_dueOfRepetition 36 = .ok (.iload_n 3, 1) := by decide +kernel
theorem dX8_dueOfRepetition_37 : decode cX8_dueOfRepetition 37 = .ok (.iconst 1, 1) := by decide +kernel
theorem dX8_dueOfRepetition_38 : decode cX8_dueOfRepetition 38 = .ok (.isub, 1) := by decide +kernel
theorem dX8_dueOfRepetition_39 : decode cX8_dueOfRepetition 39 = .ok (.iadd, 1) := by decide +kernel
theorem dX8_dueOfRepetition_40 : decode cX8_dueOfRepetition 40 = .ok (.putfield 67, 3) := by decide +kernel
theorem dX8_dueOfRepetition_43 : decode cX8_dueOfRepetition 43 = .ok (.iload_n 1, 1) := by decide +kernel
theorem dX8_dueOfRepetition_44 : decode cX8_dueOfRepetition 44 = .ok (.iload_n 3, 1) := by decide +kernel
theorem dX8_dueOfRepetition_45 : decode cX8_dueOfRepetition 45 = .ok (.iload_n 2, 1) := by decide +kernel
theorem dX8_dueOfRepetition_46 : decode cX8_dueOfRepetition 46 = .ok (.imul, 1) := by decide +kernel
theorem dX8_dueOfRepetition_47 : decode cX8_dueOfRepetition 47 = .ok (.iadd, 1) := by decide +kernel
theorem dX8_dueOfRepetition_48 : decode cX8_dueOfRepetition 48 = .ok (.ireturn, 1) := by decide +kernel
set_option maxRecDepth 20000 in
theorem ggX8_noteSwept_X5_write : GoodIn wsX8_noteSwept wsX5_write := goodIn_r _ [8, 9, 23, 24] (by decide +kernel) (by decide +kernel)
set_option maxRecDepth 20000 in
theorem gX8_noteSwept_X5_write : GoodIn wsX8_noteSwept (wsV RX8 96 RX5 yX5_write wsX5_write) := goodIn_app (goodIn_of _ (by decide +kernel)) ggX8_noteSwept_X5_write
theorem dX8_noteSwept_0 : decode cX8_noteSwept 0 = .ok (.aload_n 0, 1) := by decide +kernel
theorem dX8_noteSwept_1 : decode cX8_noteSwept 1 = .ok (.getfield 12, 3) := by decide +kernel
theorem dX8_noteSwept_4 : decode cX8_noteSwept 4 = .ok (.iload_n 1, 1) := by decide +kernel
theorem dX8_noteSwept_5 : decode cX8_noteSwept 5 = .ok (.iconst 0, 1) := by decide +kernel
theorem dX8_noteSwept_6 : decode cX8_noteSwept 6 = .ok (.iconst 4, 1) := by decide +kernel
theorem dX8_noteSwept_7 : decode cX8_noteSwept 7 = .ok (.invokevirtual 96, 3) := by decide +kernel
theorem dX8_noteSwept_10 : decode cX8_noteSwept 10 = .ok (.aload_n 0, 1) := by decide +kernel
theorem dX8_noteSwept_11 : decode cX8_noteSwept 11 = .ok (.dup, 1) := by decide +kernel
theorem dX8_noteSwept_12 : decode cX8_noteSwept 12 = .ok (.getfield 55, 3) := by decide +kernel
theorem dX8_noteSwept_15 : decode cX8_noteSwept 15 = .ok (.iconst 1, 1) := by decide +kernel
theorem dX8_noteSwept_16 : decode cX8_noteSwept 16 = .ok (.isub, 1) := by decide +kernel
theorem dX8_noteSwept_17 : decode cX8_noteSwept 17 = .ok (.putfield 55, 3) := by decide +kernel
theorem dX8_noteSwept_20 : decode cX8_noteSwept 20 = .ok (.aload_n 0, 1) := by decide +kernel
theorem dX8_noteSwept_21 : decode cX8_noteSwept 21 = .ok (.dup, 1) := by decide +kernel
theorem dX8_noteSwept_22 : decode cX8_noteSwept 22 = .ok (.getfield 64, 3) := by decide +kernel
theorem dX8_noteSwept_25 : decode cX8_noteSwept 25 = .ok (.iconst 1, 1) := by decide +kernel
theorem dX8_noteSwept_26 : decode cX8_noteSwept 26 = .ok (.iadd, 1) := by decide +kernel
theorem dX8_noteSwept_27 : decode cX8_noteSwept 27 = .ok (.putfield 64, 3) := by decide +kernel
theorem dX8_noteSwept_30 : decode cX8_noteSwept 30 = .ok (.return_, 1) := by decide +kernel
theorem dX8_lineFor_0 : decode cX8_lineFor 0 = .ok (.iload_n 1, 1) := by decide +kernel
theorem dX8_lineFor_1 : decode cX8_lineFor 1 = .ok (.aload_n 0, 1) := by decide +kernel
theorem dX8_lineFor_2 : decode cX8_lineFor 2 = .ok (.getfield 49, 3) := by decide +kernel
theorem dX8_lineFor_5 : decode cX8_lineFor 5 = .ok (.isub, 1) := by decide +kernel
theorem dX8_lineFor_6 : decode cX8_lineFor 6 = .ok (.istore_n 2, 1) := by decide +kernel
theorem dX8_lineFor_7 : decode cX8_lineFor 7 = .ok (.iload_n 2, 1) := by decide +kernel
theorem dX8_lineFor_8 : decode cX8_lineFor 8 = .ok (.bipush 8, 2) := by decide +kernel
theorem dX8_lineFor_10 : decode cX8_lineFor 10 = .ok (.if_icmp .ge 8, 3) := by decide +kernel
theorem dX8_lineFor_13 : decode cX8_lineFor 13 = .ok (.iload_n 1, 1) := by decide +kernel
theorem dX8_lineFor_14 : decode cX8_lineFor 14 = .ok (.bipush 8, 2) := by decide +kernel
theorem dX8_lineFor_16 : decode cX8_lineFor 16 = .ok (.irem, 1) := by decide +kernel
theorem dX8_lineFor_17 : decode cX8_lineFor 17 = .ok (.ireturn, 1) := by decide +kernel
theorem dX8_lineFor_18 : decode cX8_lineFor 18 = .ok (.iload_n 2, 1) := by decide +kernel
theorem dX8_lineFor_19 : decode cX8_lineFor 19 = .ok (.bipush 64, 2) := by decide +kernel
theorem dX8_lineFor_21 : decode cX8_lineFor 21 = .ok (.if_icmp .ge 14, 3) := by decide +kernel
theorem dX8_lineFor_24 : decode cX8_lineFor 24 = .ok (.bipush 8, 2) := by decide +kernel
theorem dX8_lineFor_26 : decode cX8_lineFor 26 = .ok (.iload_n 1, 1) := by decide +kernel
theorem dX8_lineFor_27 : decode cX8_lineFor 27 = .ok (.bipush 8, 2) := by decide +kernel
theorem dX8_lineFor_29 : decode cX8_lineFor 29 = .ok (.idiv, 1) := by decide +kernel
theorem dX8_lineFor_30 : decode cX8_lineFor 30 = .ok (.bipush 8, 2) := by decide +kernel
theorem dX8_lineFor_32 : decode cX8_lineFor 32 = .ok (.irem, 1) := by decide +kernel
theorem dX8_lineFor_33 : decode cX8_lineFor 33 = .ok (.iadd, 1) := by decide +kernel
theorem dX8_lineFor_34 : decode cX8_lineFor 34 = .ok (.ireturn, 1) := by decide +kernel
theorem dX8_lineFor_35 : decode cX8_lineFor 35 = .ok (.bipush 16, 2) := by decide +kernel
theorem dX8_lineFor_37 : decode cX8_lineFor 37 = .ok (.iload_n 1, 1) := by decide +kernel
theorem dX8_lineFor_38 : decode cX8_lineFor 38 = .ok (.bipush 64, 2) := by decide +kernel
theorem dX8_lineFor_40 : decode cX8_lineFor 40 = .ok (.idiv, 1) := by decide +kernel
theorem dX8_lineFor_41 : decode cX8_lineFor 41 = .ok (.bipush 8, 2) := by decide +kernel
theorem dX8_lineFor_43 : decode cX8_lineFor 43 = .ok (.irem, 1) := by decide +kernel
theorem dX8_lineFor_44 : decode cX8_lineFor 44 = .ok (.iadd, 1) := by decide +kernel
theorem dX8_lineFor_45 : decode cX8_lineFor 45 = .ok (.ireturn, 1) := by decide +kernel
theorem dX8_presentSlot_0 : decode cX8_presentSlot 0 = .ok (.aload_n 0, 1) := by decide +kernel
theorem dX8_presentSlot_1 : decode cX8_presentSlot 1 = .ok (.getfield 49, 3) := by decide +kernel
theorem dX8_presentSlot_4 : decode cX8_presentSlot 4 = .ok (.iconst 3, 1) := by decide +kernel
theorem dX8_presentSlot_5 : decode cX8_presentSlot 5 = .ok (.iload_n 1, 1) := by decide +kernel
theorem dX8_presentSlot_6 : decode cX8_presentSlot 6 = .ok (.imul, 1) := by decide +kernel
theorem dX8_presentSlot_7 : decode cX8_presentSlot 7 = .ok (.ishr, 1) := by decide +kernel
theorem dX8_presentSlot_8 : decode cX8_presentSlot 8 = .ok (.bipush 7, 2) := by decide +kernel
theorem dX8_presentSlot_10 : decode cX8_presentSlot 10 = .ok (.iand, 1) := by decide +kernel
theorem dX8_presentSlot_11 : decode cX8_presentSlot 11 = .ok (.ireturn, 1) := by decide +kernel
set_option maxRecDepth 20000 in
theorem ggX8_figure_X5_given : GoodIn wsX8_figure wsX5_given := goodIn_r _ [14, 15, 56, 57] (by decide +kernel) (by decide +kernel)
set_option maxRecDepth 20000 in
theorem gX8_figure_X5_given : GoodIn wsX8_figure (wsV RX8 73 RX5 yX5_given wsX5_given) := goodIn_app (goodIn_of _ (by decide +kernel)) ggX8_figure_X5_given
set_option maxRecDepth 20000 in
theorem ggX8_figure_X5_howManyIn : GoodIn wsX8_figure wsX5_howManyIn := goodIn_r _ [19, 15, 20, 21, 22, 13, 23, 24, 25, 26, 27, 28, 56, 57] (by decide +kernel) (by decide +kernel)
set_option maxRecDepth 20000 in
theorem gX8_figure_X5_howManyIn : GoodIn wsX8_figure (wsV RX8 157 RX5 yX5_howManyIn wsX5_howManyIn) := goodIn_app (goodIn_of _ (by decide +kernel)) ggX8_figure_X5_howManyIn
set_option maxRecDepth 20000 in
theorem ggX8_figure_X0_calls : GoodIn wsX8_figure wsX0_calls := goodIn_r _ [33, 34, 58, 59] (by decide +kernel) (by decide +kernel)
set_option maxRecDepth 20000 in
theorem gX8_figure_X0_calls : GoodIn wsX8_figure (wsV RX8 112 RX0 yX0_calls wsX0_calls) := goodIn_app (goodIn_of _ (by decide +kernel)) ggX8_figure_X0_calls
set_option maxRecDepth 20000 in
theorem ggX8_figure_X8_setting : GoodIn wsX8_figure wsX8_setting := goodIn_r _ [39, 40, 41, 42, 43, 44, 45, 46, 47, 48, 49, 50, 51, 52, 53, 54, 55] (by decide +kernel) (by decide +kernel)
set_option maxRecDepth 20000 in
theorem gX8_figure_X8_setting : GoodIn wsX8_figure (wsV RX8 121 RX8 yX8_setting wsX8_setting) := goodIn_app (goodIn_of _ (by decide +kernel)) ggX8_figure_X8_setting
theorem dX8_figure_0 : decode cX8_figure 0 = .ok (.iload_n 1, 1) := by decide +kernel
theorem dX8_figure_1 : decode cX8_figure 1 = .ok (.tableswitch 128 0 10 #[59, 64, 72, 81, 90, 95, 103, 108, 113, 118, 123], 59) := by decide +kernel
theorem dX8_figure_60 : decode cX8_figure 60 = .ok (.aload_n 0, 1) := by decide +kernel
theorem dX8_figure_61 : decode cX8_figure 61 = .ok (.getfield 49, 3) := by decide +kernel
theorem dX8_figure_64 : decode cX8_figure 64 = .ok (.ireturn, 1) := by decide +kernel
theorem dX8_figure_65 : decode cX8_figure 65 = .ok (.aload_n 0, 1) := by decide +kernel
theorem dX8_figure_66 : decode cX8_figure 66 = .ok (.getfield 12, 3) := by decide +kernel
theorem dX8_figure_69 : decode cX8_figure 69 = .ok (.invokevirtual 73, 3) := by decide +kernel
theorem dX8_figure_72 : decode cX8_figure 72 = .ok (.ireturn, 1) := by decide +kernel
theorem dX8_figure_73 : decode cX8_figure 73 = .ok (.aload_n 0, 1) := by decide +kernel
theorem dX8_figure_74 : decode cX8_figure 74 = .ok (.getfield 12, 3) := by decide +kernel
theorem dX8_figure_77 : decode cX8_figure 77 = .ok (.iconst 0, 1) := by decide +kernel
theorem dX8_figure_78 : decode cX8_figure 78 = .ok (.invokevirtual 157, 3) := by decide +kernel
theorem dX8_figure_81 : decode cX8_figure 81 = .ok (.ireturn, 1) := by decide +kernel
theorem dX8_figure_82 : decode cX8_figure 82 = .ok (.aload_n 0, 1) := by decide +kernel
theorem dX8_figure_83 : decode cX8_figure 83 = .ok (.getfield 12, 3) := by decide +kernel
theorem dX8_figure_86 : decode cX8_figure 86 = .ok (.iconst 1, 1) := by decide +kernel
theorem dX8_figure_87 : decode cX8_figure 87 = .ok (.invokevirtual 157, 3) := by decide +kernel
theorem dX8_figure_90 : decode cX8_figure 90 = .ok (.ireturn, 1) := by decide +kernel
theorem dX8_figure_91 : decode cX8_figure 91 = .ok (.aload_n 0, 1) := by decide +kernel
theorem dX8_figure_92 : decode cX8_figure 92 = .ok (.getfield 55, 3) := by decide +kernel
theorem dX8_figure_95 : decode cX8_figure 95 = .ok (.ireturn, 1) := by decide +kernel
theorem dX8_figure_96 : decode cX8_figure 96 = .ok (.aload_n 0, 1) := by decide +kernel
theorem dX8_figure_97 : decode cX8_figure 97 = .ok (.getfield 28, 3) := by decide +kernel
theorem dX8_figure_100 : decode cX8_figure 100 = .ok (.invokevirtual 112, 3) := by decide +kernel
theorem dX8_figure_103 : decode cX8_figure 103 = .ok (.ireturn, 1) := by decide +kernel
theorem dX8_figure_104 : decode cX8_figure 104 = .ok (.aload_n 0, 1) := by decide +kernel
theorem dX8_figure_105 : decode cX8_figure 105 = .ok (.getfield 58, 3) := by decide +kernel
theorem dX8_figure_108 : decode cX8_figure 108 = .ok (.ireturn, 1) := by decide +kernel
theorem dX8_figure_109 : decode cX8_figure 109 = .ok (.aload_n 0, 1) := by decide +kernel
theorem dX8_figure_110 : decode cX8_figure 110 = .ok (.getfield 61, 3) := by decide +kernel
theorem dX8_figure_113 : decode cX8_figure 113 = .ok (.ireturn, 1) := by decide +kernel
theorem dX8_figure_114 : decode cX8_figure 114 = .ok (.aload_n 0, 1) := by decide +kernel
theorem dX8_figure_115 : decode cX8_figure 115 = .ok (.getfield 64, 3) := by decide +kernel
theorem dX8_figure_118 : decode cX8_figure 118 = .ok (.ireturn, 1) := by decide +kernel
theorem dX8_figure_119 : decode cX8_figure 119 = .ok (.aload_n 0, 1) := by decide +kernel
theorem dX8_figure_120 : decode cX8_figure 120 = .ok (.getfield 67, 3) := by decide +kernel
theorem dX8_figure_123 : decode cX8_figure 123 = .ok (.ireturn, 1) := by decide +kernel
theorem dX8_figure_124 : decode cX8_figure 124 = .ok (.aload_n 0, 1) := by decide +kernel
theorem dX8_figure_125 : decode cX8_figure 125 = .ok (.getfield 70, 3) := by decide +kernel
theorem dX8_figure_128 : decode cX8_figure 128 = .ok (.ireturn, 1) := by decide +kernel
theorem dX8_figure_129 : decode cX8_figure 129 = .ok (.aload_n 0, 1) := by decide +kernel
theorem dX8_figure_130 : decode cX8_figure 130 = .ok (.iload_n 1, 1) := by decide +kernel
theorem dX8_figure_131 : decode cX8_figure 131 = .ok (.bipush 14, 2) := by decide +kernel
theorem dX8_figure_133 : decode cX8_figure 133 = .ok (.isub, 1) := by decide +kernel
theorem dX8_figure_134 : decode cX8_figure 134 = .ok (.invokevirtual 121, 3) := by decide +kernel
theorem dX8_figure_137 : decode cX8_figure 137 = .ok (.ireturn, 1) := by decide +kernel
set_option maxRecDepth 20000 in
theorem ggX8_tellPromise_X3_lineOf : GoodIn wsX8_tellPromise wsX3_lineOf := goodIn_r _ [7, 8, 48, 49, 50, 51, 52] (by decide +kernel) (by decide +kernel)
set_option maxRecDepth 20000 in
theorem gX8_tellPromise_X3_lineOf : GoodIn wsX8_tellPromise (wsV RX8 160 RX3 yX3_lineOf wsX3_lineOf) := goodIn_app (goodIn_of _ (by decide +kernel)) ggX8_tellPromise_X3_lineOf
set_option maxRecDepth 20000 in
theorem ggX8_tellPromise_X5_fact : GoodIn wsX8_tellPromise wsX5_fact := goodIn_r _ [13, 14, 53, 54] (by decide +kernel) (by decide +kernel)
set_option maxRecDepth 20000 in
theorem gX8_tellPromise_X5_fact : GoodIn wsX8_tellPromise (wsV RX8 104 RX5 yX5_fact wsX5_fact) := goodIn_app (goodIn_of _ (by decide +kernel)) ggX8_tellPromise_X5_fact
set_option maxRecDepth 20000 in
theorem ggX8_tellPromise_X3_placeOf : GoodIn wsX8_tellPromise wsX3_placeOf := goodIn_r _ [18, 19, 4, 5, 6, 7, 8, 20, 21, 22, 23, 24, 25, 26, 27, 28, 29, 30, 31, 32, 33, 34, 48, 49, 50, 51, 52] (by decide +kernel) (by decide +kernel)
set_option maxRecDepth 20000 in
theorem gX8_tellPromise_X3_placeOf : GoodIn wsX8_tellPromise (wsV RX8 163 RX3 yX3_placeOf wsX3_placeOf) := goodIn_app (goodIn_of _ (by decide +kernel)) ggX8_tellPromise_X3_placeOf
theorem dX8_tellPromise_0 : decode cX8_tellPromise 0 = .ok (.aload_n 0, 1) := by decide +kernel
theorem dX8_tellPromise_1 : decode cX8_tellPromise 1 = .ok (.getfield 21, 3) := by decide +kernel
theorem dX8_tellPromise_4 : decode cX8_tellPromise 4 = .ok (.iload_n 1, 1) := by decide +kernel
theorem dX8_tellPromise_5 : decode cX8_tellPromise 5 = .ok (.invokevirtual 160, 3) := by decide +kernel
theorem dX8_tellPromise_8 : decode cX8_tellPromise 8 = .ok (.istore_n 3, 1) := by decide +kernel
theorem dX8_tellPromise_9 : decode cX8_tellPromise 9 = .ok (.iload_n 3, 1) := by decide +kernel
theorem dX8_tellPromise_10 : decode cX8_tellPromise 10 = .ok (.iconst (-1), 1) := by decide +kernel
theorem dX8_tellPromise_11 : decode cX8_tellPromise 11 = .ok (.if_icmp .eq 13, 3) := by decide +kernel
theorem dX8_tellPromise_14 : decode cX8_tellPromise 14 = .ok (.iload_n 3, 1) := by decide +kernel
theorem dX8_tellPromise_15 : decode cX8_tellPromise 15 = .ok (.bipush 24, 2) := by decide +kernel
theorem dX8_tellPromise_17 : decode cX8_tellPromise 17 = .ok (.if_icmp .eq 7, 3) := by decide +kernel
theorem dX8_tellPromise_20 : decode cX8_tellPromise 20 = .ok (.iconst 1, 1) := by decide +kernel
theorem dX8_tellPromise_21 : decode cX8_tellPromise 21 = .ok (.goto 4, 3) := by decide +kernel
theorem dX8_tellPromise_24 : decode cX8_tellPromise 24 = .ok (.iconst 0, 1) := by decide +kernel
theorem dX8_tellPromise_25 : decode cX8_tellPromise 25 = .ok (.istore 4, 2) := by decide +kernel
theorem dX8_tellPromise_27 : decode cX8_tellPromise 27 = .ok (.iload_n 2, 1) := by decide +kernel
theorem dX8_tellPromise_28 : decode cX8_tellPromise 28 = .ok (.tableswitch 151 0 8 #[52, 62, 72, 82, 92, 107, 122, 131, 141], 52) := by decide +kernel
theorem dX8_tellPromise_80 : decode cX8_tellPromise 80 = .ok (.aload_n 0, 1) := by decide +kernel
theorem dX8_tellPromise_81 : decode cX8_tellPromise 81 = .ok (.getfield 12, 3) := by decide +kernel
theorem dX8_tellPromise_84 : decode cX8_tellPromise 84 = .ok (.iload_n 1, 1) := by decide +kernel
theorem dX8_tellPromise_85 : decode cX8_tellPromise 85 = .ok (.iconst 0, 1) := by decide +kernel
theorem dX8_tellPromise_86 : decode cX8_tellPromise 86 = .ok (.invokevirtual 104, 3) := by decide +kernel
theorem dX8_tellPromise_89 : decode cX8_tellPromise 89 = .ok (.ireturn, 1) := by decide +kernel
theorem dX8_tellPromise_90 : decode cX8_tellPromise 90 = .ok (.aload_n 0, 1) := by decide +kernel
theorem dX8_tellPromise_91 : decode cX8_tellPromise 91 = .ok (.getfield 12, 3) := by decide +kernel
theorem dX8_tellPromise_94 : decode cX8_tellPromise 94 = .ok (.iload_n 1, 1) := by decide +kernel
theorem dX8_tellPromise_95 : decode cX8_tellPromise 95 = .ok (.iconst 1, 1) := by decide +kernel
theorem dX8_tellPromise_96 : decode cX8_tellPromise 96 = .ok (.invokevirtual 104, 3) := by decide +kernel
theorem dX8_tellPromise_99 : decode cX8_tellPromise 99 = .ok (.ireturn, 1) := by decide +kernel
theorem dX8_tellPromise_100 : decode cX8_tellPromise 100 = .ok (.aload_n 0, 1) := by decide +kernel
theorem dX8_tellPromise_101 : decode cX8_tellPromise 101 = .ok (.getfield 12, 3) := by decide +kernel
theorem dX8_tellPromise_104 : decode cX8_tellPromise 104 = .ok (.iload_n 1, 1) := by decide +kernel
theorem dX8_tellPromise_105 : decode cX8_tellPromise 105 = .ok (.iconst 2, 1) := by decide +kernel
theorem dX8_tellPromise_106 : decode cX8_tellPromise 106 = .ok (.invokevirtual 104, 3) := by decide +kernel
theorem dX8_tellPromise_109 : decode cX8_tellPromise 109 = .ok (.ireturn, 1) := by decide +kernel
theorem dX8_tellPromise_110 : decode cX8_tellPromise 110 = .ok (.aload_n 0, 1) := by decide +kernel
theorem dX8_tellPromise_111 : decode cX8_tellPromise 111 = .ok (.getfield 12, 3) := by decide +kernel
theorem dX8_tellPromise_114 : decode cX8_tellPromise 114 = .ok (.iload_n 1, 1) := by decide +kernel
theorem dX8_tellPromise_115 : decode cX8_tellPromise 115 = .ok (.iconst 3, 1) := by decide +kernel
theorem dX8_tellPromise_116 : decode cX8_tellPromise 116 = .ok (.invokevirtual 104, 3) := by decide +kernel
theorem dX8_tellPromise_119 : decode cX8_tellPromise 119 = .ok (.ireturn, 1) := by decide +kernel
theorem dX8_tellPromise_120 : decode cX8_tellPromise 120 = .ok (.iload 4, 2) := by decide +kernel
theorem dX8_tellPromise_122 : decode cX8_tellPromise 122 = .ok (.ifCond .eq 10, 3) := by decide +kernel
theorem dX8_tellPromise_125 : decode cX8_tellPromise 125 = .ok (.iload_n 3, 1) := by decide +kernel
theorem dX8_tellPromise_126 : decode cX8_tellPromise 126 = .ok (.bipush 8, 2) := by decide +kernel
theorem dX8_tellPromise_128 : decode cX8_tellPromise 128 = .ok (.idiv, 1) := by decide +kernel
theorem dX8_tellPromise_129 : decode cX8_tellPromise 129 = .ok (.goto 5, 3) := by decide +kernel
theorem dX8_tellPromise_132 : decode cX8_tellPromise 132 = .ok (.bipush (-9), 2) := by decide +kernel
theorem dX8_tellPromise_134 : decode cX8_tellPromise 134 = .ok (.ireturn, 1) := by decide +kernel
theorem dX8_tellPromise_135 : decode cX8_tellPromise 135 = .ok (.iload 4, 2) := by decide +kernel
theorem dX8_tellPromise_137 : decode cX8_tellPromise 137 = .ok (.ifCond .eq 10, 3) := by decide +kernel
theorem dX8_tellPromise_140 : decode cX8_tellPromise 140 = .ok (.iload_n 3, 1) := by decide +kernel
theorem dX8_tellPromise_141 : decode cX8_tellPromise 141 = .ok (.bipush 8, 2) := by decide +kernel
theorem dX8_tellPromise_143 : decode cX8_tellPromise 143 = .ok (.irem, 1) := by decide +kernel
theorem dX8_tellPromise_144 : decode cX8_tellPromise 144 = .ok (.goto 5, 3) := by decide +kernel
theorem dX8_tellPromise_147 : decode cX8_tellPromise 147 = .ok (.bipush (-9), 2) := by decide +kernel
theorem dX8_tellPromise_149 : decode cX8_tellPromise 149 = .ok (.ireturn, 1) := by decide +kernel
theorem dX8_tellPromise_150 : decode cX8_tellPromise 150 = .ok (.aload_n 0, 1) := by decide +kernel
theorem dX8_tellPromise_151 : decode cX8_tellPromise 151 = .ok (.getfield 21, 3) := by decide +kernel
theorem dX8_tellPromise_154 : decode cX8_tellPromise 154 = .ok (.iload_n 1, 1) := by decide +kernel
theorem dX8_tellPromise_155 : decode cX8_tellPromise 155 = .ok (.invokevirtual 163, 3) := by decide +kernel
theorem dX8_tellPromise_158 : decode cX8_tellPromise 158 = .ok (.ireturn, 1) := by decide +kernel
theorem dX8_tellPromise_159 : decode cX8_tellPromise 159 = .ok (.aload_n 0, 1) := by decide +kernel
theorem dX8_tellPromise_160 : decode cX8_tellPromise 160 = .ok (.getfield 12, 3) := by decide +kernel
theorem dX8_tellPromise_163 : decode cX8_tellPromise 163 = .ok (.iload_n 1, 1) := by decide +kernel
theorem dX8_tellPromise_164 : decode cX8_tellPromise 164 = .ok (.iconst 4, 1) := by decide +kernel
theorem dX8_tellPromise_165 : decode cX8_tellPromise 165 = .ok (.invokevirtual 104, 3) := by decide +kernel
theorem dX8_tellPromise_168 : decode cX8_tellPromise 168 = .ok (.ireturn, 1) := by decide +kernel
theorem dX8_tellPromise_169 : decode cX8_tellPromise 169 = .ok (.aload_n 0, 1) := by decide +kernel
theorem dX8_tellPromise_170 : decode cX8_tellPromise 170 = .ok (.getfield 12, 3) := by decide +kernel
theorem dX8_tellPromise_173 : decode cX8_tellPromise 173 = .ok (.iload_n 1, 1) := by decide +kernel
theorem dX8_tellPromise_174 : decode cX8_tellPromise 174 = .ok (.iconst 5, 1) := by decide +kernel
theorem dX8_tellPromise_175 : decode cX8_tellPromise 175 = .ok (.invokevirtual 104, 3) := by decide +kernel
theorem dX8_tellPromise_178 : decode cX8_tellPromise 178 = .ok (.ireturn, 1) := by decide +kernel
theorem dX8_tellPromise_179 : decode cX8_tellPromise 179 = .ok (.iconst (-1), 1) := by decide +kernel
theorem dX8_tellPromise_180 : decode cX8_tellPromise 180 = .ok (.ireturn, 1) := by decide +kernel
set_option maxRecDepth 20000 in
theorem ggX8_earliestIn_X3_lengthOf : GoodIn wsX8_earliestIn wsX3_lengthOf := goodIn_r _ [7, 8, 50, 51, 52, 53, 54] (by decide +kernel) (by decide +kernel)
set_option maxRecDepth 20000 in
theorem gX8_earliestIn_X3_lengthOf : GoodIn wsX8_earliestIn (wsV RX8 136 RX3 yX3_lengthOf wsX3_lengthOf) := goodIn_app (goodIn_of _ (by decide +kernel)) ggX8_earliestIn_X3_lengthOf
set_option maxRecDepth 20000 in
theorem ggX8_earliestIn_X3_frontOf : GoodIn wsX8_earliestIn wsX3_frontOf := goodIn_r _ [12, 13, 50, 51, 52, 53, 54] (by decide +kernel) (by decide +kernel)
set_option maxRecDepth 20000 in
theorem gX8_earliestIn_X3_frontOf : GoodIn wsX8_earliestIn (wsV RX8 147 RX3 yX3_frontOf wsX3_frontOf) := goodIn_app (goodIn_of _ (by decide +kernel)) ggX8_earliestIn_X3_frontOf
set_option maxRecDepth 20000 in
theorem ggX8_earliestIn_X5_isIn : GoodIn wsX8_earliestIn wsX5_isIn := goodIn_r _ [18, 19, 20, 21, 17, 22, 23, 55, 56] (by decide +kernel) (by decide +kernel)
set_option maxRecDepth 20000 in
theorem gX8_earliestIn_X5_isIn : GoodIn wsX8_earliestIn (wsV RX8 100 RX5 yX5_isIn wsX5_isIn) := goodIn_app (goodIn_of _ (by decide +kernel)) ggX8_earliestIn_X5_isIn
set_option maxRecDepth 20000 in
theorem ggX8_earliestIn_X5_earlier : GoodIn wsX8_earliestIn wsX5_earlier := goodIn_r _ [27, 28, 29, 30, 31, 19, 20, 21, 17, 22, 23, 55, 56] (by decide +kernel) (by decide +kernel)
set_option maxRecDepth 20000 in
theorem gX8_earliestIn_X5_earlier : GoodIn wsX8_earliestIn (wsV RX8 175 RX5 yX5_earlier wsX5_earlier) := goodIn_app (goodIn_of _ (by decide +kernel)) ggX8_earliestIn_X5_earlier
set_option maxRecDepth 20000 in
theorem ggX8_earliestIn_X3_follower : GoodIn wsX8_earliestIn wsX3_follower := goodIn_r _ [35, 36, 50, 51, 52, 53, 54] (by decide +kernel) (by decide +kernel)
set_option maxRecDepth 20000 in
theorem gX8_earliestIn_X3_follower : GoodIn wsX8_earliestIn (wsV RX8 172 RX3 yX3_follower wsX3_follower) := goodIn_app (goodIn_of _ (by decide +kernel)) ggX8_earliestIn_X3_follower
theorem dX8_earliestIn_0 : decode cX8_earliestIn 0 = .ok (.aload_n 0, 1) := by decide +kernel
theorem dX8_earliestIn_1 : decode cX8_earliestIn 1 = .ok (.getfield 21, 3) := by decide +kernel
theorem dX8_earliestIn_4 : decode cX8_earliestIn 4 = .ok (.iload_n 1, 1) := by decide +kernel
theorem dX8_earliestIn_5 : decode cX8_earliestIn 5 = .ok (.invokevirtual 136, 3) := by decide +kernel
theorem dX8_earliestIn_8 : decode cX8_earliestIn 8 = .ok (.istore_n 2, 1) := by decide +kernel
theorem dX8_earliestIn_9 : decode cX8_earliestIn 9 = .ok (.aload_n 0, 1) := by decide +kernel
theorem dX8_earliestIn_10 : decode cX8_earliestIn 10 = .ok (.getfield 21, 3) := by decide +kernel
theorem dX8_earliestIn_13 : decode cX8_earliestIn 13 = .ok (.iload_n 1, 1) := by decide +kernel
theorem dX8_earliestIn_14 : decode cX8_earliestIn 14 = .ok (.invokevirtual 147, 3) := by decide +kernel
theorem dX8_earliestIn_17 : decode cX8_earliestIn 17 = .ok (.istore_n 3, 1) := by decide +kernel
theorem dX8_earliestIn_18 : decode cX8_earliestIn 18 = .ok (.iconst (-1), 1) := by decide +kernel
theorem dX8_earliestIn_19 : decode cX8_earliestIn 19 = .ok (.istore 4, 2) := by decide +kernel
theorem dX8_earliestIn_21 : decode cX8_earliestIn 21 = .ok (.iconst 0, 1) := by decide +kernel
theorem dX8_earliestIn_22 : decode cX8_earliestIn 22 = .ok (.istore 5, 2) := by decide +kernel
theorem dX8_earliestIn_24 : decode cX8_earliestIn 24 = .ok (.iload 5, 2) := by decide +kernel
theorem dX8_earliestIn_26 : decode cX8_earliestIn 26 = .ok (.iload_n 2, 1) := by decide +kernel
theorem dX8_earliestIn_27 : decode cX8_earliestIn 27 = .ok (.if_icmp .ge 42, 3) := by decide +kernel
theorem dX8_earliestIn_30 : decode cX8_earliestIn 30 = .ok (.aload_n 0, 1) := by decide +kernel
theorem dX8_earliestIn_31 : decode cX8_earliestIn 31 = .ok (.getfield 12, 3) := by decide +kernel
theorem dX8_earliestIn_34 : decode cX8_earliestIn 34 = .ok (.iload_n 3, 1) := by decide +kernel
theorem dX8_earliestIn_35 : decode cX8_earliestIn 35 = .ok (.iconst 3, 1) := by decide +kernel
theorem dX8_earliestIn_36 : decode cX8_earliestIn 36 = .ok (.invokevirtual 100, 3) := by decide +kernel
theorem dX8_earliestIn_39 : decode cX8_earliestIn 39 = .ok (.ifCond .ne 15, 3) := by decide +kernel
theorem dX8_earliestIn_42 : decode cX8_earliestIn 42 = .ok (.aload_n 0, 1) := by decide +kernel
theorem dX8_earliestIn_43 : decode cX8_earliestIn 43 = .ok (.getfield 12, 3) := by decide +kernel
theorem dX8_earliestIn_46 : decode cX8_earliestIn 46 = .ok (.iload 4, 2) := by decide +kernel
theorem dX8_earliestIn_48 : decode cX8_earliestIn 48 = .ok (.iload_n 3, 1) := by decide +kernel
theorem dX8_earliestIn_49 : decode cX8_earliestIn 49 = .ok (.invokevirtual 175, 3) := by decide +kernel
theorem dX8_earliestIn_52 : decode cX8_earliestIn 52 = .ok (.istore 4, 2) := by decide +kernel
theorem dX8_earliestIn_54 : decode cX8_earliestIn 54 = .ok (.aload_n 0, 1) := by decide +kernel
theorem dX8_earliestIn_55 : decode cX8_earliestIn 55 = .ok (.getfield 21, 3) := by decide +kernel
theorem dX8_earliestIn_58 : decode cX8_earliestIn 58 = .ok (.iload_n 3, 1) := by decide +kernel
theorem dX8_earliestIn_59 : decode cX8_earliestIn 59 = .ok (.invokevirtual 172, 3) := by decide +kernel
theorem dX8_earliestIn_62 : decode cX8_earliestIn 62 = .ok (.istore_n 3, 1) := by decide +kernel
theorem dX8_earliestIn_63 : decode cX8_earliestIn 63 = .ok (.iinc 5 1, 3) := by decide +kernel
theorem dX8_earliestIn_66 : decode cX8_earliestIn 66 = .ok (.goto (-42), 3) := by decide +kernel
theorem dX8_earliestIn_69 : decode cX8_earliestIn 69 = .ok (.iload 4, 2) := by decide +kernel
theorem dX8_earliestIn_71 : decode cX8_earliestIn 71 = .ok (.ireturn, 1) := by decide +kernel
set_option maxRecDepth 20000 in
theorem ggX8_earliestOfAll_X5_given : GoodIn wsX8_earliestOfAll wsX5_given := goodIn_r _ [6, 7, 38, 39] (by decide +kernel) (by decide +kernel)
set_option maxRecDepth 20000 in
theorem gX8_earliestOfAll_X5_given : GoodIn wsX8_earliestOfAll (wsV RX8 73 RX5 yX5_given wsX5_given) := goodIn_app (goodIn_of _ (by decide +kernel)) ggX8_earliestOfAll_X5_given
set_option maxRecDepth 20000 in
theorem ggX8_earliestOfAll_X5_isIn : GoodIn wsX8_earliestOfAll wsX5_isIn := goodIn_r _ [11, 12, 13, 14, 5, 15, 16, 38, 39] (by decide +kernel) (by decide +kernel)
set_option maxRecDepth 20000 in
theorem gX8_earliestOfAll_X5_isIn : GoodIn wsX8_earliestOfAll (wsV RX8 100 RX5 yX5_isIn wsX5_isIn) := goodIn_app (goodIn_of _ (by decide +kernel)) ggX8_earliestOfAll_X5_isIn
set_option maxRecDepth 20000 in
theorem ggX8_earliestOfAll_X5_earlier : GoodIn wsX8_earliestOfAll wsX5_earlier := goodIn_r _ [20, 21, 22, 23, 24, 12, 13, 14, 5, 15, 16, 38, 39] (by decide +kernel) (by decide +kernel)
set_option maxRecDepth 20000 in
theorem gX8_earliestOfAll_X5_earlier : GoodIn wsX8_earliestOfAll (wsV RX8 175 RX5 yX5_earlier wsX5_earlier) := goodIn_app (goodIn_of _ (by decide +kernel)) ggX8_earliestOfAll_X5_earlier
theorem dX8_earliestOfAll_0 : decode cX8_earliestOfAll 0 = .ok (.iconst (-1), 1) := by decide +kernel
theorem dX8_earliestOfAll_1 : decode cX8_earliestOfAll 1 = .ok (.istore_n 1, 1) := by decide +kernel
theorem dX8_earliestOfAll_2 : decode cX8_earliestOfAll 2 = .ok (.iconst 0, 1) := by decide +kernel
theorem dX8_earliestOfAll_3 : decode cX8_earliestOfAll 3 = .ok (.istore_n 2, 1) := by decide +kernel
theorem dX8_earliestOfAll_4 : decode cX8_earliestOfAll 4 = .ok (.iload_n 2, 1) := by decide +kernel
theorem dX8_earliestOfAll_5 : decode cX8_earliestOfAll 5 = .ok (.aload_n 0, 1) := by decide +kernel
theorem dX8_earliestOfAll_6 : decode cX8_earliestOfAll 6 = .ok (.getfield 12, 3) := by decide +kernel
theorem dX8_earliestOfAll_9 : decode cX8_earliestOfAll 9 = .ok (.invokevirtual 73, 3) := by decide +kernel
theorem dX8_earliestOfAll_12 : decode cX8_earliestOfAll 12 = .ok (.if_icmp .ge 31, 3) := by decide +kernel
theorem dX8_earliestOfAll_15 : decode cX8_earliestOfAll 15 = .ok (.aload_n 0, 1) := by decide +kernel
theorem dX8_earliestOfAll_16 : decode cX8_earliestOfAll 16 = .ok (.getfield 12, 3) := by decide +kernel
theorem dX8_earliestOfAll_19 : decode cX8_earliestOfAll 19 = .ok (.iload_n 2, 1) := by decide +kernel
theorem dX8_earliestOfAll_20 : decode cX8_earliestOfAll 20 = .ok (.iconst 0, 1) := by decide +kernel
theorem dX8_earliestOfAll_21 : decode cX8_earliestOfAll 21 = .ok (.invokevirtual 100, 3) := by decide +kernel
theorem dX8_earliestOfAll_24 : decode cX8_earliestOfAll 24 = .ok (.ifCond .eq 13, 3) := by decide +kernel
theorem dX8_earliestOfAll_27 : decode cX8_earliestOfAll 27 = .ok (.aload_n 0, 1) := by decide +kernel
theorem dX8_earliestOfAll_28 : decode cX8_earliestOfAll 28 = .ok (.getfield 12, 3) := by decide +kernel
theorem dX8_earliestOfAll_31 : decode cX8_earliestOfAll 31 = .ok (.iload_n 1, 1) := by decide +kernel
theorem dX8_earliestOfAll_32 : decode cX8_earliestOfAll 32 = .ok (.iload_n 2, 1) := by decide +kernel
theorem dX8_earliestOfAll_33 : decode cX8_earliestOfAll 33 = .ok (.invokevirtual 175, 3) := by decide +kernel
theorem dX8_earliestOfAll_36 : decode cX8_earliestOfAll 36 = .ok (.istore_n 1, 1) := by decide +kernel
theorem dX8_earliestOfAll_37 : decode cX8_earliestOfAll 37 = .ok (.iinc 2 1, 3) := by decide +kernel
theorem dX8_earliestOfAll_40 : decode cX8_earliestOfAll 40 = .ok (.goto (-36), 3) := by decide +kernel
theorem dX8_earliestOfAll_43 : decode cX8_earliestOfAll 43 = .ok (.iload_n 1, 1) := by decide +kernel
theorem dX8_earliestOfAll_44 : decode cX8_earliestOfAll 44 = .ok (.ireturn, 1) := by decide +kernel
set_option maxRecDepth 20000 in
theorem ggX8_earliestByRings_X8_earliestInRing : GoodIn wsX8_earliestByRings wsX8_earliestInRing := goodIn_r _ [6, 7, 8, 9, 5, 10, 11, 12, 13, 14, 15, 16, 1, 17, 18, 19, 20, 21, 22, 23, 24, 25, 26, 27, 28, 29, 30, 31, 32, 33, 34, 35, 36, 37, 38, 39, 40, 41, 42, 43, 44, 45, 46, 47, 48, 49, 50, 51, 52, 53, 54, 55, 56, 57, 58, 59, 60, 61, 62, 63, 64, 65, 66, 67, 68, 69, 70] (by decide +kernel) (by decide +kernel)
set_option maxRecDepth 20000 in
theorem gX8_earliestByRings_X8_earliestInRing : GoodIn wsX8_earliestByRings (wsV RX8 178 RX8 yX8_earliestInRing wsX8_earliestInRing) := goodIn_app (goodIn_of _ (by decide +kernel)) ggX8_earliestByRings_X8_earliestInRing
set_option maxRecDepth 20000 in
theorem ggX8_earliestByRings_X5_earlier : GoodIn wsX8_earliestByRings wsX5_earlier := goodIn_r _ [41, 42, 43, 44, 45, 33, 34, 35, 31, 36, 37, 69, 70] (by decide +kernel) (by decide +kernel)
set_option maxRecDepth 20000 in
theorem gX8_earliestByRings_X5_earlier : GoodIn wsX8_earliestByRings (wsV RX8 175 RX5 yX5_earlier wsX5_earlier) := goodIn_app (goodIn_of _ (by decide +kernel)) ggX8_earliestByRings_X5_earlier
theorem dX8_earliestByRings_0 : decode cX8_earliestByRings 0 = .ok (.iconst (-1), 1) := by decide +kernel
theorem dX8_earliestByRings_1 : decode cX8_earliestByRings 1 = .ok (.istore_n 1, 1) := by decide +kernel
theorem dX8_earliestByRings_2 : decode cX8_earliestByRings 2 = .ok (.iconst 0, 1) := by decide +kernel
theorem dX8_earliestByRings_3 : decode cX8_earliestByRings 3 = .ok (.istore_n 2, 1) := by decide +kernel
theorem dX8_earliestByRings_4 : decode cX8_earliestByRings 4 = .ok (.iload_n 2, 1) := by decide +kernel
theorem dX8_earliestByRings_5 : decode cX8_earliestByRings 5 = .ok (.iconst 3, 1) := by decide +kernel
theorem dX8_earliestByRings_6 : decode cX8_earliestByRings 6 = .ok (.if_icmp .ge 23, 3) := by decide +kernel
theorem dX8_earliestByRings_9 : decode cX8_earliestByRings 9 = .ok (.aload_n 0, 1) := by decide +kernel
theorem dX8_earliestByRings_10 : decode cX8_earliestByRings 10 = .ok (.getfield 12, 3) := by decide +kernel
theorem dX8_earliestByRings_13 : decode cX8_earliestByRings 13 = .ok (.iload_n 1, 1) := by decide +kernel
theorem dX8_earliestByRings_14 : decode cX8_earliestByRings 14 = .ok (.aload_n 0, 1) := by decide +kernel
theorem dX8_earliestByRings_15 : decode cX8_earliestByRings 15 = .ok (.iload_n 2, 1) := by decide +kernel
theorem dX8_earliestByRings_16 : decode cX8_earliestByRings 16 = .ok (.invokevirtual 178, 3) := by decide +kernel
theorem dX8_earliestByRings_19 : decode cX8_earliestByRings 19 = .ok (.invokevirtual 175, 3) := by decide +kernel
theorem dX8_earliestByRings_22 : decode cX8_earliestByRings 22 = .ok (.istore_n 1, 1) := by decide +kernel
theorem dX8_earliestByRings_23 : decode cX8_earliestByRings 23 = .ok (.iinc 2 1, 3) := by decide +kernel
theorem dX8_earliestByRings_26 : decode cX8_earliestByRings 26 = .ok (.goto (-22), 3) := by decide +kernel
theorem dX8_earliestByRings_29 : decode cX8_earliestByRings 29 = .ok (.iload_n 1, 1) := by decide +kernel
theorem dX8_earliestByRings_30 : decode cX8_earliestByRings 30 = .ok (.ireturn, 1) := by decide +kernel
set_option maxRecDepth 20000 in
theorem ggX8_earliestInRing_X8_presentSlot : GoodIn wsX8_earliestInRing wsX8_presentSlot := goodIn_r _ [5, 6, 47, 48, 49, 50, 51, 52, 53, 54, 55, 56, 57, 58, 59] (by decide +kernel) (by decide +kernel)
set_option maxRecDepth 20000 in
theorem gX8_earliestInRing_X8_presentSlot : GoodIn wsX8_earliestInRing (wsV RX8 144 RX8 yX8_presentSlot wsX8_presentSlot) := goodIn_app (goodIn_of _ (by decide +kernel)) ggX8_earliestInRing_X8_presentSlot
set_option maxRecDepth 20000 in
theorem ggX8_earliestInRing_X8_earliestIn : GoodIn wsX8_earliestInRing wsX8_earliestIn := goodIn_r _ [10, 11, 12, 13, 14, 15, 16, 17, 18, 19, 20, 21, 22, 23, 24, 25, 26, 27, 28, 29, 30, 31, 32, 33, 34, 35, 36, 37, 38, 39, 40, 41, 42, 43, 44, 45, 46, 47, 48, 49, 50, 51, 52, 53, 54, 55, 56, 57, 58, 59, 60, 61, 62, 63, 64, 65, 66] (by decide +kernel) (by decide +kernel)
set_option maxRecDepth 20000 in
theorem gX8_earliestInRing_X8_earliestIn : GoodIn wsX8_earliestInRing (wsV RX8 169 RX8 yX8_earliestIn wsX8_earliestIn) := goodIn_app (goodIn_of _ (by decide +kernel)) ggX8_earliestInRing_X8_earliestIn
theorem dX8_earliestInRing_0 : decode cX8_earliestInRing 0 = .ok (.aload_n 0, 1) := by decide +kernel
theorem dX8_earliestInRing_1 : decode cX8_earliestInRing 1 = .ok (.iload_n 1, 1) := by decide +kernel
theorem dX8_earliestInRing_2 : decode cX8_earliestInRing 2 = .ok (.invokevirtual 144, 3) := by decide +kernel
theorem dX8_earliestInRing_5 : decode cX8_earliestInRing 5 = .ok (.istore_n 2, 1) := by decide +kernel
theorem dX8_earliestInRing_6 : decode cX8_earliestInRing 6 = .ok (.iconst (-1), 1) := by decide +kernel
theorem dX8_earliestInRing_7 : decode cX8_earliestInRing 7 = .ok (.istore_n 3, 1) := by decide +kernel
theorem dX8_earliestInRing_8 : decode cX8_earliestInRing 8 = .ok (.iconst 1, 1) := by decide +kernel
theorem dX8_earliestInRing_9 : decode cX8_earliestInRing 9 = .ok (.istore 4, 2) := by decide +kernel
theorem dX8_earliestInRing_11 : decode cX8_earliestInRing 11 = .ok (.iload 4, 2) := by decide +kernel
theorem dX8_earliestInRing_13 : decode cX8_earliestInRing 13 = .ok (.bipush 8, 2) := by decide +kernel
theorem dX8_earliestInRing_15 : decode cX8_earliestInRing 15 = .ok (.if_icmp .gt 31, 3) := by decide +kernel
theorem dX8_earliestInRing_18 : decode cX8_earliestInRing 18 = .ok (.iload_n 3, 1) := by decide +kernel
theorem dX8_earliestInRing_19 : decode cX8_earliestInRing 19 = .ok (.iconst (-1), 1) := by decide +kernel
theorem dX8_earliestInRing_20 : decode cX8_earliestInRing 20 = .ok (.if_icmp .ne 26, 3) := by decide +kernel
theorem dX8_earliestInRing_23 : decode cX8_earliestInRing 23 = .ok (.aload_n 0, 1) := by decide +kernel
theorem dX8_earliestInRing_24 : decode cX8_earliestInRing 24 = .ok (.iload_n 1, 1) := by decide +kernel
theorem dX8_earliestInRing_25 : decode cX8_earliestInRing 25 = .ok (.bipush 8, 2) := by decide +kernel
theorem dX8_earliestInRing_27 : decode cX8_earliestInRing 27 = .ok (.imul, 1) := by decide +kernel
theorem dX8_earliestInRing_28 : decode cX8_earliestInRing 28 = .ok (.iload_n 2, 1) := by decide +kernel
theorem dX8_earliestInRing_29 : decode cX8_earliestInRing 29 = .ok (.iload 4, 2) := by decide +kernel
theorem dX8_earliestInRing_31 : decode cX8_earliestInRing 31 = .ok (.iadd, 1) := by decide +kernel
theorem dX8_earliestInRing_32 : decode cX8_earliestInRing 32 = .ok (.bipush 8, 2) := by decide +kernel
theorem dX8_earliestInRing_34 : decode cX8_earliestInRing 34 = .ok (.irem, 1) := by decide +kernel
theorem dX8_earliestInRing_35 : decode cX8_earliestInRing 35 = .ok (.iadd, 1) := by decide +kernel
theorem dX8_earliestInRing_36 : decode cX8_earliestInRing 36 = .ok (.invokevirtual 169, 3) := by decide +kernel
theorem dX8_earliestInRing_39 : decode cX8_earliestInRing 39 = .ok (.istore_n 3, 1) := by decide +kernel
theorem dX8_earliestInRing_40 : decode cX8_earliestInRing 40 = .ok (.iinc 4 1, 3) := by decide +kernel
theorem dX8_earliestInRing_43 : decode cX8_earliestInRing 43 = .ok (.goto (-32), 3) := by decide +kernel
theorem dX8_earliestInRing_46 : decode cX8_earliestInRing 46 = .ok (.iload_n 3, 1) := by decide +kernel
theorem dX8_earliestInRing_47 : decode cX8_earliestInRing 47 = .ok (.ireturn, 1) := by decide +kernel
set_option maxRecDepth 20000 in
theorem ggX9_init_X6_init : GoodIn wsX9_init wsX6_init := goodIn_r _ [22, 23, 2, 3, 24, 25, 26, 27, 28, 29, 30, 31, 32, 33, 34, 35, 36, 37, 38, 39, 40, 41, 42, 43, 44, 45, 46, 47, 48, 49, 50, 51, 52, 53, 54, 55, 56, 57, 58, 59, 60, 61, 62, 63, 64, 65, 66, 67, 68, 69, 114, 115, 116, 117, 118, 119, 120, 121, 122, 123, 124, 125, 126, 95, 96, 97, 127, 128, 129, 130, 131, 132, 133, 134, 135] (by decide +kernel) (by decide +kernel)
set_option maxRecDepth 20000 in
theorem gX9_init_X6_init : GoodIn wsX9_init (wsX6_init) := ggX9_init_X6_init
set_option maxRecDepth 20000 in
theorem ggX9_init_X2_init : GoodIn wsX9_init wsX2_init := goodIn_r _ [72, 73, 2, 3, 74, 75, 5, 6, 76, 21, 22, 23, 24, 25, 26, 27, 28, 29, 30, 31, 32, 33, 34, 35, 36, 37, 38, 39, 40, 41, 42, 43, 44, 45, 46, 47, 48, 49, 50, 51, 52, 53, 54, 55, 56, 57, 58, 59, 60, 61, 62, 63, 64, 65, 66, 67, 68, 69, 102, 103, 104, 95, 96, 97, 114, 115, 116, 117, 118, 119, 120, 121, 122, 123, 124, 125, 126, 127, 128, 129, 130, 131, 132, 133, 134, 135] (by decide +kernel) (by decide +kernel)
set_option maxRecDepth 20000 in
theorem gX9_init_X2_init : GoodIn wsX9_init (wsX2_init) := ggX9_init_X2_init
set_option maxRecDepth 20000 in
theorem ggX9_init_X4_init : GoodIn wsX9_init wsX4_init := goodIn_r _ [78, 79, 2, 3, 80, 81, 82, 83, 51, 84, 85, 86, 87, 88, 89, 136, 137, 138, 139, 140, 105, 106, 107, 108, 109, 110, 111, 112] (by decide +kernel) (by decide +kernel)
set_option maxRecDepth 20000 in
theorem gX9_init_X4_init_n25 : GoodIn wsX9_init (wsX4_init) := ggX9_init_X4_init
set_option maxRecDepth 20000 in
theorem ggX9_init_X1_init : GoodIn wsX9_init wsX1_init := goodIn_r _ [91, 92, 2, 3, 93, 25, 26, 94, 31, 32, 33, 34, 35, 36, 37, 38, 39, 40, 41, 42, 43, 44, 45, 46, 47, 48, 49, 50, 51, 52, 53, 54, 55, 56, 57, 58, 59, 60, 61, 62, 63, 64, 65, 66, 67, 68, 69, 114, 115, 116, 117, 118, 119, 120, 121, 122, 123, 124, 125, 126, 113, 127, 128, 129, 130, 131, 132, 133, 134, 135] (by decide +kernel) (by decide +kernel)
set_option maxRecDepth 20000 in
theorem gX9_init_X1_init_n32 : GoodIn wsX9_init (wsX1_init) := ggX9_init_X1_init
theorem dX9_init_0 : decode cX9_init 0 = .ok (.aload_n 0, 1) := by decide +kernel
theorem dX9_init_1 : decode cX9_init 1 = .ok (.invokespecial 3, 3) := by decide +kernel
theorem dX9_init_4 : decode cX9_init 4 = .ok (.aload_n 0, 1) := by decide +kernel
theorem dX9_init_5 : decode cX9_init 5 = .ok (.new 9, 3) := by decide +kernel
theorem dX9_init_8 : decode cX9_init 8 = .ok (.dup, 1) := by decide +kernel
theorem dX9_init_9 : decode cX9_init 9 = .ok (.invokespecial 11, 3) := by decide +kernel
theorem dX9_init_12 : decode cX9_init 12 = .ok (.putfield 12, 3) := by decide +kernel
theorem dX9_init_15 : decode cX9_init 15 = .ok (.aload_n 0, 1) := by decide +kernel
theorem dX9_init_16 : decode cX9_init 16 = .ok (.new 16, 3) := by decide +kernel
theorem dX9_init_19 : decode cX9_init 19 = .ok (.dup, 1) := by decide +kernel
theorem dX9_init_20 : decode cX9_init 20 = .ok (.invokespecial 18, 3) := by decide +kernel
theorem dX9_init_23 : decode cX9_init 23 = .ok (.putfield 19, 3) := by decide +kernel
theorem dX9_init_26 : decode cX9_init 26 = .ok (.aload_n 0, 1) := by decide +kernel
theorem dX9_init_27 : decode cX9_init 27 = .ok (.new 23, 3) := by decide +kernel
theorem dX9_init_30 : decode cX9_init 30 = .ok (.dup, 1) := by decide +kernel
theorem dX9_init_31 : decode cX9_init 31 = .ok (.invokespecial 25, 3) := by decide +kernel
theorem dX9_init_34 : decode cX9_init 34 = .ok (.putfield 26, 3) := by decide +kernel
theorem dX9_init_37 : decode cX9_init 37 = .ok (.aload_n 0, 1) := by decide +kernel
theorem dX9_init_38 : decode cX9_init 38 = .ok (.new 30, 3) := by decide +kernel
theorem dX9_init_41 : decode cX9_init 41 = .ok (.dup, 1) := by decide +kernel
theorem dX9_init_42 : decode cX9_init 42 = .ok (.invokespecial 32, 3) := by decide +kernel
theorem dX9_init_45 : decode cX9_init 45 = .ok (.putfield 33, 3) := by decide +kernel
theorem dX9_init_48 : decode cX9_init 48 = .ok (.return_, 1) := by decide +kernel
set_option maxRecDepth 20000 in
theorem ggX9_give_X2_note : GoodIn wsX9_give wsX2_note := goodIn_r _ [7, 8, 9, 10, 11, 6, 12, 13, 14, 15, 16, 17, 18, 19, 20, 21, 22, 23, 24, 25, 26, 27, 28, 29, 30, 31, 32, 33, 34, 35, 36, 37, 38, 39, 40, 41, 42, 43, 44, 45, 46, 47, 48, 49, 50, 51, 52, 53, 54, 55, 56, 57, 58, 59, 60, 61, 62, 63, 64, 65, 66, 67, 68, 69, 115, 116, 117, 112, 113, 114, 118, 119, 120, 121, 122, 123, 124, 125, 126, 127, 128, 129, 130, 131, 132, 133, 134, 135, 136, 137, 138, 139] (by decide +kernel) (by decide +kernel)
set_option maxRecDepth 20000 in
theorem gX9_give_X2_note : GoodIn wsX9_give (wsV RX9 37 RX2 yX2_note wsX2_note) := goodIn_app (goodIn_of _ (by decide +kernel)) ggX9_give_X2_note
set_option maxRecDepth 20000 in
theorem ggX9_give_X8_addPromise : GoodIn wsX9_give wsX8_addPromise := goodIn_r _ [73, 27, 30, 28, 74, 75, 76, 43, 77, 50, 78, 79, 80, 81, 82, 83, 84, 85, 45, 86, 87, 88, 25, 89, 90, 91, 92, 54, 93, 58, 56, 61, 60, 59, 118, 119, 120, 121, 122, 123, 124, 125, 126, 127, 128, 129, 130, 131, 132, 133, 134, 135, 136, 137] (by decide +kernel) (by decide +kernel)
set_option maxRecDepth 20000 in
theorem gX9_give_X8_addPromise : GoodIn wsX9_give (wsV RX9 45 RX8 yX8_addPromise wsX8_addPromise) := goodIn_app (goodIn_of _ (by decide +kernel)) ggX9_give_X8_addPromise
set_option maxRecDepth 20000 in
theorem ggX9_give_X9_recorded : GoodIn wsX9_give wsX9_recorded := goodIn_r _ [98, 1, 99, 100, 101, 6, 102, 8, 103, 104, 105, 106, 107, 108, 109, 110, 111, 115, 116, 117] (by decide +kernel) (by decide +kernel)
set_option maxRecDepth 20000 in
theorem gX9_give_X9_recorded : GoodIn wsX9_give (wsV RX9 51 RX9 yX9_recorded wsX9_recorded) := goodIn_app (goodIn_of _ (by decide +kernel)) ggX9_give_X9_recorded
theorem dX9_give_0 : decode cX9_give 0 = .ok (.aload_n 0, 1) := by decide +kernel
theorem dX9_give_1 : decode cX9_give 1 = .ok (.getfield 19, 3) := by decide +kernel
theorem dX9_give_4 : decode cX9_give 4 = .ok (.aload_n 0, 1) := by decide +kernel
theorem dX9_give_5 : decode cX9_give 5 = .ok (.getfield 12, 3) := by decide +kernel
theorem dX9_give_8 : decode cX9_give 8 = .ok (.invokevirtual 37, 3) := by decide +kernel
theorem dX9_give_11 : decode cX9_give 11 = .ok (.aload_n 0, 1) := by decide +kernel
theorem dX9_give_12 : decode cX9_give 12 = .ok (.aload_n 0, 1) := by decide +kernel
theorem dX9_give_13 : decode cX9_give 13 = .ok (.getfield 12, 3) := by decide +kernel
theorem dX9_give_16 : decode cX9_give 16 = .ok (.getfield 41, 3) := by decide +kernel
theorem dX9_give_19 : decode cX9_give 19 = .ok (.iload_n 1, 1) := by decide +kernel
theorem dX9_give_20 : decode cX9_give 20 = .ok (.iload_n 2, 1) := by decide +kernel
theorem dX9_give_21 : decode cX9_give 21 = .ok (.iload_n 3, 1) := by decide +kernel
theorem dX9_give_22 : decode cX9_give 22 = .ok (.invokevirtual 45, 3) := by decide +kernel
theorem dX9_give_25 : decode cX9_give 25 = .ok (.invokevirtual 51, 3) := by decide +kernel
theorem dX9_give_28 : decode cX9_give 28 = .ok (.ireturn, 1) := by decide +kernel
set_option maxRecDepth 20000 in
theorem ggX9_breakOff_X2_note : GoodIn wsX9_breakOff wsX2_note := goodIn_r _ [7, 8, 9, 10, 11, 6, 12, 13, 14, 15, 16, 17, 18, 19, 20, 21, 22, 23, 24, 25, 26, 27, 28, 29, 30, 31, 32, 33, 34, 35, 36, 37, 38, 39, 40, 41, 42, 43, 44, 45, 46, 47, 48, 49, 50, 51, 52, 53, 54, 55, 56, 57, 58, 59, 60, 61, 62, 63, 64, 65, 66, 67, 68, 69, 111, 112, 113, 108, 109, 110, 114, 115, 116, 117, 118, 119, 120, 121, 122, 123, 124, 125, 126, 127, 128, 129, 130, 131, 132, 133, 134, 135] (by decide +kernel) (by decide +kernel)
set_option maxRecDepth 20000 in
theorem gX9_breakOff_X2_note : GoodIn wsX9_breakOff (wsV RX9 37 RX2 yX2_note wsX2_note) := goodIn_app (goodIn_of _ (by decide +kernel)) ggX9_breakOff_X2_note
set_option maxRecDepth 20000 in
theorem ggX9_breakOff_X8_breakPromise : GoodIn wsX9_breakOff wsX8_breakPromise := goodIn_r _ [73, 27, 34, 74, 75, 76, 43, 77, 50, 78, 79, 80, 81, 82, 83, 84, 85, 45, 86, 87, 88, 89, 114, 115, 116, 117, 118, 119, 120, 121, 122, 123, 124, 125, 126, 127, 128] (by decide +kernel) (by decide +kernel)
set_option maxRecDepth 20000 in
theorem gX9_breakOff_X8_breakPromise : GoodIn wsX9_breakOff (wsV RX9 55 RX8 yX8_breakPromise wsX8_breakPromise) := goodIn_app (goodIn_of _ (by decide +kernel)) ggX9_breakOff_X8_breakPromise
set_option maxRecDepth 20000 in
theorem ggX9_breakOff_X9_recorded : GoodIn wsX9_breakOff wsX9_recorded := goodIn_r _ [94, 1, 95, 96, 97, 6, 98, 8, 99, 100, 101, 102, 103, 104, 105, 106, 107, 111, 112, 113] (by decide +kernel) (by decide +kernel)
set_option maxRecDepth 20000 in
theorem gX9_breakOff_X9_recorded : GoodIn wsX9_breakOff (wsV RX9 51 RX9 yX9_recorded wsX9_recorded) := goodIn_app (goodIn_of _ (by decide +kernel)) ggX9_breakOff_X9_recorded
theorem dX9_breakOff_0 : decode cX9_breakOff 0 = .ok (.aload_n 0, 1) := by decide +kernel
theorem dX9_breakOff_1 : decode cX9_breakOff 1 = .ok (.getfield 19, 3) := by decide +kernel
theorem dX9_breakOff_4 : decode cX9_breakOff 4 = .ok (.aload_n 0, 1) := by decide +kernel
theorem dX9_breakOff_5 : decode cX9_breakOff 5 = .ok (.getfield 12, 3) := by decide +kernel
theorem dX9_breakOff_8 : decode cX9_breakOff 8 = .ok (.invokevirtual 37, 3) := by decide +kernel
theorem dX9_breakOff_11 : decode cX9_breakOff 11 = .ok (.aload_n 0, 1) := by decide +kernel
theorem dX9_breakOff_12 : decode cX9_breakOff 12 = .ok (.aload_n 0, 1) := by decide +kernel
theorem dX9_breakOff_13 : decode cX9_breakOff 13 = .ok (.getfield 12, 3) := by decide +kernel
theorem dX9_breakOff_16 : decode cX9_breakOff 16 = .ok (.getfield 41, 3) := by decide +kernel
theorem dX9_breakOff_19 : decode cX9_breakOff 19 = .ok (.iload_n 1, 1) := by decide +kernel
theorem dX9_breakOff_20 : decode cX9_breakOff 20 = .ok (.invokevirtual 55, 3) := by decide +kernel
theorem dX9_breakOff_23 : decode cX9_breakOff 23 = .ok (.invokevirtual 51, 3) := by decide +kernel
theorem dX9_breakOff_26 : decode cX9_breakOff 26 = .ok (.ireturn, 1) := by decide +kernel
set_option maxRecDepth 20000 in
theorem ggX9_move_X2_note : GoodIn wsX9_move wsX2_note := goodIn_r _ [7, 8, 9, 10, 11, 6, 12, 13, 14, 15, 16, 17, 18, 19, 20, 21, 22, 23, 24, 25, 26, 27, 28, 29, 30, 31, 32, 33, 34, 35, 36, 37, 38, 39, 40, 41, 42, 43, 44, 45, 46, 47, 48, 49, 50, 51, 52, 53, 54, 55, 56, 57, 58, 59, 60, 61, 62, 63, 64, 65, 66, 67, 68, 69, 132, 133, 134, 129, 130, 131, 135, 136, 137, 138, 139, 140, 141, 142, 143, 144, 145, 146, 147, 148, 149, 150, 151, 152, 153, 154, 155, 156] (by decide +kernel) (by decide +kernel)
set_option maxRecDepth 20000 in
theorem gX9_move_X2_note : GoodIn wsX9_move (wsV RX9 37 RX2 yX2_note wsX2_note) := goodIn_app (goodIn_of _ (by decide +kernel)) ggX9_move_X2_note
set_option maxRecDepth 20000 in
theorem ggX9_move_X8_movePromise : GoodIn wsX9_move wsX8_movePromise := goodIn_r _ [73, 27, 30, 28, 74, 75, 76, 43, 77, 50, 78, 79, 80, 81, 82, 83, 84, 85, 45, 86, 87, 88, 89, 54, 90, 56, 61, 58, 60, 59, 91, 92, 93, 94, 95, 96, 97, 98, 99, 100, 101, 102, 103, 104, 105, 25, 106, 107, 108, 109, 110, 135, 136, 137, 138, 139, 140, 141, 142, 143, 144, 145, 146, 147, 148, 149, 150, 151, 152, 153, 154] (by decide +kernel) (by decide +kernel)
set_option maxRecDepth 20000 in
theorem gX9_move_X8_movePromise : GoodIn wsX9_move (wsV RX9 58 RX8 yX8_movePromise wsX8_movePromise) := goodIn_app (goodIn_of _ (by decide +kernel)) ggX9_move_X8_movePromise
set_option maxRecDepth 20000 in
theorem ggX9_move_X9_recorded : GoodIn wsX9_move wsX9_recorded := goodIn_r _ [115, 1, 116, 117, 118, 6, 119, 8, 120, 121, 122, 123, 124, 125, 126, 127, 128, 132, 133, 134] (by decide +kernel) (by decide +kernel)
set_option maxRecDepth 20000 in
theorem gX9_move_X9_recorded : GoodIn wsX9_move (wsV RX9 51 RX9 yX9_recorded wsX9_recorded) := goodIn_app (goodIn_of _ (by decide +kernel)) ggX9_move_X9_recorded
theorem dX9_move_0 : decode cX9_move 0 = .ok (.aload_n 0, 1) := by decide +kernel
theorem dX9_move_1 : decode cX9_move 1 = .ok (.getfield 19, 3) := by decide +kernel
theorem dX9_move_4 : decode cX9_move 4 = .ok (.aload_n 0, 1) := by decide +kernel
theorem dX9_move_5 : decode cX9_move 5 = .ok (.getfield 12, 3) := by decide +kernel
theorem dX9_move_8 : decode cX9_move 8 = .ok (.invokevirtual 37, 3) := by decide +kernel
theorem dX9_move_11 : decode cX9_move 11 = .ok (.aload_n 0, 1) := by decide +kernel
theorem dX9_move_12 : decode cX9_move 12 = .ok (.aload_n 0, 1) := by decide +kernel
theorem dX9_move_13 : decode cX9_move 13 = .ok (.getfield 12, 3) := by decide +kernel
theorem dX9_move_16 : decode cX9_move 16 = .ok (.getfield 41, 3) := by decide +kernel
theorem dX9_move_19 : decode cX9_move 19 = .ok (.iload_n 1, 1) := by decide +kernel
theorem dX9_move_20 : decode cX9_move 20 = .ok (.iload_n 2, 1) := by decide +kernel
theorem dX9_move_21 : decode cX9_move 21 = .ok (.invokevirtual 58, 3) := by decide +kernel
theorem dX9_move_24 : decode cX9_move 24 = .ok (.invokevirtual 51, 3) := by decide +kernel
theorem dX9_move_27 : decode cX9_move 27 = .ok (.ireturn, 1) := by decide +kernel
set_option maxRecDepth 20000 in
theorem ggX9_pass_X2_note : GoodIn wsX9_pass wsX2_note := goodIn_r _ [7, 8, 9, 10, 11, 6, 12, 13, 14, 15, 16, 17, 18, 19, 20, 21, 22, 23, 24, 25, 26, 27, 28, 29, 30, 31, 32, 33, 34, 35, 36, 37, 38, 39, 40, 41, 42, 43, 44, 45, 46, 47, 48, 49, 50, 51, 52, 53, 54, 55, 56, 57, 58, 59, 60, 61, 62, 63, 64, 65, 66, 67, 68, 69, 191, 192, 193, 188, 189, 190, 194, 195, 196, 197, 198, 199, 200, 201, 202, 203, 204, 205, 206, 207, 208, 209, 210, 211, 212, 213, 214, 215] (by decide +kernel) (by decide +kernel)
set_option maxRecDepth 20000 in
theorem gX9_pass_X2_note : GoodIn wsX9_pass (wsV RX9 37 RX2 yX2_note wsX2_note) := goodIn_app (goodIn_of _ (by decide +kernel)) ggX9_pass_X2_note
set_option maxRecDepth 20000 in
theorem ggX9_pass_X8_passTicks : GoodIn wsX9_pass wsX8_passTicks := goodIn_r _ [73, 30, 29, 74, 75, 76, 65, 77, 69, 78, 79, 80, 25, 81, 34, 32, 39, 28, 82, 83, 84, 85, 86, 87, 88, 89, 27, 36, 90, 91, 92, 93, 94, 95, 96, 54, 97, 59, 98, 99, 100, 101, 56, 102, 103, 104, 105, 61, 58, 60, 106, 107, 108, 109, 110, 111, 112, 113, 114, 115, 116, 43, 117, 118, 119, 120, 121, 45, 122, 123, 124, 125, 37, 126, 127, 128, 129, 130, 131, 132, 133, 134, 135, 136, 137, 138, 139, 140, 141, 142, 143, 144, 145, 146, 31, 147, 148, 149, 150, 35, 151, 152, 153, 154, 67, 155, 156, 157, 158, 159, 160, 161, 162, 33, 38, 163, 164, 165, 166, 167, 168, 169, 170, 50, 194, 195, 196, 197, 198, 199, 200, 201, 202, 203, 204, 205, 206, 214, 215, 209, 210, 211, 212, 213, 207, 208] (by decide +kernel) (by decide +kernel)
set_option maxRecDepth 20000 in
theorem gX9_pass_X8_passTicks : GoodIn wsX9_pass (wsV RX9 62 RX8 yX8_passTicks wsX8_passTicks) := goodIn_app (goodIn_of _ (by decide +kernel)) ggX9_pass_X8_passTicks
set_option maxRecDepth 20000 in
theorem ggX9_pass_X9_recorded : GoodIn wsX9_pass wsX9_recorded := goodIn_r _ [175, 1, 176, 177, 178, 6, 179, 8, 180, 181, 182, 84, 183, 184, 185, 186, 187, 191, 192, 193] (by decide +kernel) (by decide +kernel)
set_option maxRecDepth 20000 in
theorem gX9_pass_X9_recorded : GoodIn wsX9_pass (wsV RX9 51 RX9 yX9_recorded wsX9_recorded) := goodIn_app (goodIn_of _ (by decide +kernel)) ggX9_pass_X9_recorded
theorem dX9_pass_0 : decode cX9_pass 0 = .ok (.aload_n 0, 1) := by decide +kernel
theorem dX9_pass_1 : decode cX9_pass 1 = .ok (.getfield 19, 3) := by decide +kernel
theorem dX9_pass_4 : decode cX9_pass 4 = .ok (.aload_n 0, 1) := by decide +kernel
theorem dX9_pass_5 : decode cX9_pass 5 = .ok (.getfield 12, 3) := by decide +kernel
theorem dX9_pass_8 : decode cX9_pass 8 = .ok (.invokevirtual 37, 3) := by decide +kernel
theorem dX9_pass_11 : decode cX9_pass 11 = .ok (.aload_n 0, 1) := by decide +kernel
theorem dX9_pass_12 : decode cX9_pass 12 = .ok (.aload_n 0, 1) := by decide +kernel
theorem dX9_pass_13 : decode cX9_pass 13 = .ok (.getfield 12, 3) := by decide +kernel
theorem dX9_pass_16 : decode cX9_pass 16 = .ok (.getfield 41, 3) := by decide +kernel
theorem dX9_pass_19 : decode cX9_pass 19 = .ok (.iload_n 1, 1) := by decide +kernel
theorem dX9_pass_20 : decode cX9_pass 20 = .ok (.invokevirtual 62, 3) := by decide +kernel
theorem dX9_pass_23 : decode cX9_pass 23 = .ok (.invokevirtual 51, 3) := by decide +kernel
theorem dX9_pass_26 : decode cX9_pass 26 = .ok (.ireturn, 1) := by decide +kernel
set_option maxRecDepth 20000 in
theorem ggX9_sweep_X2_note : GoodIn wsX9_sweep wsX2_note := goodIn_r _ [7, 8, 9, 10, 11, 6, 12, 13, 14, 15, 16, 17, 18, 19, 20, 21, 22, 23, 24, 25, 26, 27, 28, 29, 30, 31, 32, 33, 34, 35, 36, 37, 38, 39, 40, 41, 42, 43, 44, 45, 46, 47, 48, 49, 50, 51, 52, 53, 54, 55, 56, 57, 58, 59, 60, 61, 62, 63, 64, 65, 66, 67, 68, 69, 127, 128, 129, 124, 125, 126, 130, 131, 132, 133, 134, 135, 136, 137, 138, 139, 140, 141, 142, 143, 144, 145, 146, 147, 148, 149, 150, 151] (by decide +kernel) (by decide +kernel)
set_option maxRecDepth 20000 in
theorem gX9_sweep_X2_note : GoodIn wsX9_sweep (wsV RX9 37 RX2 yX2_note wsX2_note) := goodIn_app (goodIn_of _ (by decide +kernel)) ggX9_sweep_X2_note
set_option maxRecDepth 20000 in
theorem ggX9_sweep_X8_sweepAll : GoodIn wsX9_sweep wsX8_sweepAll := goodIn_r _ [73, 37, 27, 28, 74, 75, 76, 43, 77, 50, 78, 79, 80, 81, 82, 83, 84, 85, 45, 86, 87, 88, 54, 89, 56, 61, 58, 60, 59, 90, 91, 92, 93, 94, 95, 96, 97, 98, 99, 100, 25, 101, 34, 102, 103, 104, 105, 130, 131, 132, 133, 134, 135, 136, 137, 138, 139, 140, 141, 142, 143, 144, 145, 146, 147, 148, 149] (by decide +kernel) (by decide +kernel)
set_option maxRecDepth 20000 in
theorem gX9_sweep_X8_sweepAll : GoodIn wsX9_sweep (wsV RX9 65 RX8 yX8_sweepAll wsX8_sweepAll) := goodIn_app (goodIn_of _ (by decide +kernel)) ggX9_sweep_X8_sweepAll
set_option maxRecDepth 20000 in
theorem ggX9_sweep_X9_recorded : GoodIn wsX9_sweep wsX9_recorded := goodIn_r _ [110, 1, 111, 112, 113, 6, 114, 8, 115, 116, 117, 118, 119, 120, 121, 122, 123, 127, 128, 129] (by decide +kernel) (by decide +kernel)
set_option maxRecDepth 20000 in
theorem gX9_sweep_X9_recorded : GoodIn wsX9_sweep (wsV RX9 51 RX9 yX9_recorded wsX9_recorded) := goodIn_app (goodIn_of _ (by decide +kernel)) ggX9_sweep_X9_recorded
theorem dX9_sweep_0 : decode cX9_sweep 0 = .ok (.aload_n 0, 1) := by decide +kernel
theorem dX9_sweep_1 : decode cX9_sweep 1 = .ok (.getfield 19, 3) := by decide +kernel
theorem dX9_sweep_4 : decode cX9_sweep 4 = .ok (.aload_n 0, 1) := by decide +kernel
theorem dX9_sweep_5 : decode cX9_sweep 5 = .ok (.getfield 12, 3) := by decide +kernel
theorem dX9_sweep_8 : decode cX9_sweep 8 = .ok (.invokevirtual 37, 3) := by decide +kernel
theorem dX9_sweep_11 : decode cX9_sweep 11 = .ok (.aload_n 0, 1) := by decide +kernel
theorem dX9_sweep_12 : decode cX9_sweep 12 = .ok (.aload_n 0, 1) := by decide +kernel
theorem dX9_sweep_13 : decode cX9_sweep 13 = .ok (.getfield 12, 3) := by decide +kernel
theorem dX9_sweep_16 : decode cX9_sweep 16 = .ok (.getfield 41, 3) := by decide +kernel
theorem dX9_sweep_19 : decode cX9_sweep 19 = .ok (.invokevirtual 65, 3) := by decide +kernel
theorem dX9_sweep_22 : decode cX9_sweep 22 = .ok (.invokevirtual 51, 3) := by decide +kernel
theorem dX9_sweep_25 : decode cX9_sweep 25 = .ok (.ireturn, 1) := by decide +kernel
set_option maxRecDepth 20000 in
theorem ggX9_set_X2_note : GoodIn wsX9_set wsX2_note := goodIn_r _ [7, 8, 9, 10, 11, 6, 12, 13, 14, 15, 16, 17, 18, 19, 20, 21, 22, 23, 24, 25, 26, 27, 28, 29, 30, 31, 32, 33, 34, 35, 36, 37, 38, 39, 40, 41, 42, 43, 44, 45, 46, 47, 48, 49, 50, 51, 52, 53, 54, 55, 56, 57, 58, 59, 60, 61, 62, 63, 64, 65, 66, 67, 68, 69, 99, 100, 101, 96, 97, 98, 102, 103, 104, 105, 106, 107, 108, 109, 110, 111, 112, 113, 114, 115, 116, 117, 118, 119, 120, 121, 122, 123] (by decide +kernel) (by decide +kernel)
set_option maxRecDepth 20000 in
theorem gX9_set_X2_note : GoodIn wsX9_set (wsV RX9 37 RX2 yX2_note wsX2_note) := goodIn_app (goodIn_of _ (by decide +kernel)) ggX9_set_X2_note
set_option maxRecDepth 20000 in
theorem ggX9_set_X8_changeSetting : GoodIn wsX9_set wsX8_changeSetting := goodIn_r _ [73, 31, 32, 33, 74, 75, 76, 25, 77, 102, 103, 104, 105, 106, 107, 108, 109, 110, 111, 112, 113, 114] (by decide +kernel) (by decide +kernel)
set_option maxRecDepth 20000 in
theorem gX9_set_X8_changeSetting : GoodIn wsX9_set (wsV RX9 69 RX8 yX8_changeSetting wsX8_changeSetting) := goodIn_app (goodIn_of _ (by decide +kernel)) ggX9_set_X8_changeSetting
set_option maxRecDepth 20000 in
theorem ggX9_set_X9_recorded : GoodIn wsX9_set wsX9_recorded := goodIn_r _ [82, 1, 83, 84, 85, 6, 86, 8, 87, 88, 89, 90, 91, 92, 93, 94, 95, 99, 100, 101] (by decide +kernel) (by decide +kernel)
set_option maxRecDepth 20000 in
theorem gX9_set_X9_recorded : GoodIn wsX9_set (wsV RX9 51 RX9 yX9_recorded wsX9_recorded) := goodIn_app (goodIn_of _ (by decide +kernel)) ggX9_set_X9_recorded
theorem dX9_set_0 : decode cX9_set 0 = .ok (.aload_n 0, 1) := by decide +kernel
theorem dX9_set_1 : decode cX9_set 1 = .ok (.getfield 19, 3) := by decide +kernel
theorem dX9_set_4 : decode cX9_set 4 = .ok (.aload_n 0, 1) := by decide +kernel
theorem dX9_set_5 : decode cX9_set 5 = .ok (.getfield 12, 3) := by decide +kernel
theorem dX9_set_8 : decode cX9_set 8 = .ok (.invokevirtual 37, 3) := by decide +kernel
theorem dX9_set_11 : decode cX9_set 11 = .ok (.aload_n 0, 1) := by decide +kernel
theorem dX9_set_12 : decode cX9_set 12 = .ok (.aload_n 0, 1) := by decide +kernel
theorem dX9_set_13 : decode cX9_set 13 = .ok (.getfield 12, 3) := by decide +kernel
theorem dX9_set_16 : decode cX9_set 16 = .ok (.getfield 41, 3) := by decide +kernel
theorem dX9_set_19 : decode cX9_set 19 = .ok (.iload_n 1, 1) := by decide +kernel
theorem dX9_set_20 : decode cX9_set 20 = .ok (.iload_n 2, 1) := by decide +kernel
theorem dX9_set_21 : decode cX9_set 21 = .ok (.invokevirtual 69, 3) := by decide +kernel
theorem dX9_set_24 : decode cX9_set 24 = .ok (.invokevirtual 51, 3) := by decide +kernel
theorem dX9_set_27 : decode cX9_set 27 = .ok (.ireturn, 1) := by decide +kernel
set_option maxRecDepth 20000 in
theorem ggX9_undo_X2_stepBack : GoodIn wsX9_undo wsX2_stepBack := goodIn_r _ [7, 8, 9, 10, 11, 12, 6, 13, 14, 15, 16, 17, 18, 19, 20, 21, 22, 23, 24, 25, 26, 27, 28, 29, 30, 31, 32, 33, 34, 35, 36, 37, 38, 39, 40, 41, 42, 43, 44, 45, 46, 47, 48, 49, 50, 51, 52, 53, 54, 55, 56, 57, 58, 59, 60, 61, 62, 63, 64, 65, 66, 67, 68, 69, 70, 71, 72, 73, 74, 79, 80, 81, 82, 83, 84, 85, 86, 87, 88, 89, 90, 91, 92, 93, 94, 95, 96, 97, 98, 99, 100, 101, 102, 103, 104, 105, 106] (by decide +kernel) (by decide +kernel)
set_option maxRecDepth 20000 in
theorem gX9_undo_X2_stepBack : GoodIn wsX9_undo (wsV RX9 78 RX2 yX2_stepBack wsX2_stepBack) := goodIn_app (goodIn_of _ (by decide +kernel)) ggX9_undo_X2_stepBack
theorem dX9_undo_0 : decode cX9_undo 0 = .ok (.aload_n 0, 1) := by decide +kernel
theorem dX9_undo_1 : decode cX9_undo 1 = .ok (.getfield 19, 3) := by decide +kernel
theorem dX9_undo_4 : decode cX9_undo 4 = .ok (.aload_n 0, 1) := by decide +kernel
theorem dX9_undo_5 : decode cX9_undo 5 = .ok (.getfield 12, 3) := by decide +kernel
theorem dX9_undo_8 : decode cX9_undo 8 = .ok (.invokevirtual 78, 3) := by decide +kernel
theorem dX9_undo_11 : decode cX9_undo 11 = .ok (.ireturn, 1) := by decide +kernel
set_option maxRecDepth 20000 in
theorem ggX9_count_X6_snapshotsTaken : GoodIn wsX9_count wsX6_snapshotsTaken := goodIn_r _ [8, 9, 80, 81, 82] (by decide +kernel) (by decide +kernel)
set_option maxRecDepth 20000 in
theorem gX9_count_X6_snapshotsTaken : GoodIn wsX9_count (wsV RX9 120 RX6 yX6_snapshotsTaken wsX6_snapshotsTaken) := goodIn_app (goodIn_of _ (by decide +kernel)) ggX9_count_X6_snapshotsTaken
set_option maxRecDepth 20000 in
theorem ggX9_count_X2_size : GoodIn wsX9_count wsX2_size := goodIn_r _ [14, 15, 83, 84, 85] (by decide +kernel) (by decide +kernel)
set_option maxRecDepth 20000 in
theorem gX9_count_X2_size : GoodIn wsX9_count (wsV RX9 123 RX2 yX2_size wsX2_size) := goodIn_app (goodIn_of _ (by decide +kernel)) ggX9_count_X2_size
set_option maxRecDepth 20000 in
theorem ggX9_count_X7_length : GoodIn wsX9_count wsX7_length := goodIn_r _ [20, 21, 86, 87, 88, 89, 90] (by decide +kernel) (by decide +kernel)
set_option maxRecDepth 20000 in
theorem gX9_count_X7_length : GoodIn wsX9_count (wsV RX9 126 RX7 yX7_length wsX7_length) := goodIn_app (goodIn_of _ (by decide +kernel)) ggX9_count_X7_length
set_option maxRecDepth 20000 in
theorem ggX9_count_X8_figure : GoodIn wsX9_count wsX8_figure := goodIn_r _ [26, 27, 28, 29, 30, 31, 32, 33, 34, 35, 36, 37, 38, 39, 40, 41, 42, 43, 44, 45, 46, 47, 48, 49, 50, 51, 52, 53, 54, 55, 56, 57, 58, 59, 60, 61, 62, 63, 25, 64, 65, 66, 67, 91, 92, 93, 94, 95, 96, 97, 98, 99, 100, 101, 102, 103, 104, 105, 106, 107] (by decide +kernel) (by decide +kernel)
set_option maxRecDepth 20000 in
theorem gX9_count_X8_figure : GoodIn wsX9_count (wsV RX9 129 RX8 yX8_figure wsX8_figure) := goodIn_app (goodIn_of _ (by decide +kernel)) ggX9_count_X8_figure
theorem dX9_count_0 : decode cX9_count 0 = .ok (.iload_n 1, 1) := by decide +kernel
theorem dX9_count_1 : decode cX9_count 1 = .ok (.ifCond .lt 9, 3) := by decide +kernel
theorem dX9_count_4 : decode cX9_count 4 = .ok (.iload_n 1, 1) := by decide +kernel
theorem dX9_count_5 : decode cX9_count 5 = .ok (.bipush 16, 2) := by decide +kernel
theorem dX9_count_7 : decode cX9_count 7 = .ok (.if_icmp .le 5, 3) := by decide +kernel
theorem dX9_count_10 : decode cX9_count 10 = .ok (.iconst (-1), 1) := by decide +kernel
theorem dX9_count_11 : decode cX9_count 11 = .ok (.ireturn, 1) := by decide +kernel
theorem dX9_count_12 : decode cX9_count 12 = .ok (.iload_n 1, 1) := by decide +kernel
theorem dX9_count_13 : decode cX9_count 13 = .ok (.tableswitch 54 11 13 #[27, 35, 43], 27) := by decide +kernel
theorem dX9_count_40 : decode cX9_count 40 = .ok (.aload_n 0, 1) := by decide +kernel
theorem dX9_count_41 : decode cX9_count 41 = .ok (.getfield 12, 3) := by decide +kernel
theorem dX9_count_44 : decode cX9_count 44 = .ok (.invokevirtual 120, 3) := by decide +kernel
theorem dX9_count_47 : decode cX9_count 47 = .ok (.ireturn, 1) := by decide +kernel
theorem dX9_count_48 : decode cX9_count 48 = .ok (.aload_n 0, 1) := by decide +kernel
theorem dX9_count_49 : decode cX9_count 49 = .ok (.getfield 19, 3) := by decide +kernel
theorem dX9_count_52 : decode cX9_count 52 = .ok (.invokevirtual 123, 3) := by decide +kernel
theorem dX9_count_55 : decode cX9_count 55 = .ok (.ireturn, 1) := by decide +kernel
theorem dX9_count_56 : decode cX9_count 56 = .ok (.aload_n 0, 1) := by decide +kernel
theorem dX9_count_57 : decode cX9_count 57 = .ok (.getfield 26, 3) := by decide +kernel
theorem dX9_count_60 : decode cX9_count 60 = .ok (.getfield 82, 3) := by decide +kernel
theorem dX9_count_63 : decode cX9_count 63 = .ok (.invokevirtual 126, 3) := by decide +kernel
theorem dX9_count_66 : decode cX9_count 66 = .ok (.ireturn, 1) := by decide +kernel
theorem dX9_count_67 : decode cX9_count 67 = .ok (.aload_n 0, 1) := by decide +kernel
theorem dX9_count_68 : decode cX9_count 68 = .ok (.getfield 12, 3) := by decide +kernel
theorem dX9_count_71 : decode cX9_count 71 = .ok (.getfield 41, 3) := by decide +kernel
theorem dX9_count_74 : decode cX9_count 74 = .ok (.iload_n 1, 1) := by decide +kernel
theorem dX9_count_75 : decode cX9_count 75 = .ok (.invokevirtual 129, 3) := by decide +kernel
theorem dX9_count_78 : decode cX9_count 78 = .ok (.ireturn, 1) := by decide +kernel
set_option maxRecDepth 20000 in
theorem ggX9_promise_X5_has : GoodIn wsX9_promise wsX5_has := goodIn_r _ [6, 7, 66, 67] (by decide +kernel) (by decide +kernel)
set_option maxRecDepth 20000 in
theorem gX9_promise_X5_has : GoodIn wsX9_promise (wsV RX9 136 RX5 yX5_has wsX5_has) := goodIn_app (goodIn_of _ (by decide +kernel)) ggX9_promise_X5_has
set_option maxRecDepth 20000 in
theorem ggX9_promise_X8_tellPromise : GoodIn wsX9_promise wsX8_tellPromise := goodIn_r _ [12, 13, 14, 15, 16, 17, 18, 19, 20, 21, 22, 23, 5, 24, 25, 26, 27, 28, 29, 30, 31, 32, 33, 34, 35, 36, 37, 38, 39, 40, 41, 42, 43, 44, 45, 53, 54, 55, 56, 57, 58, 59, 60, 61, 62, 63, 64, 65, 68, 69, 70, 71, 72, 66, 67] (by decide +kernel) (by decide +kernel)
set_option maxRecDepth 20000 in
theorem gX9_promise_X8_tellPromise : GoodIn wsX9_promise (wsV RX9 142 RX8 yX8_tellPromise wsX8_tellPromise) := goodIn_app (goodIn_of _ (by decide +kernel)) ggX9_promise_X8_tellPromise
theorem dX9_promise_0 : decode cX9_promise 0 = .ok (.aload_n 0, 1) := by decide +kernel
theorem dX9_promise_1 : decode cX9_promise 1 = .ok (.getfield 12, 3) := by decide +kernel
theorem dX9_promise_4 : decode cX9_promise 4 = .ok (.getfield 41, 3) := by decide +kernel
theorem dX9_promise_7 : decode cX9_promise 7 = .ok (.getfield 132, 3) := by decide +kernel
theorem dX9_promise_10 : decode cX9_promise 10 = .ok (.iload_n 1, 1) := by decide +kernel
theorem dX9_promise_11 : decode cX9_promise 11 = .ok (.invokevirtual 136, 3) := by decide +kernel
theorem dX9_promise_14 : decode cX9_promise 14 = .ok (.ifCond .eq 13, 3) := by decide +kernel
theorem dX9_promise_17 : decode cX9_promise 17 = .ok (.iload_n 2, 1) := by decide +kernel
theorem dX9_promise_18 : decode cX9_promise 18 = .ok (.ifCond .lt 9, 3) := by decide +kernel
theorem dX9_promise_21 : decode cX9_promise 21 = .ok (.iload_n 2, 1) := by decide +kernel
theorem dX9_promise_22 : decode cX9_promise 22 = .ok (.bipush 8, 2) := by decide +kernel
theorem dX9_promise_24 : decode cX9_promise 24 = .ok (.if_icmp .le 5, 3) := by decide +kernel
theorem dX9_promise_27 : decode cX9_promise 27 = .ok (.iconst (-1), 1) := by decide +kernel
theorem dX9_promise_28 : decode cX9_promise 28 = .ok (.ireturn, 1) := by decide +kernel
theorem dX9_promise_29 : decode cX9_promise 29 = .ok (.aload_n 0, 1) := by decide +kernel
theorem dX9_promise_30 : decode cX9_promise 30 = .ok (.getfield 12, 3) := by decide +kernel
theorem dX9_promise_33 : decode cX9_promise 33 = .ok (.getfield 41, 3) := by decide +kernel
theorem dX9_promise_36 : decode cX9_promise 36 = .ok (.iload_n 1, 1) := by decide +kernel
theorem dX9_promise_37 : decode cX9_promise 37 = .ok (.iload_n 2, 1) := by decide +kernel
theorem dX9_promise_38 : decode cX9_promise 38 = .ok (.invokevirtual 142, 3) := by decide +kernel
theorem dX9_promise_41 : decode cX9_promise 41 = .ok (.ireturn, 1) := by decide +kernel
set_option maxRecDepth 20000 in
theorem ggX9_call_X0_read : GoodIn wsX9_call wsX0_read := goodIn_r _ [6, 7, 8, 9, 10, 11, 12, 13, 14, 15, 16, 37, 38] (by decide +kernel) (by decide +kernel)
set_option maxRecDepth 20000 in
theorem gX9_call_X0_read : GoodIn wsX9_call (wsV RX9 163 RX0 yX0_read wsX0_read) := goodIn_app (goodIn_of _ (by decide +kernel)) ggX9_call_X0_read
theorem dX9_call_0 : decode cX9_call 0 = .ok (.iload_n 1, 1) := by decide +kernel
theorem dX9_call_1 : decode cX9_call 1 = .ok (.ifCond .lt 18, 3) := by decide +kernel
theorem dX9_call_4 : decode cX9_call 4 = .ok (.iload_n 1, 1) := by decide +kernel
theorem dX9_call_5 : decode cX9_call 5 = .ok (.bipush 12, 2) := by decide +kernel
theorem dX9_call_7 : decode cX9_call 7 = .ok (.if_icmp .ge 12, 3) := by decide +kernel
theorem dX9_call_10 : decode cX9_call 10 = .ok (.iload_n 2, 1) := by decide +kernel
theorem dX9_call_11 : decode cX9_call 11 = .ok (.ifCond .lt 8, 3) := by decide +kernel
theorem dX9_call_14 : decode cX9_call 14 = .ok (.iload_n 2, 1) := by decide +kernel
theorem dX9_call_15 : decode cX9_call 15 = .ok (.iconst 3, 1) := by decide +kernel
theorem dX9_call_16 : decode cX9_call 16 = .ok (.if_icmp .lt 5, 3) := by decide +kernel
theorem dX9_call_19 : decode cX9_call 19 = .ok (.iconst (-1), 1) := by decide +kernel
theorem dX9_call_20 : decode cX9_call 20 = .ok (.ireturn, 1) := by decide +kernel
theorem dX9_call_21 : decode cX9_call 21 = .ok (.aload_n 0, 1) := by decide +kernel
theorem dX9_call_22 : decode cX9_call 22 = .ok (.getfield 12, 3) := by decide +kernel
theorem dX9_call_25 : decode cX9_call 25 = .ok (.getfield 41, 3) := by decide +kernel
theorem dX9_call_28 : decode cX9_call 28 = .ok (.getfield 159, 3) := by decide +kernel
theorem dX9_call_31 : decode cX9_call 31 = .ok (.iload_n 1, 1) := by decide +kernel
theorem dX9_call_32 : decode cX9_call 32 = .ok (.iload_n 2, 1) := by decide +kernel
theorem dX9_call_33 : decode cX9_call 33 = .ok (.invokevirtual 163, 3) := by decide +kernel
theorem dX9_call_36 : decode cX9_call 36 = .ok (.ireturn, 1) := by decide +kernel
set_option maxRecDepth 20000 in
theorem ggX9_next_X8_earliestOfAll : GoodIn wsX9_next wsX8_earliestOfAll := goodIn_r _ [6, 7, 8, 9, 10, 11, 12, 13, 14, 15, 16, 17, 18, 19, 20, 21, 22, 23, 24, 25, 26, 27, 28, 29, 30, 73, 74, 75, 76, 77, 78, 79, 80, 81, 82, 83, 84, 85, 86, 87] (by decide +kernel) (by decide +kernel)
set_option maxRecDepth 20000 in
theorem gX9_next_X8_earliestOfAll : GoodIn wsX9_next (wsV RX9 166 RX8 yX8_earliestOfAll wsX8_earliestOfAll) := goodIn_app (goodIn_of _ (by decide +kernel)) ggX9_next_X8_earliestOfAll
set_option maxRecDepth 20000 in
theorem ggX9_next_X8_earliestByRings : GoodIn wsX9_next wsX8_earliestByRings := goodIn_r _ [34, 7, 35, 36, 37, 5, 38, 39, 40, 41, 42, 43, 44, 45, 46, 47, 48, 49, 50, 51, 52, 53, 54, 55, 56, 57, 58, 59, 14, 15, 16, 11, 17, 18, 19, 20, 21, 22, 23, 24, 25, 26, 27, 28, 29, 30, 60, 61, 62, 63, 64, 73, 74, 75, 76, 77, 78, 79, 80, 81, 82, 83, 84, 85, 88, 89, 90, 91, 92, 86, 87] (by decide +kernel) (by decide +kernel)
set_option maxRecDepth 20000 in
theorem gX9_next_X8_earliestByRings : GoodIn wsX9_next (wsV RX9 169 RX8 yX8_earliestByRings wsX8_earliestByRings) := goodIn_app (goodIn_of _ (by decide +kernel)) ggX9_next_X8_earliestByRings
set_option maxRecDepth 20000 in
theorem ggX9_next_X5_fact : GoodIn wsX9_next wsX5_fact := goodIn_r _ [21, 22, 86, 87] (by decide +kernel) (by decide +kernel)
set_option maxRecDepth 20000 in
theorem gX9_next_X5_fact : GoodIn wsX9_next (wsV RX9 172 RX5 yX5_fact wsX5_fact) := goodIn_app (goodIn_of _ (by decide +kernel)) ggX9_next_X5_fact
theorem dX9_next_0 : decode cX9_next 0 = .ok (.iload_n 1, 1) := by decide +kernel
theorem dX9_next_1 : decode cX9_next 1 = .ok (.ifCond .lt 17, 3) := by decide +kernel
theorem dX9_next_4 : decode cX9_next 4 = .ok (.iload_n 1, 1) := by decide +kernel
theorem dX9_next_5 : decode cX9_next 5 = .ok (.iconst 1, 1) := by decide +kernel
theorem dX9_next_6 : decode cX9_next 6 = .ok (.if_icmp .gt 12, 3) := by decide +kernel
theorem dX9_next_9 : decode cX9_next 9 = .ok (.iload_n 2, 1) := by decide +kernel
theorem dX9_next_10 : decode cX9_next 10 = .ok (.ifCond .lt 8, 3) := by decide +kernel
theorem dX9_next_13 : decode cX9_next 13 = .ok (.iload_n 2, 1) := by decide +kernel
theorem dX9_next_14 : decode cX9_next 14 = .ok (.iconst 1, 1) := by decide +kernel
theorem dX9_next_15 : decode cX9_next 15 = .ok (.if_icmp .le 5, 3) := by decide +kernel
theorem dX9_next_18 : decode cX9_next 18 = .ok (.iconst (-1), 1) := by decide +kernel
theorem dX9_next_19 : decode cX9_next 19 = .ok (.ireturn, 1) := by decide +kernel
theorem dX9_next_20 : decode cX9_next 20 = .ok (.aload_n 0, 1) := by decide +kernel
theorem dX9_next_21 : decode cX9_next 21 = .ok (.getfield 12, 3) := by decide +kernel
theorem dX9_next_24 : decode cX9_next 24 = .ok (.getfield 41, 3) := by decide +kernel
theorem dX9_next_27 : decode cX9_next 27 = .ok (.astore_n 3, 1) := by decide +kernel
theorem dX9_next_28 : decode cX9_next 28 = .ok (.iload_n 1, 1) := by decide +kernel
theorem dX9_next_29 : decode cX9_next 29 = .ok (.ifCond .ne 10, 3) := by decide +kernel
theorem dX9_next_32 : decode cX9_next 32 = .ok (.aload_n 3, 1) := by decide +kernel
theorem dX9_next_33 : decode cX9_next 33 = .ok (.invokevirtual 166, 3) := by decide +kernel
theorem dX9_next_36 : decode cX9_next 36 = .ok (.goto 7, 3) := by decide +kernel
theorem dX9_next_39 : decode cX9_next 39 = .ok (.aload_n 3, 1) := by decide +kernel
theorem dX9_next_40 : decode cX9_next 40 = .ok (.invokevirtual 169, 3) := by decide +kernel
theorem dX9_next_43 : decode cX9_next 43 = .ok (.istore 4, 2) := by decide +kernel
theorem dX9_next_45 : decode cX9_next 45 = .ok (.iload 4, 2) := by decide +kernel
theorem dX9_next_47 : decode cX9_next 47 = .ok (.iconst (-1), 1) := by decide +kernel
theorem dX9_next_48 : decode cX9_next 48 = .ok (.if_icmp .ne 6, 3) := by decide +kernel
theorem dX9_next_51 : decode cX9_next 51 = .ok (.bipush (-9), 2) := by decide +kernel
theorem dX9_next_53 : decode cX9_next 53 = .ok (.ireturn, 1) := by decide +kernel
theorem dX9_next_54 : decode cX9_next 54 = .ok (.iload_n 2, 1) := by decide +kernel
theorem dX9_next_55 : decode cX9_next 55 = .ok (.ifCond .ne 8, 3) := by decide +kernel
theorem dX9_next_58 : decode cX9_next 58 = .ok (.iload 4, 2) := by decide +kernel
theorem dX9_next_60 : decode cX9_next 60 = .ok (.goto 13, 3) := by decide +kernel
theorem dX9_next_63 : decode cX9_next 63 = .ok (.aload_n 3, 1) := by decide +kernel
theorem dX9_next_64 : decode cX9_next 64 = .ok (.getfield 132, 3) := by decide +kernel
theorem dX9_next_67 : decode cX9_next 67 = .ok (.iload 4, 2) := by decide +kernel
theorem dX9_next_69 : decode cX9_next 69 = .ok (.iconst 1, 1) := by decide +kernel
theorem dX9_next_70 : decode cX9_next 70 = .ok (.invokevirtual 172, 3) := by decide +kernel
theorem dX9_next_73 : decode cX9_next 73 = .ok (.ireturn, 1) := by decide +kernel
set_option maxRecDepth 20000 in
theorem ggX9_when_X5_has : GoodIn wsX9_when wsX5_has := goodIn_r _ [7, 8, 179, 180] (by decide +kernel) (by decide +kernel)
set_option maxRecDepth 20000 in
theorem gX9_when_X5_has : GoodIn wsX9_when (wsV RX9 136 RX5 yX5_has wsX5_has) := goodIn_app (goodIn_of _ (by decide +kernel)) ggX9_when_X5_has
set_option maxRecDepth 20000 in
theorem ggX9_when_X5_isAlive : GoodIn wsX9_when wsX5_isAlive := goodIn_r _ [12, 13, 14, 15, 6, 16, 17, 179, 180] (by decide +kernel) (by decide +kernel)
set_option maxRecDepth 20000 in
theorem gX9_when_X5_isAlive : GoodIn wsX9_when (wsV RX9 175 RX5 yX5_isAlive wsX5_isAlive) := goodIn_app (goodIn_of _ (by decide +kernel)) ggX9_when_X5_isAlive
set_option maxRecDepth 20000 in
theorem ggX9_when_X1_tickOfCall : GoodIn wsX9_when wsX1_tickOfCall := goodIn_r _ [22, 23, 24, 25, 26, 27, 28, 29, 30, 31, 32, 33, 34, 35, 36, 37, 38, 39, 40, 41, 42, 43, 44, 6, 45, 17, 46, 47, 48, 49, 8, 50, 51, 52, 53, 54, 55, 56, 57, 58, 59, 60, 61, 62, 63, 64, 65, 66, 67, 68, 69, 14, 15, 16, 70, 71, 72, 73, 74, 75, 76, 77, 78, 79, 80, 81, 82, 83, 84, 85, 86, 87, 88, 89, 90, 91, 92, 93, 94, 95, 96, 97, 98, 99, 100, 101, 102, 103, 104, 105, 106, 107, 108, 109, 13, 110, 111, 112, 113, 114, 115, 116, 117, 118, 119, 120, 121, 122, 123, 124, 125, 126, 127, 128, 129, 130, 131, 132, 133, 134, 135, 136, 137, 138, 139, 140, 141, 142, 143, 144, 145, 146, 147, 148, 149, 150, 151, 152, 153, 154, 155, 156, 157, 158, 181, 166, 167, 168, 169, 170, 171, 172, 173, 174, 175, 176, 177, 178, 179, 180, 182, 183, 184, 185, 186, 187, 188] (by decide +kernel) (by decide +kernel)
set_option maxRecDepth 20000 in
theorem gX9_when_X1_tickOfCall : GoodIn wsX9_when (wsV RX9 178 RX1 yX1_tickOfCall wsX1_tickOfCall) := goodIn_app (goodIn_of _ (by decide +kernel)) ggX9_when_X1_tickOfCall
theorem dX9_when_0 : decode cX9_when 0 = .ok (.aload_n 0, 1) := by decide +kernel
theorem dX9_when_1 : decode cX9_when 1 = .ok (.getfield 12, 3) := by decide +kernel
theorem dX9_when_4 : decode cX9_when 4 = .ok (.getfield 41, 3) := by decide +kernel
theorem dX9_when_7 : decode cX9_when 7 = .ok (.getfield 132, 3) := by decide +kernel
theorem dX9_when_10 : decode cX9_when 10 = .ok (.astore_n 2, 1) := by decide +kernel
theorem dX9_when_11 : decode cX9_when 11 = .ok (.aload_n 2, 1) := by decide +kernel
theorem dX9_when_12 : decode cX9_when 12 = .ok (.iload_n 1, 1) := by decide +kernel
theorem dX9_when_13 : decode cX9_when 13 = .ok (.invokevirtual 136, 3) := by decide +kernel
theorem dX9_when_16 : decode cX9_when 16 = .ok (.ifCond .ne 5, 3) := by decide +kernel
theorem dX9_when_19 : decode cX9_when 19 = .ok (.iconst (-1), 1) := by decide +kernel
theorem dX9_when_20 : decode cX9_when 20 = .ok (.ireturn, 1) := by decide +kernel
theorem dX9_when_21 : decode cX9_when 21 = .ok (.aload_n 2, 1) := by decide +kernel
theorem dX9_when_22 : decode cX9_when 22 = .ok (.iload_n 1, 1) := by decide +kernel
theorem dX9_when_23 : decode cX9_when 23 = .ok (.invokevirtual 175, 3) := by decide +kernel
theorem dX9_when_26 : decode cX9_when 26 = .ok (.ifCond .ne 6, 3) := by decide +kernel
theorem dX9_when_29 : decode cX9_when 29 = .ok (.bipush (-2), 2) := by decide +kernel
theorem dX9_when_31 : decode cX9_when 31 = .ok (.ireturn, 1) := by decide +kernel
theorem dX9_when_32 : decode cX9_when 32 = .ok (.aload_n 0, 1) := by decide +kernel
theorem dX9_when_33 : decode cX9_when 33 = .ok (.getfield 33, 3) := by decide +kernel
theorem dX9_when_36 : decode cX9_when 36 = .ok (.aload_n 0, 1) := by decide +kernel
theorem dX9_when_37 : decode cX9_when 37 = .ok (.getfield 12, 3) := by decide +kernel
theorem dX9_when_40 : decode cX9_when 40 = .ok (.getfield 41, 3) := by decide +kernel
theorem dX9_when_43 : decode cX9_when 43 = .ok (.iload_n 1, 1) := by decide +kernel
theorem dX9_when_44 : decode cX9_when 44 = .ok (.invokevirtual 178, 3) := by decide +kernel
theorem dX9_when_47 : decode cX9_when 47 = .ok (.ireturn, 1) := by decide +kernel
set_option maxRecDepth 20000 in
theorem ggX9_would_X1_outcome : GoodIn wsX9_would wsX1_outcome := goodIn_r _ [7, 8, 9, 10, 11, 12, 13, 14, 15, 16, 17, 18, 19, 20, 21, 22, 23, 24, 25, 26, 27, 28, 29, 30, 31, 32, 33, 34, 35, 36, 37, 38, 39, 40, 41, 42, 43, 44, 45, 46, 47, 48, 49, 50, 51, 52, 53, 54, 55, 56, 57, 58, 59, 60, 61, 62, 63, 64, 65, 66, 67, 68, 69, 70, 71, 72, 73, 74, 75, 76, 77, 78, 79, 80, 81, 82, 83, 84, 85, 86, 87, 88, 89, 90, 91, 92, 93, 94, 95, 96, 97, 98, 99, 100, 101, 102, 103, 104, 105, 106, 107, 108, 109, 110, 111, 112, 113, 114, 115, 116, 117, 118, 119, 120, 121, 122, 123, 124, 125, 126, 127, 128, 129, 130, 131, 132, 133, 134, 135, 136, 137, 138, 139, 140, 141, 142, 143, 144, 145, 146, 147, 148, 149, 150, 151, 152, 153, 154, 155, 156, 157, 158, 159, 167, 168, 169, 170, 171, 172, 173, 174, 175, 176, 177, 178, 179, 180, 181, 182, 183, 184, 185, 186, 187, 188, 189] (by decide +kernel) (by decide +kernel)
set_option maxRecDepth 20000 in
theorem gX9_would_X1_outcome : GoodIn wsX9_would (wsV RX9 182 RX1 yX1_outcome wsX1_outcome) := goodIn_app (goodIn_of _ (by decide +kernel)) ggX9_would_X1_outcome
theorem dX9_would_0 : decode cX9_would 0 = .ok (.iload_n 1, 1) := by decide +kernel
theorem dX9_would_1 : decode cX9_would 1 = .ok (.iconst 1, 1) := by decide +kernel
theorem dX9_would_2 : decode cX9_would 2 = .ok (.if_icmp .lt 19, 3) := by decide +kernel
theorem dX9_would_5 : decode cX9_would 5 = .ok (.iload_n 1, 1) := by decide +kernel
theorem dX9_would_6 : decode cX9_would 6 = .ok (.sipush 600, 3) := by decide +kernel
theorem dX9_would_9 : decode cX9_would 9 = .ok (.if_icmp .gt 12, 3) := by decide +kernel
theorem dX9_would_12 : decode cX9_would 12 = .ok (.iload_n 2, 1) := by decide +kernel
theorem dX9_would_13 : decode cX9_would 13 = .ok (.ifCond .lt 8, 3) := by decide +kernel
theorem dX9_would_16 : decode cX9_would 16 = .ok (.iload_n 2, 1) := by decide +kernel
theorem dX9_would_17 : decode cX9_would 17 = .ok (.iconst 2, 1) := by decide +kernel
theorem dX9_would_18 : decode cX9_would 18 = .ok (.if_icmp .le 5, 3) := by decide +kernel
theorem dX9_would_21 : decode cX9_would 21 = .ok (.iconst (-1), 1) := by decide +kernel
theorem dX9_would_22 : decode cX9_would 22 = .ok (.ireturn, 1) := by decide +kernel
theorem dX9_would_23 : decode cX9_would 23 = .ok (.aload_n 0, 1) := by decide +kernel
theorem dX9_would_24 : decode cX9_would 24 = .ok (.getfield 33, 3) := by decide +kernel
theorem dX9_would_27 : decode cX9_would 27 = .ok (.aload_n 0, 1) := by decide +kernel
theorem dX9_would_28 : decode cX9_would 28 = .ok (.getfield 12, 3) := by decide +kernel
theorem dX9_would_31 : decode cX9_would 31 = .ok (.getfield 41, 3) := by decide +kernel
theorem dX9_would_34 : decode cX9_would 34 = .ok (.iload_n 1, 1) := by decide +kernel
theorem dX9_would_35 : decode cX9_would 35 = .ok (.iload_n 2, 1) := by decide +kernel
theorem dX9_would_36 : decode cX9_would 36 = .ok (.invokevirtual 182, 3) := by decide +kernel
theorem dX9_would_39 : decode cX9_would 39 = .ok (.ireturn, 1) := by decide +kernel
set_option maxRecDepth 20000 in
theorem ggX9_leastRoom_X1_leastTimelyRoom : GoodIn wsX9_leastRoom wsX1_leastTimelyRoom := goodIn_r _ [7, 8, 9, 10, 11, 12, 13, 14, 15, 16, 17, 18, 19, 20, 21, 22, 23, 24, 25, 26, 27, 28, 29, 30, 31, 32, 33, 34, 35, 36, 37, 38, 39, 40, 41, 42, 43, 44, 45, 46, 47, 48, 49, 50, 51, 52, 53, 54, 55, 56, 57, 58, 59, 6, 60, 61, 62, 63, 64, 65, 66, 67, 68, 69, 70, 71, 72, 73, 74, 75, 76, 77, 78, 79, 80, 81, 82, 83, 84, 85, 86, 87, 88, 89, 90, 91, 92, 93, 94, 95, 96, 97, 98, 99, 100, 101, 102, 103, 104, 105, 106, 107, 108, 109, 110, 111, 112, 113, 114, 115, 116, 117, 118, 119, 120, 121, 122, 123, 124, 125, 126, 127, 128, 129, 130, 131, 132, 133, 134, 135, 136, 137, 138, 139, 140, 141, 142, 143, 144, 145, 146, 147, 148, 149, 150, 151, 152, 153, 161, 162, 163, 164, 165, 166, 167, 168, 169, 170, 171, 172, 173, 174, 175, 176, 177, 178, 179, 180, 181, 182, 183] (by decide +kernel) (by decide +kernel)
set_option maxRecDepth 20000 in
theorem gX9_leastRoom_X1_leastTimelyRoom : GoodIn wsX9_leastRoom (wsV RX9 186 RX1 yX1_leastTimelyRoom wsX1_leastTimelyRoom) := goodIn_app (goodIn_of _ (by decide +kernel)) ggX9_leastRoom_X1_leastTimelyRoom
theorem dX9_leastRoom_0 : decode cX9_leastRoom 0 = .ok (.iload_n 1, 1) := by decide +kernel
theorem dX9_leastRoom_1 : decode cX9_leastRoom 1 = .ok (.iconst 1, 1) := by decide +kernel
theorem dX9_leastRoom_2 : decode cX9_leastRoom 2 = .ok (.if_icmp .lt 10, 3) := by decide +kernel
theorem dX9_leastRoom_5 : decode cX9_leastRoom 5 = .ok (.iload_n 1, 1) := by decide +kernel
theorem dX9_leastRoom_6 : decode cX9_leastRoom 6 = .ok (.sipush 200, 3) := by decide +kernel
theorem dX9_leastRoom_9 : decode cX9_leastRoom 9 = .ok (.if_icmp .le 5, 3) := by decide +kernel
theorem dX9_leastRoom_12 : decode cX9_leastRoom 12 = .ok (.iconst (-1), 1) := by decide +kernel
theorem dX9_leastRoom_13 : decode cX9_leastRoom 13 = .ok (.ireturn, 1) := by decide +kernel
theorem dX9_leastRoom_14 : decode cX9_leastRoom 14 = .ok (.aload_n 0, 1) := by decide +kernel
theorem dX9_leastRoom_15 : decode cX9_leastRoom 15 = .ok (.getfield 33, 3) := by decide +kernel
theorem dX9_leastRoom_18 : decode cX9_leastRoom 18 = .ok (.aload_n 0, 1) := by decide +kernel
theorem dX9_leastRoom_19 : decode cX9_leastRoom 19 = .ok (.getfield 12, 3) := by decide +kernel
theorem dX9_leastRoom_22 : decode cX9_leastRoom 22 = .ok (.getfield 41, 3) := by decide +kernel
theorem dX9_leastRoom_25 : decode cX9_leastRoom 25 = .ok (.iload_n 1, 1) := by decide +kernel
theorem dX9_leastRoom_26 : decode cX9_leastRoom 26 = .ok (.invokevirtual 186, 3) := by decide +kernel
theorem dX9_leastRoom_29 : decode cX9_leastRoom 29 = .ok (.ireturn, 1) := by decide +kernel
set_option maxRecDepth 20000 in
theorem ggX9_recorded_X2_keepNoted : GoodIn wsX9_recorded wsX2_keepNoted := goodIn_r _ [6, 7, 8, 9, 10, 11, 12, 17, 18, 19] (by decide +kernel) (by decide +kernel)
set_option maxRecDepth 20000 in
theorem gX9_recorded_X2_keepNoted : GoodIn wsX9_recorded (wsV RX9 189 RX2 yX2_keepNoted wsX2_keepNoted) := goodIn_app (goodIn_of _ (by decide +kernel)) ggX9_recorded_X2_keepNoted
theorem dX9_recorded_0 : decode cX9_recorded 0 = .ok (.iload_n 1, 1) := by decide +kernel
theorem dX9_recorded_1 : decode cX9_recorded 1 = .ok (.ifCond .lt 10, 3) := by decide +kernel
theorem dX9_recorded_4 : decode cX9_recorded 4 = .ok (.aload_n 0, 1) := by decide +kernel
theorem dX9_recorded_5 : decode cX9_recorded 5 = .ok (.getfield 19, 3) := by decide +kernel
theorem dX9_recorded_8 : decode cX9_recorded 8 = .ok (.invokevirtual 189, 3) := by decide +kernel
theorem dX9_recorded_11 : decode cX9_recorded 11 = .ok (.iload_n 1, 1) := by decide +kernel
theorem dX9_recorded_12 : decode cX9_recorded 12 = .ok (.ireturn, 1) := by decide +kernel
theorem dJ9_floorMod_7cf53_0 : decode cJ9_floorMod_7cf53 0 = .ok (.iload_n 0, 1) := by decide +kernel
theorem dJ9_floorMod_7cf53_1 : decode cJ9_floorMod_7cf53 1 = .ok (.iload_n 1, 1) := by decide +kernel
theorem dJ9_floorMod_7cf53_2 : decode cJ9_floorMod_7cf53 2 = .ok (.irem, 1) := by decide +kernel
theorem dJ9_floorMod_7cf53_3 : decode cJ9_floorMod_7cf53 3 = .ok (.istore_n 2, 1) := by decide +kernel
theorem dJ9_floorMod_7cf53_4 : decode cJ9_floorMod_7cf53 4 = .ok (.iload_n 0, 1) := by decide +kernel
theorem dJ9_floorMod_7cf53_5 : decode cJ9_floorMod_7cf53 5 = .ok (.iload_n 1, 1) := by decide +kernel
theorem dJ9_floorMod_7cf53_6 : decode cJ9_floorMod_7cf53 6 = .ok (.ixor, 1) := by decide +kernel
theorem dJ9_floorMod_7cf53_7 : decode cJ9_floorMod_7cf53 7 = .ok (.ifCond .ge 11, 3) := by decide +kernel
theorem dJ9_floorMod_7cf53_10 : decode cJ9_floorMod_7cf53 10 = .ok (.iload_n 2, 1) := by decide +kernel
theorem dJ9_floorMod_7cf53_11 : decode cJ9_floorMod_7cf53 11 = .ok (.ifCond .eq 7, 3) := by decide +kernel
theorem dJ9_floorMod_7cf53_14 : decode cJ9_floorMod_7cf53 14 = .ok (.iload_n 2, 1) := by decide +kernel
theorem dJ9_floorMod_7cf53_15 : decode cJ9_floorMod_7cf53 15 = .ok (.iload_n 1, 1) := by decide +kernel
theorem dJ9_floorMod_7cf53_16 : decode cJ9_floorMod_7cf53 16 = .ok (.iadd, 1) := by decide +kernel
theorem dJ9_floorMod_7cf53_17 : decode cJ9_floorMod_7cf53 17 = .ok (.ireturn, 1) := by decide +kernel
theorem dJ9_floorMod_7cf53_18 : decode cJ9_floorMod_7cf53 18 = .ok (.iload_n 2, 1) := by decide +kernel
theorem dJ9_floorMod_7cf53_19 : decode cJ9_floorMod_7cf53 19 = .ok (.ireturn, 1) := by decide +kernel
theorem dJ9_max_7cf53_0 : decode cJ9_max_7cf53 0 = .ok (.iload_n 0, 1) := by decide +kernel
theorem dJ9_max_7cf53_1 : decode cJ9_max_7cf53 1 = .ok (.iload_n 1, 1) := by decide +kernel
theorem dJ9_max_7cf53_2 : decode cJ9_max_7cf53 2 = .ok (.if_icmp .lt 7, 3) := by decide +kernel
theorem dJ9_max_7cf53_5 : decode cJ9_max_7cf53 5 = .ok (.iload_n 0, 1) := by decide +kernel
theorem dJ9_max_7cf53_6 : decode cJ9_max_7cf53 6 = .ok (.goto 4, 3) := by decide +kernel
theorem dJ9_max_7cf53_9 : decode cJ9_max_7cf53 9 = .ok (.iload_n 1, 1) := by decide +kernel
theorem dJ9_max_7cf53_10 : decode cJ9_max_7cf53 10 = .ok (.ireturn, 1) := by decide +kernel
theorem dJ9_min_7cf53_0 : decode cJ9_min_7cf53 0 = .ok (.iload_n 0, 1) := by decide +kernel
theorem dJ9_min_7cf53_1 : decode cJ9_min_7cf53 1 = .ok (.iload_n 1, 1) := by decide +kernel
theorem dJ9_min_7cf53_2 : decode cJ9_min_7cf53 2 = .ok (.if_icmp .gt 7, 3) := by decide +kernel
theorem dJ9_min_7cf53_5 : decode cJ9_min_7cf53 5 = .ok (.iload_n 0, 1) := by decide +kernel
theorem dJ9_min_7cf53_6 : decode cJ9_min_7cf53 6 = .ok (.goto 4, 3) := by decide +kernel
theorem dJ9_min_7cf53_9 : decode cJ9_min_7cf53 9 = .ok (.iload_n 1, 1) := by decide +kernel
theorem dJ9_min_7cf53_10 : decode cJ9_min_7cf53 10 = .ok (.ireturn, 1) := by decide +kernel
theorem dJ7_fill_53178_0 : decode cJ7_fill_53178 0 = .ok (.iconst 0, 1) := by decide +kernel
theorem dJ7_fill_53178_1 : decode cJ7_fill_53178 1 = .ok (.istore_n 2, 1) := by decide +kernel
theorem dJ7_fill_53178_2 : decode cJ7_fill_53178 2 = .ok (.aload_n 0, 1) := by decide +kernel
theorem dJ7_fill_53178_3 : decode cJ7_fill_53178 3 = .ok (.arraylength, 1) := by decide +kernel
theorem dJ7_fill_53178_4 : decode cJ7_fill_53178 4 = .ok (.istore_n 3, 1) := by decide +kernel
theorem dJ7_fill_53178_5 : decode cJ7_fill_53178 5 = .ok (.iload_n 2, 1) := by decide +kernel
theorem dJ7_fill_53178_6 : decode cJ7_fill_53178 6 = .ok (.iload_n 3, 1) := by decide +kernel
theorem dJ7_fill_53178_7 : decode cJ7_fill_53178 7 = .ok (.if_icmp .ge 13, 3) := by decide +kernel
theorem dJ7_fill_53178_10 : decode cJ7_fill_53178 10 = .ok (.aload_n 0, 1) := by decide +kernel
theorem dJ7_fill_53178_11 : decode cJ7_fill_53178 11 = .ok (.iload_n 2, 1) := by decide +kernel
theorem dJ7_fill_53178_12 : decode cJ7_fill_53178 12 = .ok (.iload_n 1, 1) := by decide +kernel
theorem dJ7_fill_53178_13 : decode cJ7_fill_53178 13 = .ok (.iastore, 1) := by decide +kernel
theorem dJ7_fill_53178_14 : decode cJ7_fill_53178 14 = .ok (.iinc 2 1, 3) := by decide +kernel
theorem dJ7_fill_53178_17 : decode cJ7_fill_53178 17 = .ok (.goto (-12), 3) := by decide +kernel
theorem dJ7_fill_53178_20 : decode cJ7_fill_53178 20 = .ok (.return_, 1) := by decide +kernel
