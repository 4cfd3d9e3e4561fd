theorem dX0_keptByMirrors_36 : decode cX0_keptByMirrors 36 = .ok (.iload_n 1, 1) := by decide +kernel
theorem dX0_keptByMirrors_37 : decode cX0_keptByMirrors 37 = .ok (.if_icmp .gt 42, 3) := by decide +kernel
theorem dX0_keptByMirrors_40 : decode cX0_keptByMirrors 40 = .ok (.iload_n 1, 1) := by decide +kernel
theorem dX0_keptByMirrors_41 : decode cX0_keptByMirrors 41 = .ok (.iload 6, 2) := by decide +kernel
theorem dX0_keptByMirrors_43 : decode cX0_keptByMirrors 43 = .ok (.isub, 1) := by decide +kernel
theorem dX0_keptByMirrors_44 : decode cX0_keptByMirrors 44 = .ok (.iconst 2, 1) := by decide +kernel
theorem dX0_keptByMirrors_45 : decode cX0_keptByMirrors 45 = .ok (.invokestatic 24, 3) := by decide +kernel
theorem dX0_keptByMirrors_48 : decode cX0_keptByMirrors 48 = .ok (.ifCond .ne 25, 3) := by decide +kernel
theorem dX0_keptByMirrors_51 : decode cX0_keptByMirrors 51 = .ok (.iload_n 2, 1) := by decide +kernel
theorem dX0_keptByMirrors_52 : decode cX0_keptByMirrors 52 = .ok (.iload 4, 2) := by decide +kernel
theorem dX0_keptByMirrors_54 : decode cX0_keptByMirrors 54 = .ok (.iload 6, 2) := by decide +kernel
theorem dX0_keptByMirrors_56 : decode cX0_keptByMirrors 56 = .ok (.invokestatic 27, 3) := by decide +kernel
theorem dX0_keptByMirrors_59 : decode cX0_keptByMirrors 59 = .ok (.iload 5, 2) := by decide +kernel
theorem dX0_keptByMirrors_61 : decode cX0_keptByMirrors 61 = .ok (.iload_n 1, 1) := by decide +kernel
theorem dX0_keptByMirrors_62 : decode cX0_keptByMirrors 62 = .ok (.iload 6, 2) := by decide +kernel
theorem dX0_keptByMirrors_64 : decode cX0_keptByMirrors 64 = .ok (.isub, 1) := by decide +kernel
theorem dX0_keptByMirrors_65 : decode cX0_keptByMirrors 65 = .ok (.iconst 2, 1) := by decide +kernel
theorem dX0_keptByMirrors_66 : decode cX0_keptByMirrors 66 = .ok (.idiv, 1) := by decide +kernel
theorem dX0_keptByMirrors_67 : decode cX0_keptByMirrors 67 = .ok (.invokestatic 27, 3) := by decide +kernel
theorem dX0_keptByMirrors_70 : decode cX0_keptByMirrors 70 = .ok (.imul, 1) := by decide +kernel
theorem dX0_keptByMirrors_71 : decode cX0_keptByMirrors 71 = .ok (.iadd, 1) := by decide +kernel
theorem dX0_keptByMirrors_72 : decode cX0_keptByMirrors 72 = .ok (.istore_n 2, 1) := by decide +kernel
theorem dX0_keptByMirrors_73 : decode cX0_keptByMirrors 73 = .ok (.iinc 6 1, 3) := by decide +kernel
theorem dX0_keptByMirrors_76 : decode cX0_keptByMirrors 76 = .ok (.goto (-49), 3) := by decide +kernel
theorem dX0_keptByMirrors_79 : decode cX0_keptByMirrors 79 = .ok (.iinc 3 1, 3) := by decide +kernel
theorem dX0_keptByMirrors_82 : decode cX0_keptByMirrors 82 = .ok (.goto (-78), 3) := by decide +kernel
theorem dX0_keptByMirrors_85 : decode cX0_keptByMirrors 85 = .ok (.iload_n 2, 1) := by decide +kernel
theorem dX0_keptByMirrors_86 : decode cX0_keptByMirrors 86 = .ok (.ireturn, 1) := by decide +kernel
set_option maxRecDepth 20000 in
theorem ggX0_stillBeats_X6_leftOver : GoodIn wsX0_stillBeats wsX6_leftOver := goodIn_r _ [3] (by decide +kernel) (by decide +kernel)
set_option maxRecDepth 20000 in
theorem gX0_stillBeats_X6_leftOver_n24 : GoodIn wsX0_stillBeats (wsX6_leftOver) := ggX0_stillBeats_X6_leftOver
theorem dX0_stillBeats_0 : decode cX0_stillBeats 0 = .ok (.iconst 0, 1) := by decide +kernel
theorem dX0_stillBeats_1 : decode cX0_stillBeats 1 = .ok (.istore_n 2, 1) := by decide +kernel
theorem dX0_stillBeats_2 : decode cX0_stillBeats 2 = .ok (.iconst 0, 1) := by decide +kernel
theorem dX0_stillBeats_3 : decode cX0_stillBeats 3 = .ok (.istore_n 3, 1) := by decide +kernel
theorem dX0_stillBeats_4 : decode cX0_stillBeats 4 = .ok (.iload_n 3, 1) := by decide +kernel
theorem dX0_stillBeats_5 : decode cX0_stillBeats 5 = .ok (.iload_n 0, 1) := by decide +kernel
theorem dX0_stillBeats_6 : decode cX0_stillBeats 6 = .ok (.if_icmp .ge 24, 3) := by decide +kernel
theorem dX0_stillBeats_9 : decode cX0_stillBeats 9 = .ok (.iconst 2, 1) := by decide +kernel
theorem dX0_stillBeats_10 : decode cX0_stillBeats 10 = .ok (.iload_n 3, 1) := by decide +kernel
theorem dX0_stillBeats_11 : decode cX0_stillBeats 11 = .ok (.imul, 1) := by decide +kernel
theorem dX0_stillBeats_12 : decode cX0_stillBeats 12 = .ok (.iload_n 1, 1) := by decide +kernel
theorem dX0_stillBeats_13 : decode cX0_stillBeats 13 = .ok (.isub, 1) := by decide +kernel
theorem dX0_stillBeats_14 : decode cX0_stillBeats 14 = .ok (.iload_n 0, 1) := by decide +kernel
theorem dX0_stillBeats_15 : decode cX0_stillBeats 15 = .ok (.invokestatic 24, 3) := by decide +kernel
theorem dX0_stillBeats_18 : decode cX0_stillBeats 18 = .ok (.ifCond .ne 6, 3) := by decide +kernel
theorem dX0_stillBeats_21 : decode cX0_stillBeats 21 = .ok (.iinc 2 1, 3) := by decide +kernel
theorem dX0_stillBeats_24 : decode cX0_stillBeats 24 = .ok (.iinc 3 1, 3) := by decide +kernel
theorem dX0_stillBeats_27 : decode cX0_stillBeats 27 = .ok (.goto (-23), 3) := by decide +kernel
theorem dX0_stillBeats_30 : decode cX0_stillBeats 30 = .ok (.iload_n 2, 1) := by decide +kernel
theorem dX0_stillBeats_31 : decode cX0_stillBeats 31 = .ok (.ireturn, 1) := by decide +kernel
set_option maxRecDepth 20000 in
theorem ggX0_commonDivisor_X6_leftOver : GoodIn wsX0_commonDivisor wsX6_leftOver := goodIn_r _ [3] (by decide +kernel) (by decide +kernel)
set_option maxRecDepth 20000 in
theorem gX0_commonDivisor_X6_leftOver_n24 : GoodIn wsX0_commonDivisor (wsX6_leftOver) := ggX0_commonDivisor_X6_leftOver
theorem dX0_commonDivisor_0 : decode cX0_commonDivisor 0 = .ok (.iload_n 0, 1) := by decide +kernel
theorem dX0_commonDivisor_1 : decode cX0_commonDivisor 1 = .ok (.istore_n 2, 1) := by decide +kernel
theorem dX0_commonDivisor_2 : decode cX0_commonDivisor 2 = .ok (.iload_n 2, 1) := by decide +kernel
theorem dX0_commonDivisor_3 : decode cX0_commonDivisor 3 = .ok (.iconst 1, 1) := by decide +kernel
theorem dX0_commonDivisor_4 : decode cX0_commonDivisor 4 = .ok (.if_icmp .le 27, 3) := by decide +kernel
theorem dX0_commonDivisor_7 : decode cX0_commonDivisor 7 = .ok (.iload_n 0, 1) := by decide +kernel
theorem dX0_commonDivisor_8 : decode cX0_commonDivisor 8 = .ok (.iload_n 2, 1) := by decide +kernel
theorem dX0_commonDivisor_9 : decode cX0_commonDivisor 9 = .ok (.invokestatic 24, 3) := by decide +kernel
theorem dX0_commonDivisor_12 : decode cX0_commonDivisor 12 = .ok (.ifCond .ne 13, 3) := by decide +kernel
theorem dX0_commonDivisor_15 : decode cX0_commonDivisor 15 = .ok (.iload_n 1, 1) := by decide +kernel
theorem dX0_commonDivisor_16 : decode cX0_commonDivisor 16 = .ok (.iload_n 2, 1) := by decide +kernel
theorem dX0_commonDivisor_17 : decode cX0_commonDivisor 17 = .ok (.invokestatic 24, 3) := by decide +kernel
theorem dX0_commonDivisor_20 : decode cX0_commonDivisor 20 = .ok (.ifCond .ne 5, 3) := by decide +kernel
theorem dX0_commonDivisor_23 : decode cX0_commonDivisor 23 = .ok (.iload_n 2, 1) := by decide +kernel
theorem dX0_commonDivisor_24 : decode cX0_commonDivisor 24 = .ok (.ireturn, 1) := by decide +kernel
theorem dX0_commonDivisor_25 : decode cX0_commonDivisor 25 = .ok (.iinc 2 (-1), 3) := by decide +kernel
theorem dX0_commonDivisor_28 : decode cX0_commonDivisor 28 = .ok (.goto (-26), 3) := by decide +kernel
theorem dX0_commonDivisor_31 : decode cX0_commonDivisor 31 = .ok (.iconst 1, 1) := by decide +kernel
theorem dX0_commonDivisor_32 : decode cX0_commonDivisor 32 = .ok (.ireturn, 1) := by decide +kernel
set_option maxRecDepth 20000 in
theorem ggX0_choose_X6_quotient : GoodIn wsX0_choose wsX6_quotient := goodIn_r _ [3] (by decide +kernel) (by decide +kernel)
set_option maxRecDepth 20000 in
theorem gX0_choose_X6_quotient_n13 : GoodIn wsX0_choose (wsX6_quotient) := ggX0_choose_X6_quotient
theorem dX0_choose_0 : decode cX0_choose 0 = .ok (.iload_n 1, 1) := by decide +kernel
theorem dX0_choose_1 : decode cX0_choose 1 = .ok (.iload_n 0, 1) := by decide +kernel
theorem dX0_choose_2 : decode cX0_choose 2 = .ok (.if_icmp .le 5, 3) := by decide +kernel
theorem dX0_choose_5 : decode cX0_choose 5 = .ok (.iconst 0, 1) := by decide +kernel
theorem dX0_choose_6 : decode cX0_choose 6 = .ok (.ireturn, 1) := by decide +kernel
theorem dX0_choose_7 : decode cX0_choose 7 = .ok (.iconst 1, 1) := by decide +kernel
theorem dX0_choose_8 : decode cX0_choose 8 = .ok (.istore_n 2, 1) := by decide +kernel
theorem dX0_choose_9 : decode cX0_choose 9 = .ok (.iconst 1, 1) := by decide +kernel
theorem dX0_choose_10 : decode cX0_choose 10 = .ok (.istore_n 3, 1) := by decide +kernel
theorem dX0_choose_11 : decode cX0_choose 11 = .ok (.iload_n 3, 1) := by decide +kernel
theorem dX0_choose_12 : decode cX0_choose 12 = .ok (.iload_n 1, 1) := by decide +kernel
theorem dX0_choose_13 : decode cX0_choose 13 = .ok (.if_icmp .gt 21, 3) := by decide +kernel
theorem dX0_choose_16 : decode cX0_choose 16 = .ok (.iload_n 2, 1) := by decide +kernel
theorem dX0_choose_17 : decode cX0_choose 17 = .ok (.iload_n 0, 1) := by decide +kernel
theorem dX0_choose_18 : decode cX0_choose 18 = .ok (.iconst 1, 1) := by decide +kernel
theorem dX0_choose_19 : decode cX0_choose 19 = .ok (.iadd, 1) := by decide +kernel
theorem dX0_choose_20 : decode cX0_choose 20 = .ok (.iload_n 3, 1) := by decide +kernel
theorem dX0_choose_21 : decode cX0_choose 21 = .ok (.isub, 1) := by decide +kernel
theorem dX0_choose_22 : decode cX0_choose 22 = .ok (.imul, 1) := by decide +kernel
theorem dX0_choose_23 : decode cX0_choose 23 = .ok (.iload_n 3, 1) := by decide +kernel
theorem dX0_choose_24 : decode cX0_choose 24 = .ok (.invokestatic 13, 3) := by decide +kernel
theorem dX0_choose_27 : decode cX0_choose 27 = .ok (.istore_n 2, 1) := by decide +kernel
theorem dX0_choose_28 : decode cX0_choose 28 = .ok (.iinc 3 1, 3) := by decide +kernel
theorem dX0_choose_31 : decode cX0_choose 31 = .ok (.goto (-20), 3) := by decide +kernel
theorem dX0_choose_34 : decode cX0_choose 34 = .ok (.iload_n 2, 1) := by decide +kernel
theorem dX0_choose_35 : decode cX0_choose 35 = .ok (.ireturn, 1) := by decide +kernel
set_option maxRecDepth 20000 in
theorem ggX1_init_X1_clear : GoodIn wsX1_init wsX1_clear := goodIn_r _ [12, 13, 14, 15, 16] (by decide +kernel) (by decide +kernel)
set_option maxRecDepth 20000 in
theorem gX1_init_X1_clear : GoodIn wsX1_init (wsV RX1 19 RX1 yX1_clear wsX1_clear) := goodIn_app (goodIn_of _ (by decide +kernel)) ggX1_init_X1_clear
theorem dX1_init_0 : decode cX1_init 0 = .ok (.aload_n 0, 1) := by decide +kernel
theorem dX1_init_1 : decode cX1_init 1 = .ok (.invokespecial 3, 3) := by decide +kernel
theorem dX1_init_4 : decode cX1_init 4 = .ok (.aload_n 0, 1) := by decide +kernel
theorem dX1_init_5 : decode cX1_init 5 = .ok (.bipush 8, 2) := by decide +kernel
theorem dX1_init_7 : decode cX1_init 7 = .ok (.newarray .int, 2) := by decide +kernel
theorem dX1_init_9 : decode cX1_init 9 = .ok (.putfield 9, 3) := by decide +kernel
theorem dX1_init_12 : decode cX1_init 12 = .ok (.aload_n 0, 1) := by decide +kernel
theorem dX1_init_13 : decode cX1_init 13 = .ok (.bipush 8, 2) := by decide +kernel
theorem dX1_init_15 : decode cX1_init 15 = .ok (.newarray .boolean, 2) := by decide +kernel
theorem dX1_init_17 : decode cX1_init 17 = .ok (.putfield 15, 3) := by decide +kernel
theorem dX1_init_20 : decode cX1_init 20 = .ok (.aload_n 0, 1) := by decide +kernel
theorem dX1_init_21 : decode cX1_init 21 = .ok (.invokevirtual 19, 3) := by decide +kernel
theorem dX1_init_24 : decode cX1_init 24 = .ok (.return_, 1) := by decide +kernel
theorem dX1_clear_0 : decode cX1_clear 0 = .ok (.aload_n 0, 1) := by decide +kernel
theorem dX1_clear_1 : decode cX1_clear 1 = .ok (.iconst 0, 1) := by decide +kernel
theorem dX1_clear_2 : decode cX1_clear 2 = .ok (.putfield 22, 3) := by decide +kernel
theorem dX1_clear_5 : decode cX1_clear 5 = .ok (.return_, 1) := by decide +kernel
theorem dX1_add_0 : decode cX1_add 0 = .ok (.aload_n 0, 1) := by decide +kernel
theorem dX1_add_1 : decode cX1_add 1 = .ok (.getfield 22, 3) := by decide +kernel
theorem dX1_add_4 : decode cX1_add 4 = .ok (.ifCond .lt 12, 3) := by decide +kernel
theorem dX1_add_7 : decode cX1_add 7 = .ok (.aload_n 0, 1) := by decide +kernel
theorem dX1_add_8 : decode cX1_add 8 = .ok (.getfield 22, 3) := by decide +kernel
theorem dX1_add_11 : decode cX1_add 11 = .ok (.bipush 8, 2) := by decide +kernel
theorem dX1_add_13 : decode cX1_add 13 = .ok (.if_icmp .lt 6, 3) := by decide +kernel
theorem dX1_add_16 : decode cX1_add 16 = .ok (.ldc 26, 2) := by decide +kernel
theorem dX1_add_18 : decode cX1_add 18 = .ok (.ireturn, 1) := by decide +kernel
theorem dX1_add_19 : decode cX1_add 19 = .ok (.aload_n 0, 1) := by decide +kernel
theorem dX1_add_20 : decode cX1_add 20 = .ok (.getfield 9, 3) := by decide +kernel
theorem dX1_add_23 : decode cX1_add 23 = .ok (.aload_n 0, 1) := by decide +kernel
theorem dX1_add_24 : decode cX1_add 24 = .ok (.getfield 22, 3) := by decide +kernel
theorem dX1_add_27 : decode cX1_add 27 = .ok (.iload_n 1, 1) := by decide +kernel
theorem dX1_add_28 : decode cX1_add 28 = .ok (.iastore, 1) := by decide +kernel
theorem dX1_add_29 : decode cX1_add 29 = .ok (.aload_n 0, 1) := by decide +kernel
theorem dX1_add_30 : decode cX1_add 30 = .ok (.getfield 15, 3) := by decide +kernel
theorem dX1_add_33 : decode cX1_add 33 = .ok (.aload_n 0, 1) := by decide +kernel
theorem dX1_add_34 : decode cX1_add 34 = .ok (.getfield 22, 3) := by decide +kernel
theorem dX1_add_37 : decode cX1_add 37 = .ok (.iload_n 2, 1) := by decide +kernel
theorem dX1_add_38 : decode cX1_add 38 = .ok (.bastore, 1) := by decide +kernel
theorem dX1_add_39 : decode cX1_add 39 = .ok (.aload_n 0, 1) := by decide +kernel
theorem dX1_add_40 : decode cX1_add 40 = .ok (.dup, 1) := by decide +kernel
theorem dX1_add_41 : decode cX1_add 41 = .ok (.getfield 22, 3) := by decide +kernel
theorem dX1_add_44 : decode cX1_add 44 = .ok (.iconst 1, 1) := by decide +kernel
theorem dX1_add_45 : decode cX1_add 45 = .ok (.iadd, 1) := by decide +kernel
theorem dX1_add_46 : decode cX1_add 46 = .ok (.putfield 22, 3) := by decide +kernel
theorem dX1_add_49 : decode cX1_add 49 = .ok (.aload_n 0, 1) := by decide +kernel
theorem dX1_add_50 : decode cX1_add 50 = .ok (.getfield 22, 3) := by decide +kernel
theorem dX1_add_53 : decode cX1_add 53 = .ok (.ireturn, 1) := by decide +kernel
set_option maxRecDepth 20000 in
theorem ggX1_fitting_X6_full : GoodIn wsX1_fitting wsX6_full := goodIn_r _ [6] (by decide +kernel) (by decide +kernel)
set_option maxRecDepth 20000 in
theorem gX1_fitting_X6_full_n27 : GoodIn wsX1_fitting (wsX6_full) := ggX1_fitting_X6_full
set_option maxRecDepth 20000 in
theorem ggX1_fitting_X6_turnsThatStrike : GoodIn wsX1_fitting wsX6_turnsThatStrike := goodIn_r _ [8, 9, 10, 5, 11, 12, 13, 14, 15, 16, 17, 18, 19, 20, 21, 22, 23, 24, 4, 6] (by decide +kernel) (by decide +kernel)
set_option maxRecDepth 20000 in
theorem gX1_fitting_X6_turnsThatStrike_n33 : GoodIn wsX1_fitting (wsX6_turnsThatStrike) := ggX1_fitting_X6_turnsThatStrike
theorem dX1_fitting_0 : decode cX1_fitting 0 = .ok (.iload_n 1, 1) := by decide +kernel
theorem dX1_fitting_1 : decode cX1_fitting 1 = .ok (.invokestatic 27, 3) := by decide +kernel
theorem dX1_fitting_4 : decode cX1_fitting 4 = .ok (.istore_n 3, 1) := by decide +kernel
theorem dX1_fitting_5 : decode cX1_fitting 5 = .ok (.iconst 0, 1) := by decide +kernel
theorem dX1_fitting_6 : decode cX1_fitting 6 = .ok (.istore 4, 2) := by decide +kernel
theorem dX1_fitting_8 : decode cX1_fitting 8 = .ok (.iload 4, 2) := by decide +kernel
theorem dX1_fitting_10 : decode cX1_fitting 10 = .ok (.aload_n 0, 1) := by decide +kernel
theorem dX1_fitting_11 : decode cX1_fitting 11 = .ok (.getfield 22, 3) := by decide +kernel
theorem dX1_fitting_14 : decode cX1_fitting 14 = .ok (.if_icmp .ge 65, 3) := by decide +kernel
theorem dX1_fitting_17 : decode cX1_fitting 17 = .ok (.iload 4, 2) := by decide +kernel
theorem dX1_fitting_19 : decode cX1_fitting 19 = .ok (.bipush 8, 2) := by decide +kernel
theorem dX1_fitting_21 : decode cX1_fitting 21 = .ok (.if_icmp .ge 58, 3) := by decide +kernel
theorem dX1_fitting_24 : decode cX1_fitting 24 = .ok (.aload_n 0, 1) := by decide +kernel
theorem dX1_fitting_25 : decode cX1_fitting 25 = .ok (.getfield 9, 3) := by decide +kernel
theorem dX1_fitting_28 : decode cX1_fitting 28 = .ok (.iload 4, 2) := by decide +kernel
theorem dX1_fitting_30 : decode cX1_fitting 30 = .ok (.iaload, 1) := by decide +kernel
theorem dX1_fitting_31 : decode cX1_fitting 31 = .ok (.iload_n 1, 1) := by decide +kernel
theorem dX1_fitting_32 : decode cX1_fitting 32 = .ok (.if_icmp .lt 5, 3) := by decide +kernel
theorem dX1_fitting_35 : decode cX1_fitting 35 = .ok (.iconst 0, 1) := by decide +kernel
theorem dX1_fitting_36 : decode cX1_fitting 36 = .ok (.ireturn, 1) := by decide +kernel
theorem dX1_fitting_37 : decode cX1_fitting 37 = .ok (.iload_n 1, 1) := by decide +kernel
theorem dX1_fitting_38 : decode cX1_fitting 38 = .ok (.iload_n 2, 1) := by decide +kernel
theorem dX1_fitting_39 : decode cX1_fitting 39 = .ok (.aload_n 0, 1) := by decide +kernel
theorem dX1_fitting_40 : decode cX1_fitting 40 = .ok (.getfield 9, 3) := by decide +kernel
theorem dX1_fitting_43 : decode cX1_fitting 43 = .ok (.iload 4, 2) := by decide +kernel
theorem dX1_fitting_45 : decode cX1_fitting 45 = .ok (.iaload, 1) := by decide +kernel
theorem dX1_fitting_46 : decode cX1_fitting 46 = .ok (.invokestatic 33, 3) := by decide +kernel
theorem dX1_fitting_49 : decode cX1_fitting 49 = .ok (.istore 5, 2) := by decide +kernel
theorem dX1_fitting_51 : decode cX1_fitting 51 = .ok (.iload_n 3, 1) := by decide +kernel
theorem dX1_fitting_52 : decode cX1_fitting 52 = .ok (.aload_n 0, 1) := by decide +kernel
theorem dX1_fitting_53 : decode cX1_fitting 53 = .ok (.getfield 15, 3) := by decide +kernel
theorem dX1_fitting_56 : decode cX1_fitting 56 = .ok (.iload 4, 2) := by decide +kernel
theorem dX1_fitting_58 : decode cX1_fitting 58 = .ok (.baload, 1) := by decide +kernel
theorem dX1_fitting_59 : decode cX1_fitting 59 = .ok (.ifCond .eq 8, 3) := by decide +kernel
theorem dX1_fitting_62 : decode cX1_fitting 62 = .ok (.iload 5, 2) := by decide +kernel
theorem dX1_fitting_64 : decode cX1_fitting 64 = .ok (.goto 7, 3) := by decide +kernel
theorem dX1_fitting_67 : decode cX1_fitting 67 = .ok (.iload 5, 2) := by decide +kernel
theorem dX1_fitting_69 : decode cX1_fitting 69 = .ok (.iconst (-1), 1) := by decide +kernel
theorem dX1_fitting_70 : decode cX1_fitting 70 = .ok (.ixor, 1) := by decide +kernel
theorem dX1_fitting_71 : decode cX1_fitting 71 = .ok (.iand, 1) := by decide +kernel
theorem dX1_fitting_72 : decode cX1_fitting 72 = .ok (.istore_n 3, 1) := by decide +kernel
theorem dX1_fitting_73 : decode cX1_fitting 73 = .ok (.iinc 4 1, 3) := by decide +kernel
theorem dX1_fitting_76 : decode cX1_fitting 76 = .ok (.goto (-68), 3) := by decide +kernel
theorem dX1_fitting_79 : decode cX1_fitting 79 = .ok (.iload_n 3, 1) := by decide +kernel
theorem dX1_fitting_80 : decode cX1_fitting 80 = .ok (.ireturn, 1) := by decide +kernel
theorem dX2_init_0 : decode cX2_init 0 = .ok (.aload_n 0, 1) := by decide +kernel
theorem dX2_init_1 : decode cX2_init 1 = .ok (.invokespecial 3, 3) := by decide +kernel
theorem dX2_init_4 : decode cX2_init 4 = .ok (.aload_n 0, 1) := by decide +kernel
theorem dX2_init_5 : decode cX2_init 5 = .ok (.iconst 2, 1) := by decide +kernel
theorem dX2_init_6 : decode cX2_init 6 = .ok (.newarray .int, 2) := by decide +kernel
theorem dX2_init_8 : decode cX2_init 8 = .ok (.putfield 9, 3) := by decide +kernel
theorem dX2_init_11 : decode cX2_init 11 = .ok (.aload_n 0, 1) := by decide +kernel
theorem dX2_init_12 : decode cX2_init 12 = .ok (.iconst 2, 1) := by decide +kernel
theorem dX2_init_13 : decode cX2_init 13 = .ok (.newarray .int, 2) := by decide +kernel
theorem dX2_init_15 : decode cX2_init 15 = .ok (.putfield 15, 3) := by decide +kernel
theorem dX2_init_18 : decode cX2_init 18 = .ok (.aload_n 0, 1) := by decide +kernel
theorem dX2_init_19 : decode cX2_init 19 = .ok (.iconst 2, 1) := by decide +kernel
theorem dX2_init_20 : decode cX2_init 20 = .ok (.newarray .int, 2) := by decide +kernel
theorem dX2_init_22 : decode cX2_init 22 = .ok (.putfield 18, 3) := by decide +kernel
theorem dX2_init_25 : decode cX2_init 25 = .ok (.return_, 1) := by decide +kernel
set_option maxRecDepth 20000 in
theorem ggX3_init_X8_init : GoodIn wsX3_init wsX8_init := goodIn_r _ [12, 13, 2, 3, 14, 15, 16, 17, 18, 19, 20, 21, 22, 23, 24, 25, 26, 27, 28, 29, 30] (by decide +kernel) (by decide +kernel)
set_option maxRecDepth 20000 in
theorem gX3_init_X8_init_n11 : GoodIn wsX3_init (wsX8_init) := ggX3_init_X8_init
theorem dX3_init_0 : decode cX3_init 0 = .ok (.aload_n 0, 1) := by decide +kernel
theorem dX3_init_1 : decode cX3_init 1 = .ok (.invokespecial 3, 3) := by decide +kernel
theorem dX3_init_4 : decode cX3_init 4 = .ok (.aload_n 0, 1) := by decide +kernel
theorem dX3_init_5 : decode cX3_init 5 = .ok (.new 9, 3) := by decide +kernel
theorem dX3_init_8 : decode cX3_init 8 = .ok (.dup, 1) := by decide +kernel
theorem dX3_init_9 : decode cX3_init 9 = .ok (.iconst 1, 1) := by decide +kernel
theorem dX3_init_10 : decode cX3_init 10 = .ok (.invokespecial 11, 3) := by decide +kernel
theorem dX3_init_13 : decode cX3_init 13 = .ok (.putfield 14, 3) := by decide +kernel
theorem dX3_init_16 : decode cX3_init 16 = .ok (.aload_n 0, 1) := by decide +kernel
theorem dX3_init_17 : decode cX3_init 17 = .ok (.iconst 0, 1) := by decide +kernel
theorem dX3_init_18 : decode cX3_init 18 = .ok (.putfield 20, 3) := by decide +kernel
theorem dX3_init_21 : decode cX3_init 21 = .ok (.aload_n 0, 1) := by decide +kernel
theorem dX3_init_22 : decode cX3_init 22 = .ok (.iconst 0, 1) := by decide +kernel
theorem dX3_init_23 : decode cX3_init 23 = .ok (.putfield 24, 3) := by decide +kernel
theorem dX3_init_26 : decode cX3_init 26 = .ok (.aload_n 0, 1) := by decide +kernel
theorem dX3_init_27 : decode cX3_init 27 = .ok (.iconst (-1), 1) := by decide +kernel
theorem dX3_init_28 : decode cX3_init 28 = .ok (.putfield 27, 3) := by decide +kernel
theorem dX3_init_31 : decode cX3_init 31 = .ok (.return_, 1) := by decide +kernel
set_option maxRecDepth 20000 in
theorem ggX3_sizeOf_J6_bitCount_0f7a4 : GoodIn wsX3_sizeOf wsJ6_bitCount_0f7a4 := goodIn_r _ [4, 5, 6, 7] (by decide +kernel) (by decide +kernel)
set_option maxRecDepth 20000 in
theorem gX3_sizeOf_J6_bitCount_0f7a4 : GoodIn wsX3_sizeOf (va_wsS RX3 30 yJ6_bitCount_0f7a4 wsJ6_bitCount_0f7a4) := goodIn_app (goodIn_of _ (by decide +kernel)) ggX3_sizeOf_J6_bitCount_0f7a4
theorem dX3_sizeOf_0 : decode cX3_sizeOf 0 = .ok (.iload_n 0, 1) := by decide +kernel
theorem dX3_sizeOf_1 : decode cX3_sizeOf 1 = .ok (.iconst (-1), 1) := by decide +kernel
theorem dX3_sizeOf_2 : decode cX3_sizeOf 2 = .ok (.if_icmp .ne 7, 3) := by decide +kernel
theorem dX3_sizeOf_5 : decode cX3_sizeOf 5 = .ok (.iconst (-1), 1) := by decide +kernel
theorem dX3_sizeOf_6 : decode cX3_sizeOf 6 = .ok (.goto 7, 3) := by decide +kernel
theorem dX3_sizeOf_9 : decode cX3_sizeOf 9 = .ok (.iload_n 0, 1) := by decide +kernel
theorem dX3_sizeOf_10 : decode cX3_sizeOf 10 = .ok (.invokestatic 30, 3) := by decide +kernel
theorem dX3_sizeOf_13 : decode cX3_sizeOf 13 = .ok (.ireturn, 1) := by decide +kernel
set_option maxRecDepth 20000 in
theorem ggX3_of_X3_leastOfSize : GoodIn wsX3_of wsX3_leastOfSize := goodIn_r _ [8, 1, 9, 2, 10, 11, 12, 13, 14, 15, 16, 17, 18, 19, 20, 21, 22, 23, 24, 25, 26, 27, 28, 29, 30, 31, 32, 33, 34, 35, 36, 37, 38, 39, 40, 41, 42, 43, 44, 45, 46, 47, 48, 49, 50, 51, 52, 53, 54, 55, 56, 7, 57, 58, 59, 60, 61, 62, 63, 64, 65, 66, 67, 68, 69] (by decide +kernel) (by decide +kernel)
set_option maxRecDepth 20000 in
theorem gX3_of_X3_leastOfSize : GoodIn wsX3_of (wsV RX3 36 RX3 yX3_leastOfSize wsX3_leastOfSize) := goodIn_app (goodIn_of _ (by decide +kernel)) ggX3_of_X3_leastOfSize
theorem dX3_of_0 : decode cX3_of 0 = .ok (.iload_n 1, 1) := by decide +kernel
theorem dX3_of_1 : decode cX3_of 1 = .ok (.aload_n 0, 1) := by decide +kernel
theorem dX3_of_2 : decode cX3_of 2 = .ok (.getfield 20, 3) := by decide +kernel
theorem dX3_of_5 : decode cX3_of 5 = .ok (.if_icmp .ne 16, 3) := by decide +kernel
theorem dX3_of_8 : decode cX3_of 8 = .ok (.iload_n 2, 1) := by decide +kernel
theorem dX3_of_9 : decode cX3_of 9 = .ok (.aload_n 0, 1) := by decide +kernel
theorem dX3_of_10 : decode cX3_of 10 = .ok (.getfield 24, 3) := by decide +kernel
theorem dX3_of_13 : decode cX3_of 13 = .ok (.if_icmp .ne 8, 3) := by decide +kernel
theorem dX3_of_16 : decode cX3_of 16 = .ok (.aload_n 0, 1) := by decide +kernel
theorem dX3_of_17 : decode cX3_of 17 = .ok (.getfield 27, 3) := by decide +kernel
theorem dX3_of_20 : decode cX3_of 20 = .ok (.ireturn, 1) := by decide +kernel
theorem dX3_of_21 : decode cX3_of 21 = .ok (.aload_n 0, 1) := by decide +kernel
theorem dX3_of_22 : decode cX3_of 22 = .ok (.iload_n 1, 1) := by decide +kernel
theorem dX3_of_23 : decode cX3_of 23 = .ok (.putfield 20, 3) := by decide +kernel
theorem dX3_of_26 : decode cX3_of 26 = .ok (.aload_n 0, 1) := by decide +kernel
theorem dX3_of_27 : decode cX3_of 27 = .ok (.iload_n 2, 1) := by decide +kernel
theorem dX3_of_28 : decode cX3_of 28 = .ok (.putfield 24, 3) := by decide +kernel
theorem dX3_of_31 : decode cX3_of 31 = .ok (.aload_n 0, 1) := by decide +kernel
theorem dX3_of_32 : decode cX3_of 32 = .ok (.iconst (-1), 1) := by decide +kernel
theorem dX3_of_33 : decode cX3_of 33 = .ok (.putfield 27, 3) := by decide +kernel
theorem dX3_of_36 : decode cX3_of 36 = .ok (.iconst 0, 1) := by decide +kernel
theorem dX3_of_37 : decode cX3_of 37 = .ok (.istore_n 3, 1) := by decide +kernel
theorem dX3_of_38 : decode cX3_of 38 = .ok (.iload_n 3, 1) := by decide +kernel
theorem dX3_of_39 : decode cX3_of 39 = .ok (.iconst 3, 1) := by decide +kernel
theorem dX3_of_40 : decode cX3_of 40 = .ok (.if_icmp .gt 26, 3) := by decide +kernel
theorem dX3_of_43 : decode cX3_of 43 = .ok (.aload_n 0, 1) := by decide +kernel
theorem dX3_of_44 : decode cX3_of 44 = .ok (.getfield 27, 3) := by decide +kernel
theorem dX3_of_47 : decode cX3_of 47 = .ok (.iconst (-1), 1) := by decide +kernel
theorem dX3_of_48 : decode cX3_of 48 = .ok (.if_icmp .ne 18, 3) := by decide +kernel
theorem dX3_of_51 : decode cX3_of 51 = .ok (.aload_n 0, 1) := by decide +kernel
theorem dX3_of_52 : decode cX3_of 52 = .ok (.aload_n 0, 1) := by decide +kernel
theorem dX3_of_53 : decode cX3_of 53 = .ok (.iload_n 3, 1) := by decide +kernel
theorem dX3_of_54 : decode cX3_of 54 = .ok (.invokevirtual 36, 3) := by decide +kernel
theorem dX3_of_57 : decode cX3_of 57 = .ok (.putfield 27, 3) := by decide +kernel
theorem dX3_of_60 : decode cX3_of 60 = .ok (.iinc 3 1, 3) := by decide +kernel
theorem dX3_of_63 : decode cX3_of 63 = .ok (.goto (-25), 3) := by decide +kernel
theorem dX3_of_66 : decode cX3_of 66 = .ok (.aload_n 0, 1) := by decide +kernel
theorem dX3_of_67 : decode cX3_of 67 = .ok (.getfield 27, 3) := by decide +kernel
theorem dX3_of_70 : decode cX3_of 70 = .ok (.ireturn, 1) := by decide +kernel
set_option maxRecDepth 20000 in
theorem ggX3_leastOfSize_X6_full : GoodIn wsX3_leastOfSize wsX6_full := goodIn_r _ [6] (by decide +kernel) (by decide +kernel)
set_option maxRecDepth 20000 in
theorem gX3_leastOfSize_X6_full_n39 : GoodIn wsX3_leastOfSize (wsX6_full) := ggX3_leastOfSize_X6_full
set_option maxRecDepth 20000 in
theorem ggX3_leastOfSize_X8_of : GoodIn wsX3_leastOfSize wsX8_of := goodIn_r _ [10, 11, 12, 13, 14, 15, 16, 17, 18, 19, 20, 21, 5, 22, 23, 24, 25, 8, 26, 27, 28, 29, 30, 31, 32, 33, 34, 35, 36, 37, 4, 6, 38, 39, 40, 41, 42, 43, 44, 45, 46, 47, 48, 59, 60, 61, 62, 63, 64] (by decide +kernel) (by decide +kernel)
set_option maxRecDepth 20000 in
theorem gX3_leastOfSize_X8_of_n44 : GoodIn wsX3_leastOfSize (wsX8_of) := ggX3_leastOfSize_X8_of
set_option maxRecDepth 20000 in
theorem ggX3_leastOfSize_X3_nextOfSize : GoodIn wsX3_leastOfSize wsX3_nextOfSize := goodIn_r _ [52, 53, 54, 39, 16, 40, 41] (by decide +kernel) (by decide +kernel)
set_option maxRecDepth 20000 in
theorem gX3_leastOfSize_X3_nextOfSize : GoodIn wsX3_leastOfSize (va_wsS RX3 48 yX3_nextOfSize wsX3_nextOfSize) := goodIn_app (goodIn_of _ (by decide +kernel)) ggX3_leastOfSize_X3_nextOfSize
theorem dX3_leastOfSize_0 : decode cX3_leastOfSize 0 = .ok (.iload_n 1, 1) := by decide +kernel
theorem dX3_leastOfSize_1 : decode cX3_leastOfSize 1 = .ok (.invokestatic 39, 3) := by decide +kernel
theorem dX3_leastOfSize_4 : decode cX3_leastOfSize 4 = .ok (.istore_n 2, 1) := by decide +kernel
theorem dX3_leastOfSize_5 : decode cX3_leastOfSize 5 = .ok (.iconst 0, 1) := by decide +kernel
theorem dX3_leastOfSize_6 : decode cX3_leastOfSize 6 = .ok (.istore_n 3, 1) := by decide +kernel
theorem dX3_leastOfSize_7 : decode cX3_leastOfSize 7 = .ok (.iload_n 3, 1) := by decide +kernel
theorem dX3_leastOfSize_8 : decode cX3_leastOfSize 8 = .ok (.sipush 2024, 3) := by decide +kernel
theorem dX3_leastOfSize_11 : decode cX3_leastOfSize 11 = .ok (.if_icmp .ge 47, 3) := by decide +kernel
theorem dX3_leastOfSize_14 : decode cX3_leastOfSize 14 = .ok (.iload_n 2, 1) := by decide +kernel
theorem dX3_leastOfSize_15 : decode cX3_leastOfSize 15 = .ok (.aload_n 0, 1) := by decide +kernel
theorem dX3_leastOfSize_16 : decode cX3_leastOfSize 16 = .ok (.getfield 20, 3) := by decide +kernel
theorem dX3_leastOfSize_19 : decode cX3_leastOfSize 19 = .ok (.invokestatic 39, 3) := by decide +kernel
theorem dX3_leastOfSize_22 : decode cX3_leastOfSize 22 = .ok (.if_icmp .gt 36, 3) := by decide +kernel
theorem dX3_leastOfSize_25 : decode cX3_leastOfSize 25 = .ok (.aload_n 0, 1) := by decide +kernel
theorem dX3_leastOfSize_26 : decode cX3_leastOfSize 26 = .ok (.getfield 14, 3) := by decide +kernel
theorem dX3_leastOfSize_29 : decode cX3_leastOfSize 29 = .ok (.aload_n 0, 1) := by decide +kernel
theorem dX3_leastOfSize_30 : decode cX3_leastOfSize 30 = .ok (.getfield 20, 3) := by decide +kernel
theorem dX3_leastOfSize_33 : decode cX3_leastOfSize 33 = .ok (.aload_n 0, 1) := by decide +kernel
theorem dX3_leastOfSize_34 : decode cX3_leastOfSize 34 = .ok (.getfield 24, 3) := by decide +kernel
theorem dX3_leastOfSize_37 : decode cX3_leastOfSize 37 = .ok (.iload_n 2, 1) := by decide +kernel
theorem dX3_leastOfSize_38 : decode cX3_leastOfSize 38 = .ok (.ixor, 1) := by decide +kernel
theorem dX3_leastOfSize_39 : decode cX3_leastOfSize 39 = .ok (.invokevirtual 44, 3) := by decide +kernel
theorem dX3_leastOfSize_42 : decode cX3_leastOfSize 42 = .ok (.ifCond .le 5, 3) := by decide +kernel
theorem dX3_leastOfSize_45 : decode cX3_leastOfSize 45 = .ok (.iload_n 2, 1) := by decide +kernel
theorem dX3_leastOfSize_46 : decode cX3_leastOfSize 46 = .ok (.ireturn, 1) := by decide +kernel
theorem dX3_leastOfSize_47 : decode cX3_leastOfSize 47 = .ok (.iload_n 2, 1) := by decide +kernel
theorem dX3_leastOfSize_48 : decode cX3_leastOfSize 48 = .ok (.invokestatic 48, 3) := by decide +kernel
theorem dX3_leastOfSize_51 : decode cX3_leastOfSize 51 = .ok (.istore_n 2, 1) := by decide +kernel
theorem dX3_leastOfSize_52 : decode cX3_leastOfSize 52 = .ok (.iinc 3 1, 3) := by decide +kernel
theorem dX3_leastOfSize_55 : decode cX3_leastOfSize 55 = .ok (.goto (-48), 3) := by decide +kernel
theorem dX3_leastOfSize_58 : decode cX3_leastOfSize 58 = .ok (.iconst (-1), 1) := by decide +kernel
theorem dX3_leastOfSize_59 : decode cX3_leastOfSize 59 = .ok (.ireturn, 1) := by decide +kernel
set_option maxRecDepth 20000 in
theorem ggX3_nextOfSize_J6_numberOfTrailingZeros_0f7a4 : GoodIn wsX3_nextOfSize wsJ6_numberOfTrailingZeros_0f7a4 := goodIn_r _ [5, 6] (by decide +kernel) (by decide +kernel)
set_option maxRecDepth 20000 in
theorem gX3_nextOfSize_J6_numberOfTrailingZeros_0f7a4 : GoodIn wsX3_nextOfSize (va_wsS RX3 52 yJ6_numberOfTrailingZeros_0f7a4 wsJ6_numberOfTrailingZeros_0f7a4) := goodIn_app (goodIn_of _ (by decide +kernel)) ggX3_nextOfSize_J6_numberOfTrailingZeros_0f7a4
theorem dX3_nextOfSize_0 : decode cX3_nextOfSize 0 = .ok (.iload_n 0, 1) := by decide +kernel
theorem dX3_nextOfSize_1 : decode cX3_nextOfSize 1 = .ok (.ifCond .ne 6, 3) := by decide +kernel
theorem dX3_nextOfSize_4 : decode cX3_nextOfSize 4 = .ok (.ldc 51, 2) := by decide +kernel
theorem dX3_nextOfSize_6 : decode cX3_nextOfSize 6 = .ok (.ireturn, 1) := by decide +kernel
theorem dX3_nextOfSize_7 : decode cX3_nextOfSize 7 = .ok (.iload_n 0, 1) := by decide +kernel
theorem dX3_nextOfSize_8 : decode cX3_nextOfSize 8 = .ok (.iload_n 0, 1) := by decide +kernel
theorem dX3_nextOfSize_9 : decode cX3_nextOfSize 9 = .ok (.iload_n 0, 1) := by decide +kernel
theorem dX3_nextOfSize_10 : decode cX3_nextOfSize 10 = .ok (.ineg, 1) := by decide +kernel
theorem dX3_nextOfSize_11 : decode cX3_nextOfSize 11 = .ok (.iand, 1) := by decide +kernel
theorem dX3_nextOfSize_12 : decode cX3_nextOfSize 12 = .ok (.iadd, 1) := by decide +kernel
theorem dX3_nextOfSize_13 : decode cX3_nextOfSize 13 = .ok (.istore_n 1, 1) := by decide +kernel
theorem dX3_nextOfSize_14 : decode cX3_nextOfSize 14 = .ok (.iload_n 1, 1) := by decide +kernel
theorem dX3_nextOfSize_15 : decode cX3_nextOfSize 15 = .ok (.iload_n 0, 1) := by decide +kernel
theorem dX3_nextOfSize_16 : decode cX3_nextOfSize 16 = .ok (.iload_n 1, 1) := by decide +kernel
theorem dX3_nextOfSize_17 : decode cX3_nextOfSize 17 = .ok (.ixor, 1) := by decide +kernel
theorem dX3_nextOfSize_18 : decode cX3_nextOfSize 18 = .ok (.iconst 2, 1) := by decide +kernel
theorem dX3_nextOfSize_19 : decode cX3_nextOfSize 19 = .ok (.iload_n 0, 1) := by decide +kernel
theorem dX3_nextOfSize_20 : decode cX3_nextOfSize 20 = .ok (.invokestatic 52, 3) := by decide +kernel
theorem dX3_nextOfSize_23 : decode cX3_nextOfSize 23 = .ok (.iadd, 1) := by decide +kernel
theorem dX3_nextOfSize_24 : decode cX3_nextOfSize 24 = .ok (.iushr, 1) := by decide +kernel
theorem dX3_nextOfSize_25 : decode cX3_nextOfSize 25 = .ok (.ior, 1) := by decide +kernel
theorem dX3_nextOfSize_26 : decode cX3_nextOfSize 26 = .ok (.ireturn, 1) := by decide +kernel
set_option maxRecDepth 20000 in
theorem ggX4_value_X6_bit : GoodIn wsX4_value wsX6_bit := goodIn_r _ [3] (by decide +kernel) (by decide +kernel)
set_option maxRecDepth 20000 in
theorem gX4_value_X6_bit_n9 : GoodIn wsX4_value (wsX6_bit) := ggX4_value_X6_bit
theorem dX4_value_0 : decode cX4_value 0 = .ok (.iconst 0, 1) := by decide +kernel
theorem dX4_value_1 : decode cX4_value 1 = .ok (.istore_n 2, 1) := by decide +kernel
theorem dX4_value_2 : decode cX4_value 2 = .ok (.iconst 0, 1) := by decide +kernel
theorem dX4_value_3 : decode cX4_value 3 = .ok (.istore_n 3, 1) := by decide +kernel
theorem dX4_value_4 : decode cX4_value 4 = .ok (.iload_n 3, 1) := by decide +kernel
theorem dX4_value_5 : decode cX4_value 5 = .ok (.iload_n 0, 1) := by decide +kernel
theorem dX4_value_6 : decode cX4_value 6 = .ok (.if_icmp .ge 19, 3) := by decide +kernel
theorem dX4_value_9 : decode cX4_value 9 = .ok (.iconst 2, 1) := by decide +kernel
theorem dX4_value_10 : decode cX4_value 10 = .ok (.iload_n 2, 1) := by decide +kernel
theorem dX4_value_11 : decode cX4_value 11 = .ok (.imul, 1) := by decide +kernel
theorem dX4_value_12 : decode cX4_value 12 = .ok (.iload_n 1, 1) := by decide +kernel
theorem dX4_value_13 : decode cX4_value 13 = .ok (.iload_n 3, 1) := by decide +kernel
theorem dX4_value_14 : decode cX4_value 14 = .ok (.invokestatic 9, 3) := by decide +kernel
theorem dX4_value_17 : decode cX4_value 17 = .ok (.iadd, 1) := by decide +kernel
theorem dX4_value_18 : decode cX4_value 18 = .ok (.istore_n 2, 1) := by decide +kernel
theorem dX4_value_19 : decode cX4_value 19 = .ok (.iinc 3 1, 3) := by decide +kernel
theorem dX4_value_22 : decode cX4_value 22 = .ok (.goto (-18), 3) := by decide +kernel
theorem dX4_value_25 : decode cX4_value 25 = .ok (.iload_n 2, 1) := by decide +kernel
theorem dX4_value_26 : decode cX4_value 26 = .ok (.ireturn, 1) := by decide +kernel
set_option maxRecDepth 20000 in
theorem ggX4_valueTurned_X6_moved : GoodIn wsX4_valueTurned wsX6_moved := goodIn_r _ [3, 4, 5, 2, 6, 7, 8, 9] (by decide +kernel) (by decide +kernel)
set_option maxRecDepth 20000 in
theorem gX4_valueTurned_X6_moved_n15 : GoodIn wsX4_valueTurned (wsX6_moved) := ggX4_valueTurned_X6_moved
theorem dX4_valueTurned_0 : decode cX4_valueTurned 0 = .ok (.iload_n 0, 1) := by decide +kernel
theorem dX4_valueTurned_1 : decode cX4_valueTurned 1 = .ok (.iload_n 1, 1) := by decide +kernel
theorem dX4_valueTurned_2 : decode cX4_valueTurned 2 = .ok (.iload_n 2, 1) := by decide +kernel
theorem dX4_valueTurned_3 : decode cX4_valueTurned 3 = .ok (.ineg, 1) := by decide +kernel
theorem dX4_valueTurned_4 : decode cX4_valueTurned 4 = .ok (.invokestatic 15, 3) := by decide +kernel
theorem dX4_valueTurned_7 : decode cX4_valueTurned 7 = .ok (.ireturn, 1) := by decide +kernel
set_option maxRecDepth 20000 in
theorem ggX4_leastTurn_X4_value : GoodIn wsX4_leastTurn wsX4_value := goodIn_r _ [4, 5, 6, 7] (by decide +kernel) (by decide +kernel)
set_option maxRecDepth 20000 in
theorem gX4_leastTurn_X4_value : GoodIn wsX4_leastTurn (va_wsS RX4 19 yX4_value wsX4_value) := goodIn_app (goodIn_of _ (by decide +kernel)) ggX4_leastTurn_X4_value
set_option maxRecDepth 20000 in
theorem ggX4_leastTurn_X4_valueTurned : GoodIn wsX4_leastTurn wsX4_valueTurned := goodIn_r _ [10, 11, 6, 12, 13, 14, 15, 16, 17, 18] (by decide +kernel) (by decide +kernel)
set_option maxRecDepth 20000 in
theorem gX4_leastTurn_X4_valueTurned : GoodIn wsX4_leastTurn (va_wsS RX4 24 yX4_valueTurned wsX4_valueTurned) := goodIn_app (goodIn_of _ (by decide +kernel)) ggX4_leastTurn_X4_valueTurned
theorem dX4_leastTurn_0 : decode cX4_leastTurn 0 = .ok (.iload_n 0, 1) := by decide +kernel
theorem dX4_leastTurn_1 : decode cX4_leastTurn 1 = .ok (.iload_n 1, 1) := by decide +kernel
theorem dX4_leastTurn_2 : decode cX4_leastTurn 2 = .ok (.invokestatic 19, 3) := by decide +kernel
theorem dX4_leastTurn_5 : decode cX4_leastTurn 5 = .ok (.istore_n 2, 1) := by decide +kernel
theorem dX4_leastTurn_6 : decode cX4_leastTurn 6 = .ok (.iconst 0, 1) := by decide +kernel
theorem dX4_leastTurn_7 : decode cX4_leastTurn 7 = .ok (.istore_n 3, 1) := by decide +kernel
theorem dX4_leastTurn_8 : decode cX4_leastTurn 8 = .ok (.iload_n 2, 1) := by decide +kernel
theorem dX4_leastTurn_9 : decode cX4_leastTurn 9 = .ok (.istore 4, 2) := by decide +kernel
theorem dX4_leastTurn_11 : decode cX4_leastTurn 11 = .ok (.iconst 1, 1) := by decide +kernel
theorem dX4_leastTurn_12 : decode cX4_leastTurn 12 = .ok (.istore 5, 2) := by decide +kernel
theorem dX4_leastTurn_14 : decode cX4_leastTurn 14 = .ok (.iload 5, 2) := by decide +kernel
theorem dX4_leastTurn_16 : decode cX4_leastTurn 16 = .ok (.iload_n 0, 1) := by decide +kernel
theorem dX4_leastTurn_17 : decode cX4_leastTurn 17 = .ok (.if_icmp .ge 32, 3) := by decide +kernel
theorem dX4_leastTurn_20 : decode cX4_leastTurn 20 = .ok (.iload_n 0, 1) := by decide +kernel
theorem dX4_leastTurn_21 : decode cX4_leastTurn 21 = .ok (.iload_n 2, 1) := by decide +kernel
theorem dX4_leastTurn_22 : decode cX4_leastTurn 22 = .ok (.iload 5, 2) := by decide +kernel
theorem dX4_leastTurn_24 : decode cX4_leastTurn 24 = .ok (.invokestatic 24, 3) := by decide +kernel
theorem dX4_leastTurn_27 : decode cX4_leastTurn 27 = .ok (.istore 6, 2) := by decide +kernel
theorem dX4_leastTurn_29 : decode cX4_leastTurn 29 = .ok (.iload 6, 2) := by decide +kernel
theorem dX4_leastTurn_31 : decode cX4_leastTurn 31 = .ok (.iload 4, 2) := by decide +kernel
theorem dX4_leastTurn_33 : decode cX4_leastTurn 33 = .ok (.if_icmp .ge 10, 3) := by decide +kernel
theorem dX4_leastTurn_36 : decode cX4_leastTurn 36 = .ok (.iload 5, 2) := by decide +kernel
theorem dX4_leastTurn_38 : decode cX4_leastTurn 38 = .ok (.istore_n 3, 1) := by decide +kernel
theorem dX4_leastTurn_39 : decode cX4_leastTurn 39 = .ok (.iload 6, 2) := by decide +kernel
theorem dX4_leastTurn_41 : decode cX4_leastTurn 41 = .ok (.istore 4, 2) := by decide +kernel
theorem dX4_leastTurn_43 : decode cX4_leastTurn 43 = .ok (.iinc 5 1, 3) := by decide +kernel
theorem dX4_leastTurn_46 : decode cX4_leastTurn 46 = .ok (.goto (-32), 3) := by decide +kernel
theorem dX4_leastTurn_49 : decode cX4_leastTurn 49 = .ok (.iload_n 3, 1) := by decide +kernel
theorem dX4_leastTurn_50 : decode cX4_leastTurn 50 = .ok (.ireturn, 1) := by decide +kernel
set_option maxRecDepth 20000 in
theorem ggX4_least_X4_value : GoodIn wsX4_least wsX4_value := goodIn_r _ [4, 5, 6, 7] (by decide +kernel) (by decide +kernel)
set_option maxRecDepth 20000 in
theorem gX4_least_X4_value : GoodIn wsX4_least (va_wsS RX4 19 yX4_value wsX4_value) := goodIn_app (goodIn_of _ (by decide +kernel)) ggX4_least_X4_value
set_option maxRecDepth 20000 in
theorem ggX4_least_X4_leastTurn : GoodIn wsX4_least wsX4_leastTurn := goodIn_r _ [10, 1, 2, 3, 4, 5, 6, 7, 11, 12, 13, 14, 15, 16, 17, 18, 19, 20, 21] (by decide +kernel) (by decide +kernel)
set_option maxRecDepth 20000 in
theorem gX4_least_X4_leastTurn : GoodIn wsX4_least (va_wsS RX4 27 yX4_leastTurn wsX4_leastTurn) := goodIn_app (goodIn_of _ (by decide +kernel)) ggX4_least_X4_leastTurn
set_option maxRecDepth 20000 in
theorem ggX4_least_X4_valueTurned : GoodIn wsX4_least wsX4_valueTurned := goodIn_r _ [13, 14, 6, 15, 16, 17, 18, 19, 20, 21] (by decide +kernel) (by decide +kernel)
set_option maxRecDepth 20000 in
theorem gX4_least_X4_valueTurned : GoodIn wsX4_least (va_wsS RX4 24 yX4_valueTurned wsX4_valueTurned) := goodIn_app (goodIn_of _ (by decide +kernel)) ggX4_least_X4_valueTurned
theorem dX4_least_0 : decode cX4_least 0 = .ok (.iload_n 0, 1) := by decide +kernel
theorem dX4_least_1 : decode cX4_least 1 = .ok (.iload_n 0, 1) := by decide +kernel
theorem dX4_least_2 : decode cX4_least 2 = .ok (.iload_n 1, 1) := by decide +kernel
theorem dX4_least_3 : decode cX4_least 3 = .ok (.invokestatic 19, 3) := by decide +kernel
theorem dX4_least_6 : decode cX4_least 6 = .ok (.iload_n 0, 1) := by decide +kernel
theorem dX4_least_7 : decode cX4_least 7 = .ok (.iload_n 1, 1) := by decide +kernel
theorem dX4_least_8 : decode cX4_least 8 = .ok (.invokestatic 27, 3) := by decide +kernel
theorem dX4_least_11 : decode cX4_least 11 = .ok (.invokestatic 24, 3) := by decide +kernel
theorem dX4_least_14 : decode cX4_least 14 = .ok (.ireturn, 1) := by decide +kernel
set_option maxRecDepth 20000 in
theorem ggX4_later_J6_bitCount_0f7a4 : GoodIn wsX4_later wsJ6_bitCount_0f7a4 := goodIn_r _ [4, 5, 6, 7] (by decide +kernel) (by decide +kernel)
set_option maxRecDepth 20000 in
theorem gX4_later_J6_bitCount_0f7a4 : GoodIn wsX4_later (va_wsS RX4 30 yJ6_bitCount_0f7a4 wsJ6_bitCount_0f7a4) := goodIn_app (goodIn_of _ (by decide +kernel)) ggX4_later_J6_bitCount_0f7a4
set_option maxRecDepth 20000 in
theorem ggX4_later_X4_completed : GoodIn wsX4_later wsX4_completed := goodIn_r _ [11, 1, 2, 3, 4, 5, 6, 7, 12, 13, 14, 15, 16, 8, 9, 10] (by decide +kernel) (by decide +kernel)
set_option maxRecDepth 20000 in
theorem gX4_later_X4_completed : GoodIn wsX4_later (va_wsS RX4 36 yX4_completed wsX4_completed) := goodIn_app (goodIn_of _ (by decide +kernel)) ggX4_later_X4_completed
theorem dX4_later_0 : decode cX4_later 0 = .ok (.iload_n 1, 1) := by decide +kernel
theorem dX4_later_1 : decode cX4_later 1 = .ok (.invokestatic 30, 3) := by decide +kernel
theorem dX4_later_4 : decode cX4_later 4 = .ok (.istore_n 2, 1) := by decide +kernel
theorem dX4_later_5 : decode cX4_later 5 = .ok (.iload_n 0, 1) := by decide +kernel
theorem dX4_later_6 : decode cX4_later 6 = .ok (.iconst 1, 1) := by decide +kernel
theorem dX4_later_7 : decode cX4_later 7 = .ok (.isub, 1) := by decide +kernel
theorem dX4_later_8 : decode cX4_later 8 = .ok (.istore_n 3, 1) := by decide +kernel
theorem dX4_later_9 : decode cX4_later 9 = .ok (.iload_n 3, 1) := by decide +kernel
theorem dX4_later_10 : decode cX4_later 10 = .ok (.ifCond .lt 59, 3) := by decide +kernel
theorem dX4_later_13 : decode cX4_later 13 = .ok (.iconst 1, 1) := by decide +kernel
theorem dX4_later_14 : decode cX4_later 14 = .ok (.iload_n 0, 1) := by decide +kernel
theorem dX4_later_15 : decode cX4_later 15 = .ok (.iconst 1, 1) := by decide +kernel
theorem dX4_later_16 : decode cX4_later 16 = .ok (.isub, 1) := by decide +kernel
theorem dX4_later_17 : decode cX4_later 17 = .ok (.iload_n 3, 1) := by decide +kernel
theorem dX4_later_18 : decode cX4_later 18 = .ok (.isub, 1) := by decide +kernel
theorem dX4_later_19 : decode cX4_later 19 = .ok (.ishl, 1) := by decide +kernel
theorem dX4_later_20 : decode cX4_later 20 = .ok (.istore 4, 2) := by decide +kernel
theorem dX4_later_22 : decode cX4_later 22 = .ok (.iload_n 1, 1) := by decide +kernel
theorem dX4_later_23 : decode cX4_later 23 = .ok (.iload 4, 2) := by decide +kernel
theorem dX4_later_25 : decode cX4_later 25 = .ok (.iand, 1) := by decide +kernel
theorem dX4_later_26 : decode cX4_later 26 = .ok (.ifCond .ne 37, 3) := by decide +kernel
theorem dX4_later_29 : decode cX4_later 29 = .ok (.iload_n 1, 1) := by decide +kernel
theorem dX4_later_30 : decode cX4_later 30 = .ok (.iload 4, 2) := by decide +kernel
theorem dX4_later_32 : decode cX4_later 32 = .ok (.ineg, 1) := by decide +kernel
theorem dX4_later_33 : decode cX4_later 33 = .ok (.iand, 1) := by decide +kernel
theorem dX4_later_34 : decode cX4_later 34 = .ok (.iload 4, 2) := by decide +kernel
theorem dX4_later_36 : decode cX4_later 36 = .ok (.ior, 1) := by decide +kernel
theorem dX4_later_37 : decode cX4_later 37 = .ok (.istore 5, 2) := by decide +kernel
theorem dX4_later_39 : decode cX4_later 39 = .ok (.iload_n 0, 1) := by decide +kernel
theorem dX4_later_40 : decode cX4_later 40 = .ok (.iload_n 2, 1) := by decide +kernel
theorem dX4_later_41 : decode cX4_later 41 = .ok (.iload 5, 2) := by decide +kernel
theorem dX4_later_43 : decode cX4_later 43 = .ok (.iload_n 3, 1) := by decide +kernel
theorem dX4_later_44 : decode cX4_later 44 = .ok (.iconst 1, 1) := by decide +kernel
theorem dX4_later_45 : decode cX4_later 45 = .ok (.iadd, 1) := by decide +kernel
theorem dX4_later_46 : decode cX4_later 46 = .ok (.iload_n 3, 1) := by decide +kernel
theorem dX4_later_47 : decode cX4_later 47 = .ok (.iconst 1, 1) := by decide +kernel
theorem dX4_later_48 : decode cX4_later 48 = .ok (.iadd, 1) := by decide +kernel
theorem dX4_later_49 : decode cX4_later 49 = .ok (.invokestatic 36, 3) := by decide +kernel
theorem dX4_later_52 : decode cX4_later 52 = .ok (.istore 6, 2) := by decide +kernel
theorem dX4_later_54 : decode cX4_later 54 = .ok (.iload 6, 2) := by decide +kernel
theorem dX4_later_56 : decode cX4_later 56 = .ok (.iconst (-1), 1) := by decide +kernel
theorem dX4_later_57 : decode cX4_later 57 = .ok (.if_icmp .eq 6, 3) := by decide +kernel
theorem dX4_later_60 : decode cX4_later 60 = .ok (.iload 6, 2) := by decide +kernel
theorem dX4_later_62 : decode cX4_later 62 = .ok (.ireturn, 1) := by decide +kernel
theorem dX4_later_63 : decode cX4_later 63 = .ok (.iinc 3 (-1), 3) := by decide +kernel
theorem dX4_later_66 : decode cX4_later 66 = .ok (.goto (-57), 3) := by decide +kernel
theorem dX4_later_69 : decode cX4_later 69 = .ok (.iconst (-1), 1) := by decide +kernel
theorem dX4_later_70 : decode cX4_later 70 = .ok (.ireturn, 1) := by decide +kernel
set_option maxRecDepth 20000 in
theorem ggX4_completed_J6_bitCount_0f7a4 : GoodIn wsX4_completed wsJ6_bitCount_0f7a4 := goodIn_r _ [4, 5, 6, 7] (by decide +kernel) (by decide +kernel)
set_option maxRecDepth 20000 in
theorem gX4_completed_J6_bitCount_0f7a4 : GoodIn wsX4_completed (va_wsS RX4 30 yJ6_bitCount_0f7a4 wsJ6_bitCount_0f7a4) := goodIn_app (goodIn_of _ (by decide +kernel)) ggX4_completed_J6_bitCount_0f7a4
set_option maxRecDepth 20000 in
theorem ggX4_completed_X6_leftOver : GoodIn wsX4_completed wsX6_leftOver := goodIn_r _ [10] (by decide +kernel) (by decide +kernel)
set_option maxRecDepth 20000 in
theorem gX4_completed_X6_leftOver_n40 : GoodIn wsX4_completed (wsX6_leftOver) := ggX4_completed_X6_leftOver
set_option maxRecDepth 20000 in
theorem ggX4_completed_X6_bit : GoodIn wsX4_completed wsX6_bit := goodIn_r _ [12] (by decide +kernel) (by decide +kernel)
set_option maxRecDepth 20000 in
theorem gX4_completed_X6_bit_n9 : GoodIn wsX4_completed (wsX6_bit) := ggX4_completed_X6_bit
set_option maxRecDepth 20000 in
theorem ggX4_completed_X4_completed : GoodIn wsX4_completed wsX4_completed := goodIn_r _ [0, 1, 2, 3, 4, 5, 6, 7, 8, 9, 10, 11, 12, 13, 14, 15] (by decide +kernel) (by decide +kernel)
set_option maxRecDepth 20000 in
theorem gX4_completed_X4_completed : GoodIn wsX4_completed (va_wsS RX4 36 yX4_completed wsX4_completed) := goodIn_app (goodIn_of _ (by decide +kernel)) ggX4_completed_X4_completed
theorem dX4_completed_0 : decode cX4_completed 0 = .ok (.iload_n 2, 1) := by decide +kernel
theorem dX4_completed_1 : decode cX4_completed 1 = .ok (.invokestatic 30, 3) := by decide +kernel
theorem dX4_completed_4 : decode cX4_completed 4 = .ok (.istore 5, 2) := by decide +kernel
theorem dX4_completed_6 : decode cX4_completed 6 = .ok (.iload 5, 2) := by decide +kernel
theorem dX4_completed_8 : decode cX4_completed 8 = .ok (.iload_n 1, 1) := by decide +kernel
theorem dX4_completed_9 : decode cX4_completed 9 = .ok (.if_icmp .gt 13, 3) := by decide +kernel
theorem dX4_completed_12 : decode cX4_completed 12 = .ok (.iload 5, 2) := by decide +kernel
theorem dX4_completed_14 : decode cX4_completed 14 = .ok (.iload_n 0, 1) := by decide +kernel
theorem dX4_completed_15 : decode cX4_completed 15 = .ok (.iadd, 1) := by decide +kernel
theorem dX4_completed_16 : decode cX4_completed 16 = .ok (.iload_n 3, 1) := by decide +kernel
theorem dX4_completed_17 : decode cX4_completed 17 = .ok (.isub, 1) := by decide +kernel
theorem dX4_completed_18 : decode cX4_completed 18 = .ok (.iload_n 1, 1) := by decide +kernel
theorem dX4_completed_19 : decode cX4_completed 19 = .ok (.if_icmp .ge 5, 3) := by decide +kernel
theorem dX4_completed_22 : decode cX4_completed 22 = .ok (.iconst (-1), 1) := by decide +kernel
theorem dX4_completed_23 : decode cX4_completed 23 = .ok (.ireturn, 1) := by decide +kernel
theorem dX4_completed_24 : decode cX4_completed 24 = .ok (.iload_n 3, 1) := by decide +kernel
theorem dX4_completed_25 : decode cX4_completed 25 = .ok (.iload_n 0, 1) := by decide +kernel
theorem dX4_completed_26 : decode cX4_completed 26 = .ok (.if_icmp .lt 18, 3) := by decide +kernel
theorem dX4_completed_29 : decode cX4_completed 29 = .ok (.iload_n 0, 1) := by decide +kernel
theorem dX4_completed_30 : decode cX4_completed 30 = .ok (.iload 4, 2) := by decide +kernel
theorem dX4_completed_32 : decode cX4_completed 32 = .ok (.invokestatic 40, 3) := by decide +kernel
theorem dX4_completed_35 : decode cX4_completed 35 = .ok (.ifCond .ne 7, 3) := by decide +kernel
theorem dX4_completed_38 : decode cX4_completed 38 = .ok (.iload_n 2, 1) := by decide +kernel
theorem dX4_completed_39 : decode cX4_completed 39 = .ok (.goto 4, 3) := by decide +kernel
theorem dX4_completed_42 : decode cX4_completed 42 = .ok (.iconst (-1), 1) := by decide +kernel
theorem dX4_completed_43 : decode cX4_completed 43 = .ok (.ireturn, 1) := by decide +kernel
theorem dX4_completed_44 : decode cX4_completed 44 = .ok (.iload_n 2, 1) := by decide +kernel
theorem dX4_completed_45 : decode cX4_completed 45 = .ok (.iconst 1, 1) := by decide +kernel
theorem dX4_completed_46 : decode cX4_completed 46 = .ok (.iload_n 0, 1) := by decide +kernel
theorem dX4_completed_47 : decode cX4_completed 47 = .ok (.iconst 1, 1) := by decide +kernel
theorem dX4_completed_48 : decode cX4_completed 48 = .ok (.isub, 1) := by decide +kernel
theorem dX4_completed_49 : decode cX4_completed 49 = .ok (.iload_n 3, 1) := by decide +kernel
theorem dX4_completed_50 : decode cX4_completed 50 = .ok (.isub, 1) := by decide +kernel
theorem dX4_completed_51 : decode cX4_completed 51 = .ok (.ishl, 1) := by decide +kernel
theorem dX4_completed_52 : decode cX4_completed 52 = .ok (.ior, 1) := by decide +kernel
theorem dX4_completed_53 : decode cX4_completed 53 = .ok (.istore 6, 2) := by decide +kernel
theorem dX4_completed_55 : decode cX4_completed 55 = .ok (.iload_n 2, 1) := by decide +kernel
theorem dX4_completed_56 : decode cX4_completed 56 = .ok (.iload_n 0, 1) := by decide +kernel
theorem dX4_completed_57 : decode cX4_completed 57 = .ok (.iconst 1, 1) := by decide +kernel
theorem dX4_completed_58 : decode cX4_completed 58 = .ok (.isub, 1) := by decide +kernel
theorem dX4_completed_59 : decode cX4_completed 59 = .ok (.iload_n 3, 1) := by decide +kernel
theorem dX4_completed_60 : decode cX4_completed 60 = .ok (.isub, 1) := by decide +kernel
theorem dX4_completed_61 : decode cX4_completed 61 = .ok (.iload 4, 2) := by decide +kernel
theorem dX4_completed_63 : decode cX4_completed 63 = .ok (.iadd, 1) := by decide +kernel
theorem dX4_completed_64 : decode cX4_completed 64 = .ok (.invokestatic 9, 3) := by decide +kernel
theorem dX4_completed_67 : decode cX4_completed 67 = .ok (.iconst 1, 1) := by decide +kernel
theorem dX4_completed_68 : decode cX4_completed 68 = .ok (.if_icmp .ne 16, 3) := by decide +kernel
theorem dX4_completed_71 : decode cX4_completed 71 = .ok (.iload_n 0, 1) := by decide +kernel
theorem dX4_completed_72 : decode cX4_completed 72 = .ok (.iload_n 1, 1) := by decide +kernel
theorem dX4_completed_73 : decode cX4_completed 73 = .ok (.iload 6, 2) := by decide +kernel
theorem dX4_completed_75 : decode cX4_completed 75 = .ok (.iload_n 3, 1) := by decide +kernel
theorem dX4_completed_76 : decode cX4_completed 76 = .ok (.iconst 1, 1) := by decide +kernel
theorem dX4_completed_77 : decode cX4_completed 77 = .ok (.iadd, 1) := by decide +kernel
theorem dX4_completed_78 : decode cX4_completed 78 = .ok (.iload 4, 2) := by decide +kernel
theorem dX4_completed_80 : decode cX4_completed 80 = .ok (.invokestatic 36, 3) := by decide +kernel
theorem dX4_completed_83 : decode cX4_completed 83 = .ok (.ireturn, 1) := by decide +kernel
theorem dX4_completed_84 : decode cX4_completed 84 = .ok (.iload_n 0, 1) := by decide +kernel
theorem dX4_completed_85 : decode cX4_completed 85 = .ok (.iload_n 1, 1) := by decide +kernel
theorem dX4_completed_86 : decode cX4_completed 86 = .ok (.iload_n 2, 1) := by decide +kernel
theorem dX4_completed_87 : decode cX4_completed 87 = .ok (.iload_n 3, 1) := by decide +kernel
theorem dX4_completed_88 : decode cX4_completed 88 = .ok (.iconst 1, 1) := by decide +kernel
theorem dX4_completed_89 : decode cX4_completed 89 = .ok (.iadd, 1) := by decide +kernel
theorem dX4_completed_90 : decode cX4_completed 90 = .ok (.iload 4, 2) := by decide +kernel
theorem dX4_completed_92 : decode cX4_completed 92 = .ok (.invokestatic 36, 3) := by decide +kernel
theorem dX4_completed_95 : decode cX4_completed 95 = .ok (.istore 7, 2) := by decide +kernel
theorem dX4_completed_97 : decode cX4_completed 97 = .ok (.iload 7, 2) := by decide +kernel
theorem dX4_completed_99 : decode cX4_completed 99 = .ok (.iconst (-1), 1) := by decide +kernel
theorem dX4_completed_100 : decode cX4_completed 100 = .ok (.if_icmp .eq 8, 3) := by decide +kernel
theorem dX4_completed_103 : decode cX4_completed 103 = .ok (.iload 7, 2) := by decide +kernel
theorem dX4_completed_105 : decode cX4_completed 105 = .ok (.goto 16, 3) := by decide +kernel
theorem dX4_completed_108 : decode cX4_completed 108 = .ok (.iload_n 0, 1) := by decide +kernel
theorem dX4_completed_109 : decode cX4_completed 109 = .ok (.iload_n 1, 1) := by decide +kernel
theorem dX4_completed_110 : decode cX4_completed 110 = .ok (.iload 6, 2) := by decide +kernel
theorem dX4_completed_112 : decode cX4_completed 112 = .ok (.iload_n 3, 1) := by decide +kernel
theorem dX4_completed_113 : decode cX4_completed 113 = .ok (.iconst 1, 1) := by decide +kernel
theorem dX4_completed_114 : decode cX4_completed 114 = .ok (.iadd, 1) := by decide +kernel
theorem dX4_completed_115 : decode cX4_completed 115 = .ok (.iload_n 3, 1) := by decide +kernel
theorem dX4_completed_116 : decode cX4_completed 116 = .ok (.iconst 1, 1) := by decide +kernel
theorem dX4_completed_117 : decode cX4_completed 117 = .ok (.iadd, 1) := by decide +kernel
theorem dX4_completed_118 : decode cX4_completed 118 = .ok (.invokestatic 36, 3) := by decide +kernel
theorem dX4_completed_121 : decode cX4_completed 121 = .ok (.ireturn, 1) := by decide +kernel
set_option maxRecDepth 20000 in
theorem ggX5_init_X5_clear : GoodIn wsX5_init wsX5_clear := goodIn_r _ [11, 12, 13, 14, 15, 16, 17] (by decide +kernel) (by decide +kernel)
set_option maxRecDepth 20000 in
theorem gX5_init_X5_clear : GoodIn wsX5_init (wsV RX5 18 RX5 yX5_clear wsX5_clear) := goodIn_app (goodIn_of _ (by decide +kernel)) ggX5_init_X5_clear
theorem dX5_init_0 : decode cX5_init 0 = .ok (.aload_n 0, 1) := by decide +kernel
theorem dX5_init_1 : decode cX5_init 1 = .ok (.invokespecial 3, 3) := by decide +kernel
theorem dX5_init_4 : decode cX5_init 4 = .ok (.aload_n 0, 1) := by decide +kernel
theorem dX5_init_5 : decode cX5_init 5 = .ok (.bipush 30, 2) := by decide +kernel
theorem dX5_init_7 : decode cX5_init 7 = .ok (.newarray .int, 2) := by decide +kernel
theorem dX5_init_9 : decode cX5_init 9 = .ok (.putfield 9, 3) := by decide +kernel
theorem dX5_init_12 : decode cX5_init 12 = .ok (.aload_n 0, 1) := by decide +kernel
theorem dX5_init_13 : decode cX5_init 13 = .ok (.bipush 30, 2) := by decide +kernel
theorem dX5_init_15 : decode cX5_init 15 = .ok (.newarray .int, 2) := by decide +kernel
theorem dX5_init_17 : decode cX5_init 17 = .ok (.putfield 15, 3) := by decide +kernel
theorem dX5_init_20 : decode cX5_init 20 = .ok (.aload_n 0, 1) := by decide +kernel
theorem dX5_init_21 : decode cX5_init 21 = .ok (.invokevirtual 18, 3) := by decide +kernel
theorem dX5_init_24 : decode cX5_init 24 = .ok (.return_, 1) := by decide +kernel
theorem dX5_clear_0 : decode cX5_clear 0 = .ok (.aload_n 0, 1) := by decide +kernel
theorem dX5_clear_1 : decode cX5_clear 1 = .ok (.iconst 0, 1) := by decide +kernel
theorem dX5_clear_2 : decode cX5_clear 2 = .ok (.putfield 21, 3) := by decide +kernel
theorem dX5_clear_5 : decode cX5_clear 5 = .ok (.aload_n 0, 1) := by decide +kernel
theorem dX5_clear_6 : decode cX5_clear 6 = .ok (.iconst 0, 1) := by decide +kernel
theorem dX5_clear_7 : decode cX5_clear 7 = .ok (.putfield 25, 3) := by decide +kernel
theorem dX5_clear_10 : decode cX5_clear 10 = .ok (.return_, 1) := by decide +kernel
set_option maxRecDepth 20000 in
theorem ggX5_add_X5_place : GoodIn wsX5_add wsX5_place := goodIn_r _ [13, 3, 14, 15, 16, 17, 18, 19, 20] (by decide +kernel) (by decide +kernel)
set_option maxRecDepth 20000 in
theorem gX5_add_X5_place : GoodIn wsX5_add (wsV RX5 28 RX5 yX5_place wsX5_place) := goodIn_app (goodIn_of _ (by decide +kernel)) ggX5_add_X5_place
theorem dX5_add_0 : decode cX5_add 0 = .ok (.aload_n 0, 1) := by decide +kernel
theorem dX5_add_1 : decode cX5_add 1 = .ok (.getfield 9, 3) := by decide +kernel
theorem dX5_add_4 : decode cX5_add 4 = .ok (.aload_n 0, 1) := by decide +kernel
theorem dX5_add_5 : decode cX5_add 5 = .ok (.invokevirtual 28, 3) := by decide +kernel
theorem dX5_add_8 : decode cX5_add 8 = .ok (.iload_n 1, 1) := by decide +kernel
theorem dX5_add_9 : decode cX5_add 9 = .ok (.iastore, 1) := by decide +kernel
theorem dX5_add_10 : decode cX5_add 10 = .ok (.aload_n 0, 1) := by decide +kernel
theorem dX5_add_11 : decode cX5_add 11 = .ok (.getfield 15, 3) := by decide +kernel
theorem dX5_add_14 : decode cX5_add 14 = .ok (.aload_n 0, 1) := by decide +kernel
theorem dX5_add_15 : decode cX5_add 15 = .ok (.invokevirtual 28, 3) := by decide +kernel
theorem dX5_add_18 : decode cX5_add 18 = .ok (.iload_n 2, 1) := by decide +kernel
theorem dX5_add_19 : decode cX5_add 19 = .ok (.iastore, 1) := by decide +kernel
theorem dX5_add_20 : decode cX5_add 20 = .ok (.aload_n 0, 1) := by decide +kernel
theorem dX5_add_21 : decode cX5_add 21 = .ok (.dup, 1) := by decide +kernel
theorem dX5_add_22 : decode cX5_add 22 = .ok (.getfield 21, 3) := by decide +kernel
theorem dX5_add_25 : decode cX5_add 25 = .ok (.iconst 1, 1) := by decide +kernel
theorem dX5_add_26 : decode cX5_add 26 = .ok (.iadd, 1) := by decide +kernel
theorem dX5_add_27 : decode cX5_add 27 = .ok (.putfield 21, 3) := by decide +kernel
theorem dX5_add_30 : decode cX5_add 30 = .ok (.aload_n 0, 1) := by decide +kernel
theorem dX5_add_31 : decode cX5_add 31 = .ok (.aload_n 0, 1) := by decide +kernel
theorem dX5_add_32 : decode cX5_add 32 = .ok (.getfield 25, 3) := by decide +kernel
theorem dX5_add_35 : decode cX5_add 35 = .ok (.iconst 1, 1) := by decide +kernel
theorem dX5_add_36 : decode cX5_add 36 = .ok (.iadd, 1) := by decide +kernel
theorem dX5_add_37 : decode cX5_add 37 = .ok (.bipush 30, 2) := by decide +kernel
theorem dX5_add_39 : decode cX5_add 39 = .ok (.invokestatic 32, 3) := by decide +kernel
theorem dX5_add_42 : decode cX5_add 42 = .ok (.putfield 25, 3) := by decide +kernel
theorem dX5_add_45 : decode cX5_add 45 = .ok (.return_, 1) := by decide +kernel
theorem dX5_stepBack_0 : decode cX5_stepBack 0 = .ok (.aload_n 0, 1) := by decide +kernel
theorem dX5_stepBack_1 : decode cX5_stepBack 1 = .ok (.dup, 1) := by decide +kernel
theorem dX5_stepBack_2 : decode cX5_stepBack 2 = .ok (.getfield 21, 3) := by decide +kernel
theorem dX5_stepBack_5 : decode cX5_stepBack 5 = .ok (.iload_n 1, 1) := by decide +kernel
theorem dX5_stepBack_6 : decode cX5_stepBack 6 = .ok (.isub, 1) := by decide +kernel
theorem dX5_stepBack_7 : decode cX5_stepBack 7 = .ok (.putfield 21, 3) := by decide +kernel
theorem dX5_stepBack_10 : decode cX5_stepBack 10 = .ok (.aload_n 0, 1) := by decide +kernel
theorem dX5_stepBack_11 : decode cX5_stepBack 11 = .ok (.dup, 1) := by decide +kernel
theorem dX5_stepBack_12 : decode cX5_stepBack 12 = .ok (.getfield 25, 3) := by decide +kernel
theorem dX5_stepBack_15 : decode cX5_stepBack 15 = .ok (.iload_n 1, 1) := by decide +kernel
theorem dX5_stepBack_16 : decode cX5_stepBack 16 = .ok (.isub, 1) := by decide +kernel
theorem dX5_stepBack_17 : decode cX5_stepBack 17 = .ok (.putfield 25, 3) := by decide +kernel
theorem dX5_stepBack_20 : decode cX5_stepBack 20 = .ok (.return_, 1) := by decide +kernel
set_option maxRecDepth 20000 in
theorem ggX5_place_X6_leftOver : GoodIn wsX5_place wsX6_leftOver := goodIn_r _ [4] (by decide +kernel) (by decide +kernel)
set_option maxRecDepth 20000 in
theorem gX5_place_X6_leftOver_n38 : GoodIn wsX5_place (wsX6_leftOver) := ggX5_place_X6_leftOver
theorem dX5_place_0 : decode cX5_place 0 = .ok (.aload_n 0, 1) := by decide +kernel
theorem dX5_place_1 : decode cX5_place 1 = .ok (.getfield 21, 3) := by decide +kernel
theorem dX5_place_4 : decode cX5_place 4 = .ok (.bipush 30, 2) := by decide +kernel
theorem dX5_place_6 : decode cX5_place 6 = .ok (.invokestatic 38, 3) := by decide +kernel
theorem dX5_place_9 : decode cX5_place 9 = .ok (.ireturn, 1) := by decide +kernel
set_option maxRecDepth 20000 in
theorem ggX5_beatsThen_X5_place : GoodIn wsX5_beatsThen wsX5_place := goodIn_r _ [6, 7, 8, 9, 10, 11, 12, 13, 14] (by decide +kernel) (by decide +kernel)
set_option maxRecDepth 20000 in
theorem gX5_beatsThen_X5_place : GoodIn wsX5_beatsThen (wsV RX5 28 RX5 yX5_place wsX5_place) := goodIn_app (goodIn_of _ (by decide +kernel)) ggX5_beatsThen_X5_place
theorem dX5_beatsThen_0 : decode cX5_beatsThen 0 = .ok (.aload_n 0, 1) := by decide +kernel
theorem dX5_beatsThen_1 : decode cX5_beatsThen 1 = .ok (.getfield 9, 3) := by decide +kernel
theorem dX5_beatsThen_4 : decode cX5_beatsThen 4 = .ok (.aload_n 0, 1) := by decide +kernel
theorem dX5_beatsThen_5 : decode cX5_beatsThen 5 = .ok (.invokevirtual 28, 3) := by decide +kernel
theorem dX5_beatsThen_8 : decode cX5_beatsThen 8 = .ok (.iaload, 1) := by decide +kernel
theorem dX5_beatsThen_9 : decode cX5_beatsThen 9 = .ok (.ireturn, 1) := by decide +kernel
set_option maxRecDepth 20000 in
theorem ggX5_rhythmThen_X5_place : GoodIn wsX5_rhythmThen wsX5_place := goodIn_r _ [6, 7, 8, 9, 10, 11, 12, 13, 14] (by decide +kernel) (by decide +kernel)
set_option maxRecDepth 20000 in
theorem gX5_rhythmThen_X5_place : GoodIn wsX5_rhythmThen (wsV RX5 28 RX5 yX5_place wsX5_place) := goodIn_app (goodIn_of _ (by decide +kernel)) ggX5_rhythmThen_X5_place
theorem dX5_rhythmThen_0 : decode cX5_rhythmThen 0 = .ok (.aload_n 0, 1) := by decide +kernel
theorem dX5_rhythmThen_1 : decode cX5_rhythmThen 1 = .ok (.getfield 15, 3) := by decide +kernel
theorem dX5_rhythmThen_4 : decode cX5_rhythmThen 4 = .ok (.aload_n 0, 1) := by decide +kernel
theorem dX5_rhythmThen_5 : decode cX5_rhythmThen 5 = .ok (.invokevirtual 28, 3) := by decide +kernel
theorem dX5_rhythmThen_8 : decode cX5_rhythmThen 8 = .ok (.iaload, 1) := by decide +kernel
theorem dX5_rhythmThen_9 : decode cX5_rhythmThen 9 = .ok (.ireturn, 1) := by decide +kernel
theorem dX6_full_0 : decode cX6_full 0 = .ok (.iconst 1, 1) := by decide +kernel
theorem dX6_full_1 : decode cX6_full 1 = .ok (.iload_n 0, 1) := by decide +kernel
theorem dX6_full_2 : decode cX6_full 2 = .ok (.ishl, 1) := by decide +kernel
theorem dX6_full_3 : decode cX6_full 3 = .ok (.iconst 1, 1) := by decide +kernel
theorem dX6_full_4 : decode cX6_full 4 = .ok (.isub, 1) := by decide +kernel
theorem dX6_full_5 : decode cX6_full 5 = .ok (.ireturn, 1) := by decide +kernel
theorem dX6_bit_0 : decode cX6_bit 0 = .ok (.iload_n 0, 1) := by decide +kernel
theorem dX6_bit_1 : decode cX6_bit 1 = .ok (.iload_n 1, 1) := by decide +kernel
theorem dX6_bit_2 : decode cX6_bit 2 = .ok (.iushr, 1) := by decide +kernel
theorem dX6_bit_3 : decode cX6_bit 3 = .ok (.iconst 1, 1) := by decide +kernel
theorem dX6_bit_4 : decode cX6_bit 4 = .ok (.iand, 1) := by decide +kernel
theorem dX6_bit_5 : decode cX6_bit 5 = .ok (.ireturn, 1) := by decide +kernel
theorem dX6_leftOver_0 : decode cX6_leftOver 0 = .ok (.iload_n 1, 1) := by decide +kernel
theorem dX6_leftOver_1 : decode cX6_leftOver 1 = .ok (.iconst 1, 1) := by decide +kernel
theorem dX6_leftOver_2 : decode cX6_leftOver 2 = .ok (.if_icmp .ge 5, 3) := by decide +kernel
theorem dX6_leftOver_5 : decode cX6_leftOver 5 = .ok (.iconst 0, 1) := by decide +kernel
theorem dX6_leftOver_6 : decode cX6_leftOver 6 = .ok (.ireturn, 1) := by decide +kernel
theorem dX6_leftOver_7 : decode cX6_leftOver 7 = .ok (.iload_n 0, 1) := by decide +kernel
theorem dX6_leftOver_8 : decode cX6_leftOver 8 = .ok (.iload_n 1, 1) := by decide +kernel
theorem dX6_leftOver_9 : decode cX6_leftOver 9 = .ok (.irem, 1) := by decide +kernel
theorem dX6_leftOver_10 : decode cX6_leftOver 10 = .ok (.istore_n 2, 1) := by decide +kernel
theorem dX6_leftOver_11 : decode cX6_leftOver 11 = .ok (.iload_n 2, 1) := by decide +kernel
theorem dX6_leftOver_12 : decode cX6_leftOver 12 = .ok (.ifCond .ge 9, 3) := by decide +kernel
theorem dX6_leftOver_15 : decode cX6_leftOver 15 = .ok (.iload_n 2, 1) := by decide +kernel
theorem dX6_leftOver_16 : decode cX6_leftOver 16 = .ok (.iload_n 1, 1) := by decide +kernel
theorem dX6_leftOver_17 : decode cX6_leftOver 17 = .ok (.iadd, 1) := by decide +kernel
theorem dX6_leftOver_18 : decode cX6_leftOver 18 = .ok (.goto 4, 3) := by decide +kernel
theorem dX6_leftOver_21 : decode cX6_leftOver 21 = .ok (.iload_n 2, 1) := by decide +kernel
theorem dX6_leftOver_22 : decode cX6_leftOver 22 = .ok (.ireturn, 1) := by decide +kernel
theorem dX6_quotient_0 : decode cX6_quotient 0 = .ok (.iload_n 1, 1) := by decide +kernel
theorem dX6_quotient_1 : decode cX6_quotient 1 = .ok (.iconst 1, 1) := by decide +kernel
theorem dX6_quotient_2 : decode cX6_quotient 2 = .ok (.if_icmp .ge 7, 3) := by decide +kernel
theorem dX6_quotient_5 : decode cX6_quotient 5 = .ok (.iconst 0, 1) := by decide +kernel
theorem dX6_quotient_6 : decode cX6_quotient 6 = .ok (.goto 6, 3) := by decide +kernel
theorem dX6_quotient_9 : decode cX6_quotient 9 = .ok (.iload_n 0, 1) := by decide +kernel
theorem dX6_quotient_10 : decode cX6_quotient 10 = .ok (.iload_n 1, 1) := by decide +kernel
theorem dX6_quotient_11 : decode cX6_quotient 11 = .ok (.idiv, 1) := by decide +kernel
theorem dX6_quotient_12 : decode cX6_quotient 12 = .ok (.ireturn, 1) := by decide +kernel
set_option maxRecDepth 20000 in
theorem ggX6_moved_X6_leftOver : GoodIn wsX6_moved wsX6_leftOver := goodIn_r _ [4] (by decide +kernel) (by decide +kernel)
set_option maxRecDepth 20000 in
theorem gX6_moved_X6_leftOver : GoodIn wsX6_moved (va_wsS RX6 9 yX6_leftOver wsX6_leftOver) := goodIn_app (goodIn_of _ (by decide +kernel)) ggX6_moved_X6_leftOver
set_option maxRecDepth 20000 in
theorem ggX6_moved_X6_full : GoodIn wsX6_moved wsX6_full := goodIn_r _ [7] (by decide +kernel) (by decide +kernel)
set_option maxRecDepth 20000 in
theorem gX6_moved_X6_full : GoodIn wsX6_moved (va_wsS RX6 15 yX6_full wsX6_full) := goodIn_app (goodIn_of _ (by decide +kernel)) ggX6_moved_X6_full
theorem dX6_moved_0 : decode cX6_moved 0 = .ok (.iload_n 2, 1) := by decide +kernel
theorem dX6_moved_1 : decode cX6_moved 1 = .ok (.iload_n 0, 1) := by decide +kernel
theorem dX6_moved_2 : decode cX6_moved 2 = .ok (.invokestatic 9, 3) := by decide +kernel
theorem dX6_moved_5 : decode cX6_moved 5 = .ok (.istore_n 3, 1) := by decide +kernel
theorem dX6_moved_6 : decode cX6_moved 6 = .ok (.iload_n 1, 1) := by decide +kernel
theorem dX6_moved_7 : decode cX6_moved 7 = .ok (.iload_n 3, 1) := by decide +kernel
theorem dX6_moved_8 : decode cX6_moved 8 = .ok (.ishl, 1) := by decide +kernel
theorem dX6_moved_9 : decode cX6_moved 9 = .ok (.iload_n 1, 1) := by decide +kernel
theorem dX6_moved_10 : decode cX6_moved 10 = .ok (.iload_n 0, 1) := by decide +kernel
theorem dX6_moved_11 : decode cX6_moved 11 = .ok (.iload_n 3, 1) := by decide +kernel
theorem dX6_moved_12 : decode cX6_moved 12 = .ok (.isub, 1) := by decide +kernel
theorem dX6_moved_13 : decode cX6_moved 13 = .ok (.iushr, 1) := by decide +kernel
theorem dX6_moved_14 : decode cX6_moved 14 = .ok (.ior, 1) := by decide +kernel
theorem dX6_moved_15 : decode cX6_moved 15 = .ok (.iload_n 0, 1) := by decide +kernel
theorem dX6_moved_16 : decode cX6_moved 16 = .ok (.invokestatic 15, 3) := by decide +kernel
theorem dX6_moved_19 : decode cX6_moved 19 = .ok (.iand, 1) := by decide +kernel
theorem dX6_moved_20 : decode cX6_moved 20 = .ok (.ireturn, 1) := by decide +kernel
set_option maxRecDepth 20000 in
theorem ggX6_inverted_X6_full : GoodIn wsX6_inverted wsX6_full := goodIn_r _ [4] (by decide +kernel) (by decide +kernel)
set_option maxRecDepth 20000 in
theorem gX6_inverted_X6_full : GoodIn wsX6_inverted (va_wsS RX6 15 yX6_full wsX6_full) := goodIn_app (goodIn_of _ (by decide +kernel)) ggX6_inverted_X6_full
theorem dX6_inverted_0 : decode cX6_inverted 0 = .ok (.iload_n 0, 1) := by decide +kernel
theorem dX6_inverted_1 : decode cX6_inverted 1 = .ok (.invokestatic 15, 3) := by decide +kernel
theorem dX6_inverted_4 : decode cX6_inverted 4 = .ok (.iload_n 1, 1) := by decide +kernel
theorem dX6_inverted_5 : decode cX6_inverted 5 = .ok (.iconst (-1), 1) := by decide +kernel
theorem dX6_inverted_6 : decode cX6_inverted 6 = .ok (.ixor, 1) := by decide +kernel
theorem dX6_inverted_7 : decode cX6_inverted 7 = .ok (.iand, 1) := by decide +kernel
theorem dX6_inverted_8 : decode cX6_inverted 8 = .ok (.ireturn, 1) := by decide +kernel
set_option maxRecDepth 20000 in
theorem ggX6_mirrored_X6_stretched : GoodIn wsX6_mirrored wsX6_stretched := goodIn_r _ [4, 5, 6, 3, 7, 8, 9, 10] (by decide +kernel) (by decide +kernel)
set_option maxRecDepth 20000 in
theorem gX6_mirrored_X6_stretched : GoodIn wsX6_mirrored (va_wsS RX6 19 yX6_stretched wsX6_stretched) := goodIn_app (goodIn_of _ (by decide +kernel)) ggX6_mirrored_X6_stretched
theorem dX6_mirrored_0 : decode cX6_mirrored 0 = .ok (.iload_n 0, 1) := by decide +kernel
theorem dX6_mirrored_1 : decode cX6_mirrored 1 = .ok (.iload_n 1, 1) := by decide +kernel
theorem dX6_mirrored_2 : decode cX6_mirrored 2 = .ok (.iconst (-1), 1) := by decide +kernel
theorem dX6_mirrored_3 : decode cX6_mirrored 3 = .ok (.invokestatic 19, 3) := by decide +kernel
theorem dX6_mirrored_6 : decode cX6_mirrored 6 = .ok (.ireturn, 1) := by decide +kernel
set_option maxRecDepth 20000 in
theorem ggX6_stretched_X6_bit : GoodIn wsX6_stretched wsX6_bit := goodIn_r _ [4] (by decide +kernel) (by decide +kernel)
set_option maxRecDepth 20000 in
theorem gX6_stretched_X6_bit : GoodIn wsX6_stretched (va_wsS RX6 23 yX6_bit wsX6_bit) := goodIn_app (goodIn_of _ (by decide +kernel)) ggX6_stretched_X6_bit
set_option maxRecDepth 20000 in
theorem ggX6_stretched_X6_leftOver : GoodIn wsX6_stretched wsX6_leftOver := goodIn_r _ [7] (by decide +kernel) (by decide +kernel)
set_option maxRecDepth 20000 in
theorem gX6_stretched_X6_leftOver : GoodIn wsX6_stretched (va_wsS RX6 9 yX6_leftOver wsX6_leftOver) := goodIn_app (goodIn_of _ (by decide +kernel)) ggX6_stretched_X6_leftOver
theorem dX6_stretched_0 : decode cX6_stretched 0 = .ok (.iconst 0, 1) := by decide +kernel
theorem dX6_stretched_1 : decode cX6_stretched 1 = .ok (.istore_n 3, 1) := by decide +kernel
theorem dX6_stretched_2 : decode cX6_stretched 2 = .ok (.iconst 0, 1) := by decide +kernel
theorem dX6_stretched_3 : decode cX6_stretched 3 = .ok (.istore 4, 2) := by decide +kernel
theorem dX6_stretched_5 : decode cX6_stretched 5 = .ok (.iload 4, 2) := by decide +kernel
theorem dX6_stretched_7 : decode cX6_stretched 7 = .ok (.iload_n 0, 1) := by decide +kernel
theorem dX6_stretched_8 : decode cX6_stretched 8 = .ok (.if_icmp .ge 32, 3) := by decide +kernel
theorem dX6_stretched_11 : decode cX6_stretched 11 = .ok (.iload_n 1, 1) := by decide +kernel
theorem dX6_stretched_12 : decode cX6_stretched 12 = .ok (.iload 4, 2) := by decide +kernel
theorem dX6_stretched_14 : decode cX6_stretched 14 = .ok (.invokestatic 23, 3) := by decide +kernel
theorem dX6_stretched_17 : decode cX6_stretched 17 = .ok (.iconst 1, 1) := by decide +kernel
theorem dX6_stretched_18 : decode cX6_stretched 18 = .ok (.if_icmp .ne 16, 3) := by decide +kernel
theorem dX6_stretched_21 : decode cX6_stretched 21 = .ok (.iload_n 3, 1) := by decide +kernel
theorem dX6_stretched_22 : decode cX6_stretched 22 = .ok (.iconst 1, 1) := by decide +kernel
theorem dX6_stretched_23 : decode cX6_stretched 23 = .ok (.iload 4, 2) := by decide +kernel
theorem dX6_stretched_25 : decode cX6_stretched 25 = .ok (.iload_n 2, 1) := by decide +kernel
theorem dX6_stretched_26 : decode cX6_stretched 26 = .ok (.imul, 1) := by decide +kernel
theorem dX6_stretched_27 : decode cX6_stretched 27 = .ok (.iload_n 0, 1) := by decide +kernel
theorem dX6_stretched_28 : decode cX6_stretched 28 = .ok (.invokestatic 9, 3) := by decide +kernel
theorem dX6_stretched_31 : decode cX6_stretched 31 = .ok (.ishl, 1) := by decide +kernel
theorem dX6_stretched_32 : decode cX6_stretched 32 = .ok (.ior, 1) := by decide +kernel
theorem dX6_stretched_33 : decode cX6_stretched 33 = .ok (.istore_n 3, 1) := by decide +kernel
theorem dX6_stretched_34 : decode cX6_stretched 34 = .ok (.iinc 4 1, 3) := by decide +kernel
theorem dX6_stretched_37 : decode cX6_stretched 37 = .ok (.goto (-32), 3) := by decide +kernel
theorem dX6_stretched_40 : decode cX6_stretched 40 = .ok (.iload_n 3, 1) := by decide +kernel
theorem dX6_stretched_41 : decode cX6_stretched 41 = .ok (.ireturn, 1) := by decide +kernel
set_option maxRecDepth 20000 in
theorem ggX6_evenly_X6_leftOver : GoodIn wsX6_evenly wsX6_leftOver := goodIn_r _ [4] (by decide +kernel) (by decide +kernel)
set_option maxRecDepth 20000 in
theorem gX6_evenly_X6_leftOver : GoodIn wsX6_evenly (va_wsS RX6 9 yX6_leftOver wsX6_leftOver) := goodIn_app (goodIn_of _ (by decide +kernel)) ggX6_evenly_X6_leftOver
theorem dX6_evenly_0 : decode cX6_evenly 0 = .ok (.iconst 0, 1) := by decide +kernel
theorem dX6_evenly_1 : decode cX6_evenly 1 = .ok (.istore_n 2, 1) := by decide +kernel
theorem dX6_evenly_2 : decode cX6_evenly 2 = .ok (.iconst 0, 1) := by decide +kernel
theorem dX6_evenly_3 : decode cX6_evenly 3 = .ok (.istore_n 3, 1) := by decide +kernel
theorem dX6_evenly_4 : decode cX6_evenly 4 = .ok (.iload_n 3, 1) := by decide +kernel
theorem dX6_evenly_5 : decode cX6_evenly 5 = .ok (.iload_n 0, 1) := by decide +kernel
theorem dX6_evenly_6 : decode cX6_evenly 6 = .ok (.if_icmp .ge 26, 3) := by decide +kernel
theorem dX6_evenly_9 : decode cX6_evenly 9 = .ok (.iload_n 3, 1) := by decide +kernel
theorem dX6_evenly_10 : decode cX6_evenly 10 = .ok (.iload_n 1, 1) := by decide +kernel
theorem dX6_evenly_11 : decode cX6_evenly 11 = .ok (.imul, 1) := by decide +kernel
theorem dX6_evenly_12 : decode cX6_evenly 12 = .ok (.iload_n 0, 1) := by decide +kernel
theorem dX6_evenly_13 : decode cX6_evenly 13 = .ok (.invokestatic 9, 3) := by decide +kernel
theorem dX6_evenly_16 : decode cX6_evenly 16 = .ok (.iload_n 1, 1) := by decide +kernel
theorem dX6_evenly_17 : decode cX6_evenly 17 = .ok (.if_icmp .ge 9, 3) := by decide +kernel
theorem dX6_evenly_20 : decode cX6_evenly 20 = .ok (.iload_n 2, 1) := by decide +kernel
theorem dX6_evenly_21 : decode cX6_evenly 21 = .ok (.iconst 1, 1) := by decide +kernel
theorem dX6_evenly_22 : decode cX6_evenly 22 = .ok (.iload_n 3, 1) := by decide +kernel
theorem dX6_evenly_23 : decode cX6_evenly 23 = .ok (.ishl, 1) := by decide +kernel
theorem dX6_evenly_24 : decode cX6_evenly 24 = .ok (.ior, 1) := by decide +kernel
theorem dX6_evenly_25 : decode cX6_evenly 25 = .ok (.istore_n 2, 1) := by decide +kernel
theorem dX6_evenly_26 : decode cX6_evenly 26 = .ok (.iinc 3 1, 3) := by decide +kernel
theorem dX6_evenly_29 : decode cX6_evenly 29 = .ok (.goto (-25), 3) := by decide +kernel
theorem dX6_evenly_32 : decode cX6_evenly 32 = .ok (.iload_n 2, 1) := by decide +kernel
theorem dX6_evenly_33 : decode cX6_evenly 33 = .ok (.ireturn, 1) := by decide +kernel
set_option maxRecDepth 20000 in
theorem ggX6_period_X6_moved : GoodIn wsX6_period wsX6_moved := goodIn_r _ [4, 5, 6, 3, 7, 8, 9, 10] (by decide +kernel) (by decide +kernel)
set_option maxRecDepth 20000 in
theorem gX6_period_X6_moved : GoodIn wsX6_period (va_wsS RX6 26 yX6_moved wsX6_moved) := goodIn_app (goodIn_of _ (by decide +kernel)) ggX6_period_X6_moved
theorem dX6_period_0 : decode cX6_period 0 = .ok (.iconst 1, 1) := by decide +kernel
theorem dX6_period_1 : decode cX6_period 1 = .ok (.istore_n 2, 1) := by decide +kernel
theorem dX6_period_2 : decode cX6_period 2 = .ok (.iload_n 2, 1) := by decide +kernel
theorem dX6_period_3 : decode cX6_period 3 = .ok (.iload_n 0, 1) := by decide +kernel
theorem dX6_period_4 : decode cX6_period 4 = .ok (.if_icmp .ge 21, 3) := by decide +kernel
theorem dX6_period_7 : decode cX6_period 7 = .ok (.iload_n 0, 1) := by decide +kernel
theorem dX6_period_8 : decode cX6_period 8 = .ok (.iload_n 1, 1) := by decide +kernel
theorem dX6_period_9 : decode cX6_period 9 = .ok (.iload_n 2, 1) := by decide +kernel
theorem dX6_period_10 : decode cX6_period 10 = .ok (.invokestatic 26, 3) := by decide +kernel
theorem dX6_period_13 : decode cX6_period 13 = .ok (.iload_n 1, 1) := by decide +kernel
theorem dX6_period_14 : decode cX6_period 14 = .ok (.if_icmp .ne 5, 3) := by decide +kernel
theorem dX6_period_17 : decode cX6_period 17 = .ok (.iload_n 2, 1) := by decide +kernel
theorem dX6_period_18 : decode cX6_period 18 = .ok (.ireturn, 1) := by decide +kernel
theorem dX6_period_19 : decode cX6_period 19 = .ok (.iinc 2 1, 3) := by decide +kernel
theorem dX6_period_22 : decode cX6_period 22 = .ok (.goto (-20), 3) := by decide +kernel
theorem dX6_period_25 : decode cX6_period 25 = .ok (.iload_n 0, 1) := by decide +kernel
theorem dX6_period_26 : decode cX6_period 26 = .ok (.ireturn, 1) := by decide +kernel
set_option maxRecDepth 20000 in
theorem ggX6_turnsThatStrike_X6_mirrored : GoodIn wsX6_turnsThatStrike wsX6_mirrored := goodIn_r _ [4, 5, 6, 3, 7, 8, 9, 10, 11, 12, 13] (by decide +kernel) (by decide +kernel)
set_option maxRecDepth 20000 in
theorem gX6_turnsThatStrike_X6_mirrored : GoodIn wsX6_turnsThatStrike (va_wsS RX6 29 yX6_mirrored wsX6_mirrored) := goodIn_app (goodIn_of _ (by decide +kernel)) ggX6_turnsThatStrike_X6_mirrored
set_option maxRecDepth 20000 in
theorem ggX6_turnsThatStrike_X6_moved : GoodIn wsX6_turnsThatStrike wsX6_moved := goodIn_r _ [16, 11, 12, 3, 13, 17, 18, 19] (by decide +kernel) (by decide +kernel)
set_option maxRecDepth 20000 in
theorem gX6_turnsThatStrike_X6_moved : GoodIn wsX6_turnsThatStrike (va_wsS RX6 26 yX6_moved wsX6_moved) := goodIn_app (goodIn_of _ (by decide +kernel)) ggX6_turnsThatStrike_X6_moved
theorem dX6_turnsThatStrike_0 : decode cX6_turnsThatStrike 0 = .ok (.iload_n 0, 1) := by decide +kernel
theorem dX6_turnsThatStrike_1 : decode cX6_turnsThatStrike 1 = .ok (.iload_n 0, 1) := by decide +kernel
theorem dX6_turnsThatStrike_2 : decode cX6_turnsThatStrike 2 = .ok (.iload_n 1, 1) := by decide +kernel
theorem dX6_turnsThatStrike_3 : decode cX6_turnsThatStrike 3 = .ok (.invokestatic 29, 3) := by decide +kernel
theorem dX6_turnsThatStrike_6 : decode cX6_turnsThatStrike 6 = .ok (.iload_n 2, 1) := by decide +kernel
theorem dX6_turnsThatStrike_7 : decode cX6_turnsThatStrike 7 = .ok (.invokestatic 26, 3) := by decide +kernel
theorem dX6_turnsThatStrike_10 : decode cX6_turnsThatStrike 10 = .ok (.ireturn, 1) := by decide +kernel
set_option maxRecDepth 20000 in
theorem ggX6_gapAt_J6_bitCount_0f7a4 : GoodIn wsX6_gapAt wsJ6_bitCount_0f7a4 := goodIn_r _ [4, 5, 6, 7] (by decide +kernel) (by decide +kernel)
set_option maxRecDepth 20000 in
theorem gX6_gapAt_J6_bitCount_0f7a4 : GoodIn wsX6_gapAt (va_wsS RX6 32 yJ6_bitCount_0f7a4 wsJ6_bitCount_0f7a4) := goodIn_app (goodIn_of _ (by decide +kernel)) ggX6_gapAt_J6_bitCount_0f7a4
set_option maxRecDepth 20000 in
theorem ggX6_gapAt_X6_struckAt : GoodIn wsX6_gapAt wsX6_struckAt := goodIn_r _ [11, 12, 13, 10, 14] (by decide +kernel) (by decide +kernel)
set_option maxRecDepth 20000 in
theorem gX6_gapAt_X6_struckAt : GoodIn wsX6_gapAt (va_wsS RX6 37 yX6_struckAt wsX6_struckAt) := goodIn_app (goodIn_of _ (by decide +kernel)) ggX6_gapAt_X6_struckAt
theorem dX6_gapAt_0 : decode cX6_gapAt 0 = .ok (.iload_n 1, 1) := by decide +kernel
theorem dX6_gapAt_1 : decode cX6_gapAt 1 = .ok (.invokestatic 32, 3) := by decide +kernel
theorem dX6_gapAt_4 : decode cX6_gapAt 4 = .ok (.istore_n 3, 1) := by decide +kernel
theorem dX6_gapAt_5 : decode cX6_gapAt 5 = .ok (.iload_n 2, 1) := by decide +kernel
theorem dX6_gapAt_6 : decode cX6_gapAt 6 = .ok (.ifCond .lt 8, 3) := by decide +kernel
theorem dX6_gapAt_9 : decode cX6_gapAt 9 = .ok (.iload_n 2, 1) := by decide +kernel
theorem dX6_gapAt_10 : decode cX6_gapAt 10 = .ok (.iload_n 3, 1) := by decide +kernel
theorem dX6_gapAt_11 : decode cX6_gapAt 11 = .ok (.if_icmp .lt 5, 3) := by decide +kernel
theorem dX6_gapAt_14 : decode cX6_gapAt 14 = .ok (.iconst (-1), 1) := by decide +kernel
theorem dX6_gapAt_15 : decode cX6_gapAt 15 = .ok (.ireturn, 1) := by decide +kernel
theorem dX6_gapAt_16 : decode cX6_gapAt 16 = .ok (.iload_n 0, 1) := by decide +kernel
theorem dX6_gapAt_17 : decode cX6_gapAt 17 = .ok (.iload_n 1, 1) := by decide +kernel
theorem dX6_gapAt_18 : decode cX6_gapAt 18 = .ok (.iload_n 2, 1) := by decide +kernel
theorem dX6_gapAt_19 : decode cX6_gapAt 19 = .ok (.invokestatic 37, 3) := by decide +kernel
theorem dX6_gapAt_22 : decode cX6_gapAt 22 = .ok (.istore 4, 2) := by decide +kernel
theorem dX6_gapAt_24 : decode cX6_gapAt 24 = .ok (.iload_n 2, 1) := by decide +kernel
theorem dX6_gapAt_25 : decode cX6_gapAt 25 = .ok (.iconst 1, 1) := by decide +kernel
theorem dX6_gapAt_26 : decode cX6_gapAt 26 = .ok (.iadd, 1) := by decide +kernel
theorem dX6_gapAt_27 : decode cX6_gapAt 27 = .ok (.iload_n 3, 1) := by decide +kernel
theorem dX6_gapAt_28 : decode cX6_gapAt 28 = .ok (.if_icmp .ge 17, 3) := by decide +kernel
theorem dX6_gapAt_31 : decode cX6_gapAt 31 = .ok (.iload_n 0, 1) := by decide +kernel
theorem dX6_gapAt_32 : decode cX6_gapAt 32 = .ok (.iload_n 1, 1) := by decide +kernel
theorem dX6_gapAt_33 : decode cX6_gapAt 33 = .ok (.iload_n 2, 1) := by decide +kernel
theorem dX6_gapAt_34 : decode cX6_gapAt 34 = .ok (.iconst 1, 1) := by decide +kernel
theorem dX6_gapAt_35 : decode cX6_gapAt 35 = .ok (.iadd, 1) := by decide +kernel
theorem dX6_gapAt_36 : decode cX6_gapAt 36 = .ok (.invokestatic 37, 3) := by decide +kernel
theorem dX6_gapAt_39 : decode cX6_gapAt 39 = .ok (.iload 4, 2) := by decide +kernel
theorem dX6_gapAt_41 : decode cX6_gapAt 41 = .ok (.isub, 1) := by decide +kernel
theorem dX6_gapAt_42 : decode cX6_gapAt 42 = .ok (.goto 14, 3) := by decide +kernel
theorem dX6_gapAt_45 : decode cX6_gapAt 45 = .ok (.iload_n 0, 1) := by decide +kernel
theorem dX6_gapAt_46 : decode cX6_gapAt 46 = .ok (.iload_n 1, 1) := by decide +kernel
theorem dX6_gapAt_47 : decode cX6_gapAt 47 = .ok (.iconst 0, 1) := by decide +kernel
theorem dX6_gapAt_48 : decode cX6_gapAt 48 = .ok (.invokestatic 37, 3) := by decide +kernel
theorem dX6_gapAt_51 : decode cX6_gapAt 51 = .ok (.iload_n 0, 1) := by decide +kernel
theorem dX6_gapAt_52 : decode cX6_gapAt 52 = .ok (.iadd, 1) := by decide +kernel
theorem dX6_gapAt_53 : decode cX6_gapAt 53 = .ok (.iload 4, 2) := by decide +kernel
theorem dX6_gapAt_55 : decode cX6_gapAt 55 = .ok (.isub, 1) := by decide +kernel
theorem dX6_gapAt_56 : decode cX6_gapAt 56 = .ok (.ireturn, 1) := by decide +kernel
set_option maxRecDepth 20000 in
theorem ggX6_struckAt_X6_bit : GoodIn wsX6_struckAt wsX6_bit := goodIn_r _ [4] (by decide +kernel) (by decide +kernel)
set_option maxRecDepth 20000 in
theorem gX6_struckAt_X6_bit : GoodIn wsX6_struckAt (va_wsS RX6 23 yX6_bit wsX6_bit) := goodIn_app (goodIn_of _ (by decide +kernel)) ggX6_struckAt_X6_bit
theorem dX6_struckAt_0 : decode cX6_struckAt 0 = .ok (.iload_n 2, 1) := by decide +kernel
theorem dX6_struckAt_1 : decode cX6_struckAt 1 = .ok (.istore_n 3, 1) := by decide +kernel
theorem dX6_struckAt_2 : decode cX6_struckAt 2 = .ok (.iconst 0, 1) := by decide +kernel
theorem dX6_struckAt_3 : decode cX6_struckAt 3 = .ok (.istore 4, 2) := by decide +kernel
theorem dX6_struckAt_5 : decode cX6_struckAt 5 = .ok (.iload 4, 2) := by decide +kernel
theorem dX6_struckAt_7 : decode cX6_struckAt 7 = .ok (.iload_n 0, 1) := by decide +kernel
theorem dX6_struckAt_8 : decode cX6_struckAt 8 = .ok (.if_icmp .ge 29, 3) := by decide +kernel
theorem dX6_struckAt_11 : decode cX6_struckAt 11 = .ok (.iload_n 1, 1) := by decide +kernel
theorem dX6_struckAt_12 : decode cX6_struckAt 12 = .ok (.iload 4, 2) := by decide +kernel
theorem dX6_struckAt_14 : decode cX6_struckAt 14 = .ok (.invokestatic 23, 3) := by decide +kernel
theorem dX6_struckAt_17 : decode cX6_struckAt 17 = .ok (.iconst 1, 1) := by decide +kernel
theorem dX6_struckAt_18 : decode cX6_struckAt 18 = .ok (.if_icmp .ne 13, 3) := by decide +kernel
theorem dX6_struckAt_21 : decode cX6_struckAt 21 = .ok (.iload_n 3, 1) := by decide +kernel
theorem dX6_struckAt_22 : decode cX6_struckAt 22 = .ok (.ifCond .ne 6, 3) := by decide +kernel
theorem dX6_struckAt_25 : decode cX6_struckAt 25 = .ok (.iload 4, 2) := by decide +kernel
theorem dX6_struckAt_27 : decode cX6_struckAt 27 = .ok (.ireturn, 1) := by decide +kernel
theorem dX6_struckAt_28 : decode cX6_struckAt 28 = .ok (.iinc 3 (-1), 3) := by decide +kernel
theorem dX6_struckAt_31 : decode cX6_struckAt 31 = .ok (.iinc 4 1, 3) := by decide +kernel
theorem dX6_struckAt_34 : decode cX6_struckAt 34 = .ok (.goto (-29), 3) := by decide +kernel
theorem dX6_struckAt_37 : decode cX6_struckAt 37 = .ok (.iconst (-1), 1) := by decide +kernel
theorem dX6_struckAt_38 : decode cX6_struckAt 38 = .ok (.ireturn, 1) := by decide +kernel
set_option maxRecDepth 20000 in
theorem ggX6_leastGap_X6_gapAt : GoodIn wsX6_leastGap wsX6_gapAt := goodIn_r _ [8, 9, 10, 11, 12, 13, 14, 15, 16, 17, 7, 18, 19, 20, 21] (by decide +kernel) (by decide +kernel)
set_option maxRecDepth 20000 in
theorem gX6_leastGap_X6_gapAt : GoodIn wsX6_leastGap (va_wsS RX6 40 yX6_gapAt wsX6_gapAt) := goodIn_app (goodIn_of _ (by decide +kernel)) ggX6_leastGap_X6_gapAt
set_option maxRecDepth 20000 in
theorem ggX6_leastGap_J6_bitCount_0f7a4 : GoodIn wsX6_leastGap wsJ6_bitCount_0f7a4 := goodIn_r _ [12, 13, 14, 15] (by decide +kernel) (by decide +kernel)
set_option maxRecDepth 20000 in
theorem gX6_leastGap_J6_bitCount_0f7a4 : GoodIn wsX6_leastGap (va_wsS RX6 32 yJ6_bitCount_0f7a4 wsJ6_bitCount_0f7a4) := goodIn_app (goodIn_of _ (by decide +kernel)) ggX6_leastGap_J6_bitCount_0f7a4
theorem dX6_leastGap_0 : decode cX6_leastGap 0 = .ok (.iload_n 0, 1) := by decide +kernel
theorem dX6_leastGap_1 : decode cX6_leastGap 1 = .ok (.iload_n 1, 1) := by decide +kernel
theorem dX6_leastGap_2 : decode cX6_leastGap 2 = .ok (.iconst 0, 1) := by decide +kernel
theorem dX6_leastGap_3 : decode cX6_leastGap 3 = .ok (.invokestatic 40, 3) := by decide +kernel
theorem dX6_leastGap_6 : decode cX6_leastGap 6 = .ok (.istore_n 2, 1) := by decide +kernel
theorem dX6_leastGap_7 : decode cX6_leastGap 7 = .ok (.iconst 1, 1) := by decide +kernel
theorem dX6_leastGap_8 : decode cX6_leastGap 8 = .ok (.istore_n 3, 1) := by decide +kernel
theorem dX6_leastGap_9 : decode cX6_leastGap 9 = .ok (.iload_n 3, 1) := by decide +kernel
theorem dX6_leastGap_10 : decode cX6_leastGap 10 = .ok (.iload_n 1, 1) := by decide +kernel
theorem dX6_leastGap_11 : decode cX6_leastGap 11 = .ok (.invokestatic 32, 3) := by decide +kernel
theorem dX6_leastGap_14 : decode cX6_leastGap 14 = .ok (.if_icmp .ge 20, 3) := by decide +kernel
theorem dX6_leastGap_17 : decode cX6_leastGap 17 = .ok (.iload_n 2, 1) := by decide +kernel
theorem dX6_leastGap_18 : decode cX6_leastGap 18 = .ok (.iload_n 0, 1) := by decide +kernel
theorem dX6_leastGap_19 : decode cX6_leastGap 19 = .ok (.iload_n 1, 1) := by decide +kernel
theorem dX6_leastGap_20 : decode cX6_leastGap 20 = .ok (.iload_n 3, 1) := by decide +kernel
theorem dX6_leastGap_21 : decode cX6_leastGap 21 = .ok (.invokestatic 40, 3) := by decide +kernel
theorem dX6_leastGap_24 : decode cX6_leastGap 24 = .ok (.invokestatic 43, 3) := by decide +kernel
theorem dX6_leastGap_27 : decode cX6_leastGap 27 = .ok (.istore_n 2, 1) := by decide +kernel
theorem dX6_leastGap_28 : decode cX6_leastGap 28 = .ok (.iinc 3 1, 3) := by decide +kernel
theorem dX6_leastGap_31 : decode cX6_leastGap 31 = .ok (.goto (-22), 3) := by decide +kernel
theorem dX6_leastGap_34 : decode cX6_leastGap 34 = .ok (.iload_n 2, 1) := by decide +kernel
theorem dX6_leastGap_35 : decode cX6_leastGap 35 = .ok (.ireturn, 1) := by decide +kernel
set_option maxRecDepth 20000 in
theorem ggX6_greatestGap_X6_gapAt : GoodIn wsX6_greatestGap wsX6_gapAt := goodIn_r _ [8, 9, 10, 11, 12, 13, 14, 15, 16, 17, 7, 18, 19, 20, 21] (by decide +kernel) (by decide +kernel)
set_option maxRecDepth 20000 in
theorem gX6_greatestGap_X6_gapAt : GoodIn wsX6_greatestGap (va_wsS RX6 40 yX6_gapAt wsX6_gapAt) := goodIn_app (goodIn_of _ (by decide +kernel)) ggX6_greatestGap_X6_gapAt
set_option maxRecDepth 20000 in
theorem ggX6_greatestGap_J6_bitCount_0f7a4 : GoodIn wsX6_greatestGap wsJ6_bitCount_0f7a4 := goodIn_r _ [12, 13, 14, 15] (by decide +kernel) (by decide +kernel)
