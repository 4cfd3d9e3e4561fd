set_option maxRecDepth 20000 in
theorem gX6_greatestGap_J6_bitCount_0f7a4 : GoodIn wsX6_greatestGap (va_wsS RX6 32 yJ6_bitCount_0f7a4 wsJ6_bitCount_0f7a4) := goodIn_app (goodIn_of _ (by decide +kernel)) ggX6_greatestGap_J6_bitCount_0f7a4
theorem dX6_greatestGap_0 : decode cX6_greatestGap 0 = .ok (.iload_n 0, 1) := by decide +kernel
theorem dX6_greatestGap_1 : decode cX6_greatestGap 1 = .ok (.iload_n 1, 1) := by decide +kernel
theorem dX6_greatestGap_2 : decode cX6_greatestGap 2 = .ok (.iconst 0, 1) := by decide +kernel
theorem dX6_greatestGap_3 : decode cX6_greatestGap 3 = .ok (.invokestatic 40, 3) := by decide +kernel
theorem dX6_greatestGap_6 : decode cX6_greatestGap 6 = .ok (.istore_n 2, 1) := by decide +kernel
theorem dX6_greatestGap_7 : decode cX6_greatestGap 7 = .ok (.iconst 1, 1) := by decide +kernel
theorem dX6_greatestGap_8 : decode cX6_greatestGap 8 = .ok (.istore_n 3, 1) := by decide +kernel
theorem dX6_greatestGap_9 : decode cX6_greatestGap 9 = .ok (.iload_n 3, 1) := by decide +kernel
theorem dX6_greatestGap_10 : decode cX6_greatestGap 10 = .ok (.iload_n 1, 1) := by decide +kernel
theorem dX6_greatestGap_11 : decode cX6_greatestGap 11 = .ok (.invokestatic 32, 3) := by decide +kernel
theorem dX6_greatestGap_14 : decode cX6_greatestGap 14 = .ok (.if_icmp .ge 20, 3) := by decide +kernel
theorem dX6_greatestGap_17 : decode cX6_greatestGap 17 = .ok (.iload_n 2, 1) := by decide +kernel
theorem dX6_greatestGap_18 : decode cX6_greatestGap 18 = .ok (.iload_n 0, 1) := by decide +kernel
theorem dX6_greatestGap_19 : decode cX6_greatestGap 19 = .ok (.iload_n 1, 1) := by decide +kernel
theorem dX6_greatestGap_20 : decode cX6_greatestGap 20 = .ok (.iload_n 3, 1) := by decide +kernel
theorem dX6_greatestGap_21 : decode cX6_greatestGap 21 = .ok (.invokestatic 40, 3) := by decide +kernel
theorem dX6_greatestGap_24 : decode cX6_greatestGap 24 = .ok (.invokestatic 48, 3) := by decide +kernel
theorem dX6_greatestGap_27 : decode cX6_greatestGap 27 = .ok (.istore_n 2, 1) := by decide +kernel
theorem dX6_greatestGap_28 : decode cX6_greatestGap 28 = .ok (.iinc 3 1, 3) := by decide +kernel
theorem dX6_greatestGap_31 : decode cX6_greatestGap 31 = .ok (.goto (-22), 3) := by decide +kernel
theorem dX6_greatestGap_34 : decode cX6_greatestGap 34 = .ok (.iload_n 2, 1) := by decide +kernel
theorem dX6_greatestGap_35 : decode cX6_greatestGap 35 = .ok (.ireturn, 1) := by decide +kernel
set_option maxRecDepth 20000 in
theorem ggX7_init_X7_clear : GoodIn wsX7_init wsX7_clear := goodIn_r _ [10, 11, 12, 13, 14, 15, 16, 17] (by decide +kernel) (by decide +kernel)
set_option maxRecDepth 20000 in
theorem gX7_init_X7_clear : GoodIn wsX7_init (wsV RX7 15 RX7 yX7_clear wsX7_clear) := goodIn_app (goodIn_of _ (by decide +kernel)) ggX7_init_X7_clear
theorem dX7_init_0 : decode cX7_init 0 = .ok (.aload_n 0, 1) := by decide +kernel
theorem dX7_init_1 : decode cX7_init 1 = .ok (.invokespecial 3, 3) := by decide +kernel
theorem dX7_init_4 : decode cX7_init 4 = .ok (.aload_n 0, 1) := by decide +kernel
theorem dX7_init_5 : decode cX7_init 5 = .ok (.bipush 60, 2) := by decide +kernel
theorem dX7_init_7 : decode cX7_init 7 = .ok (.newarray .int, 2) := by decide +kernel
theorem dX7_init_9 : decode cX7_init 9 = .ok (.putfield 9, 3) := by decide +kernel
theorem dX7_init_12 : decode cX7_init 12 = .ok (.aload_n 0, 1) := by decide +kernel
theorem dX7_init_13 : decode cX7_init 13 = .ok (.invokevirtual 15, 3) := by decide +kernel
theorem dX7_init_16 : decode cX7_init 16 = .ok (.return_, 1) := by decide +kernel
theorem dX7_clear_0 : decode cX7_clear 0 = .ok (.aload_n 0, 1) := by decide +kernel
theorem dX7_clear_1 : decode cX7_clear 1 = .ok (.iconst 0, 1) := by decide +kernel
theorem dX7_clear_2 : decode cX7_clear 2 = .ok (.putfield 18, 3) := by decide +kernel
theorem dX7_clear_5 : decode cX7_clear 5 = .ok (.return_, 1) := by decide +kernel
theorem dX7_append_0 : decode cX7_append 0 = .ok (.aload_n 0, 1) := by decide +kernel
theorem dX7_append_1 : decode cX7_append 1 = .ok (.getfield 18, 3) := by decide +kernel
theorem dX7_append_4 : decode cX7_append 4 = .ok (.ifCond .lt 15, 3) := by decide +kernel
theorem dX7_append_7 : decode cX7_append 7 = .ok (.aload_n 0, 1) := by decide +kernel
theorem dX7_append_8 : decode cX7_append 8 = .ok (.getfield 18, 3) := by decide +kernel
theorem dX7_append_11 : decode cX7_append 11 = .ok (.aload_n 0, 1) := by decide +kernel
theorem dX7_append_12 : decode cX7_append 12 = .ok (.getfield 9, 3) := by decide +kernel
theorem dX7_append_15 : decode cX7_append 15 = .ok (.arraylength, 1) := by decide +kernel
theorem dX7_append_16 : decode cX7_append 16 = .ok (.if_icmp .lt 6, 3) := by decide +kernel
theorem dX7_append_19 : decode cX7_append 19 = .ok (.ldc 22, 2) := by decide +kernel
theorem dX7_append_21 : decode cX7_append 21 = .ok (.ireturn, 1) := by decide +kernel
theorem dX7_append_22 : decode cX7_append 22 = .ok (.aload_n 0, 1) := by decide +kernel
theorem dX7_append_23 : decode cX7_append 23 = .ok (.getfield 9, 3) := by decide +kernel
theorem dX7_append_26 : decode cX7_append 26 = .ok (.aload_n 0, 1) := by decide +kernel
theorem dX7_append_27 : decode cX7_append 27 = .ok (.getfield 18, 3) := by decide +kernel
theorem dX7_append_30 : decode cX7_append 30 = .ok (.iload_n 1, 1) := by decide +kernel
theorem dX7_append_31 : decode cX7_append 31 = .ok (.iastore, 1) := by decide +kernel
theorem dX7_append_32 : decode cX7_append 32 = .ok (.aload_n 0, 1) := by decide +kernel
theorem dX7_append_33 : decode cX7_append 33 = .ok (.dup, 1) := by decide +kernel
theorem dX7_append_34 : decode cX7_append 34 = .ok (.getfield 18, 3) := by decide +kernel
theorem dX7_append_37 : decode cX7_append 37 = .ok (.iconst 1, 1) := by decide +kernel
theorem dX7_append_38 : decode cX7_append 38 = .ok (.iadd, 1) := by decide +kernel
theorem dX7_append_39 : decode cX7_append 39 = .ok (.putfield 18, 3) := by decide +kernel
theorem dX7_append_42 : decode cX7_append 42 = .ok (.aload_n 0, 1) := by decide +kernel
theorem dX7_append_43 : decode cX7_append 43 = .ok (.getfield 18, 3) := by decide +kernel
theorem dX7_append_46 : decode cX7_append 46 = .ok (.ireturn, 1) := by decide +kernel
set_option maxRecDepth 20000 in
theorem ggX7_read_X7_figuresFrom : GoodIn wsX7_read wsX7_figuresFrom := goodIn_r _ [14, 4, 15, 16, 17, 13, 18, 19, 31, 32, 33, 34, 35, 36] (by decide +kernel) (by decide +kernel)
set_option maxRecDepth 20000 in
theorem gX7_read_X7_figuresFrom : GoodIn wsX7_read (wsV RX7 32 RX7 yX7_figuresFrom wsX7_figuresFrom) := goodIn_app (goodIn_of _ (by decide +kernel)) ggX7_read_X7_figuresFrom
set_option maxRecDepth 20000 in
theorem ggX7_read_X7_readNumber : GoodIn wsX7_read wsX7_readNumber := goodIn_r _ [23, 3, 15, 16, 17, 13, 18, 4, 19, 31, 32, 33, 34, 35, 36] (by decide +kernel) (by decide +kernel)
set_option maxRecDepth 20000 in
theorem gX7_read_X7_readNumber : GoodIn wsX7_read (wsV RX7 45 RX7 yX7_readNumber wsX7_readNumber) := goodIn_app (goodIn_of _ (by decide +kernel)) ggX7_read_X7_readNumber
set_option maxRecDepth 20000 in
theorem ggX7_read_X7_letterAt : GoodIn wsX7_read wsX7_letterAt := goodIn_r _ [18, 4, 19, 31, 32, 33, 34, 35, 36] (by decide +kernel) (by decide +kernel)
set_option maxRecDepth 20000 in
theorem gX7_read_X7_letterAt : GoodIn wsX7_read (wsV RX7 48 RX7 yX7_letterAt wsX7_letterAt) := goodIn_app (goodIn_of _ (by decide +kernel)) ggX7_read_X7_letterAt
set_option maxRecDepth 20000 in
theorem ggX7_read_X7_readSign : GoodIn wsX7_read wsX7_readSign := goodIn_r _ [27, 3, 5, 6, 7, 8, 1, 2, 28, 29, 30, 31, 32, 33, 34, 35, 36] (by decide +kernel) (by decide +kernel)
set_option maxRecDepth 20000 in
theorem gX7_read_X7_readSign : GoodIn wsX7_read (wsV RX7 51 RX7 yX7_readSign wsX7_readSign) := goodIn_app (goodIn_of _ (by decide +kernel)) ggX7_read_X7_readSign
theorem dX7_read_0 : decode cX7_read 0 = .ok (.aload_n 0, 1) := by decide +kernel
theorem dX7_read_1 : decode cX7_read 1 = .ok (.iconst 0, 1) := by decide +kernel
theorem dX7_read_2 : decode cX7_read 2 = .ok (.putfield 23, 3) := by decide +kernel
theorem dX7_read_5 : decode cX7_read 5 = .ok (.aload_n 0, 1) := by decide +kernel
theorem dX7_read_6 : decode cX7_read 6 = .ok (.iconst 0, 1) := by decide +kernel
theorem dX7_read_7 : decode cX7_read 7 = .ok (.putfield 26, 3) := by decide +kernel
theorem dX7_read_10 : decode cX7_read 10 = .ok (.aload_n 0, 1) := by decide +kernel
theorem dX7_read_11 : decode cX7_read 11 = .ok (.iconst 0, 1) := by decide +kernel
theorem dX7_read_12 : decode cX7_read 12 = .ok (.putfield 29, 3) := by decide +kernel
theorem dX7_read_15 : decode cX7_read 15 = .ok (.iconst 1, 1) := by decide +kernel
theorem dX7_read_16 : decode cX7_read 16 = .ok (.istore_n 1, 1) := by decide +kernel
theorem dX7_read_17 : decode cX7_read 17 = .ok (.iconst 0, 1) := by decide +kernel
theorem dX7_read_18 : decode cX7_read 18 = .ok (.istore_n 2, 1) := by decide +kernel
theorem dX7_read_19 : decode cX7_read 19 = .ok (.iload_n 2, 1) := by decide +kernel
theorem dX7_read_20 : decode cX7_read 20 = .ok (.aload_n 0, 1) := by decide +kernel
theorem dX7_read_21 : decode cX7_read 21 = .ok (.getfield 18, 3) := by decide +kernel
theorem dX7_read_24 : decode cX7_read 24 = .ok (.if_icmp .ge 59, 3) := by decide +kernel
theorem dX7_read_27 : decode cX7_read 27 = .ok (.aload_n 0, 1) := by decide +kernel
theorem dX7_read_28 : decode cX7_read 28 = .ok (.iload_n 2, 1) := by decide +kernel
theorem dX7_read_29 : decode cX7_read 29 = .ok (.invokevirtual 32, 3) := by decide +kernel
theorem dX7_read_32 : decode cX7_read 32 = .ok (.istore_n 3, 1) := by decide +kernel
theorem dX7_read_33 : decode cX7_read 33 = .ok (.iconst 1, 1) := by decide +kernel
theorem dX7_read_34 : decode cX7_read 34 = .ok (.iload_n 3, 1) := by decide +kernel
theorem dX7_read_35 : decode cX7_read 35 = .ok (.invokestatic 36, 3) := by decide +kernel
theorem dX7_read_38 : decode cX7_read 38 = .ok (.istore_n 1, 1) := by decide +kernel
theorem dX7_read_39 : decode cX7_read 39 = .ok (.aload_n 0, 1) := by decide +kernel
theorem dX7_read_40 : decode cX7_read 40 = .ok (.iload_n 2, 1) := by decide +kernel
theorem dX7_read_41 : decode cX7_read 41 = .ok (.putfield 42, 3) := by decide +kernel
theorem dX7_read_44 : decode cX7_read 44 = .ok (.iload_n 3, 1) := by decide +kernel
theorem dX7_read_45 : decode cX7_read 45 = .ok (.ifCond .le 12, 3) := by decide +kernel
theorem dX7_read_48 : decode cX7_read 48 = .ok (.aload_n 0, 1) := by decide +kernel
theorem dX7_read_49 : decode cX7_read 49 = .ok (.iload_n 2, 1) := by decide +kernel
theorem dX7_read_50 : decode cX7_read 50 = .ok (.iload_n 3, 1) := by decide +kernel
theorem dX7_read_51 : decode cX7_read 51 = .ok (.invokevirtual 45, 3) := by decide +kernel
theorem dX7_read_54 : decode cX7_read 54 = .ok (.goto 12, 3) := by decide +kernel
theorem dX7_read_57 : decode cX7_read 57 = .ok (.aload_n 0, 1) := by decide +kernel
theorem dX7_read_58 : decode cX7_read 58 = .ok (.aload_n 0, 1) := by decide +kernel
theorem dX7_read_59 : decode cX7_read 59 = .ok (.iload_n 2, 1) := by decide +kernel
theorem dX7_read_60 : decode cX7_read 60 = .ok (.invokevirtual 48, 3) := by decide +kernel
theorem dX7_read_63 : decode cX7_read 63 = .ok (.invokevirtual 51, 3) := by decide +kernel
theorem dX7_read_66 : decode cX7_read 66 = .ok (.istore 4, 2) := by decide +kernel
theorem dX7_read_68 : decode cX7_read 68 = .ok (.iload 4, 2) := by decide +kernel
theorem dX7_read_70 : decode cX7_read 70 = .ok (.ifCond .eq 6, 3) := by decide +kernel
theorem dX7_read_73 : decode cX7_read 73 = .ok (.iload 4, 2) := by decide +kernel
theorem dX7_read_75 : decode cX7_read 75 = .ok (.ireturn, 1) := by decide +kernel
theorem dX7_read_76 : decode cX7_read 76 = .ok (.iload_n 2, 1) := by decide +kernel
theorem dX7_read_77 : decode cX7_read 77 = .ok (.iload_n 1, 1) := by decide +kernel
theorem dX7_read_78 : decode cX7_read 78 = .ok (.iadd, 1) := by decide +kernel
theorem dX7_read_79 : decode cX7_read 79 = .ok (.istore_n 2, 1) := by decide +kernel
theorem dX7_read_80 : decode cX7_read 80 = .ok (.goto (-61), 3) := by decide +kernel
theorem dX7_read_83 : decode cX7_read 83 = .ok (.aload_n 0, 1) := by decide +kernel
theorem dX7_read_84 : decode cX7_read 84 = .ok (.aload_n 0, 1) := by decide +kernel
theorem dX7_read_85 : decode cX7_read 85 = .ok (.getfield 18, 3) := by decide +kernel
theorem dX7_read_88 : decode cX7_read 88 = .ok (.putfield 42, 3) := by decide +kernel
theorem dX7_read_91 : decode cX7_read 91 = .ok (.aload_n 0, 1) := by decide +kernel
theorem dX7_read_92 : decode cX7_read 92 = .ok (.getfield 29, 3) := by decide +kernel
theorem dX7_read_95 : decode cX7_read 95 = .ok (.ifCond .ne 10, 3) := by decide +kernel
theorem dX7_read_98 : decode cX7_read 98 = .ok (.aload_n 0, 1) := by decide +kernel
theorem dX7_read_99 : decode cX7_read 99 = .ok (.getfield 23, 3) := by decide +kernel
theorem dX7_read_102 : decode cX7_read 102 = .ok (.ifCond .ne 7, 3) := by decide +kernel
theorem dX7_read_105 : decode cX7_read 105 = .ok (.iconst 1, 1) := by decide +kernel
theorem dX7_read_106 : decode cX7_read 106 = .ok (.goto 4, 3) := by decide +kernel
theorem dX7_read_109 : decode cX7_read 109 = .ok (.iconst 0, 1) := by decide +kernel
theorem dX7_read_110 : decode cX7_read 110 = .ok (.ireturn, 1) := by decide +kernel
theorem dX7_letterAt_0 : decode cX7_letterAt 0 = .ok (.iload_n 1, 1) := by decide +kernel
theorem dX7_letterAt_1 : decode cX7_letterAt 1 = .ok (.ifCond .lt 20, 3) := by decide +kernel
theorem dX7_letterAt_4 : decode cX7_letterAt 4 = .ok (.iload_n 1, 1) := by decide +kernel
theorem dX7_letterAt_5 : decode cX7_letterAt 5 = .ok (.aload_n 0, 1) := by decide +kernel
theorem dX7_letterAt_6 : decode cX7_letterAt 6 = .ok (.getfield 18, 3) := by decide +kernel
theorem dX7_letterAt_9 : decode cX7_letterAt 9 = .ok (.if_icmp .ge 12, 3) := by decide +kernel
theorem dX7_letterAt_12 : decode cX7_letterAt 12 = .ok (.iload_n 1, 1) := by decide +kernel
theorem dX7_letterAt_13 : decode cX7_letterAt 13 = .ok (.aload_n 0, 1) := by decide +kernel
theorem dX7_letterAt_14 : decode cX7_letterAt 14 = .ok (.getfield 9, 3) := by decide +kernel
theorem dX7_letterAt_17 : decode cX7_letterAt 17 = .ok (.arraylength, 1) := by decide +kernel
theorem dX7_letterAt_18 : decode cX7_letterAt 18 = .ok (.if_icmp .lt 7, 3) := by decide +kernel
theorem dX7_letterAt_21 : decode cX7_letterAt 21 = .ok (.iconst (-1), 1) := by decide +kernel
theorem dX7_letterAt_22 : decode cX7_letterAt 22 = .ok (.goto 9, 3) := by decide +kernel
theorem dX7_letterAt_25 : decode cX7_letterAt 25 = .ok (.aload_n 0, 1) := by decide +kernel
theorem dX7_letterAt_26 : decode cX7_letterAt 26 = .ok (.getfield 9, 3) := by decide +kernel
theorem dX7_letterAt_29 : decode cX7_letterAt 29 = .ok (.iload_n 1, 1) := by decide +kernel
theorem dX7_letterAt_30 : decode cX7_letterAt 30 = .ok (.iaload, 1) := by decide +kernel
theorem dX7_letterAt_31 : decode cX7_letterAt 31 = .ok (.ireturn, 1) := by decide +kernel
set_option maxRecDepth 20000 in
theorem ggX7_figuresFrom_X7_letterAt : GoodIn wsX7_figuresFrom wsX7_letterAt := goodIn_r _ [6, 1, 7, 8, 9, 10, 11, 12, 13] (by decide +kernel) (by decide +kernel)
set_option maxRecDepth 20000 in
theorem gX7_figuresFrom_X7_letterAt : GoodIn wsX7_figuresFrom (wsV RX7 48 RX7 yX7_letterAt wsX7_letterAt) := goodIn_app (goodIn_of _ (by decide +kernel)) ggX7_figuresFrom_X7_letterAt
theorem dX7_figuresFrom_0 : decode cX7_figuresFrom 0 = .ok (.iload_n 1, 1) := by decide +kernel
theorem dX7_figuresFrom_1 : decode cX7_figuresFrom 1 = .ok (.istore_n 2, 1) := by decide +kernel
theorem dX7_figuresFrom_2 : decode cX7_figuresFrom 2 = .ok (.iload_n 2, 1) := by decide +kernel
theorem dX7_figuresFrom_3 : decode cX7_figuresFrom 3 = .ok (.aload_n 0, 1) := by decide +kernel
theorem dX7_figuresFrom_4 : decode cX7_figuresFrom 4 = .ok (.getfield 18, 3) := by decide +kernel
theorem dX7_figuresFrom_7 : decode cX7_figuresFrom 7 = .ok (.if_icmp .ge 29, 3) := by decide +kernel
theorem dX7_figuresFrom_10 : decode cX7_figuresFrom 10 = .ok (.aload_n 0, 1) := by decide +kernel
theorem dX7_figuresFrom_11 : decode cX7_figuresFrom 11 = .ok (.iload_n 2, 1) := by decide +kernel
theorem dX7_figuresFrom_12 : decode cX7_figuresFrom 12 = .ok (.invokevirtual 48, 3) := by decide +kernel
theorem dX7_figuresFrom_15 : decode cX7_figuresFrom 15 = .ok (.bipush 48, 2) := by decide +kernel
theorem dX7_figuresFrom_17 : decode cX7_figuresFrom 17 = .ok (.if_icmp .lt 19, 3) := by decide +kernel
theorem dX7_figuresFrom_20 : decode cX7_figuresFrom 20 = .ok (.aload_n 0, 1) := by decide +kernel
theorem dX7_figuresFrom_21 : decode cX7_figuresFrom 21 = .ok (.iload_n 2, 1) := by decide +kernel
theorem dX7_figuresFrom_22 : decode cX7_figuresFrom 22 = .ok (.invokevirtual 48, 3) := by decide +kernel
theorem dX7_figuresFrom_25 : decode cX7_figuresFrom 25 = .ok (.bipush 57, 2) := by decide +kernel
theorem dX7_figuresFrom_27 : decode cX7_figuresFrom 27 = .ok (.if_icmp .gt 9, 3) := by decide +kernel
theorem dX7_figuresFrom_30 : decode cX7_figuresFrom 30 = .ok (.iinc 2 1, 3) := by decide +kernel
theorem dX7_figuresFrom_33 : decode cX7_figuresFrom 33 = .ok (.goto (-31), 3) := by decide +kernel
theorem dX7_figuresFrom_36 : decode cX7_figuresFrom 36 = .ok (.iload_n 2, 1) := by decide +kernel
theorem dX7_figuresFrom_37 : decode cX7_figuresFrom 37 = .ok (.iload_n 1, 1) := by decide +kernel
theorem dX7_figuresFrom_38 : decode cX7_figuresFrom 38 = .ok (.isub, 1) := by decide +kernel
theorem dX7_figuresFrom_39 : decode cX7_figuresFrom 39 = .ok (.ireturn, 1) := by decide +kernel
set_option maxRecDepth 20000 in
theorem ggX7_readNumber_X7_letterAt : GoodIn wsX7_readNumber wsX7_letterAt := goodIn_r _ [6, 7, 8, 9, 10, 11, 12, 13, 14] (by decide +kernel) (by decide +kernel)
set_option maxRecDepth 20000 in
theorem gX7_readNumber_X7_letterAt : GoodIn wsX7_readNumber (wsV RX7 48 RX7 yX7_letterAt wsX7_letterAt) := goodIn_app (goodIn_of _ (by decide +kernel)) ggX7_readNumber_X7_letterAt
theorem dX7_readNumber_0 : decode cX7_readNumber 0 = .ok (.aload_n 0, 1) := by decide +kernel
theorem dX7_readNumber_1 : decode cX7_readNumber 1 = .ok (.getfield 29, 3) := by decide +kernel
theorem dX7_readNumber_4 : decode cX7_readNumber 4 = .ok (.ifCond .ne 13, 3) := by decide +kernel
theorem dX7_readNumber_7 : decode cX7_readNumber 7 = .ok (.aload_n 0, 1) := by decide +kernel
theorem dX7_readNumber_8 : decode cX7_readNumber 8 = .ok (.iload_n 1, 1) := by decide +kernel
theorem dX7_readNumber_9 : decode cX7_readNumber 9 = .ok (.invokevirtual 48, 3) := by decide +kernel
theorem dX7_readNumber_12 : decode cX7_readNumber 12 = .ok (.bipush 48, 2) := by decide +kernel
theorem dX7_readNumber_14 : decode cX7_readNumber 14 = .ok (.if_icmp .ne 5, 3) := by decide +kernel
theorem dX7_readNumber_17 : decode cX7_readNumber 17 = .ok (.iconst 1, 1) := by decide +kernel
theorem dX7_readNumber_18 : decode cX7_readNumber 18 = .ok (.ireturn, 1) := by decide +kernel
theorem dX7_readNumber_19 : decode cX7_readNumber 19 = .ok (.iload_n 2, 1) := by decide +kernel
theorem dX7_readNumber_20 : decode cX7_readNumber 20 = .ok (.iconst 2, 1) := by decide +kernel
theorem dX7_readNumber_21 : decode cX7_readNumber 21 = .ok (.if_icmp .le 5, 3) := by decide +kernel
theorem dX7_readNumber_24 : decode cX7_readNumber 24 = .ok (.iconst 2, 1) := by decide +kernel
theorem dX7_readNumber_25 : decode cX7_readNumber 25 = .ok (.ireturn, 1) := by decide +kernel
theorem dX7_readNumber_26 : decode cX7_readNumber 26 = .ok (.aload_n 0, 1) := by decide +kernel
theorem dX7_readNumber_27 : decode cX7_readNumber 27 = .ok (.iload_n 1, 1) := by decide +kernel
theorem dX7_readNumber_28 : decode cX7_readNumber 28 = .ok (.invokevirtual 48, 3) := by decide +kernel
theorem dX7_readNumber_31 : decode cX7_readNumber 31 = .ok (.bipush 48, 2) := by decide +kernel
theorem dX7_readNumber_33 : decode cX7_readNumber 33 = .ok (.isub, 1) := by decide +kernel
theorem dX7_readNumber_34 : decode cX7_readNumber 34 = .ok (.istore_n 3, 1) := by decide +kernel
theorem dX7_readNumber_35 : decode cX7_readNumber 35 = .ok (.iload_n 2, 1) := by decide +kernel
theorem dX7_readNumber_36 : decode cX7_readNumber 36 = .ok (.iconst 2, 1) := by decide +kernel
theorem dX7_readNumber_37 : decode cX7_readNumber 37 = .ok (.if_icmp .ne 19, 3) := by decide +kernel
theorem dX7_readNumber_40 : decode cX7_readNumber 40 = .ok (.bipush 10, 2) := by decide +kernel
theorem dX7_readNumber_42 : decode cX7_readNumber 42 = .ok (.iload_n 3, 1) := by decide +kernel
theorem dX7_readNumber_43 : decode cX7_readNumber 43 = .ok (.imul, 1) := by decide +kernel
theorem dX7_readNumber_44 : decode cX7_readNumber 44 = .ok (.aload_n 0, 1) := by decide +kernel
theorem dX7_readNumber_45 : decode cX7_readNumber 45 = .ok (.iload_n 1, 1) := by decide +kernel
theorem dX7_readNumber_46 : decode cX7_readNumber 46 = .ok (.iconst 1, 1) := by decide +kernel
theorem dX7_readNumber_47 : decode cX7_readNumber 47 = .ok (.iadd, 1) := by decide +kernel
theorem dX7_readNumber_48 : decode cX7_readNumber 48 = .ok (.invokevirtual 48, 3) := by decide +kernel
theorem dX7_readNumber_51 : decode cX7_readNumber 51 = .ok (.iadd, 1) := by decide +kernel
theorem dX7_readNumber_52 : decode cX7_readNumber 52 = .ok (.bipush 48, 2) := by decide +kernel
theorem dX7_readNumber_54 : decode cX7_readNumber 54 = .ok (.isub, 1) := by decide +kernel
theorem dX7_readNumber_55 : decode cX7_readNumber 55 = .ok (.istore_n 3, 1) := by decide +kernel
theorem dX7_readNumber_56 : decode cX7_readNumber 56 = .ok (.iload_n 3, 1) := by decide +kernel
theorem dX7_readNumber_57 : decode cX7_readNumber 57 = .ok (.bipush 24, 2) := by decide +kernel
theorem dX7_readNumber_59 : decode cX7_readNumber 59 = .ok (.if_icmp .le 5, 3) := by decide +kernel
theorem dX7_readNumber_62 : decode cX7_readNumber 62 = .ok (.iconst 2, 1) := by decide +kernel
theorem dX7_readNumber_63 : decode cX7_readNumber 63 = .ok (.ireturn, 1) := by decide +kernel
theorem dX7_readNumber_64 : decode cX7_readNumber 64 = .ok (.aload_n 0, 1) := by decide +kernel
theorem dX7_readNumber_65 : decode cX7_readNumber 65 = .ok (.iload_n 3, 1) := by decide +kernel
theorem dX7_readNumber_66 : decode cX7_readNumber 66 = .ok (.putfield 29, 3) := by decide +kernel
theorem dX7_readNumber_69 : decode cX7_readNumber 69 = .ok (.iconst 0, 1) := by decide +kernel
theorem dX7_readNumber_70 : decode cX7_readNumber 70 = .ok (.ireturn, 1) := by decide +kernel
set_option maxRecDepth 20000 in
theorem ggX7_readSign_X6_full : GoodIn wsX7_readSign wsX6_full := goodIn_r _ [10] (by decide +kernel) (by decide +kernel)
set_option maxRecDepth 20000 in
theorem gX7_readSign_X6_full_n54 : GoodIn wsX7_readSign (wsX6_full) := ggX7_readSign_X6_full
theorem dX7_readSign_0 : decode cX7_readSign 0 = .ok (.iload_n 1, 1) := by decide +kernel
theorem dX7_readSign_1 : decode cX7_readSign 1 = .ok (.bipush 32, 2) := by decide +kernel
theorem dX7_readSign_3 : decode cX7_readSign 3 = .ok (.if_icmp .ne 5, 3) := by decide +kernel
theorem dX7_readSign_6 : decode cX7_readSign 6 = .ok (.iconst 0, 1) := by decide +kernel
theorem dX7_readSign_7 : decode cX7_readSign 7 = .ok (.ireturn, 1) := by decide +kernel
theorem dX7_readSign_8 : decode cX7_readSign 8 = .ok (.iload_n 1, 1) := by decide +kernel
theorem dX7_readSign_9 : decode cX7_readSign 9 = .ok (.bipush 120, 2) := by decide +kernel
theorem dX7_readSign_11 : decode cX7_readSign 11 = .ok (.if_icmp .eq 11, 3) := by decide +kernel
theorem dX7_readSign_14 : decode cX7_readSign 14 = .ok (.iload_n 1, 1) := by decide +kernel
theorem dX7_readSign_15 : decode cX7_readSign 15 = .ok (.bipush 46, 2) := by decide +kernel
theorem dX7_readSign_17 : decode cX7_readSign 17 = .ok (.if_icmp .eq 5, 3) := by decide +kernel
theorem dX7_readSign_20 : decode cX7_readSign 20 = .ok (.iconst 1, 1) := by decide +kernel
theorem dX7_readSign_21 : decode cX7_readSign 21 = .ok (.ireturn, 1) := by decide +kernel
theorem dX7_readSign_22 : decode cX7_readSign 22 = .ok (.iconst 1, 1) := by decide +kernel
theorem dX7_readSign_23 : decode cX7_readSign 23 = .ok (.aload_n 0, 1) := by decide +kernel
theorem dX7_readSign_24 : decode cX7_readSign 24 = .ok (.getfield 29, 3) := by decide +kernel
theorem dX7_readSign_27 : decode cX7_readSign 27 = .ok (.invokestatic 36, 3) := by decide +kernel
theorem dX7_readSign_30 : decode cX7_readSign 30 = .ok (.istore_n 2, 1) := by decide +kernel
theorem dX7_readSign_31 : decode cX7_readSign 31 = .ok (.aload_n 0, 1) := by decide +kernel
theorem dX7_readSign_32 : decode cX7_readSign 32 = .ok (.getfield 23, 3) := by decide +kernel
theorem dX7_readSign_35 : decode cX7_readSign 35 = .ok (.iload_n 2, 1) := by decide +kernel
theorem dX7_readSign_36 : decode cX7_readSign 36 = .ok (.iadd, 1) := by decide +kernel
theorem dX7_readSign_37 : decode cX7_readSign 37 = .ok (.bipush 24, 2) := by decide +kernel
theorem dX7_readSign_39 : decode cX7_readSign 39 = .ok (.if_icmp .le 5, 3) := by decide +kernel
theorem dX7_readSign_42 : decode cX7_readSign 42 = .ok (.iconst 3, 1) := by decide +kernel
theorem dX7_readSign_43 : decode cX7_readSign 43 = .ok (.ireturn, 1) := by decide +kernel
theorem dX7_readSign_44 : decode cX7_readSign 44 = .ok (.iload_n 1, 1) := by decide +kernel
theorem dX7_readSign_45 : decode cX7_readSign 45 = .ok (.bipush 120, 2) := by decide +kernel
theorem dX7_readSign_47 : decode cX7_readSign 47 = .ok (.if_icmp .ne 21, 3) := by decide +kernel
theorem dX7_readSign_50 : decode cX7_readSign 50 = .ok (.aload_n 0, 1) := by decide +kernel
theorem dX7_readSign_51 : decode cX7_readSign 51 = .ok (.dup, 1) := by decide +kernel
theorem dX7_readSign_52 : decode cX7_readSign 52 = .ok (.getfield 26, 3) := by decide +kernel
theorem dX7_readSign_55 : decode cX7_readSign 55 = .ok (.iload_n 2, 1) := by decide +kernel
theorem dX7_readSign_56 : decode cX7_readSign 56 = .ok (.invokestatic 54, 3) := by decide +kernel
theorem dX7_readSign_59 : decode cX7_readSign 59 = .ok (.aload_n 0, 1) := by decide +kernel
theorem dX7_readSign_60 : decode cX7_readSign 60 = .ok (.getfield 23, 3) := by decide +kernel
theorem dX7_readSign_63 : decode cX7_readSign 63 = .ok (.ishl, 1) := by decide +kernel
theorem dX7_readSign_64 : decode cX7_readSign 64 = .ok (.ior, 1) := by decide +kernel
theorem dX7_readSign_65 : decode cX7_readSign 65 = .ok (.putfield 26, 3) := by decide +kernel
theorem dX7_readSign_68 : decode cX7_readSign 68 = .ok (.aload_n 0, 1) := by decide +kernel
theorem dX7_readSign_69 : decode cX7_readSign 69 = .ok (.dup, 1) := by decide +kernel
theorem dX7_readSign_70 : decode cX7_readSign 70 = .ok (.getfield 23, 3) := by decide +kernel
theorem dX7_readSign_73 : decode cX7_readSign 73 = .ok (.iload_n 2, 1) := by decide +kernel
theorem dX7_readSign_74 : decode cX7_readSign 74 = .ok (.iadd, 1) := by decide +kernel
theorem dX7_readSign_75 : decode cX7_readSign 75 = .ok (.putfield 23, 3) := by decide +kernel
theorem dX7_readSign_78 : decode cX7_readSign 78 = .ok (.aload_n 0, 1) := by decide +kernel
theorem dX7_readSign_79 : decode cX7_readSign 79 = .ok (.iconst 0, 1) := by decide +kernel
theorem dX7_readSign_80 : decode cX7_readSign 80 = .ok (.putfield 29, 3) := by decide +kernel
theorem dX7_readSign_83 : decode cX7_readSign 83 = .ok (.iconst 0, 1) := by decide +kernel
theorem dX7_readSign_84 : decode cX7_readSign 84 = .ok (.ireturn, 1) := by decide +kernel
theorem dX8_init_0 : decode cX8_init 0 = .ok (.aload_n 0, 1) := by decide +kernel
theorem dX8_init_1 : decode cX8_init 1 = .ok (.invokespecial 3, 3) := by decide +kernel
theorem dX8_init_4 : decode cX8_init 4 = .ok (.aload_n 0, 1) := by decide +kernel
theorem dX8_init_5 : decode cX8_init 5 = .ok (.iconst 1, 1) := by decide +kernel
theorem dX8_init_6 : decode cX8_init 6 = .ok (.iload_n 1, 1) := by decide +kernel
theorem dX8_init_7 : decode cX8_init 7 = .ok (.invokestatic 9, 3) := by decide +kernel
theorem dX8_init_10 : decode cX8_init 10 = .ok (.newarray .int, 2) := by decide +kernel
theorem dX8_init_12 : decode cX8_init 12 = .ok (.putfield 15, 3) := by decide +kernel
theorem dX8_init_15 : decode cX8_init 15 = .ok (.aload_n 0, 1) := by decide +kernel
theorem dX8_init_16 : decode cX8_init 16 = .ok (.bipush 24, 2) := by decide +kernel
theorem dX8_init_18 : decode cX8_init 18 = .ok (.newarray .int, 2) := by decide +kernel
theorem dX8_init_20 : decode cX8_init 20 = .ok (.putfield 21, 3) := by decide +kernel
theorem dX8_init_23 : decode cX8_init 23 = .ok (.aload_n 0, 1) := by decide +kernel
theorem dX8_init_24 : decode cX8_init 24 = .ok (.iconst 0, 1) := by decide +kernel
theorem dX8_init_25 : decode cX8_init 25 = .ok (.putfield 24, 3) := by decide +kernel
theorem dX8_init_28 : decode cX8_init 28 = .ok (.aload_n 0, 1) := by decide +kernel
theorem dX8_init_29 : decode cX8_init 29 = .ok (.iconst 0, 1) := by decide +kernel
theorem dX8_init_30 : decode cX8_init 30 = .ok (.putfield 28, 3) := by decide +kernel
theorem dX8_init_33 : decode cX8_init 33 = .ok (.aload_n 0, 1) := by decide +kernel
theorem dX8_init_34 : decode cX8_init 34 = .ok (.iconst 0, 1) := by decide +kernel
theorem dX8_init_35 : decode cX8_init 35 = .ok (.putfield 31, 3) := by decide +kernel
theorem dX8_init_38 : decode cX8_init 38 = .ok (.aload_n 0, 1) := by decide +kernel
theorem dX8_init_39 : decode cX8_init 39 = .ok (.iconst 0, 1) := by decide +kernel
theorem dX8_init_40 : decode cX8_init 40 = .ok (.putfield 34, 3) := by decide +kernel
theorem dX8_init_43 : decode cX8_init 43 = .ok (.return_, 1) := by decide +kernel
set_option maxRecDepth 20000 in
theorem ggX8_of_J6_bitCount_0f7a4 : GoodIn wsX8_of wsJ6_bitCount_0f7a4 := goodIn_r _ [7, 8, 9, 10] (by decide +kernel) (by decide +kernel)
set_option maxRecDepth 20000 in
theorem gX8_of_J6_bitCount_0f7a4 : GoodIn wsX8_of (va_wsS RX8 37 yJ6_bitCount_0f7a4 wsJ6_bitCount_0f7a4) := goodIn_app (goodIn_of _ (by decide +kernel)) ggX8_of_J6_bitCount_0f7a4
set_option maxRecDepth 20000 in
theorem ggX8_of_X6_leftOver : GoodIn wsX8_of wsX6_leftOver := goodIn_r _ [13] (by decide +kernel) (by decide +kernel)
set_option maxRecDepth 20000 in
theorem gX8_of_X6_leftOver_n43 : GoodIn wsX8_of (wsX6_leftOver) := ggX8_of_X6_leftOver
set_option maxRecDepth 20000 in
theorem ggX8_of_X8_listStruck : GoodIn wsX8_of wsX8_listStruck := goodIn_r _ [18, 19, 1, 20, 2, 21, 12, 22, 43, 44, 45, 46, 47, 48] (by decide +kernel) (by decide +kernel)
set_option maxRecDepth 20000 in
theorem gX8_of_X8_listStruck : GoodIn wsX8_of (wsV RX8 48 RX8 yX8_listStruck wsX8_listStruck) := goodIn_app (goodIn_of _ (by decide +kernel)) ggX8_of_X8_listStruck
set_option maxRecDepth 20000 in
theorem ggX8_of_X8_cover : GoodIn wsX8_of wsX8_cover := goodIn_r _ [25, 3, 26, 1, 19, 20, 2, 27, 12, 28, 29, 30, 31, 32, 33, 6, 34, 35, 11, 13, 36, 37, 38, 23, 24, 17, 43, 44, 45, 46, 47, 48] (by decide +kernel) (by decide +kernel)
set_option maxRecDepth 20000 in
theorem gX8_of_X8_cover : GoodIn wsX8_of (va_wsS RX8 51 yX8_cover wsX8_cover) := goodIn_app (goodIn_of _ (by decide +kernel)) ggX8_of_X8_cover
set_option maxRecDepth 20000 in
theorem ggX8_of_X8_sort : GoodIn wsX8_of wsX8_sort := goodIn_r _ [42, 3, 26, 43, 44, 45, 46, 47, 48] (by decide +kernel) (by decide +kernel)
set_option maxRecDepth 20000 in
theorem gX8_of_X8_sort : GoodIn wsX8_of (wsV RX8 55 RX8 yX8_sort wsX8_sort) := goodIn_app (goodIn_of _ (by decide +kernel)) ggX8_of_X8_sort
theorem dX8_of_0 : decode cX8_of 0 = .ok (.iload_n 1, 1) := by decide +kernel
theorem dX8_of_1 : decode cX8_of 1 = .ok (.aload_n 0, 1) := by decide +kernel
theorem dX8_of_2 : decode cX8_of 2 = .ok (.getfield 31, 3) := by decide +kernel
theorem dX8_of_5 : decode cX8_of 5 = .ok (.if_icmp .ne 16, 3) := by decide +kernel
theorem dX8_of_8 : decode cX8_of 8 = .ok (.iload_n 2, 1) := by decide +kernel
theorem dX8_of_9 : decode cX8_of 9 = .ok (.aload_n 0, 1) := by decide +kernel
theorem dX8_of_10 : decode cX8_of 10 = .ok (.getfield 34, 3) := by decide +kernel
theorem dX8_of_13 : decode cX8_of 13 = .ok (.if_icmp .ne 8, 3) := by decide +kernel
theorem dX8_of_16 : decode cX8_of 16 = .ok (.aload_n 0, 1) := by decide +kernel
theorem dX8_of_17 : decode cX8_of 17 = .ok (.getfield 28, 3) := by decide +kernel
theorem dX8_of_20 : decode cX8_of 20 = .ok (.ireturn, 1) := by decide +kernel
theorem dX8_of_21 : decode cX8_of 21 = .ok (.aload_n 0, 1) := by decide +kernel
theorem dX8_of_22 : decode cX8_of 22 = .ok (.iload_n 1, 1) := by decide +kernel
theorem dX8_of_23 : decode cX8_of 23 = .ok (.putfield 31, 3) := by decide +kernel
theorem dX8_of_26 : decode cX8_of 26 = .ok (.aload_n 0, 1) := by decide +kernel
theorem dX8_of_27 : decode cX8_of 27 = .ok (.iload_n 2, 1) := by decide +kernel
theorem dX8_of_28 : decode cX8_of 28 = .ok (.putfield 34, 3) := by decide +kernel
theorem dX8_of_31 : decode cX8_of 31 = .ok (.aload_n 0, 1) := by decide +kernel
theorem dX8_of_32 : decode cX8_of 32 = .ok (.iconst 0, 1) := by decide +kernel
theorem dX8_of_33 : decode cX8_of 33 = .ok (.putfield 28, 3) := by decide +kernel
theorem dX8_of_36 : decode cX8_of 36 = .ok (.iload_n 2, 1) := by decide +kernel
theorem dX8_of_37 : decode cX8_of 37 = .ok (.invokestatic 37, 3) := by decide +kernel
theorem dX8_of_40 : decode cX8_of 40 = .ok (.istore_n 3, 1) := by decide +kernel
theorem dX8_of_41 : decode cX8_of 41 = .ok (.iload_n 3, 1) := by decide +kernel
theorem dX8_of_42 : decode cX8_of 42 = .ok (.ifCond .le 29, 3) := by decide +kernel
theorem dX8_of_45 : decode cX8_of 45 = .ok (.iload_n 1, 1) := by decide +kernel
theorem dX8_of_46 : decode cX8_of 46 = .ok (.iload_n 3, 1) := by decide +kernel
theorem dX8_of_47 : decode cX8_of 47 = .ok (.invokestatic 43, 3) := by decide +kernel
theorem dX8_of_50 : decode cX8_of 50 = .ok (.ifCond .ne 21, 3) := by decide +kernel
theorem dX8_of_53 : decode cX8_of 53 = .ok (.aload_n 0, 1) := by decide +kernel
theorem dX8_of_54 : decode cX8_of 54 = .ok (.invokevirtual 48, 3) := by decide +kernel
theorem dX8_of_57 : decode cX8_of 57 = .ok (.aload_n 0, 1) := by decide +kernel
theorem dX8_of_58 : decode cX8_of 58 = .ok (.aload_n 0, 1) := by decide +kernel
theorem dX8_of_59 : decode cX8_of 59 = .ok (.getfield 34, 3) := by decide +kernel
theorem dX8_of_62 : decode cX8_of 62 = .ok (.iconst 1, 1) := by decide +kernel
theorem dX8_of_63 : decode cX8_of 63 = .ok (.iconst 0, 1) := by decide +kernel
theorem dX8_of_64 : decode cX8_of 64 = .ok (.invokestatic 51, 3) := by decide +kernel
theorem dX8_of_67 : decode cX8_of 67 = .ok (.aload_n 0, 1) := by decide +kernel
theorem dX8_of_68 : decode cX8_of 68 = .ok (.invokevirtual 55, 3) := by decide +kernel
theorem dX8_of_71 : decode cX8_of 71 = .ok (.aload_n 0, 1) := by decide +kernel
theorem dX8_of_72 : decode cX8_of 72 = .ok (.getfield 28, 3) := by decide +kernel
theorem dX8_of_75 : decode cX8_of 75 = .ok (.ireturn, 1) := by decide +kernel
theorem dX8_at_0 : decode cX8_at 0 = .ok (.iload_n 1, 1) := by decide +kernel
theorem dX8_at_1 : decode cX8_at 1 = .ok (.ifCond .lt 20, 3) := by decide +kernel
theorem dX8_at_4 : decode cX8_at 4 = .ok (.iload_n 1, 1) := by decide +kernel
theorem dX8_at_5 : decode cX8_at 5 = .ok (.aload_n 0, 1) := by decide +kernel
theorem dX8_at_6 : decode cX8_at 6 = .ok (.getfield 28, 3) := by decide +kernel
theorem dX8_at_9 : decode cX8_at 9 = .ok (.if_icmp .ge 12, 3) := by decide +kernel
theorem dX8_at_12 : decode cX8_at 12 = .ok (.iload_n 1, 1) := by decide +kernel
theorem dX8_at_13 : decode cX8_at 13 = .ok (.aload_n 0, 1) := by decide +kernel
theorem dX8_at_14 : decode cX8_at 14 = .ok (.getfield 15, 3) := by decide +kernel
theorem dX8_at_17 : decode cX8_at 17 = .ok (.arraylength, 1) := by decide +kernel
theorem dX8_at_18 : decode cX8_at 18 = .ok (.if_icmp .lt 7, 3) := by decide +kernel
theorem dX8_at_21 : decode cX8_at 21 = .ok (.iconst (-1), 1) := by decide +kernel
theorem dX8_at_22 : decode cX8_at 22 = .ok (.goto 9, 3) := by decide +kernel
theorem dX8_at_25 : decode cX8_at 25 = .ok (.aload_n 0, 1) := by decide +kernel
theorem dX8_at_26 : decode cX8_at 26 = .ok (.getfield 15, 3) := by decide +kernel
theorem dX8_at_29 : decode cX8_at 29 = .ok (.iload_n 1, 1) := by decide +kernel
theorem dX8_at_30 : decode cX8_at 30 = .ok (.iaload, 1) := by decide +kernel
theorem dX8_at_31 : decode cX8_at 31 = .ok (.ireturn, 1) := by decide +kernel
set_option maxRecDepth 20000 in
theorem ggX8_listStruck_X6_bit : GoodIn wsX8_listStruck wsX6_bit := goodIn_r _ [7] (by decide +kernel) (by decide +kernel)
set_option maxRecDepth 20000 in
theorem gX8_listStruck_X6_bit_n58 : GoodIn wsX8_listStruck (wsX6_bit) := ggX8_listStruck_X6_bit
theorem dX8_listStruck_0 : decode cX8_listStruck 0 = .ok (.aload_n 0, 1) := by decide +kernel
theorem dX8_listStruck_1 : decode cX8_listStruck 1 = .ok (.iconst 0, 1) := by decide +kernel
theorem dX8_listStruck_2 : decode cX8_listStruck 2 = .ok (.putfield 24, 3) := by decide +kernel
theorem dX8_listStruck_5 : decode cX8_listStruck 5 = .ok (.iconst 0, 1) := by decide +kernel
theorem dX8_listStruck_6 : decode cX8_listStruck 6 = .ok (.istore_n 1, 1) := by decide +kernel
theorem dX8_listStruck_7 : decode cX8_listStruck 7 = .ok (.iload_n 1, 1) := by decide +kernel
theorem dX8_listStruck_8 : decode cX8_listStruck 8 = .ok (.aload_n 0, 1) := by decide +kernel
theorem dX8_listStruck_9 : decode cX8_listStruck 9 = .ok (.getfield 31, 3) := by decide +kernel
theorem dX8_listStruck_12 : decode cX8_listStruck 12 = .ok (.if_icmp .ge 50, 3) := by decide +kernel
theorem dX8_listStruck_15 : decode cX8_listStruck 15 = .ok (.iload_n 1, 1) := by decide +kernel
theorem dX8_listStruck_16 : decode cX8_listStruck 16 = .ok (.aload_n 0, 1) := by decide +kernel
theorem dX8_listStruck_17 : decode cX8_listStruck 17 = .ok (.getfield 21, 3) := by decide +kernel
theorem dX8_listStruck_20 : decode cX8_listStruck 20 = .ok (.arraylength, 1) := by decide +kernel
theorem dX8_listStruck_21 : decode cX8_listStruck 21 = .ok (.if_icmp .ge 41, 3) := by decide +kernel
theorem dX8_listStruck_24 : decode cX8_listStruck 24 = .ok (.aload_n 0, 1) := by decide +kernel
theorem dX8_listStruck_25 : decode cX8_listStruck 25 = .ok (.getfield 34, 3) := by decide +kernel
theorem dX8_listStruck_28 : decode cX8_listStruck 28 = .ok (.iload_n 1, 1) := by decide +kernel
theorem dX8_listStruck_29 : decode cX8_listStruck 29 = .ok (.invokestatic 58, 3) := by decide +kernel
theorem dX8_listStruck_32 : decode cX8_listStruck 32 = .ok (.iconst 1, 1) := by decide +kernel
theorem dX8_listStruck_33 : decode cX8_listStruck 33 = .ok (.if_icmp .ne 23, 3) := by decide +kernel
theorem dX8_listStruck_36 : decode cX8_listStruck 36 = .ok (.aload_n 0, 1) := by decide +kernel
theorem dX8_listStruck_37 : decode cX8_listStruck 37 = .ok (.getfield 21, 3) := by decide +kernel
theorem dX8_listStruck_40 : decode cX8_listStruck 40 = .ok (.aload_n 0, 1) := by decide +kernel
theorem dX8_listStruck_41 : decode cX8_listStruck 41 = .ok (.getfield 24, 3) := by decide +kernel
theorem dX8_listStruck_44 : decode cX8_listStruck 44 = .ok (.iload_n 1, 1) := by decide +kernel
theorem dX8_listStruck_45 : decode cX8_listStruck 45 = .ok (.iastore, 1) := by decide +kernel
theorem dX8_listStruck_46 : decode cX8_listStruck 46 = .ok (.aload_n 0, 1) := by decide +kernel
theorem dX8_listStruck_47 : decode cX8_listStruck 47 = .ok (.dup, 1) := by decide +kernel
theorem dX8_listStruck_48 : decode cX8_listStruck 48 = .ok (.getfield 24, 3) := by decide +kernel
theorem dX8_listStruck_51 : decode cX8_listStruck 51 = .ok (.iconst 1, 1) := by decide +kernel
theorem dX8_listStruck_52 : decode cX8_listStruck 52 = .ok (.iadd, 1) := by decide +kernel
theorem dX8_listStruck_53 : decode cX8_listStruck 53 = .ok (.putfield 24, 3) := by decide +kernel
theorem dX8_listStruck_56 : decode cX8_listStruck 56 = .ok (.iinc 1 1, 3) := by decide +kernel
theorem dX8_listStruck_59 : decode cX8_listStruck 59 = .ok (.goto (-52), 3) := by decide +kernel
theorem dX8_listStruck_62 : decode cX8_listStruck 62 = .ok (.return_, 1) := by decide +kernel
set_option maxRecDepth 20000 in
theorem ggX8_cover_X6_inverted : GoodIn wsX8_cover wsX6_inverted := goodIn_r _ [9, 10, 11, 8, 12] (by decide +kernel) (by decide +kernel)
set_option maxRecDepth 20000 in
theorem gX8_cover_X6_inverted_n61 : GoodIn wsX8_cover (wsX6_inverted) := ggX8_cover_X6_inverted
set_option maxRecDepth 20000 in
theorem ggX8_cover_J6_numberOfTrailingZeros_0f7a4 : GoodIn wsX8_cover wsJ6_numberOfTrailingZeros_0f7a4 := goodIn_r _ [16, 17] (by decide +kernel) (by decide +kernel)
set_option maxRecDepth 20000 in
theorem gX8_cover_J6_numberOfTrailingZeros_0f7a4 : GoodIn wsX8_cover (va_wsS RX8 64 yJ6_numberOfTrailingZeros_0f7a4 wsJ6_numberOfTrailingZeros_0f7a4) := goodIn_app (goodIn_of _ (by decide +kernel)) ggX8_cover_J6_numberOfTrailingZeros_0f7a4
set_option maxRecDepth 20000 in
theorem ggX8_cover_X6_leftOver : GoodIn wsX8_cover wsX6_leftOver := goodIn_r _ [19] (by decide +kernel) (by decide +kernel)
set_option maxRecDepth 20000 in
theorem gX8_cover_X6_leftOver_n43 : GoodIn wsX8_cover (wsX6_leftOver) := ggX8_cover_X6_leftOver
set_option maxRecDepth 20000 in
theorem ggX8_cover_X6_moved : GoodIn wsX8_cover wsX6_moved := goodIn_r _ [21, 22, 18, 8, 19, 10, 11, 12] (by decide +kernel) (by decide +kernel)
set_option maxRecDepth 20000 in
theorem gX8_cover_X6_moved_n67 : GoodIn wsX8_cover (wsX6_moved) := ggX8_cover_X6_moved
set_option maxRecDepth 20000 in
theorem ggX8_cover_X8_cover : GoodIn wsX8_cover wsX8_cover := goodIn_r _ [0, 1, 2, 3, 4, 5, 6, 7, 8, 9, 10, 11, 12, 13, 14, 15, 16, 17, 18, 19, 20, 21, 22, 23, 24, 25, 26, 27, 28, 29, 30, 31] (by decide +kernel) (by decide +kernel)
set_option maxRecDepth 20000 in
theorem gX8_cover_X8_cover : GoodIn wsX8_cover (va_wsS RX8 51 yX8_cover wsX8_cover) := goodIn_app (goodIn_of _ (by decide +kernel)) ggX8_cover_X8_cover
theorem dX8_cover_0 : decode cX8_cover 0 = .ok (.aload_n 0, 1) := by decide +kernel
theorem dX8_cover_1 : decode cX8_cover 1 = .ok (.getfield 28, 3) := by decide +kernel
theorem dX8_cover_4 : decode cX8_cover 4 = .ok (.ifCond .lt 21, 3) := by decide +kernel
theorem dX8_cover_7 : decode cX8_cover 7 = .ok (.aload_n 0, 1) := by decide +kernel
theorem dX8_cover_8 : decode cX8_cover 8 = .ok (.getfield 28, 3) := by decide +kernel
theorem dX8_cover_11 : decode cX8_cover 11 = .ok (.aload_n 0, 1) := by decide +kernel
theorem dX8_cover_12 : decode cX8_cover 12 = .ok (.getfield 15, 3) := by decide +kernel
theorem dX8_cover_15 : decode cX8_cover 15 = .ok (.arraylength, 1) := by decide +kernel
theorem dX8_cover_16 : decode cX8_cover 16 = .ok (.if_icmp .ge 9, 3) := by decide +kernel
theorem dX8_cover_19 : decode cX8_cover 19 = .ok (.iload_n 3, 1) := by decide +kernel
theorem dX8_cover_20 : decode cX8_cover 20 = .ok (.bipush 24, 2) := by decide +kernel
theorem dX8_cover_22 : decode cX8_cover 22 = .ok (.if_icmp .le 4, 3) := by decide +kernel
theorem dX8_cover_25 : decode cX8_cover 25 = .ok (.return_, 1) := by decide +kernel
theorem dX8_cover_26 : decode cX8_cover 26 = .ok (.aload_n 0, 1) := by decide +kernel
theorem dX8_cover_27 : decode cX8_cover 27 = .ok (.getfield 31, 3) := by decide +kernel
theorem dX8_cover_30 : decode cX8_cover 30 = .ok (.iload_n 1, 1) := by decide +kernel
theorem dX8_cover_31 : decode cX8_cover 31 = .ok (.invokestatic 61, 3) := by decide +kernel
theorem dX8_cover_34 : decode cX8_cover 34 = .ok (.istore 4, 2) := by decide +kernel
theorem dX8_cover_36 : decode cX8_cover 36 = .ok (.iload 4, 2) := by decide +kernel
theorem dX8_cover_38 : decode cX8_cover 38 = .ok (.ifCond .ne 24, 3) := by decide +kernel
theorem dX8_cover_41 : decode cX8_cover 41 = .ok (.aload_n 0, 1) := by decide +kernel
theorem dX8_cover_42 : decode cX8_cover 42 = .ok (.getfield 15, 3) := by decide +kernel
theorem dX8_cover_45 : decode cX8_cover 45 = .ok (.aload_n 0, 1) := by decide +kernel
theorem dX8_cover_46 : decode cX8_cover 46 = .ok (.getfield 28, 3) := by decide +kernel
theorem dX8_cover_49 : decode cX8_cover 49 = .ok (.iload_n 2, 1) := by decide +kernel
theorem dX8_cover_50 : decode cX8_cover 50 = .ok (.iastore, 1) := by decide +kernel
theorem dX8_cover_51 : decode cX8_cover 51 = .ok (.aload_n 0, 1) := by decide +kernel
theorem dX8_cover_52 : decode cX8_cover 52 = .ok (.dup, 1) := by decide +kernel
theorem dX8_cover_53 : decode cX8_cover 53 = .ok (.getfield 28, 3) := by decide +kernel
theorem dX8_cover_56 : decode cX8_cover 56 = .ok (.iconst 1, 1) := by decide +kernel
theorem dX8_cover_57 : decode cX8_cover 57 = .ok (.iadd, 1) := by decide +kernel
theorem dX8_cover_58 : decode cX8_cover 58 = .ok (.putfield 28, 3) := by decide +kernel
theorem dX8_cover_61 : decode cX8_cover 61 = .ok (.return_, 1) := by decide +kernel
theorem dX8_cover_62 : decode cX8_cover 62 = .ok (.iload 4, 2) := by decide +kernel
theorem dX8_cover_64 : decode cX8_cover 64 = .ok (.invokestatic 64, 3) := by decide +kernel
theorem dX8_cover_67 : decode cX8_cover 67 = .ok (.istore 5, 2) := by decide +kernel
theorem dX8_cover_69 : decode cX8_cover 69 = .ok (.iconst 0, 1) := by decide +kernel
theorem dX8_cover_70 : decode cX8_cover 70 = .ok (.istore 6, 2) := by decide +kernel
theorem dX8_cover_72 : decode cX8_cover 72 = .ok (.iload 6, 2) := by decide +kernel
theorem dX8_cover_74 : decode cX8_cover 74 = .ok (.aload_n 0, 1) := by decide +kernel
theorem dX8_cover_75 : decode cX8_cover 75 = .ok (.getfield 24, 3) := by decide +kernel
theorem dX8_cover_78 : decode cX8_cover 78 = .ok (.if_icmp .ge 77, 3) := by decide +kernel
theorem dX8_cover_81 : decode cX8_cover 81 = .ok (.iload 6, 2) := by decide +kernel
theorem dX8_cover_83 : decode cX8_cover 83 = .ok (.aload_n 0, 1) := by decide +kernel
theorem dX8_cover_84 : decode cX8_cover 84 = .ok (.getfield 21, 3) := by decide +kernel
theorem dX8_cover_87 : decode cX8_cover 87 = .ok (.arraylength, 1) := by decide +kernel
theorem dX8_cover_88 : decode cX8_cover 88 = .ok (.if_icmp .ge 67, 3) := by decide +kernel
theorem dX8_cover_91 : decode cX8_cover 91 = .ok (.iload 5, 2) := by decide +kernel
theorem dX8_cover_93 : decode cX8_cover 93 = .ok (.aload_n 0, 1) := by decide +kernel
theorem dX8_cover_94 : decode cX8_cover 94 = .ok (.getfield 21, 3) := by decide +kernel
theorem dX8_cover_97 : decode cX8_cover 97 = .ok (.iload 6, 2) := by decide +kernel
theorem dX8_cover_99 : decode cX8_cover 99 = .ok (.iaload, 1) := by decide +kernel
theorem dX8_cover_100 : decode cX8_cover 100 = .ok (.isub, 1) := by decide +kernel
theorem dX8_cover_101 : decode cX8_cover 101 = .ok (.aload_n 0, 1) := by decide +kernel
theorem dX8_cover_102 : decode cX8_cover 102 = .ok (.getfield 31, 3) := by decide +kernel
theorem dX8_cover_105 : decode cX8_cover 105 = .ok (.invokestatic 43, 3) := by decide +kernel
theorem dX8_cover_108 : decode cX8_cover 108 = .ok (.istore 7, 2) := by decide +kernel
theorem dX8_cover_110 : decode cX8_cover 110 = .ok (.aload_n 0, 1) := by decide +kernel
theorem dX8_cover_111 : decode cX8_cover 111 = .ok (.getfield 31, 3) := by decide +kernel
theorem dX8_cover_114 : decode cX8_cover 114 = .ok (.aload_n 0, 1) := by decide +kernel
theorem dX8_cover_115 : decode cX8_cover 115 = .ok (.getfield 34, 3) := by decide +kernel
theorem dX8_cover_118 : decode cX8_cover 118 = .ok (.iload 7, 2) := by decide +kernel
theorem dX8_cover_120 : decode cX8_cover 120 = .ok (.invokestatic 67, 3) := by decide +kernel
theorem dX8_cover_123 : decode cX8_cover 123 = .ok (.istore 8, 2) := by decide +kernel
theorem dX8_cover_125 : decode cX8_cover 125 = .ok (.iload 8, 2) := by decide +kernel
theorem dX8_cover_127 : decode cX8_cover 127 = .ok (.iload_n 1, 1) := by decide +kernel
theorem dX8_cover_128 : decode cX8_cover 128 = .ok (.iand, 1) := by decide +kernel
theorem dX8_cover_129 : decode cX8_cover 129 = .ok (.ifCond .ne 20, 3) := by decide +kernel
theorem dX8_cover_132 : decode cX8_cover 132 = .ok (.aload_n 0, 1) := by decide +kernel
theorem dX8_cover_133 : decode cX8_cover 133 = .ok (.iload_n 1, 1) := by decide +kernel
theorem dX8_cover_134 : decode cX8_cover 134 = .ok (.iload 8, 2) := by decide +kernel
theorem dX8_cover_136 : decode cX8_cover 136 = .ok (.ior, 1) := by decide +kernel
theorem dX8_cover_137 : decode cX8_cover 137 = .ok (.iload_n 2, 1) := by decide +kernel
theorem dX8_cover_138 : decode cX8_cover 138 = .ok (.iconst 1, 1) := by decide +kernel
theorem dX8_cover_139 : decode cX8_cover 139 = .ok (.iload 7, 2) := by decide +kernel
theorem dX8_cover_141 : decode cX8_cover 141 = .ok (.ishl, 1) := by decide +kernel
theorem dX8_cover_142 : decode cX8_cover 142 = .ok (.ior, 1) := by decide +kernel
theorem dX8_cover_143 : decode cX8_cover 143 = .ok (.iload_n 3, 1) := by decide +kernel
theorem dX8_cover_144 : decode cX8_cover 144 = .ok (.iconst 1, 1) := by decide +kernel
theorem dX8_cover_145 : decode cX8_cover 145 = .ok (.iadd, 1) := by decide +kernel
theorem dX8_cover_146 : decode cX8_cover 146 = .ok (.invokestatic 51, 3) := by decide +kernel
theorem dX8_cover_149 : decode cX8_cover 149 = .ok (.iinc 6 1, 3) := by decide +kernel
theorem dX8_cover_152 : decode cX8_cover 152 = .ok (.goto (-80), 3) := by decide +kernel
theorem dX8_cover_155 : decode cX8_cover 155 = .ok (.return_, 1) := by decide +kernel
theorem dX8_sort_0 : decode cX8_sort 0 = .ok (.aload_n 0, 1) := by decide +kernel
theorem dX8_sort_1 : decode cX8_sort 1 = .ok (.getfield 28, 3) := by decide +kernel
theorem dX8_sort_4 : decode cX8_sort 4 = .ok (.iconst 2, 1) := by decide +kernel
theorem dX8_sort_5 : decode cX8_sort 5 = .ok (.idiv, 1) := by decide +kernel
theorem dX8_sort_6 : decode cX8_sort 6 = .ok (.istore_n 1, 1) := by decide +kernel
theorem dX8_sort_7 : decode cX8_sort 7 = .ok (.iload_n 1, 1) := by decide +kernel
theorem dX8_sort_8 : decode cX8_sort 8 = .ok (.ifCond .le 109, 3) := by decide +kernel
theorem dX8_sort_11 : decode cX8_sort 11 = .ok (.iload_n 1, 1) := by decide +kernel
theorem dX8_sort_12 : decode cX8_sort 12 = .ok (.istore_n 2, 1) := by decide +kernel
theorem dX8_sort_13 : decode cX8_sort 13 = .ok (.iload_n 2, 1) := by decide +kernel
theorem dX8_sort_14 : decode cX8_sort 14 = .ok (.aload_n 0, 1) := by decide +kernel
theorem dX8_sort_15 : decode cX8_sort 15 = .ok (.getfield 28, 3) := by decide +kernel
theorem dX8_sort_18 : decode cX8_sort 18 = .ok (.if_icmp .ge 80, 3) := by decide +kernel
theorem dX8_sort_21 : decode cX8_sort 21 = .ok (.iload_n 2, 1) := by decide +kernel
theorem dX8_sort_22 : decode cX8_sort 22 = .ok (.aload_n 0, 1) := by decide +kernel
theorem dX8_sort_23 : decode cX8_sort 23 = .ok (.getfield 15, 3) := by decide +kernel
theorem dX8_sort_26 : decode cX8_sort 26 = .ok (.arraylength, 1) := by decide +kernel
theorem dX8_sort_27 : decode cX8_sort 27 = .ok (.if_icmp .ge 71, 3) := by decide +kernel
theorem dX8_sort_30 : decode cX8_sort 30 = .ok (.aload_n 0, 1) := by decide +kernel
theorem dX8_sort_31 : decode cX8_sort 31 = .ok (.getfield 15, 3) := by decide +kernel
theorem dX8_sort_34 : decode cX8_sort 34 = .ok (.iload_n 2, 1) := by decide +kernel
theorem dX8_sort_35 : decode cX8_sort 35 = .ok (.iaload, 1) := by decide +kernel
theorem dX8_sort_36 : decode cX8_sort 36 = .ok (.istore_n 3, 1) := by decide +kernel
theorem dX8_sort_37 : decode cX8_sort 37 = .ok (.iload_n 2, 1) := by decide +kernel
theorem dX8_sort_38 : decode cX8_sort 38 = .ok (.istore 4, 2) := by decide +kernel
theorem dX8_sort_40 : decode cX8_sort 40 = .ok (.iload 4, 2) := by decide +kernel
theorem dX8_sort_42 : decode cX8_sort 42 = .ok (.iload_n 1, 1) := by decide +kernel
theorem dX8_sort_43 : decode cX8_sort 43 = .ok (.if_icmp .lt 41, 3) := by decide +kernel
theorem dX8_sort_46 : decode cX8_sort 46 = .ok (.aload_n 0, 1) := by decide +kernel
theorem dX8_sort_47 : decode cX8_sort 47 = .ok (.getfield 15, 3) := by decide +kernel
theorem dX8_sort_50 : decode cX8_sort 50 = .ok (.iload 4, 2) := by decide +kernel
theorem dX8_sort_52 : decode cX8_sort 52 = .ok (.iload_n 1, 1) := by decide +kernel
theorem dX8_sort_53 : decode cX8_sort 53 = .ok (.isub, 1) := by decide +kernel
theorem dX8_sort_54 : decode cX8_sort 54 = .ok (.iaload, 1) := by decide +kernel
theorem dX8_sort_55 : decode cX8_sort 55 = .ok (.iload_n 3, 1) := by decide +kernel
theorem dX8_sort_56 : decode cX8_sort 56 = .ok (.if_icmp .le 28, 3) := by decide +kernel
theorem dX8_sort_59 : decode cX8_sort 59 = .ok (.aload_n 0, 1) := by decide +kernel
theorem dX8_sort_60 : decode cX8_sort 60 = .ok (.getfield 15, 3) := by decide +kernel
theorem dX8_sort_63 : decode cX8_sort 63 = .ok (.iload 4, 2) := by decide +kernel
theorem dX8_sort_65 : decode cX8_sort 65 = .ok (.aload_n 0, 1) := by decide +kernel
theorem dX8_sort_66 : decode cX8_sort 66 = .ok (.getfield 15, 3) := by decide +kernel
theorem dX8_sort_69 : decode cX8_sort 69 = .ok (.iload 4, 2) := by decide +kernel
theorem dX8_sort_71 : decode cX8_sort 71 = .ok (.iload_n 1, 1) := by decide +kernel
theorem dX8_sort_72 : decode cX8_sort 72 = .ok (.isub, 1) := by decide +kernel
theorem dX8_sort_73 : decode cX8_sort 73 = .ok (.iaload, 1) := by decide +kernel
theorem dX8_sort_74 : decode cX8_sort 74 = .ok (.iastore, 1) := by decide +kernel
theorem dX8_sort_75 : decode cX8_sort 75 = .ok (.iload 4, 2) := by decide +kernel
theorem dX8_sort_77 : decode cX8_sort 77 = .ok (.iload_n 1, 1) := by decide +kernel
theorem dX8_sort_78 : decode cX8_sort 78 = .ok (.isub, 1) := by decide +kernel
theorem dX8_sort_79 : decode cX8_sort 79 = .ok (.istore 4, 2) := by decide +kernel
theorem dX8_sort_81 : decode cX8_sort 81 = .ok (.goto (-41), 3) := by decide +kernel
theorem dX8_sort_84 : decode cX8_sort 84 = .ok (.aload_n 0, 1) := by decide +kernel
theorem dX8_sort_85 : decode cX8_sort 85 = .ok (.getfield 15, 3) := by decide +kernel
theorem dX8_sort_88 : decode cX8_sort 88 = .ok (.iload 4, 2) := by decide +kernel
theorem dX8_sort_90 : decode cX8_sort 90 = .ok (.iload_n 3, 1) := by decide +kernel
theorem dX8_sort_91 : decode cX8_sort 91 = .ok (.iastore, 1) := by decide +kernel
theorem dX8_sort_92 : decode cX8_sort 92 = .ok (.iinc 2 1, 3) := by decide +kernel
theorem dX8_sort_95 : decode cX8_sort 95 = .ok (.goto (-82), 3) := by decide +kernel
theorem dX8_sort_98 : decode cX8_sort 98 = .ok (.iload_n 1, 1) := by decide +kernel
theorem dX8_sort_99 : decode cX8_sort 99 = .ok (.iconst 2, 1) := by decide +kernel
theorem dX8_sort_100 : decode cX8_sort 100 = .ok (.if_icmp .ne 7, 3) := by decide +kernel
theorem dX8_sort_103 : decode cX8_sort 103 = .ok (.iconst 1, 1) := by decide +kernel
theorem dX8_sort_104 : decode cX8_sort 104 = .ok (.goto 9, 3) := by decide +kernel
theorem dX8_sort_107 : decode cX8_sort 107 = .ok (.iload_n 1, 1) := by decide +kernel
theorem dX8_sort_108 : decode cX8_sort 108 = .ok (.iconst 5, 1) := by decide +kernel
theorem dX8_sort_109 : decode cX8_sort 109 = .ok (.imul, 1) := by decide +kernel
theorem dX8_sort_110 : decode cX8_sort 110 = .ok (.bipush 11, 2) := by decide +kernel
theorem dX8_sort_112 : decode cX8_sort 112 = .ok (.idiv, 1) := by decide +kernel
theorem dX8_sort_113 : decode cX8_sort 113 = .ok (.istore_n 1, 1) := by decide +kernel
theorem dX8_sort_114 : decode cX8_sort 114 = .ok (.goto (-107), 3) := by decide +kernel
theorem dX8_sort_117 : decode cX8_sort 117 = .ok (.return_, 1) := by decide +kernel
set_option maxRecDepth 20000 in
theorem ggX9_init_X7_init : GoodIn wsX9_init wsX7_init := goodIn_r _ [33, 34, 2, 3, 35, 36, 37, 38, 39, 6, 40, 41, 91, 92, 93, 94, 95, 96] (by decide +kernel) (by decide +kernel)
set_option maxRecDepth 20000 in
theorem gX9_init_X7_init_n9 : GoodIn wsX9_init (wsX7_init) := ggX9_init_X7_init
set_option maxRecDepth 20000 in
theorem ggX9_init_X5_init : GoodIn wsX9_init wsX5_init := goodIn_r _ [43, 44, 2, 3, 35, 45, 46, 47, 48, 49, 10, 50, 51, 52, 107, 108, 109, 110] (by decide +kernel) (by decide +kernel)
set_option maxRecDepth 20000 in
theorem gX9_init_X5_init_n18 : GoodIn wsX9_init (wsX5_init) := ggX9_init_X5_init
set_option maxRecDepth 20000 in
theorem ggX9_init_X1_init : GoodIn wsX9_init wsX1_init := goodIn_r _ [54, 55, 2, 3, 35, 56, 57, 58, 59, 60, 61, 14, 62, 63, 111, 112, 113] (by decide +kernel) (by decide +kernel)
set_option maxRecDepth 20000 in
theorem gX9_init_X1_init_n25 : GoodIn wsX9_init (wsX1_init) := ggX9_init_X1_init
set_option maxRecDepth 20000 in
theorem ggX9_init_X8_init : GoodIn wsX9_init wsX8_init := goodIn_r _ [65, 66, 2, 3, 67, 68, 69, 70, 35, 71, 72, 73, 74, 75, 76, 114, 115, 116, 117, 118, 119] (by decide +kernel) (by decide +kernel)
set_option maxRecDepth 20000 in
theorem gX9_init_X8_init_n32 : GoodIn wsX9_init (wsX8_init) := ggX9_init_X8_init
set_option maxRecDepth 20000 in
theorem ggX9_init_X3_init : GoodIn wsX9_init wsX3_init := goodIn_r _ [78, 79, 2, 3, 80, 17, 18, 81, 82, 83, 84, 64, 65, 66, 67, 68, 69, 70, 35, 71, 72, 73, 74, 75, 76, 114, 115, 116, 117, 118, 119, 120, 121, 122, 123] (by decide +kernel) (by decide +kernel)
set_option maxRecDepth 20000 in
theorem gX9_init_X3_init_n41 : GoodIn wsX9_init (wsX3_init) := ggX9_init_X3_init
set_option maxRecDepth 20000 in
theorem ggX9_init_X2_init : GoodIn wsX9_init wsX2_init := goodIn_r _ [86, 87, 2, 3, 35, 88, 89, 90, 124, 125, 126] (by decide +kernel) (by decide +kernel)
set_option maxRecDepth 20000 in
theorem gX9_init_X2_init_n48 : GoodIn wsX9_init (wsX2_init) := ggX9_init_X2_init
theorem dX9_init_0 : decode cX9_init 0 = .ok (.aload_n 0, 1) := by decide +kernel
theorem dX9_init_1 : decode cX9_init 1 = .ok (.invokespecial 1, 3) := by decide +kernel
theorem dX9_init_4 : decode cX9_init 4 = .ok (.aload_n 0, 1) := by decide +kernel
theorem dX9_init_5 : decode cX9_init 5 = .ok (.new 7, 3) := by decide +kernel
theorem dX9_init_8 : decode cX9_init 8 = .ok (.dup, 1) := by decide +kernel
theorem dX9_init_9 : decode cX9_init 9 = .ok (.invokespecial 9, 3) := by decide +kernel
theorem dX9_init_12 : decode cX9_init 12 = .ok (.putfield 10, 3) := by decide +kernel
theorem dX9_init_15 : decode cX9_init 15 = .ok (.aload_n 0, 1) := by decide +kernel
theorem dX9_init_16 : decode cX9_init 16 = .ok (.new 16, 3) := by decide +kernel
theorem dX9_init_19 : decode cX9_init 19 = .ok (.dup, 1) := by decide +kernel
theorem dX9_init_20 : decode cX9_init 20 = .ok (.invokespecial 18, 3) := by decide +kernel
theorem dX9_init_23 : decode cX9_init 23 = .ok (.putfield 19, 3) := by decide +kernel
theorem dX9_init_26 : decode cX9_init 26 = .ok (.aload_n 0, 1) := by decide +kernel
theorem dX9_init_27 : decode cX9_init 27 = .ok (.new 23, 3) := by decide +kernel
theorem dX9_init_30 : decode cX9_init 30 = .ok (.dup, 1) := by decide +kernel
theorem dX9_init_31 : decode cX9_init 31 = .ok (.invokespecial 25, 3) := by decide +kernel
theorem dX9_init_34 : decode cX9_init 34 = .ok (.putfield 26, 3) := by decide +kernel
theorem dX9_init_37 : decode cX9_init 37 = .ok (.aload_n 0, 1) := by decide +kernel
theorem dX9_init_38 : decode cX9_init 38 = .ok (.new 30, 3) := by decide +kernel
theorem dX9_init_41 : decode cX9_init 41 = .ok (.dup, 1) := by decide +kernel
theorem dX9_init_42 : decode cX9_init 42 = .ok (.sipush 2187, 3) := by decide +kernel
theorem dX9_init_45 : decode cX9_init 45 = .ok (.invokespecial 32, 3) := by decide +kernel
theorem dX9_init_48 : decode cX9_init 48 = .ok (.putfield 35, 3) := by decide +kernel
theorem dX9_init_51 : decode cX9_init 51 = .ok (.aload_n 0, 1) := by decide +kernel
theorem dX9_init_52 : decode cX9_init 52 = .ok (.new 39, 3) := by decide +kernel
theorem dX9_init_55 : decode cX9_init 55 = .ok (.dup, 1) := by decide +kernel
theorem dX9_init_56 : decode cX9_init 56 = .ok (.invokespecial 41, 3) := by decide +kernel
theorem dX9_init_59 : decode cX9_init 59 = .ok (.putfield 42, 3) := by decide +kernel
theorem dX9_init_62 : decode cX9_init 62 = .ok (.aload_n 0, 1) := by decide +kernel
theorem dX9_init_63 : decode cX9_init 63 = .ok (.new 46, 3) := by decide +kernel
theorem dX9_init_66 : decode cX9_init 66 = .ok (.dup, 1) := by decide +kernel
theorem dX9_init_67 : decode cX9_init 67 = .ok (.invokespecial 48, 3) := by decide +kernel
theorem dX9_init_70 : decode cX9_init 70 = .ok (.putfield 49, 3) := by decide +kernel
theorem dX9_init_73 : decode cX9_init 73 = .ok (.aload_n 0, 1) := by decide +kernel
theorem dX9_init_74 : decode cX9_init 74 = .ok (.bipush 16, 2) := by decide +kernel
theorem dX9_init_76 : decode cX9_init 76 = .ok (.putfield 53, 3) := by decide +kernel
theorem dX9_init_79 : decode cX9_init 79 = .ok (.aload_n 0, 1) := by decide +kernel
theorem dX9_init_80 : decode cX9_init 80 = .ok (.iconst 0, 1) := by decide +kernel
theorem dX9_init_81 : decode cX9_init 81 = .ok (.putfield 57, 3) := by decide +kernel
theorem dX9_init_84 : decode cX9_init 84 = .ok (.aload_n 0, 1) := by decide +kernel
theorem dX9_init_85 : decode cX9_init 85 = .ok (.iconst 0, 1) := by decide +kernel
theorem dX9_init_86 : decode cX9_init 86 = .ok (.putfield 60, 3) := by decide +kernel
theorem dX9_init_89 : decode cX9_init 89 = .ok (.aload_n 0, 1) := by decide +kernel
theorem dX9_init_90 : decode cX9_init 90 = .ok (.iconst (-1), 1) := by decide +kernel
theorem dX9_init_91 : decode cX9_init 91 = .ok (.putfield 63, 3) := by decide +kernel
theorem dX9_init_94 : decode cX9_init 94 = .ok (.return_, 1) := by decide +kernel
set_option maxRecDepth 20000 in
theorem ggX9_feed_X7_append : GoodIn wsX9_feed wsX7_append := goodIn_r _ [6, 7, 8, 9, 20, 21, 22, 23, 24, 25] (by decide +kernel) (by decide +kernel)
set_option maxRecDepth 20000 in
theorem gX9_feed_X7_append_n67 : GoodIn wsX9_feed (wsX7_append) := ggX9_feed_X7_append
theorem dX9_feed_0 : decode cX9_feed 0 = .ok (.iload_n 1, 1) := by decide +kernel
theorem dX9_feed_1 : decode cX9_feed 1 = .ok (.ifCond .lt 10, 3) := by decide +kernel
theorem dX9_feed_4 : decode cX9_feed 4 = .ok (.iload_n 1, 1) := by decide +kernel
theorem dX9_feed_5 : decode cX9_feed 5 = .ok (.sipush 255, 3) := by decide +kernel
theorem dX9_feed_8 : decode cX9_feed 8 = .ok (.if_icmp .le 6, 3) := by decide +kernel
theorem dX9_feed_11 : decode cX9_feed 11 = .ok (.ldc 66, 2) := by decide +kernel
theorem dX9_feed_13 : decode cX9_feed 13 = .ok (.ireturn, 1) := by decide +kernel
theorem dX9_feed_14 : decode cX9_feed 14 = .ok (.aload_n 0, 1) := by decide +kernel
theorem dX9_feed_15 : decode cX9_feed 15 = .ok (.getfield 10, 3) := by decide +kernel
theorem dX9_feed_18 : decode cX9_feed 18 = .ok (.iload_n 1, 1) := by decide +kernel
theorem dX9_feed_19 : decode cX9_feed 19 = .ok (.invokevirtual 67, 3) := by decide +kernel
theorem dX9_feed_22 : decode cX9_feed 22 = .ok (.ireturn, 1) := by decide +kernel
set_option maxRecDepth 20000 in
theorem ggX9_tell_X7_read : GoodIn wsX9_tell wsX7_read := goodIn_r _ [8, 9, 10, 11, 12, 13, 14, 15, 16, 17, 18, 19, 20, 6, 21, 22, 23, 24, 25, 26, 27, 28, 29, 30, 31, 32, 33, 34, 35, 36, 37, 80, 81, 82, 83, 84, 85] (by decide +kernel) (by decide +kernel)
set_option maxRecDepth 20000 in
theorem gX9_tell_X7_read_n71 : GoodIn wsX9_tell (wsX7_read) := ggX9_tell_X7_read
set_option maxRecDepth 20000 in
theorem ggX9_tell_X7_clear : GoodIn wsX9_tell wsX7_clear := goodIn_r _ [40, 12, 80, 81, 82, 83, 84, 85] (by decide +kernel) (by decide +kernel)
set_option maxRecDepth 20000 in
theorem gX9_tell_X7_clear_n75 : GoodIn wsX9_tell (wsX7_clear) := ggX9_tell_X7_clear
set_option maxRecDepth 20000 in
theorem ggX9_tell_X9_change : GoodIn wsX9_tell wsX9_change := goodIn_r _ [45, 46, 4, 47, 48, 49, 50, 51, 52, 53, 54, 55, 56, 57, 15, 58, 59, 60, 61, 62, 63, 36, 64, 70, 71, 72, 73, 74, 75, 76, 77, 78, 79, 86, 87, 88, 89] (by decide +kernel) (by decide +kernel)
set_option maxRecDepth 20000 in
theorem gX9_tell_X9_change : GoodIn wsX9_tell (wsV RX9 83 RX9 yX9_change wsX9_change) := goodIn_app (goodIn_of _ (by decide +kernel)) ggX9_tell_X9_change
set_option maxRecDepth 20000 in
theorem ggX9_tell_X1_clear : GoodIn wsX9_tell wsX1_clear := goodIn_r _ [68, 69, 90, 91, 92] (by decide +kernel) (by decide +kernel)
set_option maxRecDepth 20000 in
theorem gX9_tell_X1_clear_n87 : GoodIn wsX9_tell (wsX1_clear) := ggX9_tell_X1_clear
theorem dX9_tell_0 : decode cX9_tell 0 = .ok (.aload_n 0, 1) := by decide +kernel
theorem dX9_tell_1 : decode cX9_tell 1 = .ok (.getfield 10, 3) := by decide +kernel
theorem dX9_tell_4 : decode cX9_tell 4 = .ok (.invokevirtual 71, 3) := by decide +kernel
theorem dX9_tell_7 : decode cX9_tell 7 = .ok (.istore_n 1, 1) := by decide +kernel
theorem dX9_tell_8 : decode cX9_tell 8 = .ok (.aload_n 0, 1) := by decide +kernel
theorem dX9_tell_9 : decode cX9_tell 9 = .ok (.getfield 10, 3) := by decide +kernel
theorem dX9_tell_12 : decode cX9_tell 12 = .ok (.invokevirtual 75, 3) := by decide +kernel
theorem dX9_tell_15 : decode cX9_tell 15 = .ok (.iload_n 1, 1) := by decide +kernel
theorem dX9_tell_16 : decode cX9_tell 16 = .ok (.ifCond .eq 19, 3) := by decide +kernel
theorem dX9_tell_19 : decode cX9_tell 19 = .ok (.aload_n 0, 1) := by decide +kernel
theorem dX9_tell_20 : decode cX9_tell 20 = .ok (.aload_n 0, 1) := by decide +kernel
theorem dX9_tell_21 : decode cX9_tell 21 = .ok (.getfield 10, 3) := by decide +kernel
theorem dX9_tell_24 : decode cX9_tell 24 = .ok (.getfield 78, 3) := by decide +kernel
theorem dX9_tell_27 : decode cX9_tell 27 = .ok (.putfield 63, 3) := by decide +kernel
theorem dX9_tell_30 : decode cX9_tell 30 = .ok (.bipush (-10), 2) := by decide +kernel
theorem dX9_tell_32 : decode cX9_tell 32 = .ok (.iload_n 1, 1) := by decide +kernel
theorem dX9_tell_33 : decode cX9_tell 33 = .ok (.isub, 1) := by decide +kernel
theorem dX9_tell_34 : decode cX9_tell 34 = .ok (.ireturn, 1) := by decide +kernel
theorem dX9_tell_35 : decode cX9_tell 35 = .ok (.aload_n 0, 1) := by decide +kernel
theorem dX9_tell_36 : decode cX9_tell 36 = .ok (.iconst (-1), 1) := by decide +kernel
theorem dX9_tell_37 : decode cX9_tell 37 = .ok (.putfield 63, 3) := by decide +kernel
theorem dX9_tell_40 : decode cX9_tell 40 = .ok (.aload_n 0, 1) := by decide +kernel
theorem dX9_tell_41 : decode cX9_tell 41 = .ok (.aload_n 0, 1) := by decide +kernel
theorem dX9_tell_42 : decode cX9_tell 42 = .ok (.getfield 10, 3) := by decide +kernel
theorem dX9_tell_45 : decode cX9_tell 45 = .ok (.getfield 79, 3) := by decide +kernel
theorem dX9_tell_48 : decode cX9_tell 48 = .ok (.aload_n 0, 1) := by decide +kernel
theorem dX9_tell_49 : decode cX9_tell 49 = .ok (.getfield 10, 3) := by decide +kernel
theorem dX9_tell_52 : decode cX9_tell 52 = .ok (.getfield 80, 3) := by decide +kernel
theorem dX9_tell_55 : decode cX9_tell 55 = .ok (.invokevirtual 83, 3) := by decide +kernel
theorem dX9_tell_58 : decode cX9_tell 58 = .ok (.pop, 1) := by decide +kernel
theorem dX9_tell_59 : decode cX9_tell 59 = .ok (.aload_n 0, 1) := by decide +kernel
theorem dX9_tell_60 : decode cX9_tell 60 = .ok (.getfield 26, 3) := by decide +kernel
theorem dX9_tell_63 : decode cX9_tell 63 = .ok (.invokevirtual 87, 3) := by decide +kernel
theorem dX9_tell_66 : decode cX9_tell 66 = .ok (.aload_n 0, 1) := by decide +kernel
theorem dX9_tell_67 : decode cX9_tell 67 = .ok (.getfield 53, 3) := by decide +kernel
theorem dX9_tell_70 : decode cX9_tell 70 = .ok (.ireturn, 1) := by decide +kernel
theorem dX9_fault_0 : decode cX9_fault 0 = .ok (.aload_n 0, 1) := by decide +kernel
theorem dX9_fault_1 : decode cX9_fault 1 = .ok (.getfield 63, 3) := by decide +kernel
theorem dX9_fault_4 : decode cX9_fault 4 = .ok (.ireturn, 1) := by decide +kernel
set_option maxRecDepth 20000 in
theorem ggX9_told_J6_bitCount_0f7a4 : GoodIn wsX9_told wsJ6_bitCount_0f7a4 := goodIn_r _ [12, 13, 14, 15] (by decide +kernel) (by decide +kernel)
set_option maxRecDepth 20000 in
theorem gX9_told_J6_bitCount_0f7a4 : GoodIn wsX9_told (va_wsS RX9 88 yJ6_bitCount_0f7a4 wsJ6_bitCount_0f7a4) := goodIn_app (goodIn_of _ (by decide +kernel)) ggX9_told_J6_bitCount_0f7a4
set_option maxRecDepth 20000 in
theorem ggX9_told_X8_of : GoodIn wsX9_told wsX8_of := goodIn_r _ [19, 20, 21, 22, 23, 10, 11, 12, 13, 14, 15, 24, 25, 26, 27, 28, 29, 17, 30, 31, 32, 33, 34, 35, 36, 37, 38, 39, 40, 41, 42, 43, 44, 45, 46, 47, 48, 49, 50, 51, 52, 53, 54, 149, 150, 151, 152, 153, 154] (by decide +kernel) (by decide +kernel)
set_option maxRecDepth 20000 in
theorem gX9_told_X8_of_n93 : GoodIn wsX9_told (wsX8_of) := ggX9_told_X8_of
set_option maxRecDepth 20000 in
theorem ggX9_told_X6_period : GoodIn wsX9_told wsX6_period := goodIn_r _ [56, 57, 48, 25, 49, 50, 24, 26, 41, 42, 43] (by decide +kernel) (by decide +kernel)
set_option maxRecDepth 20000 in
theorem gX9_told_X6_period_n96 : GoodIn wsX9_told (wsX6_period) := ggX9_told_X6_period
set_option maxRecDepth 20000 in
theorem ggX9_told_X4_value : GoodIn wsX9_told wsX4_value := goodIn_r _ [60, 33, 25, 34] (by decide +kernel) (by decide +kernel)
set_option maxRecDepth 20000 in
theorem gX9_told_X4_value_n101 : GoodIn wsX9_told (wsX4_value) := ggX9_told_X4_value
set_option maxRecDepth 20000 in
theorem ggX9_told_X4_least : GoodIn wsX9_told wsX4_least := goodIn_r _ [62, 63, 58, 59, 60, 33, 25, 34, 64, 65, 66, 67, 68, 69, 48, 49, 50, 24, 26, 41, 42, 43] (by decide +kernel) (by decide +kernel)
set_option maxRecDepth 20000 in
theorem gX9_told_X4_least_n106 : GoodIn wsX9_told (wsX4_least) := ggX9_told_X4_least
set_option maxRecDepth 20000 in
theorem ggX9_told_X4_leastTurn : GoodIn wsX9_told wsX4_leastTurn := goodIn_r _ [66, 63, 58, 59, 60, 33, 25, 34, 67, 68, 69, 48, 49, 50, 24, 26, 41, 42, 43] (by decide +kernel) (by decide +kernel)
set_option maxRecDepth 20000 in
theorem gX9_told_X4_leastTurn_n109 : GoodIn wsX9_told (wsX4_leastTurn) := ggX9_told_X4_leastTurn
set_option maxRecDepth 20000 in
theorem ggX9_told_X9_laterNecklace : GoodIn wsX9_told wsX9_laterNecklace := goodIn_r _ [74, 1, 2, 75, 76, 77, 73, 78, 9, 10, 11, 12, 13, 14, 15, 79, 25, 80, 50, 24, 26, 61, 59, 62, 63, 58, 60, 33, 34, 64, 65, 66, 67, 68, 69, 48, 49, 41, 42, 43, 81, 82, 83, 84, 85, 86, 126, 127, 128, 129, 130, 131, 132, 133, 134, 135] (by decide +kernel) (by decide +kernel)
set_option maxRecDepth 20000 in
theorem gX9_told_X9_laterNecklace : GoodIn wsX9_told (wsV RX9 112 RX9 yX9_laterNecklace wsX9_laterNecklace) := goodIn_app (goodIn_of _ (by decide +kernel)) ggX9_told_X9_laterNecklace
set_option maxRecDepth 20000 in
theorem ggX9_told_X6_leastGap : GoodIn wsX9_told wsX6_leastGap := goodIn_r _ [88, 89, 90, 91, 92, 93, 94, 25, 95, 96, 10, 11, 12, 13, 14, 15, 97, 98, 99, 100, 33, 34] (by decide +kernel) (by decide +kernel)
set_option maxRecDepth 20000 in
theorem gX9_told_X6_leastGap_n115 : GoodIn wsX9_told (wsX6_leastGap) := ggX9_told_X6_leastGap
set_option maxRecDepth 20000 in
theorem ggX9_told_X6_greatestGap : GoodIn wsX9_told wsX6_greatestGap := goodIn_r _ [102, 103, 104, 91, 105, 93, 94, 25, 95, 96, 10, 11, 12, 13, 14, 15, 97, 98, 99, 100, 33, 34] (by decide +kernel) (by decide +kernel)
set_option maxRecDepth 20000 in
theorem gX9_told_X6_greatestGap_n118 : GoodIn wsX9_told (wsX6_greatestGap) := ggX9_told_X6_greatestGap
set_option maxRecDepth 20000 in
theorem ggX9_told_X9_isMostEven : GoodIn wsX9_told wsX9_isMostEven := goodIn_r _ [78, 1, 2, 9, 10, 11, 12, 13, 14, 15, 79, 25, 80, 50, 24, 26, 61, 59, 62, 63, 58, 60, 33, 34, 64, 65, 66, 67, 68, 69, 48, 49, 41, 42, 43, 126, 127, 128, 129, 130, 131, 132, 133, 134, 135] (by decide +kernel) (by decide +kernel)
set_option maxRecDepth 20000 in
theorem gX9_told_X9_isMostEven : GoodIn wsX9_told (wsV RX9 121 RX9 yX9_isMostEven wsX9_isMostEven) := goodIn_app (goodIn_of _ (by decide +kernel)) ggX9_told_X9_isMostEven
set_option maxRecDepth 20000 in
theorem ggX9_told_X3_of : GoodIn wsX9_told wsX3_of := goodIn_r _ [109, 110, 111, 112, 113, 114, 115, 107, 116, 117, 42, 25, 43, 16, 17, 18, 19, 20, 21, 22, 23, 10, 11, 12, 13, 14, 15, 24, 26, 27, 28, 29, 30, 31, 32, 33, 34, 35, 36, 37, 38, 39, 40, 41, 44, 45, 46, 47, 48, 49, 50, 51, 52, 53, 54, 118, 119, 120, 121, 122, 155, 156, 157, 158, 149, 150, 151, 152, 153, 154] (by decide +kernel) (by decide +kernel)
set_option maxRecDepth 20000 in
theorem gX9_told_X3_of_n125 : GoodIn wsX9_told (wsX3_of) := ggX9_told_X3_of
set_option maxRecDepth 20000 in
theorem ggX9_told_X3_sizeOf : GoodIn wsX9_told wsX3_sizeOf := goodIn_r _ [124, 125, 10, 11, 12, 13, 14, 15] (by decide +kernel) (by decide +kernel)
set_option maxRecDepth 20000 in
theorem gX9_told_X3_sizeOf_n126 : GoodIn wsX9_told (wsX3_sizeOf) := ggX9_told_X3_sizeOf
theorem dX9_told_0 : decode cX9_told 0 = .ok (.iload_n 1, 1) := by decide +kernel
theorem dX9_told_1 : decode cX9_told 1 = .ok (.tableswitch 266 0 16 #[83, 88, 96, 101, 117, 129, 141, 153, 165, 170, 182, 194, 207, 226, 242, 250, 258], 83) := by decide +kernel
theorem dX9_told_84 : decode cX9_told 84 = .ok (.aload_n 0, 1) := by decide +kernel
theorem dX9_told_85 : decode cX9_told 85 = .ok (.getfield 53, 3) := by decide +kernel
theorem dX9_told_88 : decode cX9_told 88 = .ok (.ireturn, 1) := by decide +kernel
theorem dX9_told_89 : decode cX9_told 89 = .ok (.aload_n 0, 1) := by decide +kernel
theorem dX9_told_90 : decode cX9_told 90 = .ok (.getfield 57, 3) := by decide +kernel
theorem dX9_told_93 : decode cX9_told 93 = .ok (.invokestatic 88, 3) := by decide +kernel
theorem dX9_told_96 : decode cX9_told 96 = .ok (.ireturn, 1) := by decide +kernel
theorem dX9_told_97 : decode cX9_told 97 = .ok (.aload_n 0, 1) := by decide +kernel
theorem dX9_told_98 : decode cX9_told 98 = .ok (.getfield 57, 3) := by decide +kernel
theorem dX9_told_101 : decode cX9_told 101 = .ok (.ireturn, 1) := by decide +kernel
theorem dX9_told_102 : decode cX9_told 102 = .ok (.aload_n 0, 1) := by decide +kernel
theorem dX9_told_103 : decode cX9_told 103 = .ok (.getfield 35, 3) := by decide +kernel
theorem dX9_told_106 : decode cX9_told 106 = .ok (.aload_n 0, 1) := by decide +kernel
theorem dX9_told_107 : decode cX9_told 107 = .ok (.getfield 53, 3) := by decide +kernel
theorem dX9_told_110 : decode cX9_told 110 = .ok (.aload_n 0, 1) := by decide +kernel
theorem dX9_told_111 : decode cX9_told 111 = .ok (.getfield 57, 3) := by decide +kernel
theorem dX9_told_114 : decode cX9_told 114 = .ok (.invokevirtual 93, 3) := by decide +kernel
theorem dX9_told_117 : decode cX9_told 117 = .ok (.ireturn, 1) := by decide +kernel
theorem dX9_told_118 : decode cX9_told 118 = .ok (.aload_n 0, 1) := by decide +kernel
theorem dX9_told_119 : decode cX9_told 119 = .ok (.getfield 53, 3) := by decide +kernel
theorem dX9_told_122 : decode cX9_told 122 = .ok (.aload_n 0, 1) := by decide +kernel
theorem dX9_told_123 : decode cX9_told 123 = .ok (.getfield 57, 3) := by decide +kernel
theorem dX9_told_126 : decode cX9_told 126 = .ok (.invokestatic 96, 3) := by decide +kernel
theorem dX9_told_129 : decode cX9_told 129 = .ok (.ireturn, 1) := by decide +kernel
theorem dX9_told_130 : decode cX9_told 130 = .ok (.aload_n 0, 1) := by decide +kernel
theorem dX9_told_131 : decode cX9_told 131 = .ok (.getfield 53, 3) := by decide +kernel
theorem dX9_told_134 : decode cX9_told 134 = .ok (.aload_n 0, 1) := by decide +kernel
theorem dX9_told_135 : decode cX9_told 135 = .ok (.getfield 57, 3) := by decide +kernel
theorem dX9_told_138 : decode cX9_told 138 = .ok (.invokestatic 101, 3) := by decide +kernel
theorem dX9_told_141 : decode cX9_told 141 = .ok (.ireturn, 1) := by decide +kernel
theorem dX9_told_142 : decode cX9_told 142 = .ok (.aload_n 0, 1) := by decide +kernel
theorem dX9_told_143 : decode cX9_told 143 = .ok (.getfield 53, 3) := by decide +kernel
theorem dX9_told_146 : decode cX9_told 146 = .ok (.aload_n 0, 1) := by decide +kernel
theorem dX9_told_147 : decode cX9_told 147 = .ok (.getfield 57, 3) := by decide +kernel
theorem dX9_told_150 : decode cX9_told 150 = .ok (.invokestatic 106, 3) := by decide +kernel
theorem dX9_told_153 : decode cX9_told 153 = .ok (.ireturn, 1) := by decide +kernel
theorem dX9_told_154 : decode cX9_told 154 = .ok (.aload_n 0, 1) := by decide +kernel
theorem dX9_told_155 : decode cX9_told 155 = .ok (.getfield 53, 3) := by decide +kernel
theorem dX9_told_158 : decode cX9_told 158 = .ok (.aload_n 0, 1) := by decide +kernel
theorem dX9_told_159 : decode cX9_told 159 = .ok (.getfield 57, 3) := by decide +kernel
theorem dX9_told_162 : decode cX9_told 162 = .ok (.invokestatic 109, 3) := by decide +kernel
theorem dX9_told_165 : decode cX9_told 165 = .ok (.ireturn, 1) := by decide +kernel
theorem dX9_told_166 : decode cX9_told 166 = .ok (.aload_n 0, 1) := by decide +kernel
theorem dX9_told_167 : decode cX9_told 167 = .ok (.invokevirtual 112, 3) := by decide +kernel
theorem dX9_told_170 : decode cX9_told 170 = .ok (.ireturn, 1) := by decide +kernel
theorem dX9_told_171 : decode cX9_told 171 = .ok (.aload_n 0, 1) := by decide +kernel
theorem dX9_told_172 : decode cX9_told 172 = .ok (.getfield 53, 3) := by decide +kernel
theorem dX9_told_175 : decode cX9_told 175 = .ok (.aload_n 0, 1) := by decide +kernel
theorem dX9_told_176 : decode cX9_told 176 = .ok (.getfield 57, 3) := by decide +kernel
theorem dX9_told_179 : decode cX9_told 179 = .ok (.invokestatic 115, 3) := by decide +kernel
theorem dX9_told_182 : decode cX9_told 182 = .ok (.ireturn, 1) := by decide +kernel
theorem dX9_told_183 : decode cX9_told 183 = .ok (.aload_n 0, 1) := by decide +kernel
theorem dX9_told_184 : decode cX9_told 184 = .ok (.getfield 53, 3) := by decide +kernel
theorem dX9_told_187 : decode cX9_told 187 = .ok (.aload_n 0, 1) := by decide +kernel
theorem dX9_told_188 : decode cX9_told 188 = .ok (.getfield 57, 3) := by decide +kernel
theorem dX9_told_191 : decode cX9_told 191 = .ok (.invokestatic 118, 3) := by decide +kernel
theorem dX9_told_194 : decode cX9_told 194 = .ok (.ireturn, 1) := by decide +kernel
theorem dX9_told_195 : decode cX9_told 195 = .ok (.aload_n 0, 1) := by decide +kernel
theorem dX9_told_196 : decode cX9_told 196 = .ok (.invokevirtual 121, 3) := by decide +kernel
theorem dX9_told_199 : decode cX9_told 199 = .ok (.ifCond .eq 7, 3) := by decide +kernel
theorem dX9_told_202 : decode cX9_told 202 = .ok (.iconst 1, 1) := by decide +kernel
theorem dX9_told_203 : decode cX9_told 203 = .ok (.goto 4, 3) := by decide +kernel
theorem dX9_told_206 : decode cX9_told 206 = .ok (.iconst 0, 1) := by decide +kernel
theorem dX9_told_207 : decode cX9_told 207 = .ok (.ireturn, 1) := by decide +kernel
theorem dX9_told_208 : decode cX9_told 208 = .ok (.aload_n 0, 1) := by decide +kernel
theorem dX9_told_209 : decode cX9_told 209 = .ok (.getfield 42, 3) := by decide +kernel
theorem dX9_told_212 : decode cX9_told 212 = .ok (.aload_n 0, 1) := by decide +kernel
theorem dX9_told_213 : decode cX9_told 213 = .ok (.getfield 53, 3) := by decide +kernel
theorem dX9_told_216 : decode cX9_told 216 = .ok (.aload_n 0, 1) := by decide +kernel
theorem dX9_told_217 : decode cX9_told 217 = .ok (.getfield 57, 3) := by decide +kernel
theorem dX9_told_220 : decode cX9_told 220 = .ok (.invokevirtual 125, 3) := by decide +kernel
theorem dX9_told_223 : decode cX9_told 223 = .ok (.invokestatic 126, 3) := by decide +kernel
theorem dX9_told_226 : decode cX9_told 226 = .ok (.ireturn, 1) := by decide +kernel
theorem dX9_told_227 : decode cX9_told 227 = .ok (.aload_n 0, 1) := by decide +kernel
theorem dX9_told_228 : decode cX9_told 228 = .ok (.getfield 42, 3) := by decide +kernel
theorem dX9_told_231 : decode cX9_told 231 = .ok (.aload_n 0, 1) := by decide +kernel
theorem dX9_told_232 : decode cX9_told 232 = .ok (.getfield 53, 3) := by decide +kernel
theorem dX9_told_235 : decode cX9_told 235 = .ok (.aload_n 0, 1) := by decide +kernel
theorem dX9_told_236 : decode cX9_told 236 = .ok (.getfield 57, 3) := by decide +kernel
theorem dX9_told_239 : decode cX9_told 239 = .ok (.invokevirtual 125, 3) := by decide +kernel
theorem dX9_told_242 : decode cX9_told 242 = .ok (.ireturn, 1) := by decide +kernel
theorem dX9_told_243 : decode cX9_told 243 = .ok (.aload_n 0, 1) := by decide +kernel
theorem dX9_told_244 : decode cX9_told 244 = .ok (.getfield 10, 3) := by decide +kernel
theorem dX9_told_247 : decode cX9_told 247 = .ok (.getfield 129, 3) := by decide +kernel
theorem dX9_told_250 : decode cX9_told 250 = .ok (.ireturn, 1) := by decide +kernel
theorem dX9_told_251 : decode cX9_told 251 = .ok (.aload_n 0, 1) := by decide +kernel
theorem dX9_told_252 : decode cX9_told 252 = .ok (.getfield 26, 3) := by decide +kernel
theorem dX9_told_255 : decode cX9_told 255 = .ok (.getfield 132, 3) := by decide +kernel
theorem dX9_told_258 : decode cX9_told 258 = .ok (.ireturn, 1) := by decide +kernel
theorem dX9_told_259 : decode cX9_told 259 = .ok (.aload_n 0, 1) := by decide +kernel
theorem dX9_told_260 : decode cX9_told 260 = .ok (.getfield 19, 3) := by decide +kernel
theorem dX9_told_263 : decode cX9_told 263 = .ok (.getfield 133, 3) := by decide +kernel
theorem dX9_told_266 : decode cX9_told 266 = .ok (.ireturn, 1) := by decide +kernel
theorem dX9_told_267 : decode cX9_told 267 = .ok (.ldc 66, 2) := by decide +kernel
theorem dX9_told_269 : decode cX9_told 269 = .ok (.ireturn, 1) := by decide +kernel
set_option maxRecDepth 20000 in
theorem ggX9_tiling_X8_of : GoodIn wsX9_tiling wsX8_of := goodIn_r _ [9, 10, 11, 12, 13, 14, 15, 16, 17, 18, 19, 20, 21, 22, 23, 24, 25, 7, 26, 27, 28, 29, 30, 31, 32, 33, 34, 35, 36, 37, 38, 39, 40, 41, 42, 43, 44, 45, 46, 47, 48, 49, 50, 68, 69, 70, 71, 72, 73] (by decide +kernel) (by decide +kernel)
set_option maxRecDepth 20000 in
theorem gX9_tiling_X8_of_n93 : GoodIn wsX9_tiling (wsX8_of) := ggX9_tiling_X8_of
set_option maxRecDepth 20000 in
theorem ggX9_tiling_X8_at : GoodIn wsX9_tiling wsX8_at := goodIn_r _ [53, 12, 34, 68, 69, 70, 71, 72, 73] (by decide +kernel) (by decide +kernel)
set_option maxRecDepth 20000 in
theorem gX9_tiling_X8_at_n135 : GoodIn wsX9_tiling (wsX8_at) := ggX9_tiling_X8_at
set_option maxRecDepth 20000 in
theorem ggX9_tiling_J6_bitCount_0f7a4 : GoodIn wsX9_tiling wsJ6_bitCount_0f7a4 := goodIn_r _ [16, 17, 18, 19] (by decide +kernel) (by decide +kernel)
set_option maxRecDepth 20000 in
theorem gX9_tiling_J6_bitCount_0f7a4 : GoodIn wsX9_tiling (va_wsS RX9 88 yJ6_bitCount_0f7a4 wsJ6_bitCount_0f7a4) := goodIn_app (goodIn_of _ (by decide +kernel)) ggX9_tiling_J6_bitCount_0f7a4
set_option maxRecDepth 20000 in
theorem ggX9_tiling_X6_period : GoodIn wsX9_tiling wsX6_period := goodIn_r _ [56, 57, 44, 21, 45, 46, 20, 22, 37, 38, 39] (by decide +kernel) (by decide +kernel)
set_option maxRecDepth 20000 in
theorem gX9_tiling_X6_period_n96 : GoodIn wsX9_tiling (wsX6_period) := ggX9_tiling_X6_period
theorem dX9_tiling_0 : decode cX9_tiling 0 = .ok (.iload_n 1, 1) := by decide +kernel
theorem dX9_tiling_1 : decode cX9_tiling 1 = .ok (.ifCond .lt 22, 3) := by decide +kernel
theorem dX9_tiling_4 : decode cX9_tiling 4 = .ok (.iload_n 1, 1) := by decide +kernel
theorem dX9_tiling_5 : decode cX9_tiling 5 = .ok (.aload_n 0, 1) := by decide +kernel
theorem dX9_tiling_6 : decode cX9_tiling 6 = .ok (.getfield 35, 3) := by decide +kernel
theorem dX9_tiling_9 : decode cX9_tiling 9 = .ok (.aload_n 0, 1) := by decide +kernel
theorem dX9_tiling_10 : decode cX9_tiling 10 = .ok (.getfield 53, 3) := by decide +kernel
theorem dX9_tiling_13 : decode cX9_tiling 13 = .ok (.aload_n 0, 1) := by decide +kernel
theorem dX9_tiling_14 : decode cX9_tiling 14 = .ok (.getfield 57, 3) := by decide +kernel
theorem dX9_tiling_17 : decode cX9_tiling 17 = .ok (.invokevirtual 93, 3) := by decide +kernel
theorem dX9_tiling_20 : decode cX9_tiling 20 = .ok (.if_icmp .lt 6, 3) := by decide +kernel
theorem dX9_tiling_23 : decode cX9_tiling 23 = .ok (.ldc 134, 2) := by decide +kernel
theorem dX9_tiling_25 : decode cX9_tiling 25 = .ok (.ireturn, 1) := by decide +kernel
theorem dX9_tiling_26 : decode cX9_tiling 26 = .ok (.aload_n 0, 1) := by decide +kernel
theorem dX9_tiling_27 : decode cX9_tiling 27 = .ok (.getfield 35, 3) := by decide +kernel
theorem dX9_tiling_30 : decode cX9_tiling 30 = .ok (.iload_n 1, 1) := by decide +kernel
theorem dX9_tiling_31 : decode cX9_tiling 31 = .ok (.invokevirtual 135, 3) := by decide +kernel
theorem dX9_tiling_34 : decode cX9_tiling 34 = .ok (.istore_n 3, 1) := by decide +kernel
theorem dX9_tiling_35 : decode cX9_tiling 35 = .ok (.iload_n 2, 1) := by decide +kernel
theorem dX9_tiling_36 : decode cX9_tiling 36 = .ok (.tableswitch 44 0 2 #[28, 30, 35], 28) := by decide +kernel
theorem dX9_tiling_64 : decode cX9_tiling 64 = .ok (.iload_n 3, 1) := by decide +kernel
theorem dX9_tiling_65 : decode cX9_tiling 65 = .ok (.ireturn, 1) := by decide +kernel
theorem dX9_tiling_66 : decode cX9_tiling 66 = .ok (.iload_n 3, 1) := by decide +kernel
theorem dX9_tiling_67 : decode cX9_tiling 67 = .ok (.invokestatic 88, 3) := by decide +kernel
theorem dX9_tiling_70 : decode cX9_tiling 70 = .ok (.ireturn, 1) := by decide +kernel
theorem dX9_tiling_71 : decode cX9_tiling 71 = .ok (.aload_n 0, 1) := by decide +kernel
theorem dX9_tiling_72 : decode cX9_tiling 72 = .ok (.getfield 53, 3) := by decide +kernel
theorem dX9_tiling_75 : decode cX9_tiling 75 = .ok (.iload_n 3, 1) := by decide +kernel
theorem dX9_tiling_76 : decode cX9_tiling 76 = .ok (.invokestatic 96, 3) := by decide +kernel
theorem dX9_tiling_79 : decode cX9_tiling 79 = .ok (.ireturn, 1) := by decide +kernel
theorem dX9_tiling_80 : decode cX9_tiling 80 = .ok (.ldc 66, 2) := by decide +kernel
theorem dX9_tiling_82 : decode cX9_tiling 82 = .ok (.ireturn, 1) := by decide +kernel
set_option maxRecDepth 20000 in
theorem ggX9_who_X9_isBeat : GoodIn wsX9_who wsX9_isBeat := goodIn_r _ [9, 2, 69, 70, 71, 72, 73, 74, 75, 76, 77, 78] (by decide +kernel) (by decide +kernel)
set_option maxRecDepth 20000 in
theorem gX9_who_X9_isBeat : GoodIn wsX9_who (wsV RX9 138 RX9 yX9_isBeat wsX9_isBeat) := goodIn_app (goodIn_of _ (by decide +kernel)) ggX9_who_X9_isBeat
set_option maxRecDepth 20000 in
theorem ggX9_who_X8_of : GoodIn wsX9_who wsX8_of := goodIn_r _ [13, 14, 15, 16, 17, 18, 19, 20, 21, 22, 23, 24, 25, 26, 27, 28, 29, 11, 30, 31, 32, 33, 34, 35, 36, 37, 38, 39, 40, 41, 42, 43, 44, 45, 46, 47, 48, 49, 50, 51, 52, 53, 54, 79, 80, 81, 82, 83, 84] (by decide +kernel) (by decide +kernel)
set_option maxRecDepth 20000 in
theorem gX9_who_X8_of_n93 : GoodIn wsX9_who (wsX8_of) := ggX9_who_X8_of
set_option maxRecDepth 20000 in
theorem ggX9_who_X8_at : GoodIn wsX9_who wsX8_at := goodIn_r _ [57, 16, 38, 79, 80, 81, 82, 83, 84] (by decide +kernel) (by decide +kernel)
set_option maxRecDepth 20000 in
theorem gX9_who_X8_at_n135 : GoodIn wsX9_who (wsX8_at) := ggX9_who_X8_at
set_option maxRecDepth 20000 in
theorem ggX9_who_X6_turnsThatStrike : GoodIn wsX9_who wsX6_turnsThatStrike := goodIn_r _ [59, 60, 61, 25, 62, 63, 64, 65, 66, 33, 34, 50, 24, 26, 67, 48, 49, 41, 42, 43] (by decide +kernel) (by decide +kernel)
set_option maxRecDepth 20000 in
theorem gX9_who_X6_turnsThatStrike_n142 : GoodIn wsX9_who (wsX6_turnsThatStrike) := ggX9_who_X6_turnsThatStrike
set_option maxRecDepth 20000 in
theorem ggX9_who_J6_numberOfTrailingZeros_0f7a4 : GoodIn wsX9_who wsJ6_numberOfTrailingZeros_0f7a4 := goodIn_r _ [46, 47] (by decide +kernel) (by decide +kernel)
set_option maxRecDepth 20000 in
theorem gX9_who_J6_numberOfTrailingZeros_0f7a4 : GoodIn wsX9_who (va_wsS RX9 146 yJ6_numberOfTrailingZeros_0f7a4 wsJ6_numberOfTrailingZeros_0f7a4) := goodIn_app (goodIn_of _ (by decide +kernel)) ggX9_who_J6_numberOfTrailingZeros_0f7a4
theorem dX9_who_0 : decode cX9_who 0 = .ok (.aload_n 0, 1) := by decide +kernel
theorem dX9_who_1 : decode cX9_who 1 = .ok (.iload_n 2, 1) := by decide +kernel
theorem dX9_who_2 : decode cX9_who 2 = .ok (.invokevirtual 138, 3) := by decide +kernel
theorem dX9_who_5 : decode cX9_who 5 = .ok (.ifCond .eq 26, 3) := by decide +kernel
theorem dX9_who_8 : decode cX9_who 8 = .ok (.iload_n 1, 1) := by decide +kernel
theorem dX9_who_9 : decode cX9_who 9 = .ok (.ifCond .lt 22, 3) := by decide +kernel
theorem dX9_who_12 : decode cX9_who 12 = .ok (.iload_n 1, 1) := by decide +kernel
theorem dX9_who_13 : decode cX9_who 13 = .ok (.aload_n 0, 1) := by decide +kernel
theorem dX9_who_14 : decode cX9_who 14 = .ok (.getfield 35, 3) := by decide +kernel
theorem dX9_who_17 : decode cX9_who 17 = .ok (.aload_n 0, 1) := by decide +kernel
theorem dX9_who_18 : decode cX9_who 18 = .ok (.getfield 53, 3) := by decide +kernel
theorem dX9_who_21 : decode cX9_who 21 = .ok (.aload_n 0, 1) := by decide +kernel
theorem dX9_who_22 : decode cX9_who 22 = .ok (.getfield 57, 3) := by decide +kernel
theorem dX9_who_25 : decode cX9_who 25 = .ok (.invokevirtual 93, 3) := by decide +kernel
theorem dX9_who_28 : decode cX9_who 28 = .ok (.if_icmp .lt 6, 3) := by decide +kernel
theorem dX9_who_31 : decode cX9_who 31 = .ok (.ldc 134, 2) := by decide +kernel
theorem dX9_who_33 : decode cX9_who 33 = .ok (.ireturn, 1) := by decide +kernel
theorem dX9_who_34 : decode cX9_who 34 = .ok (.aload_n 0, 1) := by decide +kernel
theorem dX9_who_35 : decode cX9_who 35 = .ok (.getfield 35, 3) := by decide +kernel
theorem dX9_who_38 : decode cX9_who 38 = .ok (.iload_n 1, 1) := by decide +kernel
theorem dX9_who_39 : decode cX9_who 39 = .ok (.invokevirtual 135, 3) := by decide +kernel
theorem dX9_who_42 : decode cX9_who 42 = .ok (.aload_n 0, 1) := by decide +kernel
theorem dX9_who_43 : decode cX9_who 43 = .ok (.getfield 53, 3) := by decide +kernel
theorem dX9_who_46 : decode cX9_who 46 = .ok (.aload_n 0, 1) := by decide +kernel
theorem dX9_who_47 : decode cX9_who 47 = .ok (.getfield 57, 3) := by decide +kernel
theorem dX9_who_50 : decode cX9_who 50 = .ok (.iload_n 2, 1) := by decide +kernel
theorem dX9_who_51 : decode cX9_who 51 = .ok (.invokestatic 142, 3) := by decide +kernel
theorem dX9_who_54 : decode cX9_who 54 = .ok (.iand, 1) := by decide +kernel
theorem dX9_who_55 : decode cX9_who 55 = .ok (.istore_n 3, 1) := by decide +kernel
theorem dX9_who_56 : decode cX9_who 56 = .ok (.iload_n 3, 1) := by decide +kernel
theorem dX9_who_57 : decode cX9_who 57 = .ok (.ifCond .ne 7, 3) := by decide +kernel
theorem dX9_who_60 : decode cX9_who 60 = .ok (.iconst (-1), 1) := by decide +kernel
