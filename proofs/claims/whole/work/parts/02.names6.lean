theorem dX10_necklace_49 : decode cX10_necklace 49 = .ok (.iload_n 1, 1) := by decide +kernel
theorem dX10_necklace_50 : decode cX10_necklace 50 = .ok (.if_icmp .ge 7, 3) := by decide +kernel
theorem dX10_necklace_53 : decode cX10_necklace 53 = .ok (.iload_n 2, 1) := by decide +kernel
theorem dX10_necklace_54 : decode cX10_necklace 54 = .ok (.goto 7, 3) := by decide +kernel
theorem dX10_necklace_57 : decode cX10_necklace 57 = .ok (.aload_n 0, 1) := by decide +kernel
theorem dX10_necklace_58 : decode cX10_necklace 58 = .ok (.getfield 158, 3) := by decide +kernel
theorem dX10_necklace_61 : decode cX10_necklace 61 = .ok (.putfield 158, 3) := by decide +kernel
theorem dX10_necklace_64 : decode cX10_necklace 64 = .ok (.iload_n 3, 1) := by decide +kernel
theorem dX10_necklace_65 : decode cX10_necklace 65 = .ok (.iload_n 1, 1) := by decide +kernel
theorem dX10_necklace_66 : decode cX10_necklace 66 = .ok (.if_icmp .ge 7, 3) := by decide +kernel
theorem dX10_necklace_69 : decode cX10_necklace 69 = .ok (.iload_n 3, 1) := by decide +kernel
theorem dX10_necklace_70 : decode cX10_necklace 70 = .ok (.goto 4, 3) := by decide +kernel
theorem dX10_necklace_73 : decode cX10_necklace 73 = .ok (.iload_n 1, 1) := by decide +kernel
theorem dX10_necklace_74 : decode cX10_necklace 74 = .ok (.istore_n 1, 1) := by decide +kernel
theorem dX10_necklace_75 : decode cX10_necklace 75 = .ok (.iinc 2 1, 3) := by decide +kernel
theorem dX10_necklace_78 : decode cX10_necklace 78 = .ok (.goto (-59), 3) := by decide +kernel
theorem dX10_necklace_81 : decode cX10_necklace 81 = .ok (.iload_n 1, 1) := by decide +kernel
theorem dX10_necklace_82 : decode cX10_necklace 82 = .ok (.ireturn, 1) := by decide +kernel
set_option maxRecDepth 20000 in
theorem ggX10_isLeast_X10_moved : GoodIn wsX10_isLeast wsX10_moved := goodIn_r _ [4, 5, 6, 3, 7] (by decide +kernel) (by decide +kernel)
set_option maxRecDepth 20000 in
theorem gX10_isLeast_X10_moved : GoodIn wsX10_isLeast (va_wsS RX10 69 yX10_moved wsX10_moved) := goodIn_app (goodIn_of _ (by decide +kernel)) ggX10_isLeast_X10_moved
theorem dX10_isLeast_0 : decode cX10_isLeast 0 = .ok (.iconst 1, 1) := by decide +kernel
theorem dX10_isLeast_1 : decode cX10_isLeast 1 = .ok (.istore_n 2, 1) := by decide +kernel
theorem dX10_isLeast_2 : decode cX10_isLeast 2 = .ok (.iconst 1, 1) := by decide +kernel
theorem dX10_isLeast_3 : decode cX10_isLeast 3 = .ok (.istore_n 3, 1) := by decide +kernel
theorem dX10_isLeast_4 : decode cX10_isLeast 4 = .ok (.iload_n 3, 1) := by decide +kernel
theorem dX10_isLeast_5 : decode cX10_isLeast 5 = .ok (.iload_n 1, 1) := by decide +kernel
theorem dX10_isLeast_6 : decode cX10_isLeast 6 = .ok (.if_icmp .ge 29, 3) := by decide +kernel
theorem dX10_isLeast_9 : decode cX10_isLeast 9 = .ok (.iload_n 2, 1) := by decide +kernel
theorem dX10_isLeast_10 : decode cX10_isLeast 10 = .ok (.ifCond .eq 25, 3) := by decide +kernel
theorem dX10_isLeast_13 : decode cX10_isLeast 13 = .ok (.iload_n 0, 1) := by decide +kernel
theorem dX10_isLeast_14 : decode cX10_isLeast 14 = .ok (.iload_n 3, 1) := by decide +kernel
theorem dX10_isLeast_15 : decode cX10_isLeast 15 = .ok (.iload_n 1, 1) := by decide +kernel
theorem dX10_isLeast_16 : decode cX10_isLeast 16 = .ok (.invokestatic 69, 3) := by decide +kernel
theorem dX10_isLeast_19 : decode cX10_isLeast 19 = .ok (.iload_n 0, 1) := by decide +kernel
theorem dX10_isLeast_20 : decode cX10_isLeast 20 = .ok (.if_icmp .lt 7, 3) := by decide +kernel
theorem dX10_isLeast_23 : decode cX10_isLeast 23 = .ok (.iconst 1, 1) := by decide +kernel
theorem dX10_isLeast_24 : decode cX10_isLeast 24 = .ok (.goto 4, 3) := by decide +kernel
theorem dX10_isLeast_27 : decode cX10_isLeast 27 = .ok (.iconst 0, 1) := by decide +kernel
theorem dX10_isLeast_28 : decode cX10_isLeast 28 = .ok (.istore_n 2, 1) := by decide +kernel
theorem dX10_isLeast_29 : decode cX10_isLeast 29 = .ok (.iinc 3 1, 3) := by decide +kernel
theorem dX10_isLeast_32 : decode cX10_isLeast 32 = .ok (.goto (-28), 3) := by decide +kernel
theorem dX10_isLeast_35 : decode cX10_isLeast 35 = .ok (.iload_n 2, 1) := by decide +kernel
theorem dX10_isLeast_36 : decode cX10_isLeast 36 = .ok (.ireturn, 1) := by decide +kernel
theorem dX10_nextAlike_0 : decode cX10_nextAlike 0 = .ok (.iload_n 0, 1) := by decide +kernel
theorem dX10_nextAlike_1 : decode cX10_nextAlike 1 = .ok (.iload_n 0, 1) := by decide +kernel
theorem dX10_nextAlike_2 : decode cX10_nextAlike 2 = .ok (.ineg, 1) := by decide +kernel
theorem dX10_nextAlike_3 : decode cX10_nextAlike 3 = .ok (.iand, 1) := by decide +kernel
theorem dX10_nextAlike_4 : decode cX10_nextAlike 4 = .ok (.istore_n 1, 1) := by decide +kernel
theorem dX10_nextAlike_5 : decode cX10_nextAlike 5 = .ok (.iload_n 0, 1) := by decide +kernel
theorem dX10_nextAlike_6 : decode cX10_nextAlike 6 = .ok (.iload_n 1, 1) := by decide +kernel
theorem dX10_nextAlike_7 : decode cX10_nextAlike 7 = .ok (.iadd, 1) := by decide +kernel
theorem dX10_nextAlike_8 : decode cX10_nextAlike 8 = .ok (.istore_n 2, 1) := by decide +kernel
theorem dX10_nextAlike_9 : decode cX10_nextAlike 9 = .ok (.iload_n 2, 1) := by decide +kernel
theorem dX10_nextAlike_10 : decode cX10_nextAlike 10 = .ok (.iload_n 0, 1) := by decide +kernel
theorem dX10_nextAlike_11 : decode cX10_nextAlike 11 = .ok (.iload_n 2, 1) := by decide +kernel
theorem dX10_nextAlike_12 : decode cX10_nextAlike 12 = .ok (.ixor, 1) := by decide +kernel
theorem dX10_nextAlike_13 : decode cX10_nextAlike 13 = .ok (.iload_n 1, 1) := by decide +kernel
theorem dX10_nextAlike_14 : decode cX10_nextAlike 14 = .ok (.idiv, 1) := by decide +kernel
theorem dX10_nextAlike_15 : decode cX10_nextAlike 15 = .ok (.iconst 2, 1) := by decide +kernel
theorem dX10_nextAlike_16 : decode cX10_nextAlike 16 = .ok (.ishr, 1) := by decide +kernel
theorem dX10_nextAlike_17 : decode cX10_nextAlike 17 = .ok (.ior, 1) := by decide +kernel
theorem dX10_nextAlike_18 : decode cX10_nextAlike 18 = .ok (.ireturn, 1) := by decide +kernel
set_option maxRecDepth 20000 in
theorem ggX10_later_X10_necklace : GoodIn wsX10_later wsX10_necklace := goodIn_r _ [7, 1, 2, 8, 9, 10, 6, 11, 12, 13, 14, 15, 16, 17, 18, 19, 20, 30, 31, 32, 33, 34, 35, 36, 37, 38, 39, 40, 41, 42, 43, 44, 45, 46, 47, 48, 49, 50, 51, 52, 53, 54, 55, 56] (by decide +kernel) (by decide +kernel)
set_option maxRecDepth 20000 in
theorem gX10_later_X10_necklace : GoodIn wsX10_later (wsV RX10 161 RX10 yX10_necklace wsX10_necklace) := goodIn_app (goodIn_of _ (by decide +kernel)) ggX10_later_X10_necklace
set_option maxRecDepth 20000 in
theorem ggX10_later_X10_bits : GoodIn wsX10_later wsX10_bits := goodIn_r _ [23] (by decide +kernel) (by decide +kernel)
set_option maxRecDepth 20000 in
theorem gX10_later_X10_bits : GoodIn wsX10_later (va_wsS RX10 107 yX10_bits wsX10_bits) := goodIn_app (goodIn_of _ (by decide +kernel)) ggX10_later_X10_bits
set_option maxRecDepth 20000 in
theorem ggX10_later_X10_nextAlike : GoodIn wsX10_later wsX10_nextAlike := goodIn_r _ [26] (by decide +kernel) (by decide +kernel)
set_option maxRecDepth 20000 in
theorem gX10_later_X10_nextAlike : GoodIn wsX10_later (va_wsS RX10 164 yX10_nextAlike wsX10_nextAlike) := goodIn_app (goodIn_of _ (by decide +kernel)) ggX10_later_X10_nextAlike
set_option maxRecDepth 20000 in
theorem ggX10_later_X10_isLeast : GoodIn wsX10_later wsX10_isLeast := goodIn_r _ [29, 15, 16, 6, 17, 18, 19, 20] (by decide +kernel) (by decide +kernel)
set_option maxRecDepth 20000 in
theorem gX10_later_X10_isLeast : GoodIn wsX10_later (va_wsS RX10 167 yX10_isLeast wsX10_isLeast) := goodIn_app (goodIn_of _ (by decide +kernel)) ggX10_later_X10_isLeast
theorem dX10_later_0 : decode cX10_later 0 = .ok (.aload_n 0, 1) := by decide +kernel
theorem dX10_later_1 : decode cX10_later 1 = .ok (.invokevirtual 161, 3) := by decide +kernel
theorem dX10_later_4 : decode cX10_later 4 = .ok (.istore_n 1, 1) := by decide +kernel
theorem dX10_later_5 : decode cX10_later 5 = .ok (.aload_n 0, 1) := by decide +kernel
theorem dX10_later_6 : decode cX10_later 6 = .ok (.getfield 101, 3) := by decide +kernel
theorem dX10_later_9 : decode cX10_later 9 = .ok (.invokestatic 107, 3) := by decide +kernel
theorem dX10_later_12 : decode cX10_later 12 = .ok (.istore_n 2, 1) := by decide +kernel
theorem dX10_later_13 : decode cX10_later 13 = .ok (.iload_n 2, 1) := by decide +kernel
theorem dX10_later_14 : decode cX10_later 14 = .ok (.ifCond .ne 5, 3) := by decide +kernel
theorem dX10_later_17 : decode cX10_later 17 = .ok (.iconst (-1), 1) := by decide +kernel
theorem dX10_later_18 : decode cX10_later 18 = .ok (.ireturn, 1) := by decide +kernel
theorem dX10_later_19 : decode cX10_later 19 = .ok (.aload_n 0, 1) := by decide +kernel
theorem dX10_later_20 : decode cX10_later 20 = .ok (.getfield 7, 3) := by decide +kernel
theorem dX10_later_23 : decode cX10_later 23 = .ok (.iload_n 2, 1) := by decide +kernel
theorem dX10_later_24 : decode cX10_later 24 = .ok (.isub, 1) := by decide +kernel
theorem dX10_later_25 : decode cX10_later 25 = .ok (.iload_n 2, 1) := by decide +kernel
theorem dX10_later_26 : decode cX10_later 26 = .ok (.iadd, 1) := by decide +kernel
theorem dX10_later_27 : decode cX10_later 27 = .ok (.iconst 1, 1) := by decide +kernel
theorem dX10_later_28 : decode cX10_later 28 = .ok (.isub, 1) := by decide +kernel
theorem dX10_later_29 : decode cX10_later 29 = .ok (.iload_n 2, 1) := by decide +kernel
theorem dX10_later_30 : decode cX10_later 30 = .ok (.idiv, 1) := by decide +kernel
theorem dX10_later_31 : decode cX10_later 31 = .ok (.istore_n 3, 1) := by decide +kernel
theorem dX10_later_32 : decode cX10_later 32 = .ok (.iconst 1, 1) := by decide +kernel
theorem dX10_later_33 : decode cX10_later 33 = .ok (.aload_n 0, 1) := by decide +kernel
theorem dX10_later_34 : decode cX10_later 34 = .ok (.getfield 7, 3) := by decide +kernel
theorem dX10_later_37 : decode cX10_later 37 = .ok (.iload_n 3, 1) := by decide +kernel
theorem dX10_later_38 : decode cX10_later 38 = .ok (.isub, 1) := by decide +kernel
theorem dX10_later_39 : decode cX10_later 39 = .ok (.ishl, 1) := by decide +kernel
theorem dX10_later_40 : decode cX10_later 40 = .ok (.istore 4, 2) := by decide +kernel
theorem dX10_later_42 : decode cX10_later 42 = .ok (.iload_n 1, 1) := by decide +kernel
theorem dX10_later_43 : decode cX10_later 43 = .ok (.invokestatic 164, 3) := by decide +kernel
theorem dX10_later_46 : decode cX10_later 46 = .ok (.istore_n 1, 1) := by decide +kernel
theorem dX10_later_47 : decode cX10_later 47 = .ok (.iload_n 1, 1) := by decide +kernel
theorem dX10_later_48 : decode cX10_later 48 = .ok (.iload 4, 2) := by decide +kernel
theorem dX10_later_50 : decode cX10_later 50 = .ok (.if_icmp .ge 22, 3) := by decide +kernel
theorem dX10_later_53 : decode cX10_later 53 = .ok (.iload_n 1, 1) := by decide +kernel
theorem dX10_later_54 : decode cX10_later 54 = .ok (.aload_n 0, 1) := by decide +kernel
theorem dX10_later_55 : decode cX10_later 55 = .ok (.getfield 7, 3) := by decide +kernel
theorem dX10_later_58 : decode cX10_later 58 = .ok (.invokestatic 167, 3) := by decide +kernel
theorem dX10_later_61 : decode cX10_later 61 = .ok (.ifCond .ne 11, 3) := by decide +kernel
theorem dX10_later_64 : decode cX10_later 64 = .ok (.iload_n 1, 1) := by decide +kernel
theorem dX10_later_65 : decode cX10_later 65 = .ok (.invokestatic 164, 3) := by decide +kernel
theorem dX10_later_68 : decode cX10_later 68 = .ok (.istore_n 1, 1) := by decide +kernel
theorem dX10_later_69 : decode cX10_later 69 = .ok (.goto (-22), 3) := by decide +kernel
theorem dX10_later_72 : decode cX10_later 72 = .ok (.iload_n 1, 1) := by decide +kernel
theorem dX10_later_73 : decode cX10_later 73 = .ok (.iload 4, 2) := by decide +kernel
theorem dX10_later_75 : decode cX10_later 75 = .ok (.if_icmp .ge 7, 3) := by decide +kernel
theorem dX10_later_78 : decode cX10_later 78 = .ok (.iload_n 1, 1) := by decide +kernel
theorem dX10_later_79 : decode cX10_later 79 = .ok (.goto 4, 3) := by decide +kernel
theorem dX10_later_82 : decode cX10_later 82 = .ok (.iconst (-1), 1) := by decide +kernel
theorem dX10_later_83 : decode cX10_later 83 = .ok (.ireturn, 1) := by decide +kernel
theorem dX10_choose_0 : decode cX10_choose 0 = .ok (.lconst 1, 1) := by decide +kernel
theorem dX10_choose_1 : decode cX10_choose 1 = .ok (.lstore_n 2, 1) := by decide +kernel
theorem dX10_choose_2 : decode cX10_choose 2 = .ok (.iconst 0, 1) := by decide +kernel
theorem dX10_choose_3 : decode cX10_choose 3 = .ok (.istore 4, 2) := by decide +kernel
theorem dX10_choose_5 : decode cX10_choose 5 = .ok (.iload 4, 2) := by decide +kernel
theorem dX10_choose_7 : decode cX10_choose 7 = .ok (.iload_n 1, 1) := by decide +kernel
theorem dX10_choose_8 : decode cX10_choose 8 = .ok (.if_icmp .ge 23, 3) := by decide +kernel
theorem dX10_choose_11 : decode cX10_choose 11 = .ok (.lload_n 2, 1) := by decide +kernel
theorem dX10_choose_12 : decode cX10_choose 12 = .ok (.iload_n 0, 1) := by decide +kernel
theorem dX10_choose_13 : decode cX10_choose 13 = .ok (.iload 4, 2) := by decide +kernel
theorem dX10_choose_15 : decode cX10_choose 15 = .ok (.isub, 1) := by decide +kernel
theorem dX10_choose_16 : decode cX10_choose 16 = .ok (.i2l, 1) := by decide +kernel
theorem dX10_choose_17 : decode cX10_choose 17 = .ok (.lmul, 1) := by decide +kernel
theorem dX10_choose_18 : decode cX10_choose 18 = .ok (.iload 4, 2) := by decide +kernel
theorem dX10_choose_20 : decode cX10_choose 20 = .ok (.iconst 1, 1) := by decide +kernel
theorem dX10_choose_21 : decode cX10_choose 21 = .ok (.iadd, 1) := by decide +kernel
theorem dX10_choose_22 : decode cX10_choose 22 = .ok (.i2l, 1) := by decide +kernel
theorem dX10_choose_23 : decode cX10_choose 23 = .ok (.ldiv, 1) := by decide +kernel
theorem dX10_choose_24 : decode cX10_choose 24 = .ok (.lstore_n 2, 1) := by decide +kernel
theorem dX10_choose_25 : decode cX10_choose 25 = .ok (.iinc 4 1, 3) := by decide +kernel
theorem dX10_choose_28 : decode cX10_choose 28 = .ok (.goto (-23), 3) := by decide +kernel
theorem dX10_choose_31 : decode cX10_choose 31 = .ok (.lload_n 2, 1) := by decide +kernel
theorem dX10_choose_32 : decode cX10_choose 32 = .ok (.lreturn, 1) := by decide +kernel
theorem dX10_common_0 : decode cX10_common 0 = .ok (.iload_n 0, 1) := by decide +kernel
theorem dX10_common_1 : decode cX10_common 1 = .ok (.istore_n 2, 1) := by decide +kernel
theorem dX10_common_2 : decode cX10_common 2 = .ok (.iload_n 1, 1) := by decide +kernel
theorem dX10_common_3 : decode cX10_common 3 = .ok (.istore_n 3, 1) := by decide +kernel
theorem dX10_common_4 : decode cX10_common 4 = .ok (.iload_n 3, 1) := by decide +kernel
theorem dX10_common_5 : decode cX10_common 5 = .ok (.ifCond .eq 16, 3) := by decide +kernel
theorem dX10_common_8 : decode cX10_common 8 = .ok (.iload_n 2, 1) := by decide +kernel
theorem dX10_common_9 : decode cX10_common 9 = .ok (.iload_n 3, 1) := by decide +kernel
theorem dX10_common_10 : decode cX10_common 10 = .ok (.irem, 1) := by decide +kernel
theorem dX10_common_11 : decode cX10_common 11 = .ok (.istore 4, 2) := by decide +kernel
theorem dX10_common_13 : decode cX10_common 13 = .ok (.iload_n 3, 1) := by decide +kernel
theorem dX10_common_14 : decode cX10_common 14 = .ok (.istore_n 2, 1) := by decide +kernel
theorem dX10_common_15 : decode cX10_common 15 = .ok (.iload 4, 2) := by decide +kernel
theorem dX10_common_17 : decode cX10_common 17 = .ok (.istore_n 3, 1) := by decide +kernel
theorem dX10_common_18 : decode cX10_common 18 = .ok (.goto (-14), 3) := by decide +kernel
theorem dX10_common_21 : decode cX10_common 21 = .ok (.iload_n 2, 1) := by decide +kernel
theorem dX10_common_22 : decode cX10_common 22 = .ok (.ireturn, 1) := by decide +kernel
set_option maxRecDepth 20000 in
theorem ggX10_necklacesOf_X10_common : GoodIn wsX10_necklacesOf wsX10_common := goodIn_r _ [4] (by decide +kernel) (by decide +kernel)
set_option maxRecDepth 20000 in
theorem gX10_necklacesOf_X10_common : GoodIn wsX10_necklacesOf (va_wsS RX10 170 yX10_common wsX10_common) := goodIn_app (goodIn_of _ (by decide +kernel)) ggX10_necklacesOf_X10_common
set_option maxRecDepth 20000 in
theorem ggX10_necklacesOf_X10_choose : GoodIn wsX10_necklacesOf wsX10_choose := goodIn_r _ [7] (by decide +kernel) (by decide +kernel)
set_option maxRecDepth 20000 in
theorem gX10_necklacesOf_X10_choose : GoodIn wsX10_necklacesOf (va_wsS RX10 173 yX10_choose wsX10_choose) := goodIn_app (goodIn_of _ (by decide +kernel)) ggX10_necklacesOf_X10_choose
theorem dX10_necklacesOf_0 : decode cX10_necklacesOf 0 = .ok (.lconst 0, 1) := by decide +kernel
theorem dX10_necklacesOf_1 : decode cX10_necklacesOf 1 = .ok (.lstore_n 2, 1) := by decide +kernel
theorem dX10_necklacesOf_2 : decode cX10_necklacesOf 2 = .ok (.iconst 0, 1) := by decide +kernel
theorem dX10_necklacesOf_3 : decode cX10_necklacesOf 3 = .ok (.istore 4, 2) := by decide +kernel
theorem dX10_necklacesOf_5 : decode cX10_necklacesOf 5 = .ok (.iload 4, 2) := by decide +kernel
theorem dX10_necklacesOf_7 : decode cX10_necklacesOf 7 = .ok (.iload_n 0, 1) := by decide +kernel
theorem dX10_necklacesOf_8 : decode cX10_necklacesOf 8 = .ok (.if_icmp .ge 46, 3) := by decide +kernel
theorem dX10_necklacesOf_11 : decode cX10_necklacesOf 11 = .ok (.iload_n 0, 1) := by decide +kernel
theorem dX10_necklacesOf_12 : decode cX10_necklacesOf 12 = .ok (.iload 4, 2) := by decide +kernel
theorem dX10_necklacesOf_14 : decode cX10_necklacesOf 14 = .ok (.invokestatic 170, 3) := by decide +kernel
theorem dX10_necklacesOf_17 : decode cX10_necklacesOf 17 = .ok (.istore 5, 2) := by decide +kernel
theorem dX10_necklacesOf_19 : decode cX10_necklacesOf 19 = .ok (.iload_n 0, 1) := by decide +kernel
theorem dX10_necklacesOf_20 : decode cX10_necklacesOf 20 = .ok (.iload 5, 2) := by decide +kernel
theorem dX10_necklacesOf_22 : decode cX10_necklacesOf 22 = .ok (.idiv, 1) := by decide +kernel
theorem dX10_necklacesOf_23 : decode cX10_necklacesOf 23 = .ok (.istore 6, 2) := by decide +kernel
theorem dX10_necklacesOf_25 : decode cX10_necklacesOf 25 = .ok (.lload_n 2, 1) := by decide +kernel
theorem dX10_necklacesOf_26 : decode cX10_necklacesOf 26 = .ok (.iload_n 1, 1) := by decide +kernel
theorem dX10_necklacesOf_27 : decode cX10_necklacesOf 27 = .ok (.iload 6, 2) := by decide +kernel
theorem dX10_necklacesOf_29 : decode cX10_necklacesOf 29 = .ok (.irem, 1) := by decide +kernel
theorem dX10_necklacesOf_30 : decode cX10_necklacesOf 30 = .ok (.ifCond .ne 15, 3) := by decide +kernel
theorem dX10_necklacesOf_33 : decode cX10_necklacesOf 33 = .ok (.iload 5, 2) := by decide +kernel
theorem dX10_necklacesOf_35 : decode cX10_necklacesOf 35 = .ok (.iload_n 1, 1) := by decide +kernel
theorem dX10_necklacesOf_36 : decode cX10_necklacesOf 36 = .ok (.iload 6, 2) := by decide +kernel
theorem dX10_necklacesOf_38 : decode cX10_necklacesOf 38 = .ok (.idiv, 1) := by decide +kernel
theorem dX10_necklacesOf_39 : decode cX10_necklacesOf 39 = .ok (.invokestatic 173, 3) := by decide +kernel
theorem dX10_necklacesOf_42 : decode cX10_necklacesOf 42 = .ok (.goto 4, 3) := by decide +kernel
theorem dX10_necklacesOf_45 : decode cX10_necklacesOf 45 = .ok (.lconst 0, 1) := by decide +kernel
theorem dX10_necklacesOf_46 : decode cX10_necklacesOf 46 = .ok (.ladd, 1) := by decide +kernel
theorem dX10_necklacesOf_47 : decode cX10_necklacesOf 47 = .ok (.lstore_n 2, 1) := by decide +kernel
theorem dX10_necklacesOf_48 : decode cX10_necklacesOf 48 = .ok (.iinc 4 1, 3) := by decide +kernel
theorem dX10_necklacesOf_51 : decode cX10_necklacesOf 51 = .ok (.goto (-46), 3) := by decide +kernel
theorem dX10_necklacesOf_54 : decode cX10_necklacesOf 54 = .ok (.lload_n 2, 1) := by decide +kernel
theorem dX10_necklacesOf_55 : decode cX10_necklacesOf 55 = .ok (.iload_n 0, 1) := by decide +kernel
theorem dX10_necklacesOf_56 : decode cX10_necklacesOf 56 = .ok (.i2l, 1) := by decide +kernel
theorem dX10_necklacesOf_57 : decode cX10_necklacesOf 57 = .ok (.ldiv, 1) := by decide +kernel
theorem dX10_necklacesOf_58 : decode cX10_necklacesOf 58 = .ok (.lreturn, 1) := by decide +kernel
set_option maxRecDepth 20000 in
theorem ggX10_mirrored_X10_choose : GoodIn wsX10_mirrored wsX10_choose := goodIn_r _ [4] (by decide +kernel) (by decide +kernel)
set_option maxRecDepth 20000 in
theorem gX10_mirrored_X10_choose : GoodIn wsX10_mirrored (va_wsS RX10 173 yX10_choose wsX10_choose) := goodIn_app (goodIn_of _ (by decide +kernel)) ggX10_mirrored_X10_choose
theorem dX10_mirrored_0 : decode cX10_mirrored 0 = .ok (.iload_n 0, 1) := by decide +kernel
theorem dX10_mirrored_1 : decode cX10_mirrored 1 = .ok (.iconst 2, 1) := by decide +kernel
theorem dX10_mirrored_2 : decode cX10_mirrored 2 = .ok (.irem, 1) := by decide +kernel
theorem dX10_mirrored_3 : decode cX10_mirrored 3 = .ok (.iconst 1, 1) := by decide +kernel
theorem dX10_mirrored_4 : decode cX10_mirrored 4 = .ok (.if_icmp .ne 17, 3) := by decide +kernel
theorem dX10_mirrored_7 : decode cX10_mirrored 7 = .ok (.iload_n 0, 1) := by decide +kernel
theorem dX10_mirrored_8 : decode cX10_mirrored 8 = .ok (.iconst 1, 1) := by decide +kernel
theorem dX10_mirrored_9 : decode cX10_mirrored 9 = .ok (.isub, 1) := by decide +kernel
theorem dX10_mirrored_10 : decode cX10_mirrored 10 = .ok (.iconst 2, 1) := by decide +kernel
theorem dX10_mirrored_11 : decode cX10_mirrored 11 = .ok (.idiv, 1) := by decide +kernel
theorem dX10_mirrored_12 : decode cX10_mirrored 12 = .ok (.iload_n 1, 1) := by decide +kernel
theorem dX10_mirrored_13 : decode cX10_mirrored 13 = .ok (.iconst 2, 1) := by decide +kernel
theorem dX10_mirrored_14 : decode cX10_mirrored 14 = .ok (.idiv, 1) := by decide +kernel
theorem dX10_mirrored_15 : decode cX10_mirrored 15 = .ok (.invokestatic 173, 3) := by decide +kernel
theorem dX10_mirrored_18 : decode cX10_mirrored 18 = .ok (.goto 33, 3) := by decide +kernel
theorem dX10_mirrored_21 : decode cX10_mirrored 21 = .ok (.iload_n 1, 1) := by decide +kernel
theorem dX10_mirrored_22 : decode cX10_mirrored 22 = .ok (.iconst 2, 1) := by decide +kernel
theorem dX10_mirrored_23 : decode cX10_mirrored 23 = .ok (.irem, 1) := by decide +kernel
theorem dX10_mirrored_24 : decode cX10_mirrored 24 = .ok (.iconst 1, 1) := by decide +kernel
theorem dX10_mirrored_25 : decode cX10_mirrored 25 = .ok (.if_icmp .ne 17, 3) := by decide +kernel
theorem dX10_mirrored_28 : decode cX10_mirrored 28 = .ok (.iload_n 0, 1) := by decide +kernel
theorem dX10_mirrored_29 : decode cX10_mirrored 29 = .ok (.iconst 2, 1) := by decide +kernel
theorem dX10_mirrored_30 : decode cX10_mirrored 30 = .ok (.idiv, 1) := by decide +kernel
theorem dX10_mirrored_31 : decode cX10_mirrored 31 = .ok (.iconst 1, 1) := by decide +kernel
theorem dX10_mirrored_32 : decode cX10_mirrored 32 = .ok (.isub, 1) := by decide +kernel
theorem dX10_mirrored_33 : decode cX10_mirrored 33 = .ok (.iload_n 1, 1) := by decide +kernel
theorem dX10_mirrored_34 : decode cX10_mirrored 34 = .ok (.iconst 2, 1) := by decide +kernel
theorem dX10_mirrored_35 : decode cX10_mirrored 35 = .ok (.idiv, 1) := by decide +kernel
theorem dX10_mirrored_36 : decode cX10_mirrored 36 = .ok (.invokestatic 173, 3) := by decide +kernel
theorem dX10_mirrored_39 : decode cX10_mirrored 39 = .ok (.goto 12, 3) := by decide +kernel
theorem dX10_mirrored_42 : decode cX10_mirrored 42 = .ok (.iload_n 0, 1) := by decide +kernel
theorem dX10_mirrored_43 : decode cX10_mirrored 43 = .ok (.iconst 2, 1) := by decide +kernel
theorem dX10_mirrored_44 : decode cX10_mirrored 44 = .ok (.idiv, 1) := by decide +kernel
theorem dX10_mirrored_45 : decode cX10_mirrored 45 = .ok (.iload_n 1, 1) := by decide +kernel
theorem dX10_mirrored_46 : decode cX10_mirrored 46 = .ok (.iconst 2, 1) := by decide +kernel
theorem dX10_mirrored_47 : decode cX10_mirrored 47 = .ok (.idiv, 1) := by decide +kernel
theorem dX10_mirrored_48 : decode cX10_mirrored 48 = .ok (.invokestatic 173, 3) := by decide +kernel
theorem dX10_mirrored_51 : decode cX10_mirrored 51 = .ok (.lreturn, 1) := by decide +kernel
set_option maxRecDepth 20000 in
theorem ggX10_necklaces_X10_in : GoodIn wsX10_necklaces wsX10_in := goodIn_r _ [7] (by decide +kernel) (by decide +kernel)
set_option maxRecDepth 20000 in
theorem gX10_necklaces_X10_in : GoodIn wsX10_necklaces (va_wsS RX10 57 yX10_in wsX10_in) := goodIn_app (goodIn_of _ (by decide +kernel)) ggX10_necklaces_X10_in
set_option maxRecDepth 20000 in
theorem ggX10_necklaces_X10_necklacesOf : GoodIn wsX10_necklaces wsX10_necklacesOf := goodIn_r _ [10, 11, 12, 6, 13, 14, 15, 16] (by decide +kernel) (by decide +kernel)
set_option maxRecDepth 20000 in
theorem gX10_necklaces_X10_necklacesOf : GoodIn wsX10_necklaces (va_wsS RX10 177 yX10_necklacesOf wsX10_necklacesOf) := goodIn_app (goodIn_of _ (by decide +kernel)) ggX10_necklaces_X10_necklacesOf
set_option maxRecDepth 20000 in
theorem ggX10_necklaces_X10_mirrored : GoodIn wsX10_necklaces wsX10_mirrored := goodIn_r _ [19, 14, 15, 6, 16] (by decide +kernel) (by decide +kernel)
set_option maxRecDepth 20000 in
theorem gX10_necklaces_X10_mirrored : GoodIn wsX10_necklaces (va_wsS RX10 180 yX10_mirrored wsX10_mirrored) := goodIn_app (goodIn_of _ (by decide +kernel)) ggX10_necklaces_X10_mirrored
theorem dX10_necklaces_0 : decode cX10_necklaces 0 = .ok (.iload_n 1, 1) := by decide +kernel
theorem dX10_necklaces_1 : decode cX10_necklaces 1 = .ok (.i2l, 1) := by decide +kernel
theorem dX10_necklaces_2 : decode cX10_necklaces 2 = .ok (.lconst 0, 1) := by decide +kernel
theorem dX10_necklaces_3 : decode cX10_necklaces 3 = .ok (.aload_n 0, 1) := by decide +kernel
theorem dX10_necklaces_4 : decode cX10_necklaces 4 = .ok (.getfield 7, 3) := by decide +kernel
theorem dX10_necklaces_7 : decode cX10_necklaces 7 = .ok (.i2l, 1) := by decide +kernel
theorem dX10_necklaces_8 : decode cX10_necklaces 8 = .ok (.invokestatic 57, 3) := by decide +kernel
theorem dX10_necklaces_11 : decode cX10_necklaces 11 = .ok (.ifCond .eq 13, 3) := by decide +kernel
theorem dX10_necklaces_14 : decode cX10_necklaces 14 = .ok (.iload_n 2, 1) := by decide +kernel
theorem dX10_necklaces_15 : decode cX10_necklaces 15 = .ok (.i2l, 1) := by decide +kernel
theorem dX10_necklaces_16 : decode cX10_necklaces 16 = .ok (.lconst 0, 1) := by decide +kernel
theorem dX10_necklaces_17 : decode cX10_necklaces 17 = .ok (.lconst 1, 1) := by decide +kernel
theorem dX10_necklaces_18 : decode cX10_necklaces 18 = .ok (.invokestatic 57, 3) := by decide +kernel
theorem dX10_necklaces_21 : decode cX10_necklaces 21 = .ok (.ifCond .ne 6, 3) := by decide +kernel
theorem dX10_necklaces_24 : decode cX10_necklaces 24 = .ok (.ldc 75, 2) := by decide +kernel
theorem dX10_necklaces_26 : decode cX10_necklaces 26 = .ok (.ireturn, 1) := by decide +kernel
theorem dX10_necklaces_27 : decode cX10_necklaces 27 = .ok (.aload_n 0, 1) := by decide +kernel
theorem dX10_necklaces_28 : decode cX10_necklaces 28 = .ok (.getfield 7, 3) := by decide +kernel
theorem dX10_necklaces_31 : decode cX10_necklaces 31 = .ok (.iload_n 1, 1) := by decide +kernel
theorem dX10_necklaces_32 : decode cX10_necklaces 32 = .ok (.invokestatic 177, 3) := by decide +kernel
theorem dX10_necklaces_35 : decode cX10_necklaces 35 = .ok (.lstore_n 3, 1) := by decide +kernel
theorem dX10_necklaces_36 : decode cX10_necklaces 36 = .ok (.iload_n 2, 1) := by decide +kernel
theorem dX10_necklaces_37 : decode cX10_necklaces 37 = .ok (.ifCond .ne 7, 3) := by decide +kernel
theorem dX10_necklaces_40 : decode cX10_necklaces 40 = .ok (.lload_n 3, 1) := by decide +kernel
theorem dX10_necklaces_41 : decode cX10_necklaces 41 = .ok (.goto 17, 3) := by decide +kernel
theorem dX10_necklaces_44 : decode cX10_necklaces 44 = .ok (.lload_n 3, 1) := by decide +kernel
theorem dX10_necklaces_45 : decode cX10_necklaces 45 = .ok (.aload_n 0, 1) := by decide +kernel
theorem dX10_necklaces_46 : decode cX10_necklaces 46 = .ok (.getfield 7, 3) := by decide +kernel
theorem dX10_necklaces_49 : decode cX10_necklaces 49 = .ok (.iload_n 1, 1) := by decide +kernel
theorem dX10_necklaces_50 : decode cX10_necklaces 50 = .ok (.invokestatic 180, 3) := by decide +kernel
theorem dX10_necklaces_53 : decode cX10_necklaces 53 = .ok (.ladd, 1) := by decide +kernel
theorem dX10_necklaces_54 : decode cX10_necklaces 54 = .ok (.ldc2_w 140, 3) := by decide +kernel
theorem dX10_necklaces_57 : decode cX10_necklaces 57 = .ok (.ldiv, 1) := by decide +kernel
theorem dX10_necklaces_58 : decode cX10_necklaces 58 = .ok (.l2i, 1) := by decide +kernel
theorem dX10_necklaces_59 : decode cX10_necklaces 59 = .ok (.ireturn, 1) := by decide +kernel
set_option maxRecDepth 20000 in
theorem ggX10_struckAt_X10_firstFree : GoodIn wsX10_struckAt wsX10_firstFree := goodIn_r _ [6, 7, 8, 5, 9] (by decide +kernel) (by decide +kernel)
set_option maxRecDepth 20000 in
theorem gX10_struckAt_X10_firstFree : GoodIn wsX10_struckAt (va_wsS RX10 110 yX10_firstFree wsX10_firstFree) := goodIn_app (goodIn_of _ (by decide +kernel)) ggX10_struckAt_X10_firstFree
set_option maxRecDepth 20000 in
theorem ggX10_struckAt_X10_has : GoodIn wsX10_struckAt wsX10_has := goodIn_r _ [9] (by decide +kernel) (by decide +kernel)
set_option maxRecDepth 20000 in
theorem gX10_struckAt_X10_has : GoodIn wsX10_struckAt (va_wsS RX10 65 yX10_has wsX10_has) := goodIn_app (goodIn_of _ (by decide +kernel)) ggX10_struckAt_X10_has
theorem dX10_struckAt_0 : decode cX10_struckAt 0 = .ok (.aload_n 0, 1) := by decide +kernel
theorem dX10_struckAt_1 : decode cX10_struckAt 1 = .ok (.getfield 101, 3) := by decide +kernel
theorem dX10_struckAt_4 : decode cX10_struckAt 4 = .ok (.iconst (-1), 1) := by decide +kernel
theorem dX10_struckAt_5 : decode cX10_struckAt 5 = .ok (.ixor, 1) := by decide +kernel
theorem dX10_struckAt_6 : decode cX10_struckAt 6 = .ok (.invokestatic 110, 3) := by decide +kernel
theorem dX10_struckAt_9 : decode cX10_struckAt 9 = .ok (.istore_n 2, 1) := by decide +kernel
theorem dX10_struckAt_10 : decode cX10_struckAt 10 = .ok (.iload_n 1, 1) := by decide +kernel
theorem dX10_struckAt_11 : decode cX10_struckAt 11 = .ok (.istore_n 3, 1) := by decide +kernel
theorem dX10_struckAt_12 : decode cX10_struckAt 12 = .ok (.iload_n 3, 1) := by decide +kernel
theorem dX10_struckAt_13 : decode cX10_struckAt 13 = .ok (.ifCond .le 41, 3) := by decide +kernel
theorem dX10_struckAt_16 : decode cX10_struckAt 16 = .ok (.iload_n 2, 1) := by decide +kernel
theorem dX10_struckAt_17 : decode cX10_struckAt 17 = .ok (.iconst 1, 1) := by decide +kernel
theorem dX10_struckAt_18 : decode cX10_struckAt 18 = .ok (.iadd, 1) := by decide +kernel
theorem dX10_struckAt_19 : decode cX10_struckAt 19 = .ok (.aload_n 0, 1) := by decide +kernel
theorem dX10_struckAt_20 : decode cX10_struckAt 20 = .ok (.getfield 7, 3) := by decide +kernel
theorem dX10_struckAt_23 : decode cX10_struckAt 23 = .ok (.irem, 1) := by decide +kernel
theorem dX10_struckAt_24 : decode cX10_struckAt 24 = .ok (.istore_n 2, 1) := by decide +kernel
theorem dX10_struckAt_25 : decode cX10_struckAt 25 = .ok (.aload_n 0, 1) := by decide +kernel
theorem dX10_struckAt_26 : decode cX10_struckAt 26 = .ok (.getfield 101, 3) := by decide +kernel
theorem dX10_struckAt_29 : decode cX10_struckAt 29 = .ok (.iload_n 2, 1) := by decide +kernel
theorem dX10_struckAt_30 : decode cX10_struckAt 30 = .ok (.invokestatic 65, 3) := by decide +kernel
theorem dX10_struckAt_33 : decode cX10_struckAt 33 = .ok (.ifCond .ne 15, 3) := by decide +kernel
theorem dX10_struckAt_36 : decode cX10_struckAt 36 = .ok (.iload_n 2, 1) := by decide +kernel
theorem dX10_struckAt_37 : decode cX10_struckAt 37 = .ok (.iconst 1, 1) := by decide +kernel
theorem dX10_struckAt_38 : decode cX10_struckAt 38 = .ok (.iadd, 1) := by decide +kernel
theorem dX10_struckAt_39 : decode cX10_struckAt 39 = .ok (.aload_n 0, 1) := by decide +kernel
theorem dX10_struckAt_40 : decode cX10_struckAt 40 = .ok (.getfield 7, 3) := by decide +kernel
theorem dX10_struckAt_43 : decode cX10_struckAt 43 = .ok (.irem, 1) := by decide +kernel
theorem dX10_struckAt_44 : decode cX10_struckAt 44 = .ok (.istore_n 2, 1) := by decide +kernel
theorem dX10_struckAt_45 : decode cX10_struckAt 45 = .ok (.goto (-20), 3) := by decide +kernel
theorem dX10_struckAt_48 : decode cX10_struckAt 48 = .ok (.iinc 3 (-1), 3) := by decide +kernel
theorem dX10_struckAt_51 : decode cX10_struckAt 51 = .ok (.goto (-39), 3) := by decide +kernel
theorem dX10_struckAt_54 : decode cX10_struckAt 54 = .ok (.iload_n 2, 1) := by decide +kernel
theorem dX10_struckAt_55 : decode cX10_struckAt 55 = .ok (.ireturn, 1) := by decide +kernel
set_option maxRecDepth 20000 in
theorem ggX10_gapAt_X10_struckAt : GoodIn wsX10_gapAt wsX10_struckAt := goodIn_r _ [6, 7, 1, 8, 9, 5, 10, 11, 12, 13, 14, 15, 16, 17, 18, 19, 20, 21, 22, 23, 24, 25, 26, 27, 28, 29, 30, 31, 32, 33, 34, 35, 36, 37, 38, 39, 40] (by decide +kernel) (by decide +kernel)
set_option maxRecDepth 20000 in
theorem gX10_gapAt_X10_struckAt : GoodIn wsX10_gapAt (wsV RX10 183 RX10 yX10_struckAt wsX10_struckAt) := goodIn_app (goodIn_of _ (by decide +kernel)) ggX10_gapAt_X10_struckAt
theorem dX10_gapAt_0 : decode cX10_gapAt 0 = .ok (.aload_n 0, 1) := by decide +kernel
theorem dX10_gapAt_1 : decode cX10_gapAt 1 = .ok (.iload_n 1, 1) := by decide +kernel
theorem dX10_gapAt_2 : decode cX10_gapAt 2 = .ok (.iconst 1, 1) := by decide +kernel
theorem dX10_gapAt_3 : decode cX10_gapAt 3 = .ok (.iadd, 1) := by decide +kernel
theorem dX10_gapAt_4 : decode cX10_gapAt 4 = .ok (.invokevirtual 183, 3) := by decide +kernel
theorem dX10_gapAt_7 : decode cX10_gapAt 7 = .ok (.aload_n 0, 1) := by decide +kernel
theorem dX10_gapAt_8 : decode cX10_gapAt 8 = .ok (.iload_n 1, 1) := by decide +kernel
theorem dX10_gapAt_9 : decode cX10_gapAt 9 = .ok (.invokevirtual 183, 3) := by decide +kernel
theorem dX10_gapAt_12 : decode cX10_gapAt 12 = .ok (.isub, 1) := by decide +kernel
theorem dX10_gapAt_13 : decode cX10_gapAt 13 = .ok (.istore_n 2, 1) := by decide +kernel
theorem dX10_gapAt_14 : decode cX10_gapAt 14 = .ok (.iload_n 2, 1) := by decide +kernel
theorem dX10_gapAt_15 : decode cX10_gapAt 15 = .ok (.ifCond .le 7, 3) := by decide +kernel
theorem dX10_gapAt_18 : decode cX10_gapAt 18 = .ok (.iload_n 2, 1) := by decide +kernel
theorem dX10_gapAt_19 : decode cX10_gapAt 19 = .ok (.goto 9, 3) := by decide +kernel
theorem dX10_gapAt_22 : decode cX10_gapAt 22 = .ok (.iload_n 2, 1) := by decide +kernel
theorem dX10_gapAt_23 : decode cX10_gapAt 23 = .ok (.aload_n 0, 1) := by decide +kernel
theorem dX10_gapAt_24 : decode cX10_gapAt 24 = .ok (.getfield 7, 3) := by decide +kernel
theorem dX10_gapAt_27 : decode cX10_gapAt 27 = .ok (.iadd, 1) := by decide +kernel
theorem dX10_gapAt_28 : decode cX10_gapAt 28 = .ok (.ireturn, 1) := by decide +kernel
set_option maxRecDepth 20000 in
theorem ggX10_gap_X10_bits : GoodIn wsX10_gap wsX10_bits := goodIn_r _ [5] (by decide +kernel) (by decide +kernel)
set_option maxRecDepth 20000 in
theorem gX10_gap_X10_bits : GoodIn wsX10_gap (va_wsS RX10 107 yX10_bits wsX10_bits) := goodIn_app (goodIn_of _ (by decide +kernel)) ggX10_gap_X10_bits
set_option maxRecDepth 20000 in
theorem ggX10_gap_X10_in : GoodIn wsX10_gap wsX10_in := goodIn_r _ [8] (by decide +kernel) (by decide +kernel)
set_option maxRecDepth 20000 in
theorem gX10_gap_X10_in : GoodIn wsX10_gap (va_wsS RX10 57 yX10_in wsX10_in) := goodIn_app (goodIn_of _ (by decide +kernel)) ggX10_gap_X10_in
set_option maxRecDepth 20000 in
theorem ggX10_gap_X10_gapAt : GoodIn wsX10_gap wsX10_gapAt := goodIn_r _ [12, 13, 14, 15, 16, 4, 17, 1, 18, 19, 20, 21, 22, 23, 24, 25, 26, 27, 28, 29, 30, 31, 32, 33, 34, 35, 36, 37, 38, 39, 40, 41, 42, 43, 44, 45, 46, 47, 48, 49, 50] (by decide +kernel) (by decide +kernel)
set_option maxRecDepth 20000 in
theorem gX10_gap_X10_gapAt : GoodIn wsX10_gap (wsV RX10 186 RX10 yX10_gapAt wsX10_gapAt) := goodIn_app (goodIn_of _ (by decide +kernel)) ggX10_gap_X10_gapAt
theorem dX10_gap_0 : decode cX10_gap 0 = .ok (.iload_n 1, 1) := by decide +kernel
theorem dX10_gap_1 : decode cX10_gap 1 = .ok (.i2l, 1) := by decide +kernel
theorem dX10_gap_2 : decode cX10_gap 2 = .ok (.lconst 0, 1) := by decide +kernel
theorem dX10_gap_3 : decode cX10_gap 3 = .ok (.aload_n 0, 1) := by decide +kernel
theorem dX10_gap_4 : decode cX10_gap 4 = .ok (.getfield 101, 3) := by decide +kernel
theorem dX10_gap_7 : decode cX10_gap 7 = .ok (.invokestatic 107, 3) := by decide +kernel
theorem dX10_gap_10 : decode cX10_gap 10 = .ok (.iconst 1, 1) := by decide +kernel
theorem dX10_gap_11 : decode cX10_gap 11 = .ok (.isub, 1) := by decide +kernel
theorem dX10_gap_12 : decode cX10_gap 12 = .ok (.i2l, 1) := by decide +kernel
theorem dX10_gap_13 : decode cX10_gap 13 = .ok (.invokestatic 57, 3) := by decide +kernel
theorem dX10_gap_16 : decode cX10_gap 16 = .ok (.ifCond .eq 11, 3) := by decide +kernel
theorem dX10_gap_19 : decode cX10_gap 19 = .ok (.aload_n 0, 1) := by decide +kernel
theorem dX10_gap_20 : decode cX10_gap 20 = .ok (.iload_n 1, 1) := by decide +kernel
theorem dX10_gap_21 : decode cX10_gap 21 = .ok (.invokevirtual 186, 3) := by decide +kernel
theorem dX10_gap_24 : decode cX10_gap 24 = .ok (.goto 4, 3) := by decide +kernel
theorem dX10_gap_27 : decode cX10_gap 27 = .ok (.iconst (-1), 1) := by decide +kernel
theorem dX10_gap_28 : decode cX10_gap 28 = .ok (.ireturn, 1) := by decide +kernel
set_option maxRecDepth 20000 in
theorem ggX10_widest_X10_bits : GoodIn wsX10_widest wsX10_bits := goodIn_r _ [5] (by decide +kernel) (by decide +kernel)
set_option maxRecDepth 20000 in
theorem gX10_widest_X10_bits : GoodIn wsX10_widest (va_wsS RX10 107 yX10_bits wsX10_bits) := goodIn_app (goodIn_of _ (by decide +kernel)) ggX10_widest_X10_bits
set_option maxRecDepth 20000 in
theorem ggX10_widest_X10_gapAt : GoodIn wsX10_widest wsX10_gapAt := goodIn_r _ [9, 10, 11, 12, 13, 4, 14, 1, 15, 16, 17, 18, 19, 20, 21, 22, 23, 24, 25, 26, 27, 28, 29, 30, 31, 32, 33, 34, 35, 36, 37, 38, 39, 40, 41, 42, 43, 44, 45, 46, 47] (by decide +kernel) (by decide +kernel)
set_option maxRecDepth 20000 in
theorem gX10_widest_X10_gapAt : GoodIn wsX10_widest (wsV RX10 186 RX10 yX10_gapAt wsX10_gapAt) := goodIn_app (goodIn_of _ (by decide +kernel)) ggX10_widest_X10_gapAt
theorem dX10_widest_0 : decode cX10_widest 0 = .ok (.iconst (-1), 1) := by decide +kernel
theorem dX10_widest_1 : decode cX10_widest 1 = .ok (.istore_n 2, 1) := by decide +kernel
theorem dX10_widest_2 : decode cX10_widest 2 = .ok (.iconst 0, 1) := by decide +kernel
theorem dX10_widest_3 : decode cX10_widest 3 = .ok (.istore_n 3, 1) := by decide +kernel
theorem dX10_widest_4 : decode cX10_widest 4 = .ok (.iload_n 3, 1) := by decide +kernel
theorem dX10_widest_5 : decode cX10_widest 5 = .ok (.aload_n 0, 1) := by decide +kernel
theorem dX10_widest_6 : decode cX10_widest 6 = .ok (.getfield 101, 3) := by decide +kernel
theorem dX10_widest_9 : decode cX10_widest 9 = .ok (.invokestatic 107, 3) := by decide +kernel
theorem dX10_widest_12 : decode cX10_widest 12 = .ok (.if_icmp .ge 59, 3) := by decide +kernel
theorem dX10_widest_15 : decode cX10_widest 15 = .ok (.aload_n 0, 1) := by decide +kernel
theorem dX10_widest_16 : decode cX10_widest 16 = .ok (.iload_n 3, 1) := by decide +kernel
theorem dX10_widest_17 : decode cX10_widest 17 = .ok (.invokevirtual 186, 3) := by decide +kernel
theorem dX10_widest_20 : decode cX10_widest 20 = .ok (.istore 4, 2) := by decide +kernel
theorem dX10_widest_22 : decode cX10_widest 22 = .ok (.iload_n 2, 1) := by decide +kernel
theorem dX10_widest_23 : decode cX10_widest 23 = .ok (.iconst (-1), 1) := by decide +kernel
theorem dX10_widest_24 : decode cX10_widest 24 = .ok (.if_icmp .eq 22, 3) := by decide +kernel
theorem dX10_widest_27 : decode cX10_widest 27 = .ok (.iload_n 1, 1) := by decide +kernel
theorem dX10_widest_28 : decode cX10_widest 28 = .ok (.ifCond .eq 12, 3) := by decide +kernel
theorem dX10_widest_31 : decode cX10_widest 31 = .ok (.iload 4, 2) := by decide +kernel
theorem dX10_widest_33 : decode cX10_widest 33 = .ok (.iload_n 2, 1) := by decide +kernel
theorem dX10_widest_34 : decode cX10_widest 34 = .ok (.if_icmp .ge 16, 3) := by decide +kernel
theorem dX10_widest_37 : decode cX10_widest 37 = .ok (.goto 9, 3) := by decide +kernel
theorem dX10_widest_40 : decode cX10_widest 40 = .ok (.iload 4, 2) := by decide +kernel
theorem dX10_widest_42 : decode cX10_widest 42 = .ok (.iload_n 2, 1) := by decide +kernel
theorem dX10_widest_43 : decode cX10_widest 43 = .ok (.if_icmp .le 7, 3) := by decide +kernel
theorem dX10_widest_46 : decode cX10_widest 46 = .ok (.iconst 1, 1) := by decide +kernel
theorem dX10_widest_47 : decode cX10_widest 47 = .ok (.goto 4, 3) := by decide +kernel
theorem dX10_widest_50 : decode cX10_widest 50 = .ok (.iconst 0, 1) := by decide +kernel
theorem dX10_widest_51 : decode cX10_widest 51 = .ok (.istore 5, 2) := by decide +kernel
theorem dX10_widest_53 : decode cX10_widest 53 = .ok (.iload 5, 2) := by decide +kernel
theorem dX10_widest_55 : decode cX10_widest 55 = .ok (.ifCond .eq 8, 3) := by decide +kernel
theorem dX10_widest_58 : decode cX10_widest 58 = .ok (.iload 4, 2) := by decide +kernel
theorem dX10_widest_60 : decode cX10_widest 60 = .ok (.goto 4, 3) := by decide +kernel
theorem dX10_widest_63 : decode cX10_widest 63 = .ok (.iload_n 2, 1) := by decide +kernel
theorem dX10_widest_64 : decode cX10_widest 64 = .ok (.istore_n 2, 1) := by decide +kernel
theorem dX10_widest_65 : decode cX10_widest 65 = .ok (.iinc 3 1, 3) := by decide +kernel
theorem dX10_widest_68 : decode cX10_widest 68 = .ok (.goto (-64), 3) := by decide +kernel
theorem dX10_widest_71 : decode cX10_widest 71 = .ok (.iload_n 2, 1) := by decide +kernel
theorem dX10_widest_72 : decode cX10_widest 72 = .ok (.ireturn, 1) := by decide +kernel
set_option maxRecDepth 20000 in
theorem ggX10_shared_X10_in : GoodIn wsX10_shared wsX10_in := goodIn_r _ [8] (by decide +kernel) (by decide +kernel)
set_option maxRecDepth 20000 in
theorem gX10_shared_X10_in : GoodIn wsX10_shared (va_wsS RX10 57 yX10_in wsX10_in) := goodIn_app (goodIn_of _ (by decide +kernel)) ggX10_shared_X10_in
set_option maxRecDepth 20000 in
theorem ggX10_shared_X10_moved : GoodIn wsX10_shared wsX10_moved := goodIn_r _ [11, 12, 13, 7, 14] (by decide +kernel) (by decide +kernel)
set_option maxRecDepth 20000 in
theorem gX10_shared_X10_moved : GoodIn wsX10_shared (va_wsS RX10 69 yX10_moved wsX10_moved) := goodIn_app (goodIn_of _ (by decide +kernel)) ggX10_shared_X10_moved
set_option maxRecDepth 20000 in
theorem ggX10_shared_X10_bits : GoodIn wsX10_shared wsX10_bits := goodIn_r _ [17] (by decide +kernel) (by decide +kernel)
set_option maxRecDepth 20000 in
theorem gX10_shared_X10_bits : GoodIn wsX10_shared (va_wsS RX10 107 yX10_bits wsX10_bits) := goodIn_app (goodIn_of _ (by decide +kernel)) ggX10_shared_X10_bits
theorem dX10_shared_0 : decode cX10_shared 0 = .ok (.iload_n 1, 1) := by decide +kernel
theorem dX10_shared_1 : decode cX10_shared 1 = .ok (.i2l, 1) := by decide +kernel
theorem dX10_shared_2 : decode cX10_shared 2 = .ok (.lconst 0, 1) := by decide +kernel
theorem dX10_shared_3 : decode cX10_shared 3 = .ok (.ldc2_w 189, 3) := by decide +kernel
theorem dX10_shared_6 : decode cX10_shared 6 = .ok (.invokestatic 57, 3) := by decide +kernel
theorem dX10_shared_9 : decode cX10_shared 9 = .ok (.ifCond .eq 26, 3) := by decide +kernel
theorem dX10_shared_12 : decode cX10_shared 12 = .ok (.aload_n 0, 1) := by decide +kernel
theorem dX10_shared_13 : decode cX10_shared 13 = .ok (.getfield 101, 3) := by decide +kernel
theorem dX10_shared_16 : decode cX10_shared 16 = .ok (.aload_n 0, 1) := by decide +kernel
theorem dX10_shared_17 : decode cX10_shared 17 = .ok (.getfield 101, 3) := by decide +kernel
theorem dX10_shared_20 : decode cX10_shared 20 = .ok (.iload_n 1, 1) := by decide +kernel
theorem dX10_shared_21 : decode cX10_shared 21 = .ok (.aload_n 0, 1) := by decide +kernel
theorem dX10_shared_22 : decode cX10_shared 22 = .ok (.getfield 7, 3) := by decide +kernel
theorem dX10_shared_25 : decode cX10_shared 25 = .ok (.invokestatic 69, 3) := by decide +kernel
theorem dX10_shared_28 : decode cX10_shared 28 = .ok (.iand, 1) := by decide +kernel
theorem dX10_shared_29 : decode cX10_shared 29 = .ok (.invokestatic 107, 3) := by decide +kernel
theorem dX10_shared_32 : decode cX10_shared 32 = .ok (.goto 5, 3) := by decide +kernel
theorem dX10_shared_35 : decode cX10_shared 35 = .ok (.ldc 75, 2) := by decide +kernel
theorem dX10_shared_37 : decode cX10_shared 37 = .ok (.ireturn, 1) := by decide +kernel
set_option maxRecDepth 20000 in
theorem ggX10_kin_X10_in : GoodIn wsX10_kin wsX10_in := goodIn_r _ [11] (by decide +kernel) (by decide +kernel)
set_option maxRecDepth 20000 in
theorem gX10_kin_X10_in : GoodIn wsX10_kin (va_wsS RX10 57 yX10_in wsX10_in) := goodIn_app (goodIn_of _ (by decide +kernel)) ggX10_kin_X10_in
set_option maxRecDepth 20000 in
theorem ggX10_kin_X10_full : GoodIn wsX10_kin wsX10_full := goodIn_r _ [14] (by decide +kernel) (by decide +kernel)
set_option maxRecDepth 20000 in
theorem gX10_kin_X10_full : GoodIn wsX10_kin (va_wsS RX10 61 yX10_full wsX10_full) := goodIn_app (goodIn_of _ (by decide +kernel)) ggX10_kin_X10_full
set_option maxRecDepth 20000 in
theorem ggX10_kin_X10_isMoved : GoodIn wsX10_kin wsX10_isMoved := goodIn_r _ [17, 18, 19, 10, 20, 12, 13, 14] (by decide +kernel) (by decide +kernel)
set_option maxRecDepth 20000 in
theorem gX10_kin_X10_isMoved : GoodIn wsX10_kin (va_wsS RX10 192 yX10_isMoved wsX10_isMoved) := goodIn_app (goodIn_of _ (by decide +kernel)) ggX10_kin_X10_isMoved
set_option maxRecDepth 20000 in
theorem ggX10_kin_X10_behindOf : GoodIn wsX10_kin wsX10_behindOf := goodIn_r _ [23, 24, 25, 10, 26] (by decide +kernel) (by decide +kernel)
set_option maxRecDepth 20000 in
theorem gX10_kin_X10_behindOf : GoodIn wsX10_kin (va_wsS RX10 196 yX10_behindOf wsX10_behindOf) := goodIn_app (goodIn_of _ (by decide +kernel)) ggX10_kin_X10_behindOf
theorem dX10_kin_0 : decode cX10_kin 0 = .ok (.iload_n 1, 1) := by decide +kernel
theorem dX10_kin_1 : decode cX10_kin 1 = .ok (.i2l, 1) := by decide +kernel
theorem dX10_kin_2 : decode cX10_kin 2 = .ok (.lconst 0, 1) := by decide +kernel
theorem dX10_kin_3 : decode cX10_kin 3 = .ok (.lconst 1, 1) := by decide +kernel
theorem dX10_kin_4 : decode cX10_kin 4 = .ok (.invokestatic 57, 3) := by decide +kernel
theorem dX10_kin_7 : decode cX10_kin 7 = .ok (.ifCond .ne 6, 3) := by decide +kernel
theorem dX10_kin_10 : decode cX10_kin 10 = .ok (.ldc 139, 2) := by decide +kernel
theorem dX10_kin_12 : decode cX10_kin 12 = .ok (.ireturn, 1) := by decide +kernel
theorem dX10_kin_13 : decode cX10_kin 13 = .ok (.aload_n 0, 1) := by decide +kernel
theorem dX10_kin_14 : decode cX10_kin 14 = .ok (.getfield 29, 3) := by decide +kernel
theorem dX10_kin_17 : decode cX10_kin 17 = .ok (.iload_n 1, 1) := by decide +kernel
theorem dX10_kin_18 : decode cX10_kin 18 = .ok (.baload, 1) := by decide +kernel
theorem dX10_kin_19 : decode cX10_kin 19 = .ok (.ifCond .eq 16, 3) := by decide +kernel
theorem dX10_kin_22 : decode cX10_kin 22 = .ok (.aload_n 0, 1) := by decide +kernel
theorem dX10_kin_23 : decode cX10_kin 23 = .ok (.getfield 20, 3) := by decide +kernel
theorem dX10_kin_26 : decode cX10_kin 26 = .ok (.iload_n 1, 1) := by decide +kernel
theorem dX10_kin_27 : decode cX10_kin 27 = .ok (.iaload, 1) := by decide +kernel
theorem dX10_kin_28 : decode cX10_kin 28 = .ok (.aload_n 0, 1) := by decide +kernel
theorem dX10_kin_29 : decode cX10_kin 29 = .ok (.getfield 7, 3) := by decide +kernel
theorem dX10_kin_32 : decode cX10_kin 32 = .ok (.if_icmp .eq 6, 3) := by decide +kernel
theorem dX10_kin_35 : decode cX10_kin 35 = .ok (.ldc 191, 2) := by decide +kernel
theorem dX10_kin_37 : decode cX10_kin 37 = .ok (.ireturn, 1) := by decide +kernel
theorem dX10_kin_38 : decode cX10_kin 38 = .ok (.aload_n 0, 1) := by decide +kernel
theorem dX10_kin_39 : decode cX10_kin 39 = .ok (.getfield 23, 3) := by decide +kernel
theorem dX10_kin_42 : decode cX10_kin 42 = .ok (.iload_n 1, 1) := by decide +kernel
theorem dX10_kin_43 : decode cX10_kin 43 = .ok (.iaload, 1) := by decide +kernel
theorem dX10_kin_44 : decode cX10_kin 44 = .ok (.istore_n 2, 1) := by decide +kernel
theorem dX10_kin_45 : decode cX10_kin 45 = .ok (.aload_n 0, 1) := by decide +kernel
theorem dX10_kin_46 : decode cX10_kin 46 = .ok (.getfield 101, 3) := by decide +kernel
theorem dX10_kin_49 : decode cX10_kin 49 = .ok (.aload_n 0, 1) := by decide +kernel
theorem dX10_kin_50 : decode cX10_kin 50 = .ok (.getfield 7, 3) := by decide +kernel
theorem dX10_kin_53 : decode cX10_kin 53 = .ok (.invokestatic 61, 3) := by decide +kernel
theorem dX10_kin_56 : decode cX10_kin 56 = .ok (.ixor, 1) := by decide +kernel
theorem dX10_kin_57 : decode cX10_kin 57 = .ok (.istore_n 3, 1) := by decide +kernel
theorem dX10_kin_58 : decode cX10_kin 58 = .ok (.aload_n 0, 1) := by decide +kernel
theorem dX10_kin_59 : decode cX10_kin 59 = .ok (.getfield 101, 3) := by decide +kernel
theorem dX10_kin_62 : decode cX10_kin 62 = .ok (.iload_n 2, 1) := by decide +kernel
theorem dX10_kin_63 : decode cX10_kin 63 = .ok (.aload_n 0, 1) := by decide +kernel
theorem dX10_kin_64 : decode cX10_kin 64 = .ok (.getfield 7, 3) := by decide +kernel
theorem dX10_kin_67 : decode cX10_kin 67 = .ok (.invokestatic 192, 3) := by decide +kernel
theorem dX10_kin_70 : decode cX10_kin 70 = .ok (.ifCond .eq 7, 3) := by decide +kernel
theorem dX10_kin_73 : decode cX10_kin 73 = .ok (.iconst 1, 1) := by decide +kernel
theorem dX10_kin_74 : decode cX10_kin 74 = .ok (.goto 4, 3) := by decide +kernel
theorem dX10_kin_77 : decode cX10_kin 77 = .ok (.iconst 0, 1) := by decide +kernel
theorem dX10_kin_78 : decode cX10_kin 78 = .ok (.istore 4, 2) := by decide +kernel
theorem dX10_kin_80 : decode cX10_kin 80 = .ok (.iload 4, 2) := by decide +kernel
theorem dX10_kin_82 : decode cX10_kin 82 = .ok (.aload_n 0, 1) := by decide +kernel
theorem dX10_kin_83 : decode cX10_kin 83 = .ok (.getfield 101, 3) := by decide +kernel
theorem dX10_kin_86 : decode cX10_kin 86 = .ok (.aload_n 0, 1) := by decide +kernel
theorem dX10_kin_87 : decode cX10_kin 87 = .ok (.getfield 7, 3) := by decide +kernel
theorem dX10_kin_90 : decode cX10_kin 90 = .ok (.invokestatic 196, 3) := by decide +kernel
theorem dX10_kin_93 : decode cX10_kin 93 = .ok (.iload_n 2, 1) := by decide +kernel
theorem dX10_kin_94 : decode cX10_kin 94 = .ok (.aload_n 0, 1) := by decide +kernel
theorem dX10_kin_95 : decode cX10_kin 95 = .ok (.getfield 7, 3) := by decide +kernel
theorem dX10_kin_98 : decode cX10_kin 98 = .ok (.invokestatic 192, 3) := by decide +kernel
theorem dX10_kin_101 : decode cX10_kin 101 = .ok (.ifCond .eq 7, 3) := by decide +kernel
theorem dX10_kin_104 : decode cX10_kin 104 = .ok (.iconst 2, 1) := by decide +kernel
theorem dX10_kin_105 : decode cX10_kin 105 = .ok (.goto 4, 3) := by decide +kernel
theorem dX10_kin_108 : decode cX10_kin 108 = .ok (.iconst 0, 1) := by decide +kernel
theorem dX10_kin_109 : decode cX10_kin 109 = .ok (.iadd, 1) := by decide +kernel
theorem dX10_kin_110 : decode cX10_kin 110 = .ok (.istore 4, 2) := by decide +kernel
theorem dX10_kin_112 : decode cX10_kin 112 = .ok (.iload 4, 2) := by decide +kernel
theorem dX10_kin_114 : decode cX10_kin 114 = .ok (.iload_n 3, 1) := by decide +kernel
theorem dX10_kin_115 : decode cX10_kin 115 = .ok (.iload_n 2, 1) := by decide +kernel
theorem dX10_kin_116 : decode cX10_kin 116 = .ok (.aload_n 0, 1) := by decide +kernel
theorem dX10_kin_117 : decode cX10_kin 117 = .ok (.getfield 7, 3) := by decide +kernel
theorem dX10_kin_120 : decode cX10_kin 120 = .ok (.invokestatic 192, 3) := by decide +kernel
theorem dX10_kin_123 : decode cX10_kin 123 = .ok (.ifCond .eq 7, 3) := by decide +kernel
theorem dX10_kin_126 : decode cX10_kin 126 = .ok (.iconst 4, 1) := by decide +kernel
theorem dX10_kin_127 : decode cX10_kin 127 = .ok (.goto 4, 3) := by decide +kernel
theorem dX10_kin_130 : decode cX10_kin 130 = .ok (.iconst 0, 1) := by decide +kernel
theorem dX10_kin_131 : decode cX10_kin 131 = .ok (.iadd, 1) := by decide +kernel
theorem dX10_kin_132 : decode cX10_kin 132 = .ok (.istore 4, 2) := by decide +kernel
theorem dX10_kin_134 : decode cX10_kin 134 = .ok (.iload 4, 2) := by decide +kernel
theorem dX10_kin_136 : decode cX10_kin 136 = .ok (.iload_n 3, 1) := by decide +kernel
theorem dX10_kin_137 : decode cX10_kin 137 = .ok (.aload_n 0, 1) := by decide +kernel
theorem dX10_kin_138 : decode cX10_kin 138 = .ok (.getfield 7, 3) := by decide +kernel
theorem dX10_kin_141 : decode cX10_kin 141 = .ok (.invokestatic 196, 3) := by decide +kernel
theorem dX10_kin_144 : decode cX10_kin 144 = .ok (.iload_n 2, 1) := by decide +kernel
theorem dX10_kin_145 : decode cX10_kin 145 = .ok (.aload_n 0, 1) := by decide +kernel
theorem dX10_kin_146 : decode cX10_kin 146 = .ok (.getfield 7, 3) := by decide +kernel
theorem dX10_kin_149 : decode cX10_kin 149 = .ok (.invokestatic 192, 3) := by decide +kernel
theorem dX10_kin_152 : decode cX10_kin 152 = .ok (.ifCond .eq 8, 3) := by decide +kernel
theorem dX10_kin_155 : decode cX10_kin 155 = .ok (.bipush 8, 2) := by decide +kernel
theorem dX10_kin_157 : decode cX10_kin 157 = .ok (.goto 4, 3) := by decide +kernel
theorem dX10_kin_160 : decode cX10_kin 160 = .ok (.iconst 0, 1) := by decide +kernel
theorem dX10_kin_161 : decode cX10_kin 161 = .ok (.iadd, 1) := by decide +kernel
theorem dX10_kin_162 : decode cX10_kin 162 = .ok (.ireturn, 1) := by decide +kernel
set_option maxRecDepth 20000 in
theorem ggX10_steady_X10_in : GoodIn wsX10_steady wsX10_in := goodIn_r _ [8] (by decide +kernel) (by decide +kernel)
set_option maxRecDepth 20000 in
theorem gX10_steady_X10_in : GoodIn wsX10_steady (va_wsS RX10 57 yX10_in wsX10_in) := goodIn_app (goodIn_of _ (by decide +kernel)) ggX10_steady_X10_in
theorem dX10_steady_0 : decode cX10_steady 0 = .ok (.iload_n 1, 1) := by decide +kernel
theorem dX10_steady_1 : decode cX10_steady 1 = .ok (.i2l, 1) := by decide +kernel
theorem dX10_steady_2 : decode cX10_steady 2 = .ok (.lconst 0, 1) := by decide +kernel
theorem dX10_steady_3 : decode cX10_steady 3 = .ok (.ldc2_w 199, 3) := by decide +kernel
theorem dX10_steady_6 : decode cX10_steady 6 = .ok (.invokestatic 57, 3) := by decide +kernel
theorem dX10_steady_9 : decode cX10_steady 9 = .ok (.ifCond .eq 15, 3) := by decide +kernel
theorem dX10_steady_12 : decode cX10_steady 12 = .ok (.iload_n 2, 1) := by decide +kernel
theorem dX10_steady_13 : decode cX10_steady 13 = .ok (.i2l, 1) := by decide +kernel
theorem dX10_steady_14 : decode cX10_steady 14 = .ok (.lconst 0, 1) := by decide +kernel
theorem dX10_steady_15 : decode cX10_steady 15 = .ok (.ldc2_w 201, 3) := by decide +kernel
theorem dX10_steady_18 : decode cX10_steady 18 = .ok (.invokestatic 57, 3) := by decide +kernel
theorem dX10_steady_21 : decode cX10_steady 21 = .ok (.ifCond .ne 6, 3) := by decide +kernel
theorem dX10_steady_24 : decode cX10_steady 24 = .ok (.ldc 75, 2) := by decide +kernel
theorem dX10_steady_26 : decode cX10_steady 26 = .ok (.ireturn, 1) := by decide +kernel
theorem dX10_steady_27 : decode cX10_steady 27 = .ok (.ldc2_w 203, 3) := by decide +kernel
theorem dX10_steady_30 : decode cX10_steady 30 = .ok (.lstore_n 3, 1) := by decide +kernel
theorem dX10_steady_31 : decode cX10_steady 31 = .ok (.iconst 0, 1) := by decide +kernel
theorem dX10_steady_32 : decode cX10_steady 32 = .ok (.istore 5, 2) := by decide +kernel
theorem dX10_steady_34 : decode cX10_steady 34 = .ok (.iload 5, 2) := by decide +kernel
theorem dX10_steady_36 : decode cX10_steady 36 = .ok (.iload_n 1, 1) := by decide +kernel
theorem dX10_steady_37 : decode cX10_steady 37 = .ok (.if_icmp .ge 18, 3) := by decide +kernel
theorem dX10_steady_40 : decode cX10_steady 40 = .ok (.lload_n 3, 1) := by decide +kernel
theorem dX10_steady_41 : decode cX10_steady 41 = .ok (.iload_n 2, 1) := by decide +kernel
theorem dX10_steady_42 : decode cX10_steady 42 = .ok (.i2l, 1) := by decide +kernel
theorem dX10_steady_43 : decode cX10_steady 43 = .ok (.lmul, 1) := by decide +kernel
theorem dX10_steady_44 : decode cX10_steady 44 = .ok (.ldc2_w 201, 3) := by decide +kernel
theorem dX10_steady_47 : decode cX10_steady 47 = .ok (.ldiv, 1) := by decide +kernel
theorem dX10_steady_48 : decode cX10_steady 48 = .ok (.lstore_n 3, 1) := by decide +kernel
theorem dX10_steady_49 : decode cX10_steady 49 = .ok (.iinc 5 1, 3) := by decide +kernel
theorem dX10_steady_52 : decode cX10_steady 52 = .ok (.goto (-18), 3) := by decide +kernel
theorem dX10_steady_55 : decode cX10_steady 55 = .ok (.lload_n 3, 1) := by decide +kernel
theorem dX10_steady_56 : decode cX10_steady 56 = .ok (.l2i, 1) := by decide +kernel
theorem dX10_steady_57 : decode cX10_steady 57 = .ok (.ireturn, 1) := by decide +kernel
theorem dX10_save_0 : decode cX10_save 0 = .ok (.aload_n 0, 1) := by decide +kernel
theorem dX10_save_1 : decode cX10_save 1 = .ok (.getfield 205, 3) := by decide +kernel
theorem dX10_save_4 : decode cX10_save 4 = .ok (.bipush 30, 2) := by decide +kernel
theorem dX10_save_6 : decode cX10_save 6 = .ok (.if_icmp .ne 55, 3) := by decide +kernel
theorem dX10_save_9 : decode cX10_save 9 = .ok (.iconst 1, 1) := by decide +kernel
theorem dX10_save_10 : decode cX10_save 10 = .ok (.istore_n 1, 1) := by decide +kernel
theorem dX10_save_11 : decode cX10_save 11 = .ok (.iload_n 1, 1) := by decide +kernel
theorem dX10_save_12 : decode cX10_save 12 = .ok (.bipush 30, 2) := by decide +kernel
theorem dX10_save_14 : decode cX10_save 14 = .ok (.if_icmp .ge 37, 3) := by decide +kernel
theorem dX10_save_17 : decode cX10_save 17 = .ok (.aload_n 0, 1) := by decide +kernel
theorem dX10_save_18 : decode cX10_save 18 = .ok (.getfield 13, 3) := by decide +kernel
theorem dX10_save_21 : decode cX10_save 21 = .ok (.iload_n 1, 1) := by decide +kernel
theorem dX10_save_22 : decode cX10_save 22 = .ok (.iconst 1, 1) := by decide +kernel
theorem dX10_save_23 : decode cX10_save 23 = .ok (.isub, 1) := by decide +kernel
theorem dX10_save_24 : decode cX10_save 24 = .ok (.aload_n 0, 1) := by decide +kernel
theorem dX10_save_25 : decode cX10_save 25 = .ok (.getfield 13, 3) := by decide +kernel
theorem dX10_save_28 : decode cX10_save 28 = .ok (.iload_n 1, 1) := by decide +kernel
theorem dX10_save_29 : decode cX10_save 29 = .ok (.iaload, 1) := by decide +kernel
theorem dX10_save_30 : decode cX10_save 30 = .ok (.iastore, 1) := by decide +kernel
theorem dX10_save_31 : decode cX10_save 31 = .ok (.aload_n 0, 1) := by decide +kernel
theorem dX10_save_32 : decode cX10_save 32 = .ok (.getfield 17, 3) := by decide +kernel
theorem dX10_save_35 : decode cX10_save 35 = .ok (.iload_n 1, 1) := by decide +kernel
theorem dX10_save_36 : decode cX10_save 36 = .ok (.iconst 1, 1) := by decide +kernel
theorem dX10_save_37 : decode cX10_save 37 = .ok (.isub, 1) := by decide +kernel
theorem dX10_save_38 : decode cX10_save 38 = .ok (.aload_n 0, 1) := by decide +kernel
theorem dX10_save_39 : decode cX10_save 39 = .ok (.getfield 17, 3) := by decide +kernel
theorem dX10_save_42 : decode cX10_save 42 = .ok (.iload_n 1, 1) := by decide +kernel
theorem dX10_save_43 : decode cX10_save 43 = .ok (.iaload, 1) := by decide +kernel
theorem dX10_save_44 : decode cX10_save 44 = .ok (.iastore, 1) := by decide +kernel
theorem dX10_save_45 : decode cX10_save 45 = .ok (.iinc 1 1, 3) := by decide +kernel
theorem dX10_save_48 : decode cX10_save 48 = .ok (.goto (-37), 3) := by decide +kernel
theorem dX10_save_51 : decode cX10_save 51 = .ok (.aload_n 0, 1) := by decide +kernel
theorem dX10_save_52 : decode cX10_save 52 = .ok (.dup, 1) := by decide +kernel
theorem dX10_save_53 : decode cX10_save 53 = .ok (.getfield 205, 3) := by decide +kernel
theorem dX10_save_56 : decode cX10_save 56 = .ok (.iconst 1, 1) := by decide +kernel
theorem dX10_save_57 : decode cX10_save 57 = .ok (.isub, 1) := by decide +kernel
theorem dX10_save_58 : decode cX10_save 58 = .ok (.putfield 205, 3) := by decide +kernel
theorem dX10_save_61 : decode cX10_save 61 = .ok (.aload_n 0, 1) := by decide +kernel
theorem dX10_save_62 : decode cX10_save 62 = .ok (.getfield 13, 3) := by decide +kernel
theorem dX10_save_65 : decode cX10_save 65 = .ok (.aload_n 0, 1) := by decide +kernel
theorem dX10_save_66 : decode cX10_save 66 = .ok (.getfield 205, 3) := by decide +kernel
theorem dX10_save_69 : decode cX10_save 69 = .ok (.aload_n 0, 1) := by decide +kernel
theorem dX10_save_70 : decode cX10_save 70 = .ok (.getfield 7, 3) := by decide +kernel
theorem dX10_save_73 : decode cX10_save 73 = .ok (.iastore, 1) := by decide +kernel
theorem dX10_save_74 : decode cX10_save 74 = .ok (.aload_n 0, 1) := by decide +kernel
theorem dX10_save_75 : decode cX10_save 75 = .ok (.getfield 17, 3) := by decide +kernel
theorem dX10_save_78 : decode cX10_save 78 = .ok (.aload_n 0, 1) := by decide +kernel
theorem dX10_save_79 : decode cX10_save 79 = .ok (.getfield 205, 3) := by decide +kernel
theorem dX10_save_82 : decode cX10_save 82 = .ok (.aload_n 0, 1) := by decide +kernel
theorem dX10_save_83 : decode cX10_save 83 = .ok (.getfield 101, 3) := by decide +kernel
theorem dX10_save_86 : decode cX10_save 86 = .ok (.iastore, 1) := by decide +kernel
theorem dX10_save_87 : decode cX10_save 87 = .ok (.aload_n 0, 1) := by decide +kernel
theorem dX10_save_88 : decode cX10_save 88 = .ok (.dup, 1) := by decide +kernel
theorem dX10_save_89 : decode cX10_save 89 = .ok (.getfield 205, 3) := by decide +kernel
theorem dX10_save_92 : decode cX10_save 92 = .ok (.iconst 1, 1) := by decide +kernel
theorem dX10_save_93 : decode cX10_save 93 = .ok (.iadd, 1) := by decide +kernel
theorem dX10_save_94 : decode cX10_save 94 = .ok (.putfield 205, 3) := by decide +kernel
theorem dX10_save_97 : decode cX10_save 97 = .ok (.return_, 1) := by decide +kernel
set_option maxRecDepth 20000 in
theorem ggX10_becomes_X10_save : GoodIn wsX10_becomes wsX10_save := goodIn_r _ [6, 7, 8, 9, 10, 1, 11, 12, 13, 14, 15, 16, 17, 18, 19, 20, 21, 22, 23, 24, 25, 26, 27, 28, 29, 30, 31, 32, 33, 34, 35, 36, 37] (by decide +kernel) (by decide +kernel)
set_option maxRecDepth 20000 in
theorem gX10_becomes_X10_save : GoodIn wsX10_becomes (wsV RX10 98 RX10 yX10_save wsX10_save) := goodIn_app (goodIn_of _ (by decide +kernel)) ggX10_becomes_X10_save
theorem dX10_becomes_0 : decode cX10_becomes 0 = .ok (.aload_n 0, 1) := by decide +kernel
theorem dX10_becomes_1 : decode cX10_becomes 1 = .ok (.invokevirtual 98, 3) := by decide +kernel
theorem dX10_becomes_4 : decode cX10_becomes 4 = .ok (.aload_n 0, 1) := by decide +kernel
theorem dX10_becomes_5 : decode cX10_becomes 5 = .ok (.iload_n 1, 1) := by decide +kernel
theorem dX10_becomes_6 : decode cX10_becomes 6 = .ok (.putfield 101, 3) := by decide +kernel
theorem dX10_becomes_9 : decode cX10_becomes 9 = .ok (.iload_n 1, 1) := by decide +kernel
theorem dX10_becomes_10 : decode cX10_becomes 10 = .ok (.ireturn, 1) := by decide +kernel
set_option maxRecDepth 20000 in
theorem ggX10_strike_X10_isBeat : GoodIn wsX10_strike wsX10_isBeat := goodIn_r _ [7, 8, 9, 10, 6, 11, 26, 27, 28, 29, 30, 31, 32, 33, 34, 35, 36, 37, 38, 39, 40, 41, 42, 43, 44, 45, 46, 47, 48, 49, 50, 51, 52] (by decide +kernel) (by decide +kernel)
set_option maxRecDepth 20000 in
theorem gX10_strike_X10_isBeat : GoodIn wsX10_strike (wsV RX10 146 RX10 yX10_isBeat wsX10_isBeat) := goodIn_app (goodIn_of _ (by decide +kernel)) ggX10_strike_X10_isBeat
set_option maxRecDepth 20000 in
theorem ggX10_strike_X10_becomes : GoodIn wsX10_strike wsX10_becomes := goodIn_r _ [15, 2, 16, 17, 18, 6, 19, 20, 21, 22, 8, 26, 27, 28, 29, 30, 31, 32, 33, 34, 35, 36, 37, 38, 39, 40, 41, 42, 43, 44, 45, 46, 47, 48, 49, 50, 51, 52] (by decide +kernel) (by decide +kernel)
set_option maxRecDepth 20000 in
theorem gX10_strike_X10_becomes : GoodIn wsX10_strike (wsV RX10 208 RX10 yX10_becomes wsX10_becomes) := goodIn_app (goodIn_of _ (by decide +kernel)) ggX10_strike_X10_becomes
set_option maxRecDepth 20000 in
theorem ggX10_strike_X10_has : GoodIn wsX10_strike wsX10_has := goodIn_r _ [25] (by decide +kernel) (by decide +kernel)
set_option maxRecDepth 20000 in
theorem gX10_strike_X10_has : GoodIn wsX10_strike (va_wsS RX10 65 yX10_has wsX10_has) := goodIn_app (goodIn_of _ (by decide +kernel)) ggX10_strike_X10_has
theorem dX10_strike_0 : decode cX10_strike 0 = .ok (.aload_n 0, 1) := by decide +kernel
theorem dX10_strike_1 : decode cX10_strike 1 = .ok (.iload_n 1, 1) := by decide +kernel
theorem dX10_strike_2 : decode cX10_strike 2 = .ok (.invokevirtual 146, 3) := by decide +kernel
theorem dX10_strike_5 : decode cX10_strike 5 = .ok (.ifCond .ne 6, 3) := by decide +kernel
theorem dX10_strike_8 : decode cX10_strike 8 = .ok (.ldc 139, 2) := by decide +kernel
theorem dX10_strike_10 : decode cX10_strike 10 = .ok (.ireturn, 1) := by decide +kernel
theorem dX10_strike_11 : decode cX10_strike 11 = .ok (.aload_n 0, 1) := by decide +kernel
theorem dX10_strike_12 : decode cX10_strike 12 = .ok (.aload_n 0, 1) := by decide +kernel
theorem dX10_strike_13 : decode cX10_strike 13 = .ok (.getfield 101, 3) := by decide +kernel
theorem dX10_strike_16 : decode cX10_strike 16 = .ok (.iconst 1, 1) := by decide +kernel
theorem dX10_strike_17 : decode cX10_strike 17 = .ok (.iload_n 1, 1) := by decide +kernel
theorem dX10_strike_18 : decode cX10_strike 18 = .ok (.ishl, 1) := by decide +kernel
theorem dX10_strike_19 : decode cX10_strike 19 = .ok (.ixor, 1) := by decide +kernel
theorem dX10_strike_20 : decode cX10_strike 20 = .ok (.invokevirtual 208, 3) := by decide +kernel
theorem dX10_strike_23 : decode cX10_strike 23 = .ok (.istore_n 2, 1) := by decide +kernel
theorem dX10_strike_24 : decode cX10_strike 24 = .ok (.iload_n 2, 1) := by decide +kernel
theorem dX10_strike_25 : decode cX10_strike 25 = .ok (.iload_n 1, 1) := by decide +kernel
theorem dX10_strike_26 : decode cX10_strike 26 = .ok (.invokestatic 65, 3) := by decide +kernel
theorem dX10_strike_29 : decode cX10_strike 29 = .ok (.ifCond .eq 7, 3) := by decide +kernel
theorem dX10_strike_32 : decode cX10_strike 32 = .ok (.iconst 1, 1) := by decide +kernel
theorem dX10_strike_33 : decode cX10_strike 33 = .ok (.goto 4, 3) := by decide +kernel
theorem dX10_strike_36 : decode cX10_strike 36 = .ok (.iconst 0, 1) := by decide +kernel
theorem dX10_strike_37 : decode cX10_strike 37 = .ok (.ireturn, 1) := by decide +kernel
set_option maxRecDepth 20000 in
theorem ggX10_even_X10_in : GoodIn wsX10_even wsX10_in := goodIn_r _ [6] (by decide +kernel) (by decide +kernel)
set_option maxRecDepth 20000 in
theorem gX10_even_X10_in : GoodIn wsX10_even (va_wsS RX10 57 yX10_in wsX10_in) := goodIn_app (goodIn_of _ (by decide +kernel)) ggX10_even_X10_in
set_option maxRecDepth 20000 in
theorem ggX10_even_X10_evenOf : GoodIn wsX10_even wsX10_evenOf := goodIn_r _ [9] (by decide +kernel) (by decide +kernel)
set_option maxRecDepth 20000 in
theorem gX10_even_X10_evenOf : GoodIn wsX10_even (va_wsS RX10 211 yX10_evenOf wsX10_evenOf) := goodIn_app (goodIn_of _ (by decide +kernel)) ggX10_even_X10_evenOf
set_option maxRecDepth 20000 in
theorem ggX10_even_X10_becomes : GoodIn wsX10_even wsX10_becomes := goodIn_r _ [13, 14, 15, 16, 17, 5, 18, 19, 20, 21, 1, 22, 23, 24, 25, 26, 27, 28, 29, 30, 31, 32, 33, 34, 35, 36, 37, 38, 39, 40, 41, 42, 43, 44, 45, 46, 47, 48] (by decide +kernel) (by decide +kernel)
set_option maxRecDepth 20000 in
theorem gX10_even_X10_becomes : GoodIn wsX10_even (wsV RX10 208 RX10 yX10_becomes wsX10_becomes) := goodIn_app (goodIn_of _ (by decide +kernel)) ggX10_even_X10_becomes
theorem dX10_even_0 : decode cX10_even 0 = .ok (.iload_n 1, 1) := by decide +kernel
theorem dX10_even_1 : decode cX10_even 1 = .ok (.i2l, 1) := by decide +kernel
theorem dX10_even_2 : decode cX10_even 2 = .ok (.lconst 0, 1) := by decide +kernel
theorem dX10_even_3 : decode cX10_even 3 = .ok (.aload_n 0, 1) := by decide +kernel
theorem dX10_even_4 : decode cX10_even 4 = .ok (.getfield 7, 3) := by decide +kernel
theorem dX10_even_7 : decode cX10_even 7 = .ok (.i2l, 1) := by decide +kernel
theorem dX10_even_8 : decode cX10_even 8 = .ok (.invokestatic 57, 3) := by decide +kernel
theorem dX10_even_11 : decode cX10_even 11 = .ok (.ifCond .eq 18, 3) := by decide +kernel
theorem dX10_even_14 : decode cX10_even 14 = .ok (.aload_n 0, 1) := by decide +kernel
theorem dX10_even_15 : decode cX10_even 15 = .ok (.iload_n 1, 1) := by decide +kernel
theorem dX10_even_16 : decode cX10_even 16 = .ok (.aload_n 0, 1) := by decide +kernel
theorem dX10_even_17 : decode cX10_even 17 = .ok (.getfield 7, 3) := by decide +kernel
theorem dX10_even_20 : decode cX10_even 20 = .ok (.invokestatic 211, 3) := by decide +kernel
theorem dX10_even_23 : decode cX10_even 23 = .ok (.invokevirtual 208, 3) := by decide +kernel
theorem dX10_even_26 : decode cX10_even 26 = .ok (.goto 5, 3) := by decide +kernel
theorem dX10_even_29 : decode cX10_even 29 = .ok (.ldc 75, 2) := by decide +kernel
theorem dX10_even_31 : decode cX10_even 31 = .ok (.ireturn, 1) := by decide +kernel
set_option maxRecDepth 20000 in
theorem ggX10_turn_X10_in : GoodIn wsX10_turn wsX10_in := goodIn_r _ [8] (by decide +kernel) (by decide +kernel)
set_option maxRecDepth 20000 in
theorem gX10_turn_X10_in : GoodIn wsX10_turn (va_wsS RX10 57 yX10_in wsX10_in) := goodIn_app (goodIn_of _ (by decide +kernel)) ggX10_turn_X10_in
set_option maxRecDepth 20000 in
theorem ggX10_turn_X10_moved : GoodIn wsX10_turn wsX10_moved := goodIn_r _ [11, 12, 13, 7, 14] (by decide +kernel) (by decide +kernel)
set_option maxRecDepth 20000 in
theorem gX10_turn_X10_moved : GoodIn wsX10_turn (va_wsS RX10 69 yX10_moved wsX10_moved) := goodIn_app (goodIn_of _ (by decide +kernel)) ggX10_turn_X10_moved
set_option maxRecDepth 20000 in
theorem ggX10_turn_X10_becomes : GoodIn wsX10_turn wsX10_becomes := goodIn_r _ [18, 2, 19, 20, 21, 7, 22, 23, 24, 25, 3, 26, 27, 28, 29, 30, 31, 32, 33, 34, 35, 36, 37, 38, 39, 40, 41, 42, 43, 44, 45, 46, 47, 48, 49, 50, 51, 52] (by decide +kernel) (by decide +kernel)
set_option maxRecDepth 20000 in
theorem gX10_turn_X10_becomes : GoodIn wsX10_turn (wsV RX10 208 RX10 yX10_becomes wsX10_becomes) := goodIn_app (goodIn_of _ (by decide +kernel)) ggX10_turn_X10_becomes
theorem dX10_turn_0 : decode cX10_turn 0 = .ok (.iload_n 1, 1) := by decide +kernel
theorem dX10_turn_1 : decode cX10_turn 1 = .ok (.i2l, 1) := by decide +kernel
theorem dX10_turn_2 : decode cX10_turn 2 = .ok (.lconst 0, 1) := by decide +kernel
theorem dX10_turn_3 : decode cX10_turn 3 = .ok (.ldc2_w 189, 3) := by decide +kernel
theorem dX10_turn_6 : decode cX10_turn 6 = .ok (.invokestatic 57, 3) := by decide +kernel
theorem dX10_turn_9 : decode cX10_turn 9 = .ok (.ifCond .eq 22, 3) := by decide +kernel
theorem dX10_turn_12 : decode cX10_turn 12 = .ok (.aload_n 0, 1) := by decide +kernel
theorem dX10_turn_13 : decode cX10_turn 13 = .ok (.aload_n 0, 1) := by decide +kernel
theorem dX10_turn_14 : decode cX10_turn 14 = .ok (.getfield 101, 3) := by decide +kernel
theorem dX10_turn_17 : decode cX10_turn 17 = .ok (.iload_n 1, 1) := by decide +kernel
theorem dX10_turn_18 : decode cX10_turn 18 = .ok (.aload_n 0, 1) := by decide +kernel
theorem dX10_turn_19 : decode cX10_turn 19 = .ok (.getfield 7, 3) := by decide +kernel
theorem dX10_turn_22 : decode cX10_turn 22 = .ok (.invokestatic 69, 3) := by decide +kernel
theorem dX10_turn_25 : decode cX10_turn 25 = .ok (.invokevirtual 208, 3) := by decide +kernel
theorem dX10_turn_28 : decode cX10_turn 28 = .ok (.goto 5, 3) := by decide +kernel
theorem dX10_turn_31 : decode cX10_turn 31 = .ok (.ldc 75, 2) := by decide +kernel
theorem dX10_turn_33 : decode cX10_turn 33 = .ok (.ireturn, 1) := by decide +kernel
set_option maxRecDepth 20000 in
theorem ggX10_over_X10_full : GoodIn wsX10_over wsX10_full := goodIn_r _ [6] (by decide +kernel) (by decide +kernel)
set_option maxRecDepth 20000 in
theorem gX10_over_X10_full : GoodIn wsX10_over (va_wsS RX10 61 yX10_full wsX10_full) := goodIn_app (goodIn_of _ (by decide +kernel)) ggX10_over_X10_full
set_option maxRecDepth 20000 in
theorem ggX10_over_X10_becomes : GoodIn wsX10_over wsX10_becomes := goodIn_r _ [10, 1, 11, 12, 13, 5, 14, 15, 16, 17, 2, 18, 19, 20, 21, 22, 23, 24, 25, 26, 27, 28, 29, 30, 31, 32, 33, 34, 35, 36, 37, 38, 39, 40, 41, 42, 43, 44] (by decide +kernel) (by decide +kernel)
set_option maxRecDepth 20000 in
theorem gX10_over_X10_becomes : GoodIn wsX10_over (wsV RX10 208 RX10 yX10_becomes wsX10_becomes) := goodIn_app (goodIn_of _ (by decide +kernel)) ggX10_over_X10_becomes
theorem dX10_over_0 : decode cX10_over 0 = .ok (.aload_n 0, 1) := by decide +kernel
theorem dX10_over_1 : decode cX10_over 1 = .ok (.aload_n 0, 1) := by decide +kernel
theorem dX10_over_2 : decode cX10_over 2 = .ok (.getfield 101, 3) := by decide +kernel
theorem dX10_over_5 : decode cX10_over 5 = .ok (.aload_n 0, 1) := by decide +kernel
theorem dX10_over_6 : decode cX10_over 6 = .ok (.getfield 7, 3) := by decide +kernel
theorem dX10_over_9 : decode cX10_over 9 = .ok (.invokestatic 61, 3) := by decide +kernel
theorem dX10_over_12 : decode cX10_over 12 = .ok (.ixor, 1) := by decide +kernel
theorem dX10_over_13 : decode cX10_over 13 = .ok (.invokevirtual 208, 3) := by decide +kernel
theorem dX10_over_16 : decode cX10_over 16 = .ok (.ireturn, 1) := by decide +kernel
set_option maxRecDepth 20000 in
theorem ggX10_behind_X10_behindOf : GoodIn wsX10_behind wsX10_behindOf := goodIn_r _ [6, 7, 8, 5, 9] (by decide +kernel) (by decide +kernel)
set_option maxRecDepth 20000 in
theorem gX10_behind_X10_behindOf : GoodIn wsX10_behind (va_wsS RX10 196 yX10_behindOf wsX10_behindOf) := goodIn_app (goodIn_of _ (by decide +kernel)) ggX10_behind_X10_behindOf
set_option maxRecDepth 20000 in
theorem ggX10_behind_X10_becomes : GoodIn wsX10_behind wsX10_becomes := goodIn_r _ [13, 1, 14, 15, 16, 5, 17, 18, 19, 20, 2, 21, 22, 23, 24, 25, 26, 27, 28, 29, 30, 31, 32, 33, 34, 35, 36, 37, 38, 39, 40, 41, 42, 43, 44, 45, 46, 47] (by decide +kernel) (by decide +kernel)
set_option maxRecDepth 20000 in
theorem gX10_behind_X10_becomes : GoodIn wsX10_behind (wsV RX10 208 RX10 yX10_becomes wsX10_becomes) := goodIn_app (goodIn_of _ (by decide +kernel)) ggX10_behind_X10_becomes
theorem dX10_behind_0 : decode cX10_behind 0 = .ok (.aload_n 0, 1) := by decide +kernel
theorem dX10_behind_1 : decode cX10_behind 1 = .ok (.aload_n 0, 1) := by decide +kernel
theorem dX10_behind_2 : decode cX10_behind 2 = .ok (.getfield 101, 3) := by decide +kernel
theorem dX10_behind_5 : decode cX10_behind 5 = .ok (.aload_n 0, 1) := by decide +kernel
theorem dX10_behind_6 : decode cX10_behind 6 = .ok (.getfield 7, 3) := by decide +kernel
theorem dX10_behind_9 : decode cX10_behind 9 = .ok (.invokestatic 196, 3) := by decide +kernel
theorem dX10_behind_12 : decode cX10_behind 12 = .ok (.invokevirtual 208, 3) := by decide +kernel
theorem dX10_behind_15 : decode cX10_behind 15 = .ok (.ireturn, 1) := by decide +kernel
set_option maxRecDepth 20000 in
theorem ggX10_stretch_X10_in : GoodIn wsX10_stretch wsX10_in := goodIn_r _ [9] (by decide +kernel) (by decide +kernel)
set_option maxRecDepth 20000 in
theorem gX10_stretch_X10_in : GoodIn wsX10_stretch (va_wsS RX10 57 yX10_in wsX10_in) := goodIn_app (goodIn_of _ (by decide +kernel)) ggX10_stretch_X10_in
set_option maxRecDepth 20000 in
theorem ggX10_stretch_X10_common : GoodIn wsX10_stretch wsX10_common := goodIn_r _ [12] (by decide +kernel) (by decide +kernel)
set_option maxRecDepth 20000 in
theorem gX10_stretch_X10_common : GoodIn wsX10_stretch (va_wsS RX10 170 yX10_common wsX10_common) := goodIn_app (goodIn_of _ (by decide +kernel)) ggX10_stretch_X10_common
set_option maxRecDepth 20000 in
theorem ggX10_stretch_X10_has : GoodIn wsX10_stretch wsX10_has := goodIn_r _ [15] (by decide +kernel) (by decide +kernel)
set_option maxRecDepth 20000 in
theorem gX10_stretch_X10_has : GoodIn wsX10_stretch (va_wsS RX10 65 yX10_has wsX10_has) := goodIn_app (goodIn_of _ (by decide +kernel)) ggX10_stretch_X10_has
set_option maxRecDepth 20000 in
theorem ggX10_stretch_X10_becomes : GoodIn wsX10_stretch wsX10_becomes := goodIn_r _ [19, 5, 20, 21, 22, 8, 23, 24, 25, 26, 3, 27, 28, 29, 30, 31, 32, 33, 34, 35, 36, 37, 38, 39, 40, 41, 42, 43, 44, 45, 46, 47, 48, 49, 50, 51, 52, 53] (by decide +kernel) (by decide +kernel)
set_option maxRecDepth 20000 in
theorem gX10_stretch_X10_becomes : GoodIn wsX10_stretch (wsV RX10 208 RX10 yX10_becomes wsX10_becomes) := goodIn_app (goodIn_of _ (by decide +kernel)) ggX10_stretch_X10_becomes
theorem dX10_stretch_0 : decode cX10_stretch 0 = .ok (.iload_n 1, 1) := by decide +kernel
theorem dX10_stretch_1 : decode cX10_stretch 1 = .ok (.i2l, 1) := by decide +kernel
theorem dX10_stretch_2 : decode cX10_stretch 2 = .ok (.lconst 1, 1) := by decide +kernel
theorem dX10_stretch_3 : decode cX10_stretch 3 = .ok (.ldc2_w 189, 3) := by decide +kernel
theorem dX10_stretch_6 : decode cX10_stretch 6 = .ok (.invokestatic 57, 3) := by decide +kernel
theorem dX10_stretch_9 : decode cX10_stretch 9 = .ok (.ifCond .ne 6, 3) := by decide +kernel
theorem dX10_stretch_12 : decode cX10_stretch 12 = .ok (.ldc 75, 2) := by decide +kernel
theorem dX10_stretch_14 : decode cX10_stretch 14 = .ok (.ireturn, 1) := by decide +kernel
theorem dX10_stretch_15 : decode cX10_stretch 15 = .ok (.iload_n 1, 1) := by decide +kernel
theorem dX10_stretch_16 : decode cX10_stretch 16 = .ok (.aload_n 0, 1) := by decide +kernel
theorem dX10_stretch_17 : decode cX10_stretch 17 = .ok (.getfield 7, 3) := by decide +kernel
theorem dX10_stretch_20 : decode cX10_stretch 20 = .ok (.invokestatic 170, 3) := by decide +kernel
theorem dX10_stretch_23 : decode cX10_stretch 23 = .ok (.iconst 1, 1) := by decide +kernel
theorem dX10_stretch_24 : decode cX10_stretch 24 = .ok (.if_icmp .le 6, 3) := by decide +kernel
theorem dX10_stretch_27 : decode cX10_stretch 27 = .ok (.ldc 191, 2) := by decide +kernel
theorem dX10_stretch_29 : decode cX10_stretch 29 = .ok (.ireturn, 1) := by decide +kernel
theorem dX10_stretch_30 : decode cX10_stretch 30 = .ok (.iconst 0, 1) := by decide +kernel
theorem dX10_stretch_31 : decode cX10_stretch 31 = .ok (.istore_n 2, 1) := by decide +kernel
theorem dX10_stretch_32 : decode cX10_stretch 32 = .ok (.iconst 0, 1) := by decide +kernel
theorem dX10_stretch_33 : decode cX10_stretch 33 = .ok (.istore_n 3, 1) := by decide +kernel
theorem dX10_stretch_34 : decode cX10_stretch 34 = .ok (.iload_n 3, 1) := by decide +kernel
theorem dX10_stretch_35 : decode cX10_stretch 35 = .ok (.aload_n 0, 1) := by decide +kernel
theorem dX10_stretch_36 : decode cX10_stretch 36 = .ok (.getfield 7, 3) := by decide +kernel
theorem dX10_stretch_39 : decode cX10_stretch 39 = .ok (.if_icmp .ge 37, 3) := by decide +kernel
theorem dX10_stretch_42 : decode cX10_stretch 42 = .ok (.iload_n 2, 1) := by decide +kernel
theorem dX10_stretch_43 : decode cX10_stretch 43 = .ok (.aload_n 0, 1) := by decide +kernel
theorem dX10_stretch_44 : decode cX10_stretch 44 = .ok (.getfield 101, 3) := by decide +kernel
theorem dX10_stretch_47 : decode cX10_stretch 47 = .ok (.iload_n 3, 1) := by decide +kernel
theorem dX10_stretch_48 : decode cX10_stretch 48 = .ok (.invokestatic 65, 3) := by decide +kernel
theorem dX10_stretch_51 : decode cX10_stretch 51 = .ok (.ifCond .eq 16, 3) := by decide +kernel
theorem dX10_stretch_54 : decode cX10_stretch 54 = .ok (.iconst 1, 1) := by decide +kernel
theorem dX10_stretch_55 : decode cX10_stretch 55 = .ok (.iload_n 3, 1) := by decide +kernel
theorem dX10_stretch_56 : decode cX10_stretch 56 = .ok (.iload_n 1, 1) := by decide +kernel
theorem dX10_stretch_57 : decode cX10_stretch 57 = .ok (.imul, 1) := by decide +kernel
theorem dX10_stretch_58 : decode cX10_stretch 58 = .ok (.aload_n 0, 1) := by decide +kernel
theorem dX10_stretch_59 : decode cX10_stretch 59 = .ok (.getfield 7, 3) := by decide +kernel
theorem dX10_stretch_62 : decode cX10_stretch 62 = .ok (.irem, 1) := by decide +kernel
theorem dX10_stretch_63 : decode cX10_stretch 63 = .ok (.ishl, 1) := by decide +kernel
theorem dX10_stretch_64 : decode cX10_stretch 64 = .ok (.goto 4, 3) := by decide +kernel
theorem dX10_stretch_67 : decode cX10_stretch 67 = .ok (.iconst 0, 1) := by decide +kernel
theorem dX10_stretch_68 : decode cX10_stretch 68 = .ok (.ior, 1) := by decide +kernel
theorem dX10_stretch_69 : decode cX10_stretch 69 = .ok (.istore_n 2, 1) := by decide +kernel
theorem dX10_stretch_70 : decode cX10_stretch 70 = .ok (.iinc 3 1, 3) := by decide +kernel
theorem dX10_stretch_73 : decode cX10_stretch 73 = .ok (.goto (-39), 3) := by decide +kernel
theorem dX10_stretch_76 : decode cX10_stretch 76 = .ok (.aload_n 0, 1) := by decide +kernel
theorem dX10_stretch_77 : decode cX10_stretch 77 = .ok (.iload_n 2, 1) := by decide +kernel
theorem dX10_stretch_78 : decode cX10_stretch 78 = .ok (.invokevirtual 208, 3) := by decide +kernel
theorem dX10_stretch_81 : decode cX10_stretch 81 = .ok (.ireturn, 1) := by decide +kernel
set_option maxRecDepth 20000 in
theorem ggX10_twice_X10_becomes : GoodIn wsX10_twice wsX10_becomes := goodIn_r _ [8, 3, 9, 10, 11, 7, 12, 13, 14, 15, 1, 16, 17, 18, 19, 20, 21, 22, 23, 24, 25, 26, 27, 28, 29, 30, 31, 32, 33, 34, 35, 36, 37, 38, 39, 40, 41, 42] (by decide +kernel) (by decide +kernel)
set_option maxRecDepth 20000 in
theorem gX10_twice_X10_becomes : GoodIn wsX10_twice (wsV RX10 208 RX10 yX10_becomes wsX10_becomes) := goodIn_app (goodIn_of _ (by decide +kernel)) ggX10_twice_X10_becomes
theorem dX10_twice_0 : decode cX10_twice 0 = .ok (.iconst 2, 1) := by decide +kernel
theorem dX10_twice_1 : decode cX10_twice 1 = .ok (.aload_n 0, 1) := by decide +kernel
theorem dX10_twice_2 : decode cX10_twice 2 = .ok (.getfield 7, 3) := by decide +kernel
theorem dX10_twice_5 : decode cX10_twice 5 = .ok (.imul, 1) := by decide +kernel
theorem dX10_twice_6 : decode cX10_twice 6 = .ok (.bipush 24, 2) := by decide +kernel
theorem dX10_twice_8 : decode cX10_twice 8 = .ok (.if_icmp .le 6, 3) := by decide +kernel
theorem dX10_twice_11 : decode cX10_twice 11 = .ok (.ldc 79, 2) := by decide +kernel
theorem dX10_twice_13 : decode cX10_twice 13 = .ok (.ireturn, 1) := by decide +kernel
theorem dX10_twice_14 : decode cX10_twice 14 = .ok (.aload_n 0, 1) := by decide +kernel
theorem dX10_twice_15 : decode cX10_twice 15 = .ok (.aload_n 0, 1) := by decide +kernel
theorem dX10_twice_16 : decode cX10_twice 16 = .ok (.getfield 101, 3) := by decide +kernel
theorem dX10_twice_19 : decode cX10_twice 19 = .ok (.aload_n 0, 1) := by decide +kernel
theorem dX10_twice_20 : decode cX10_twice 20 = .ok (.getfield 101, 3) := by decide +kernel
theorem dX10_twice_23 : decode cX10_twice 23 = .ok (.aload_n 0, 1) := by decide +kernel
theorem dX10_twice_24 : decode cX10_twice 24 = .ok (.getfield 7, 3) := by decide +kernel
theorem dX10_twice_27 : decode cX10_twice 27 = .ok (.ishl, 1) := by decide +kernel
theorem dX10_twice_28 : decode cX10_twice 28 = .ok (.ior, 1) := by decide +kernel
theorem dX10_twice_29 : decode cX10_twice 29 = .ok (.invokevirtual 208, 3) := by decide +kernel
theorem dX10_twice_32 : decode cX10_twice 32 = .ok (.istore_n 1, 1) := by decide +kernel
theorem dX10_twice_33 : decode cX10_twice 33 = .ok (.aload_n 0, 1) := by decide +kernel
theorem dX10_twice_34 : decode cX10_twice 34 = .ok (.dup, 1) := by decide +kernel
theorem dX10_twice_35 : decode cX10_twice 35 = .ok (.getfield 7, 3) := by decide +kernel
theorem dX10_twice_38 : decode cX10_twice 38 = .ok (.iconst 2, 1) := by decide +kernel
theorem dX10_twice_39 : decode cX10_twice 39 = .ok (.imul, 1) := by decide +kernel
theorem dX10_twice_40 : decode cX10_twice 40 = .ok (.putfield 7, 3) := by decide +kernel
theorem dX10_twice_43 : decode cX10_twice 43 = .ok (.aload_n 0, 1) := by decide +kernel
theorem dX10_twice_44 : decode cX10_twice 44 = .ok (.getfield 7, 3) := by decide +kernel
theorem dX10_twice_47 : decode cX10_twice 47 = .ok (.ireturn, 1) := by decide +kernel
set_option maxRecDepth 20000 in
theorem ggX10_cycle_X10_in : GoodIn wsX10_cycle wsX10_in := goodIn_r _ [8] (by decide +kernel) (by decide +kernel)
set_option maxRecDepth 20000 in
theorem gX10_cycle_X10_in : GoodIn wsX10_cycle (va_wsS RX10 57 yX10_in wsX10_in) := goodIn_app (goodIn_of _ (by decide +kernel)) ggX10_cycle_X10_in
set_option maxRecDepth 20000 in
theorem ggX10_cycle_X10_full : GoodIn wsX10_cycle wsX10_full := goodIn_r _ [11] (by decide +kernel) (by decide +kernel)
set_option maxRecDepth 20000 in
theorem gX10_cycle_X10_full : GoodIn wsX10_cycle (va_wsS RX10 61 yX10_full wsX10_full) := goodIn_app (goodIn_of _ (by decide +kernel)) ggX10_cycle_X10_full
set_option maxRecDepth 20000 in
theorem ggX10_cycle_X10_becomes : GoodIn wsX10_cycle wsX10_becomes := goodIn_r _ [15, 3, 16, 17, 18, 7, 19, 20, 21, 22, 4, 26, 27, 28, 29, 30, 31, 32, 33, 34, 35, 36, 37, 38, 39, 40, 41, 42, 43, 44, 45, 46, 47, 48, 49, 50, 51, 52] (by decide +kernel) (by decide +kernel)
set_option maxRecDepth 20000 in
theorem gX10_cycle_X10_becomes : GoodIn wsX10_cycle (wsV RX10 208 RX10 yX10_becomes wsX10_becomes) := goodIn_app (goodIn_of _ (by decide +kernel)) ggX10_cycle_X10_becomes
set_option maxRecDepth 20000 in
theorem ggX10_cycle_X10_bits : GoodIn wsX10_cycle wsX10_bits := goodIn_r _ [25] (by decide +kernel) (by decide +kernel)
set_option maxRecDepth 20000 in
theorem gX10_cycle_X10_bits : GoodIn wsX10_cycle (va_wsS RX10 107 yX10_bits wsX10_bits) := goodIn_app (goodIn_of _ (by decide +kernel)) ggX10_cycle_X10_bits
theorem dX10_cycle_0 : decode cX10_cycle 0 = .ok (.iload_n 1, 1) := by decide +kernel
theorem dX10_cycle_1 : decode cX10_cycle 1 = .ok (.i2l, 1) := by decide +kernel
theorem dX10_cycle_2 : decode cX10_cycle 2 = .ok (.lconst 1, 1) := by decide +kernel
theorem dX10_cycle_3 : decode cX10_cycle 3 = .ok (.ldc2_w 214, 3) := by decide +kernel
theorem dX10_cycle_6 : decode cX10_cycle 6 = .ok (.invokestatic 57, 3) := by decide +kernel
theorem dX10_cycle_9 : decode cX10_cycle 9 = .ok (.ifCond .ne 6, 3) := by decide +kernel
theorem dX10_cycle_12 : decode cX10_cycle 12 = .ok (.ldc 75, 2) := by decide +kernel
theorem dX10_cycle_14 : decode cX10_cycle 14 = .ok (.ireturn, 1) := by decide +kernel
theorem dX10_cycle_15 : decode cX10_cycle 15 = .ok (.aload_n 0, 1) := by decide +kernel
theorem dX10_cycle_16 : decode cX10_cycle 16 = .ok (.aload_n 0, 1) := by decide +kernel
theorem dX10_cycle_17 : decode cX10_cycle 17 = .ok (.getfield 101, 3) := by decide +kernel
theorem dX10_cycle_20 : decode cX10_cycle 20 = .ok (.iload_n 1, 1) := by decide +kernel
theorem dX10_cycle_21 : decode cX10_cycle 21 = .ok (.invokestatic 61, 3) := by decide +kernel
theorem dX10_cycle_24 : decode cX10_cycle 24 = .ok (.iand, 1) := by decide +kernel
theorem dX10_cycle_25 : decode cX10_cycle 25 = .ok (.invokevirtual 208, 3) := by decide +kernel
theorem dX10_cycle_28 : decode cX10_cycle 28 = .ok (.istore_n 2, 1) := by decide +kernel
theorem dX10_cycle_29 : decode cX10_cycle 29 = .ok (.aload_n 0, 1) := by decide +kernel
theorem dX10_cycle_30 : decode cX10_cycle 30 = .ok (.iload_n 1, 1) := by decide +kernel
theorem dX10_cycle_31 : decode cX10_cycle 31 = .ok (.putfield 7, 3) := by decide +kernel
theorem dX10_cycle_34 : decode cX10_cycle 34 = .ok (.iload_n 2, 1) := by decide +kernel
theorem dX10_cycle_35 : decode cX10_cycle 35 = .ok (.invokestatic 107, 3) := by decide +kernel
theorem dX10_cycle_38 : decode cX10_cycle 38 = .ok (.ireturn, 1) := by decide +kernel
theorem dX10_draw_0 : decode cX10_draw 0 = .ok (.aload_n 0, 1) := by decide +kernel
theorem dX10_draw_1 : decode cX10_draw 1 = .ok (.aload_n 0, 1) := by decide +kernel
theorem dX10_draw_2 : decode cX10_draw 2 = .ok (.getfield 216, 3) := by decide +kernel
theorem dX10_draw_5 : decode cX10_draw 5 = .ok (.i2l, 1) := by decide +kernel
theorem dX10_draw_6 : decode cX10_draw 6 = .ok (.ldc2_w 219, 3) := by decide +kernel
theorem dX10_draw_9 : decode cX10_draw 9 = .ok (.lmul, 1) := by decide +kernel
theorem dX10_draw_10 : decode cX10_draw 10 = .ok (.ldc2_w 221, 3) := by decide +kernel
theorem dX10_draw_13 : decode cX10_draw 13 = .ok (.ladd, 1) := by decide +kernel
theorem dX10_draw_14 : decode cX10_draw 14 = .ok (.ldc2_w 223, 3) := by decide +kernel
theorem dX10_draw_17 : decode cX10_draw 17 = .ok (.lrem, 1) := by decide +kernel
theorem dX10_draw_18 : decode cX10_draw 18 = .ok (.l2i, 1) := by decide +kernel
theorem dX10_draw_19 : decode cX10_draw 19 = .ok (.putfield 216, 3) := by decide +kernel
theorem dX10_draw_22 : decode cX10_draw 22 = .ok (.aload_n 0, 1) := by decide +kernel
theorem dX10_draw_23 : decode cX10_draw 23 = .ok (.getfield 216, 3) := by decide +kernel
theorem dX10_draw_26 : decode cX10_draw 26 = .ok (.ldc 225, 2) := by decide +kernel
theorem dX10_draw_28 : decode cX10_draw 28 = .ok (.idiv, 1) := by decide +kernel
theorem dX10_draw_29 : decode cX10_draw 29 = .ok (.iload_n 1, 1) := by decide +kernel
theorem dX10_draw_30 : decode cX10_draw 30 = .ok (.irem, 1) := by decide +kernel
theorem dX10_draw_31 : decode cX10_draw 31 = .ok (.ireturn, 1) := by decide +kernel
set_option maxRecDepth 20000 in
theorem ggX10_drift_X10_in : GoodIn wsX10_drift wsX10_in := goodIn_r _ [8] (by decide +kernel) (by decide +kernel)
set_option maxRecDepth 20000 in
theorem gX10_drift_X10_in : GoodIn wsX10_drift (va_wsS RX10 57 yX10_in wsX10_in) := goodIn_app (goodIn_of _ (by decide +kernel)) ggX10_drift_X10_in
set_option maxRecDepth 20000 in
theorem ggX10_drift_X10_draw : GoodIn wsX10_drift wsX10_draw := goodIn_r _ [12, 13, 14, 15, 16, 17, 49, 50, 51, 52, 53, 54, 55, 56, 57, 58, 59, 60, 61, 62, 63, 64, 65, 66, 67, 68, 69, 70, 71, 72, 73, 74, 75] (by decide +kernel) (by decide +kernel)
set_option maxRecDepth 20000 in
theorem gX10_drift_X10_draw : GoodIn wsX10_drift (wsV RX10 228 RX10 yX10_draw wsX10_draw) := goodIn_app (goodIn_of _ (by decide +kernel)) ggX10_drift_X10_draw
set_option maxRecDepth 20000 in
theorem ggX10_drift_X10_becomes : GoodIn wsX10_drift wsX10_becomes := goodIn_r _ [21, 3, 22, 23, 24, 7, 25, 26, 27, 28, 4, 49, 50, 51, 52, 53, 54, 55, 56, 57, 58, 59, 60, 61, 62, 63, 64, 65, 66, 67, 68, 69, 70, 71, 72, 73, 74, 75] (by decide +kernel) (by decide +kernel)
set_option maxRecDepth 20000 in
theorem gX10_drift_X10_becomes : GoodIn wsX10_drift (wsV RX10 208 RX10 yX10_becomes wsX10_becomes) := goodIn_app (goodIn_of _ (by decide +kernel)) ggX10_drift_X10_becomes
set_option maxRecDepth 20000 in
theorem ggX10_drift_X10_moved : GoodIn wsX10_drift wsX10_moved := goodIn_r _ [31, 32, 33, 7, 34] (by decide +kernel) (by decide +kernel)
set_option maxRecDepth 20000 in
theorem gX10_drift_X10_moved : GoodIn wsX10_drift (va_wsS RX10 69 yX10_moved wsX10_moved) := goodIn_app (goodIn_of _ (by decide +kernel)) ggX10_drift_X10_moved
set_option maxRecDepth 20000 in
theorem ggX10_drift_X10_over : GoodIn wsX10_drift wsX10_over := goodIn_r _ [38, 3, 4, 32, 33, 7, 34, 18, 19, 20, 21, 22, 23, 24, 25, 26, 27, 28, 49, 50, 51, 52, 53, 54, 55, 56, 57, 58, 59, 60, 61, 62, 63, 64, 65, 66, 67, 68, 69, 70, 71, 72, 73, 74, 75] (by decide +kernel) (by decide +kernel)
set_option maxRecDepth 20000 in
theorem gX10_drift_X10_over : GoodIn wsX10_drift (wsV RX10 231 RX10 yX10_over wsX10_over) := goodIn_app (goodIn_of _ (by decide +kernel)) ggX10_drift_X10_over
set_option maxRecDepth 20000 in
theorem ggX10_drift_X10_behind : GoodIn wsX10_drift wsX10_behind := goodIn_r _ [42, 3, 4, 43, 44, 7, 45, 46, 47, 48, 18, 19, 20, 21, 22, 23, 24, 25, 26, 27, 28, 49, 50, 51, 52, 53, 54, 55, 56, 57, 58, 59, 60, 61, 62, 63, 64, 65, 66, 67, 68, 69, 70, 71, 72, 73, 74, 75] (by decide +kernel) (by decide +kernel)
set_option maxRecDepth 20000 in
theorem gX10_drift_X10_behind : GoodIn wsX10_drift (wsV RX10 234 RX10 yX10_behind wsX10_behind) := goodIn_app (goodIn_of _ (by decide +kernel)) ggX10_drift_X10_behind
theorem dX10_drift_0 : decode cX10_drift 0 = .ok (.iload_n 1, 1) := by decide +kernel
theorem dX10_drift_1 : decode cX10_drift 1 = .ok (.i2l, 1) := by decide +kernel
theorem dX10_drift_2 : decode cX10_drift 2 = .ok (.lconst 1, 1) := by decide +kernel
theorem dX10_drift_3 : decode cX10_drift 3 = .ok (.ldc2_w 226, 3) := by decide +kernel
theorem dX10_drift_6 : decode cX10_drift 6 = .ok (.invokestatic 57, 3) := by decide +kernel
theorem dX10_drift_9 : decode cX10_drift 9 = .ok (.ifCond .ne 6, 3) := by decide +kernel
theorem dX10_drift_12 : decode cX10_drift 12 = .ok (.ldc 75, 2) := by decide +kernel
theorem dX10_drift_14 : decode cX10_drift 14 = .ok (.ireturn, 1) := by decide +kernel
theorem dX10_drift_15 : decode cX10_drift 15 = .ok (.iconst 0, 1) := by decide +kernel
theorem dX10_drift_16 : decode cX10_drift 16 = .ok (.istore_n 2, 1) := by decide +kernel
theorem dX10_drift_17 : decode cX10_drift 17 = .ok (.iload_n 2, 1) := by decide +kernel
