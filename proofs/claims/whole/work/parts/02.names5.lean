theorem dX10_bits_1 : decode cX10_bits 1 = .ok (.istore_n 1, 1) := by decide +kernel
theorem dX10_bits_2 : decode cX10_bits 2 = .ok (.iload_n 0, 1) := by decide +kernel
theorem dX10_bits_3 : decode cX10_bits 3 = .ok (.istore_n 2, 1) := by decide +kernel
theorem dX10_bits_4 : decode cX10_bits 4 = .ok (.iload_n 2, 1) := by decide +kernel
theorem dX10_bits_5 : decode cX10_bits 5 = .ok (.ifCond .le 16, 3) := by decide +kernel
theorem dX10_bits_8 : decode cX10_bits 8 = .ok (.iload_n 1, 1) := by decide +kernel
theorem dX10_bits_9 : decode cX10_bits 9 = .ok (.iload_n 2, 1) := by decide +kernel
theorem dX10_bits_10 : decode cX10_bits 10 = .ok (.iconst 1, 1) := by decide +kernel
theorem dX10_bits_11 : decode cX10_bits 11 = .ok (.iand, 1) := by decide +kernel
theorem dX10_bits_12 : decode cX10_bits 12 = .ok (.iadd, 1) := by decide +kernel
theorem dX10_bits_13 : decode cX10_bits 13 = .ok (.istore_n 1, 1) := by decide +kernel
theorem dX10_bits_14 : decode cX10_bits 14 = .ok (.iload_n 2, 1) := by decide +kernel
theorem dX10_bits_15 : decode cX10_bits 15 = .ok (.iconst 1, 1) := by decide +kernel
theorem dX10_bits_16 : decode cX10_bits 16 = .ok (.ishr, 1) := by decide +kernel
theorem dX10_bits_17 : decode cX10_bits 17 = .ok (.istore_n 2, 1) := by decide +kernel
theorem dX10_bits_18 : decode cX10_bits 18 = .ok (.goto (-14), 3) := by decide +kernel
theorem dX10_bits_21 : decode cX10_bits 21 = .ok (.iload_n 1, 1) := by decide +kernel
theorem dX10_bits_22 : decode cX10_bits 22 = .ok (.ireturn, 1) := by decide +kernel
set_option maxRecDepth 20000 in
theorem ggX10_isBeat_X10_in : GoodIn wsX10_isBeat wsX10_in := goodIn_r _ [5] (by decide +kernel) (by decide +kernel)
set_option maxRecDepth 20000 in
theorem gX10_isBeat_X10_in : GoodIn wsX10_isBeat (va_wsS RX10 57 yX10_in wsX10_in) := goodIn_app (goodIn_of _ (by decide +kernel)) ggX10_isBeat_X10_in
theorem dX10_isBeat_0 : decode cX10_isBeat 0 = .ok (.iload_n 1, 1) := by decide +kernel
theorem dX10_isBeat_1 : decode cX10_isBeat 1 = .ok (.i2l, 1) := by decide +kernel
theorem dX10_isBeat_2 : decode cX10_isBeat 2 = .ok (.lconst 0, 1) := by decide +kernel
theorem dX10_isBeat_3 : decode cX10_isBeat 3 = .ok (.aload_n 0, 1) := by decide +kernel
theorem dX10_isBeat_4 : decode cX10_isBeat 4 = .ok (.getfield 7, 3) := by decide +kernel
theorem dX10_isBeat_7 : decode cX10_isBeat 7 = .ok (.iconst 1, 1) := by decide +kernel
theorem dX10_isBeat_8 : decode cX10_isBeat 8 = .ok (.isub, 1) := by decide +kernel
theorem dX10_isBeat_9 : decode cX10_isBeat 9 = .ok (.i2l, 1) := by decide +kernel
theorem dX10_isBeat_10 : decode cX10_isBeat 10 = .ok (.invokestatic 57, 3) := by decide +kernel
theorem dX10_isBeat_13 : decode cX10_isBeat 13 = .ok (.ireturn, 1) := by decide +kernel
theorem dX10_full_0 : decode cX10_full 0 = .ok (.iconst 1, 1) := by decide +kernel
theorem dX10_full_1 : decode cX10_full 1 = .ok (.iload_n 0, 1) := by decide +kernel
theorem dX10_full_2 : decode cX10_full 2 = .ok (.ishl, 1) := by decide +kernel
theorem dX10_full_3 : decode cX10_full 3 = .ok (.iconst 1, 1) := by decide +kernel
theorem dX10_full_4 : decode cX10_full 4 = .ok (.isub, 1) := by decide +kernel
theorem dX10_full_5 : decode cX10_full 5 = .ok (.ireturn, 1) := by decide +kernel
set_option maxRecDepth 20000 in
theorem ggX10_moved_X10_full : GoodIn wsX10_moved wsX10_full := goodIn_r _ [4] (by decide +kernel) (by decide +kernel)
set_option maxRecDepth 20000 in
theorem gX10_moved_X10_full : GoodIn wsX10_moved (va_wsS RX10 61 yX10_full wsX10_full) := goodIn_app (goodIn_of _ (by decide +kernel)) ggX10_moved_X10_full
theorem dX10_moved_0 : decode cX10_moved 0 = .ok (.iload_n 1, 1) := by decide +kernel
theorem dX10_moved_1 : decode cX10_moved 1 = .ok (.iload_n 2, 1) := by decide +kernel
theorem dX10_moved_2 : decode cX10_moved 2 = .ok (.irem, 1) := by decide +kernel
theorem dX10_moved_3 : decode cX10_moved 3 = .ok (.istore_n 3, 1) := by decide +kernel
theorem dX10_moved_4 : decode cX10_moved 4 = .ok (.iload_n 0, 1) := by decide +kernel
theorem dX10_moved_5 : decode cX10_moved 5 = .ok (.iload_n 3, 1) := by decide +kernel
theorem dX10_moved_6 : decode cX10_moved 6 = .ok (.ishl, 1) := by decide +kernel
theorem dX10_moved_7 : decode cX10_moved 7 = .ok (.iload_n 0, 1) := by decide +kernel
theorem dX10_moved_8 : decode cX10_moved 8 = .ok (.iload_n 2, 1) := by decide +kernel
theorem dX10_moved_9 : decode cX10_moved 9 = .ok (.iload_n 3, 1) := by decide +kernel
theorem dX10_moved_10 : decode cX10_moved 10 = .ok (.isub, 1) := by decide +kernel
theorem dX10_moved_11 : decode cX10_moved 11 = .ok (.ishr, 1) := by decide +kernel
theorem dX10_moved_12 : decode cX10_moved 12 = .ok (.ior, 1) := by decide +kernel
theorem dX10_moved_13 : decode cX10_moved 13 = .ok (.iload_n 2, 1) := by decide +kernel
theorem dX10_moved_14 : decode cX10_moved 14 = .ok (.invokestatic 61, 3) := by decide +kernel
theorem dX10_moved_17 : decode cX10_moved 17 = .ok (.iand, 1) := by decide +kernel
theorem dX10_moved_18 : decode cX10_moved 18 = .ok (.ireturn, 1) := by decide +kernel
set_option maxRecDepth 20000 in
theorem ggX10_behindOf_X10_has : GoodIn wsX10_behindOf wsX10_has := goodIn_r _ [4] (by decide +kernel) (by decide +kernel)
set_option maxRecDepth 20000 in
theorem gX10_behindOf_X10_has : GoodIn wsX10_behindOf (va_wsS RX10 65 yX10_has wsX10_has) := goodIn_app (goodIn_of _ (by decide +kernel)) ggX10_behindOf_X10_has
theorem dX10_behindOf_0 : decode cX10_behindOf 0 = .ok (.iconst 0, 1) := by decide +kernel
theorem dX10_behindOf_1 : decode cX10_behindOf 1 = .ok (.istore_n 2, 1) := by decide +kernel
theorem dX10_behindOf_2 : decode cX10_behindOf 2 = .ok (.iconst 0, 1) := by decide +kernel
theorem dX10_behindOf_3 : decode cX10_behindOf 3 = .ok (.istore_n 3, 1) := by decide +kernel
theorem dX10_behindOf_4 : decode cX10_behindOf 4 = .ok (.iload_n 3, 1) := by decide +kernel
theorem dX10_behindOf_5 : decode cX10_behindOf 5 = .ok (.iload_n 1, 1) := by decide +kernel
theorem dX10_behindOf_6 : decode cX10_behindOf 6 = .ok (.if_icmp .ge 31, 3) := by decide +kernel
theorem dX10_behindOf_9 : decode cX10_behindOf 9 = .ok (.iload_n 2, 1) := by decide +kernel
theorem dX10_behindOf_10 : decode cX10_behindOf 10 = .ok (.iload_n 0, 1) := by decide +kernel
theorem dX10_behindOf_11 : decode cX10_behindOf 11 = .ok (.iload_n 3, 1) := by decide +kernel
theorem dX10_behindOf_12 : decode cX10_behindOf 12 = .ok (.invokestatic 65, 3) := by decide +kernel
theorem dX10_behindOf_15 : decode cX10_behindOf 15 = .ok (.ifCond .eq 13, 3) := by decide +kernel
theorem dX10_behindOf_18 : decode cX10_behindOf 18 = .ok (.iconst 1, 1) := by decide +kernel
theorem dX10_behindOf_19 : decode cX10_behindOf 19 = .ok (.iload_n 1, 1) := by decide +kernel
theorem dX10_behindOf_20 : decode cX10_behindOf 20 = .ok (.iload_n 3, 1) := by decide +kernel
theorem dX10_behindOf_21 : decode cX10_behindOf 21 = .ok (.isub, 1) := by decide +kernel
theorem dX10_behindOf_22 : decode cX10_behindOf 22 = .ok (.iload_n 1, 1) := by decide +kernel
theorem dX10_behindOf_23 : decode cX10_behindOf 23 = .ok (.irem, 1) := by decide +kernel
theorem dX10_behindOf_24 : decode cX10_behindOf 24 = .ok (.ishl, 1) := by decide +kernel
theorem dX10_behindOf_25 : decode cX10_behindOf 25 = .ok (.goto 4, 3) := by decide +kernel
theorem dX10_behindOf_28 : decode cX10_behindOf 28 = .ok (.iconst 0, 1) := by decide +kernel
theorem dX10_behindOf_29 : decode cX10_behindOf 29 = .ok (.ior, 1) := by decide +kernel
theorem dX10_behindOf_30 : decode cX10_behindOf 30 = .ok (.istore_n 2, 1) := by decide +kernel
theorem dX10_behindOf_31 : decode cX10_behindOf 31 = .ok (.iinc 3 1, 3) := by decide +kernel
theorem dX10_behindOf_34 : decode cX10_behindOf 34 = .ok (.goto (-30), 3) := by decide +kernel
theorem dX10_behindOf_37 : decode cX10_behindOf 37 = .ok (.iload_n 2, 1) := by decide +kernel
theorem dX10_behindOf_38 : decode cX10_behindOf 38 = .ok (.ireturn, 1) := by decide +kernel
theorem dX10_evenOf_0 : decode cX10_evenOf 0 = .ok (.iconst 0, 1) := by decide +kernel
theorem dX10_evenOf_1 : decode cX10_evenOf 1 = .ok (.istore_n 2, 1) := by decide +kernel
theorem dX10_evenOf_2 : decode cX10_evenOf 2 = .ok (.iconst 0, 1) := by decide +kernel
theorem dX10_evenOf_3 : decode cX10_evenOf 3 = .ok (.istore_n 3, 1) := by decide +kernel
theorem dX10_evenOf_4 : decode cX10_evenOf 4 = .ok (.iload_n 3, 1) := by decide +kernel
theorem dX10_evenOf_5 : decode cX10_evenOf 5 = .ok (.iload_n 1, 1) := by decide +kernel
theorem dX10_evenOf_6 : decode cX10_evenOf 6 = .ok (.if_icmp .ge 28, 3) := by decide +kernel
theorem dX10_evenOf_9 : decode cX10_evenOf 9 = .ok (.iload_n 2, 1) := by decide +kernel
theorem dX10_evenOf_10 : decode cX10_evenOf 10 = .ok (.iload_n 3, 1) := by decide +kernel
theorem dX10_evenOf_11 : decode cX10_evenOf 11 = .ok (.iload_n 0, 1) := by decide +kernel
theorem dX10_evenOf_12 : decode cX10_evenOf 12 = .ok (.imul, 1) := by decide +kernel
theorem dX10_evenOf_13 : decode cX10_evenOf 13 = .ok (.iload_n 1, 1) := by decide +kernel
theorem dX10_evenOf_14 : decode cX10_evenOf 14 = .ok (.irem, 1) := by decide +kernel
theorem dX10_evenOf_15 : decode cX10_evenOf 15 = .ok (.iload_n 0, 1) := by decide +kernel
theorem dX10_evenOf_16 : decode cX10_evenOf 16 = .ok (.if_icmp .ge 9, 3) := by decide +kernel
theorem dX10_evenOf_19 : decode cX10_evenOf 19 = .ok (.iconst 1, 1) := by decide +kernel
theorem dX10_evenOf_20 : decode cX10_evenOf 20 = .ok (.iload_n 3, 1) := by decide +kernel
theorem dX10_evenOf_21 : decode cX10_evenOf 21 = .ok (.ishl, 1) := by decide +kernel
theorem dX10_evenOf_22 : decode cX10_evenOf 22 = .ok (.goto 4, 3) := by decide +kernel
theorem dX10_evenOf_25 : decode cX10_evenOf 25 = .ok (.iconst 0, 1) := by decide +kernel
theorem dX10_evenOf_26 : decode cX10_evenOf 26 = .ok (.ior, 1) := by decide +kernel
theorem dX10_evenOf_27 : decode cX10_evenOf 27 = .ok (.istore_n 2, 1) := by decide +kernel
theorem dX10_evenOf_28 : decode cX10_evenOf 28 = .ok (.iinc 3 1, 3) := by decide +kernel
theorem dX10_evenOf_31 : decode cX10_evenOf 31 = .ok (.goto (-27), 3) := by decide +kernel
theorem dX10_evenOf_34 : decode cX10_evenOf 34 = .ok (.iload_n 2, 1) := by decide +kernel
theorem dX10_evenOf_35 : decode cX10_evenOf 35 = .ok (.ireturn, 1) := by decide +kernel
set_option maxRecDepth 20000 in
theorem ggX10_periodOf_X10_moved : GoodIn wsX10_periodOf wsX10_moved := goodIn_r _ [4, 5, 6, 3, 7] (by decide +kernel) (by decide +kernel)
set_option maxRecDepth 20000 in
theorem gX10_periodOf_X10_moved : GoodIn wsX10_periodOf (va_wsS RX10 69 yX10_moved wsX10_moved) := goodIn_app (goodIn_of _ (by decide +kernel)) ggX10_periodOf_X10_moved
theorem dX10_periodOf_0 : decode cX10_periodOf 0 = .ok (.iconst 1, 1) := by decide +kernel
theorem dX10_periodOf_1 : decode cX10_periodOf 1 = .ok (.istore_n 2, 1) := by decide +kernel
theorem dX10_periodOf_2 : decode cX10_periodOf 2 = .ok (.iload_n 0, 1) := by decide +kernel
theorem dX10_periodOf_3 : decode cX10_periodOf 3 = .ok (.iload_n 2, 1) := by decide +kernel
theorem dX10_periodOf_4 : decode cX10_periodOf 4 = .ok (.iload_n 1, 1) := by decide +kernel
theorem dX10_periodOf_5 : decode cX10_periodOf 5 = .ok (.invokestatic 69, 3) := by decide +kernel
theorem dX10_periodOf_8 : decode cX10_periodOf 8 = .ok (.iload_n 0, 1) := by decide +kernel
theorem dX10_periodOf_9 : decode cX10_periodOf 9 = .ok (.if_icmp .eq 9, 3) := by decide +kernel
theorem dX10_periodOf_12 : decode cX10_periodOf 12 = .ok (.iinc 2 1, 3) := by decide +kernel
theorem dX10_periodOf_15 : decode cX10_periodOf 15 = .ok (.goto (-13), 3) := by decide +kernel
theorem dX10_periodOf_18 : decode cX10_periodOf 18 = .ok (.iload_n 2, 1) := by decide +kernel
theorem dX10_periodOf_19 : decode cX10_periodOf 19 = .ok (.ireturn, 1) := by decide +kernel
set_option maxRecDepth 20000 in
theorem ggX10_isMoved_X10_moved : GoodIn wsX10_isMoved wsX10_moved := goodIn_r _ [4, 5, 6, 3, 7] (by decide +kernel) (by decide +kernel)
set_option maxRecDepth 20000 in
theorem gX10_isMoved_X10_moved : GoodIn wsX10_isMoved (va_wsS RX10 69 yX10_moved wsX10_moved) := goodIn_app (goodIn_of _ (by decide +kernel)) ggX10_isMoved_X10_moved
theorem dX10_isMoved_0 : decode cX10_isMoved 0 = .ok (.iconst 0, 1) := by decide +kernel
theorem dX10_isMoved_1 : decode cX10_isMoved 1 = .ok (.istore_n 3, 1) := by decide +kernel
theorem dX10_isMoved_2 : decode cX10_isMoved 2 = .ok (.iconst 0, 1) := by decide +kernel
theorem dX10_isMoved_3 : decode cX10_isMoved 3 = .ok (.istore 4, 2) := by decide +kernel
theorem dX10_isMoved_5 : decode cX10_isMoved 5 = .ok (.iload 4, 2) := by decide +kernel
theorem dX10_isMoved_7 : decode cX10_isMoved 7 = .ok (.iload_n 2, 1) := by decide +kernel
theorem dX10_isMoved_8 : decode cX10_isMoved 8 = .ok (.if_icmp .ge 30, 3) := by decide +kernel
theorem dX10_isMoved_11 : decode cX10_isMoved 11 = .ok (.iload_n 3, 1) := by decide +kernel
theorem dX10_isMoved_12 : decode cX10_isMoved 12 = .ok (.ifCond .ne 26, 3) := by decide +kernel
theorem dX10_isMoved_15 : decode cX10_isMoved 15 = .ok (.iload_n 0, 1) := by decide +kernel
theorem dX10_isMoved_16 : decode cX10_isMoved 16 = .ok (.iload 4, 2) := by decide +kernel
theorem dX10_isMoved_18 : decode cX10_isMoved 18 = .ok (.iload_n 2, 1) := by decide +kernel
theorem dX10_isMoved_19 : decode cX10_isMoved 19 = .ok (.invokestatic 69, 3) := by decide +kernel
theorem dX10_isMoved_22 : decode cX10_isMoved 22 = .ok (.iload_n 1, 1) := by decide +kernel
theorem dX10_isMoved_23 : decode cX10_isMoved 23 = .ok (.if_icmp .ne 7, 3) := by decide +kernel
theorem dX10_isMoved_26 : decode cX10_isMoved 26 = .ok (.iconst 1, 1) := by decide +kernel
theorem dX10_isMoved_27 : decode cX10_isMoved 27 = .ok (.goto 4, 3) := by decide +kernel
theorem dX10_isMoved_30 : decode cX10_isMoved 30 = .ok (.iconst 0, 1) := by decide +kernel
theorem dX10_isMoved_31 : decode cX10_isMoved 31 = .ok (.istore_n 3, 1) := by decide +kernel
theorem dX10_isMoved_32 : decode cX10_isMoved 32 = .ok (.iinc 4 1, 3) := by decide +kernel
theorem dX10_isMoved_35 : decode cX10_isMoved 35 = .ok (.goto (-30), 3) := by decide +kernel
theorem dX10_isMoved_38 : decode cX10_isMoved 38 = .ok (.iload_n 3, 1) := by decide +kernel
theorem dX10_isMoved_39 : decode cX10_isMoved 39 = .ok (.ireturn, 1) := by decide +kernel
set_option maxRecDepth 20000 in
theorem ggX10_feed_X10_in : GoodIn wsX10_feed wsX10_in := goodIn_r _ [9] (by decide +kernel) (by decide +kernel)
set_option maxRecDepth 20000 in
theorem gX10_feed_X10_in : GoodIn wsX10_feed (va_wsS RX10 57 yX10_in wsX10_in) := goodIn_app (goodIn_of _ (by decide +kernel)) ggX10_feed_X10_in
theorem dX10_feed_0 : decode cX10_feed 0 = .ok (.iload_n 1, 1) := by decide +kernel
theorem dX10_feed_1 : decode cX10_feed 1 = .ok (.i2l, 1) := by decide +kernel
theorem dX10_feed_2 : decode cX10_feed 2 = .ok (.lconst 0, 1) := by decide +kernel
theorem dX10_feed_3 : decode cX10_feed 3 = .ok (.ldc2_w 73, 3) := by decide +kernel
theorem dX10_feed_6 : decode cX10_feed 6 = .ok (.invokestatic 57, 3) := by decide +kernel
theorem dX10_feed_9 : decode cX10_feed 9 = .ok (.ifCond .ne 6, 3) := by decide +kernel
theorem dX10_feed_12 : decode cX10_feed 12 = .ok (.ldc 75, 2) := by decide +kernel
theorem dX10_feed_14 : decode cX10_feed 14 = .ok (.ireturn, 1) := by decide +kernel
theorem dX10_feed_15 : decode cX10_feed 15 = .ok (.aload_n 0, 1) := by decide +kernel
theorem dX10_feed_16 : decode cX10_feed 16 = .ok (.getfield 76, 3) := by decide +kernel
theorem dX10_feed_19 : decode cX10_feed 19 = .ok (.bipush 60, 2) := by decide +kernel
theorem dX10_feed_21 : decode cX10_feed 21 = .ok (.if_icmp .ne 6, 3) := by decide +kernel
theorem dX10_feed_24 : decode cX10_feed 24 = .ok (.ldc 79, 2) := by decide +kernel
theorem dX10_feed_26 : decode cX10_feed 26 = .ok (.ireturn, 1) := by decide +kernel
theorem dX10_feed_27 : decode cX10_feed 27 = .ok (.aload_n 0, 1) := by decide +kernel
theorem dX10_feed_28 : decode cX10_feed 28 = .ok (.getfield 39, 3) := by decide +kernel
theorem dX10_feed_31 : decode cX10_feed 31 = .ok (.aload_n 0, 1) := by decide +kernel
theorem dX10_feed_32 : decode cX10_feed 32 = .ok (.getfield 76, 3) := by decide +kernel
theorem dX10_feed_35 : decode cX10_feed 35 = .ok (.iload_n 1, 1) := by decide +kernel
theorem dX10_feed_36 : decode cX10_feed 36 = .ok (.iastore, 1) := by decide +kernel
theorem dX10_feed_37 : decode cX10_feed 37 = .ok (.aload_n 0, 1) := by decide +kernel
theorem dX10_feed_38 : decode cX10_feed 38 = .ok (.dup, 1) := by decide +kernel
theorem dX10_feed_39 : decode cX10_feed 39 = .ok (.getfield 76, 3) := by decide +kernel
theorem dX10_feed_42 : decode cX10_feed 42 = .ok (.iconst 1, 1) := by decide +kernel
theorem dX10_feed_43 : decode cX10_feed 43 = .ok (.iadd, 1) := by decide +kernel
theorem dX10_feed_44 : decode cX10_feed 44 = .ok (.putfield 76, 3) := by decide +kernel
theorem dX10_feed_47 : decode cX10_feed 47 = .ok (.aload_n 0, 1) := by decide +kernel
theorem dX10_feed_48 : decode cX10_feed 48 = .ok (.getfield 76, 3) := by decide +kernel
theorem dX10_feed_51 : decode cX10_feed 51 = .ok (.ireturn, 1) := by decide +kernel
set_option maxRecDepth 20000 in
theorem ggX10_isFigure_X10_in : GoodIn wsX10_isFigure wsX10_in := goodIn_r _ [8] (by decide +kernel) (by decide +kernel)
set_option maxRecDepth 20000 in
theorem gX10_isFigure_X10_in : GoodIn wsX10_isFigure (va_wsS RX10 57 yX10_in wsX10_in) := goodIn_app (goodIn_of _ (by decide +kernel)) ggX10_isFigure_X10_in
theorem dX10_isFigure_0 : decode cX10_isFigure 0 = .ok (.iload_n 1, 1) := by decide +kernel
theorem dX10_isFigure_1 : decode cX10_isFigure 1 = .ok (.aload_n 0, 1) := by decide +kernel
theorem dX10_isFigure_2 : decode cX10_isFigure 2 = .ok (.getfield 76, 3) := by decide +kernel
theorem dX10_isFigure_5 : decode cX10_isFigure 5 = .ok (.if_icmp .ge 26, 3) := by decide +kernel
theorem dX10_isFigure_8 : decode cX10_isFigure 8 = .ok (.aload_n 0, 1) := by decide +kernel
theorem dX10_isFigure_9 : decode cX10_isFigure 9 = .ok (.getfield 39, 3) := by decide +kernel
theorem dX10_isFigure_12 : decode cX10_isFigure 12 = .ok (.iload_n 1, 1) := by decide +kernel
theorem dX10_isFigure_13 : decode cX10_isFigure 13 = .ok (.iaload, 1) := by decide +kernel
theorem dX10_isFigure_14 : decode cX10_isFigure 14 = .ok (.i2l, 1) := by decide +kernel
theorem dX10_isFigure_15 : decode cX10_isFigure 15 = .ok (.ldc2_w 80, 3) := by decide +kernel
theorem dX10_isFigure_18 : decode cX10_isFigure 18 = .ok (.ldc2_w 82, 3) := by decide +kernel
theorem dX10_isFigure_21 : decode cX10_isFigure 21 = .ok (.invokestatic 57, 3) := by decide +kernel
theorem dX10_isFigure_24 : decode cX10_isFigure 24 = .ok (.ifCond .eq 7, 3) := by decide +kernel
theorem dX10_isFigure_27 : decode cX10_isFigure 27 = .ok (.iconst 1, 1) := by decide +kernel
theorem dX10_isFigure_28 : decode cX10_isFigure 28 = .ok (.goto 4, 3) := by decide +kernel
theorem dX10_isFigure_31 : decode cX10_isFigure 31 = .ok (.iconst 0, 1) := by decide +kernel
theorem dX10_isFigure_32 : decode cX10_isFigure 32 = .ok (.ireturn, 1) := by decide +kernel
set_option maxRecDepth 20000 in
theorem ggX10_reads_X10_full : GoodIn wsX10_reads wsX10_full := goodIn_r _ [9] (by decide +kernel) (by decide +kernel)
set_option maxRecDepth 20000 in
theorem gX10_reads_X10_full : GoodIn wsX10_reads (va_wsS RX10 61 yX10_full wsX10_full) := goodIn_app (goodIn_of _ (by decide +kernel)) ggX10_reads_X10_full
set_option maxRecDepth 20000 in
theorem ggX10_reads_X10_isFigure : GoodIn wsX10_reads wsX10_isFigure := goodIn_r _ [13, 3, 4, 14, 15, 16, 17, 8, 18, 19, 20, 21, 22, 23, 24, 25, 26, 27, 28, 29, 30, 31, 32, 33, 34, 35, 36, 37, 38, 39, 40, 41, 42, 43, 44, 45] (by decide +kernel) (by decide +kernel)
set_option maxRecDepth 20000 in
theorem gX10_reads_X10_isFigure : GoodIn wsX10_reads (wsV RX10 90 RX10 yX10_isFigure wsX10_isFigure) := goodIn_app (goodIn_of _ (by decide +kernel)) ggX10_reads_X10_isFigure
theorem dX10_reads_0 : decode cX10_reads 0 = .ok (.iconst 0, 1) := by decide +kernel
theorem dX10_reads_1 : decode cX10_reads 1 = .ok (.istore_n 1, 1) := by decide +kernel
theorem dX10_reads_2 : decode cX10_reads 2 = .ok (.iconst 0, 1) := by decide +kernel
theorem dX10_reads_3 : decode cX10_reads 3 = .ok (.istore_n 2, 1) := by decide +kernel
theorem dX10_reads_4 : decode cX10_reads 4 = .ok (.aload_n 0, 1) := by decide +kernel
theorem dX10_reads_5 : decode cX10_reads 5 = .ok (.iconst 0, 1) := by decide +kernel
theorem dX10_reads_6 : decode cX10_reads 6 = .ok (.putfield 84, 3) := by decide +kernel
theorem dX10_reads_9 : decode cX10_reads 9 = .ok (.aload_n 0, 1) := by decide +kernel
theorem dX10_reads_10 : decode cX10_reads 10 = .ok (.iconst 0, 1) := by decide +kernel
theorem dX10_reads_11 : decode cX10_reads 11 = .ok (.putfield 87, 3) := by decide +kernel
theorem dX10_reads_14 : decode cX10_reads 14 = .ok (.iload_n 2, 1) := by decide +kernel
theorem dX10_reads_15 : decode cX10_reads 15 = .ok (.aload_n 0, 1) := by decide +kernel
theorem dX10_reads_16 : decode cX10_reads 16 = .ok (.getfield 76, 3) := by decide +kernel
theorem dX10_reads_19 : decode cX10_reads 19 = .ok (.if_icmp .ge 184, 3) := by decide +kernel
theorem dX10_reads_22 : decode cX10_reads 22 = .ok (.aload_n 0, 1) := by decide +kernel
theorem dX10_reads_23 : decode cX10_reads 23 = .ok (.getfield 39, 3) := by decide +kernel
theorem dX10_reads_26 : decode cX10_reads 26 = .ok (.iload_n 2, 1) := by decide +kernel
theorem dX10_reads_27 : decode cX10_reads 27 = .ok (.iaload, 1) := by decide +kernel
theorem dX10_reads_28 : decode cX10_reads 28 = .ok (.istore_n 3, 1) := by decide +kernel
theorem dX10_reads_29 : decode cX10_reads 29 = .ok (.aload_n 0, 1) := by decide +kernel
theorem dX10_reads_30 : decode cX10_reads 30 = .ok (.iload_n 2, 1) := by decide +kernel
theorem dX10_reads_31 : decode cX10_reads 31 = .ok (.putfield 42, 3) := by decide +kernel
theorem dX10_reads_34 : decode cX10_reads 34 = .ok (.iload_n 3, 1) := by decide +kernel
theorem dX10_reads_35 : decode cX10_reads 35 = .ok (.bipush 120, 2) := by decide +kernel
theorem dX10_reads_37 : decode cX10_reads 37 = .ok (.if_icmp .eq 9, 3) := by decide +kernel
theorem dX10_reads_40 : decode cX10_reads 40 = .ok (.iload_n 3, 1) := by decide +kernel
theorem dX10_reads_41 : decode cX10_reads 41 = .ok (.bipush 46, 2) := by decide +kernel
theorem dX10_reads_43 : decode cX10_reads 43 = .ok (.if_icmp .ne 73, 3) := by decide +kernel
theorem dX10_reads_46 : decode cX10_reads 46 = .ok (.iload_n 1, 1) := by decide +kernel
theorem dX10_reads_47 : decode cX10_reads 47 = .ok (.ifCond .ne 7, 3) := by decide +kernel
theorem dX10_reads_50 : decode cX10_reads 50 = .ok (.iconst 1, 1) := by decide +kernel
theorem dX10_reads_51 : decode cX10_reads 51 = .ok (.goto 4, 3) := by decide +kernel
theorem dX10_reads_54 : decode cX10_reads 54 = .ok (.iload_n 1, 1) := by decide +kernel
theorem dX10_reads_55 : decode cX10_reads 55 = .ok (.istore 4, 2) := by decide +kernel
theorem dX10_reads_57 : decode cX10_reads 57 = .ok (.aload_n 0, 1) := by decide +kernel
theorem dX10_reads_58 : decode cX10_reads 58 = .ok (.getfield 84, 3) := by decide +kernel
theorem dX10_reads_61 : decode cX10_reads 61 = .ok (.iload 4, 2) := by decide +kernel
theorem dX10_reads_63 : decode cX10_reads 63 = .ok (.iadd, 1) := by decide +kernel
theorem dX10_reads_64 : decode cX10_reads 64 = .ok (.bipush 24, 2) := by decide +kernel
theorem dX10_reads_66 : decode cX10_reads 66 = .ok (.if_icmp .le 5, 3) := by decide +kernel
theorem dX10_reads_69 : decode cX10_reads 69 = .ok (.iconst 3, 1) := by decide +kernel
theorem dX10_reads_70 : decode cX10_reads 70 = .ok (.ireturn, 1) := by decide +kernel
theorem dX10_reads_71 : decode cX10_reads 71 = .ok (.aload_n 0, 1) := by decide +kernel
theorem dX10_reads_72 : decode cX10_reads 72 = .ok (.dup, 1) := by decide +kernel
theorem dX10_reads_73 : decode cX10_reads 73 = .ok (.getfield 87, 3) := by decide +kernel
theorem dX10_reads_76 : decode cX10_reads 76 = .ok (.iload_n 3, 1) := by decide +kernel
theorem dX10_reads_77 : decode cX10_reads 77 = .ok (.bipush 120, 2) := by decide +kernel
theorem dX10_reads_79 : decode cX10_reads 79 = .ok (.if_icmp .ne 16, 3) := by decide +kernel
theorem dX10_reads_82 : decode cX10_reads 82 = .ok (.iload 4, 2) := by decide +kernel
theorem dX10_reads_84 : decode cX10_reads 84 = .ok (.invokestatic 61, 3) := by decide +kernel
theorem dX10_reads_87 : decode cX10_reads 87 = .ok (.aload_n 0, 1) := by decide +kernel
theorem dX10_reads_88 : decode cX10_reads 88 = .ok (.getfield 84, 3) := by decide +kernel
theorem dX10_reads_91 : decode cX10_reads 91 = .ok (.ishl, 1) := by decide +kernel
theorem dX10_reads_92 : decode cX10_reads 92 = .ok (.goto 4, 3) := by decide +kernel
theorem dX10_reads_95 : decode cX10_reads 95 = .ok (.iconst 0, 1) := by decide +kernel
theorem dX10_reads_96 : decode cX10_reads 96 = .ok (.ior, 1) := by decide +kernel
theorem dX10_reads_97 : decode cX10_reads 97 = .ok (.putfield 87, 3) := by decide +kernel
theorem dX10_reads_100 : decode cX10_reads 100 = .ok (.aload_n 0, 1) := by decide +kernel
theorem dX10_reads_101 : decode cX10_reads 101 = .ok (.dup, 1) := by decide +kernel
theorem dX10_reads_102 : decode cX10_reads 102 = .ok (.getfield 84, 3) := by decide +kernel
theorem dX10_reads_105 : decode cX10_reads 105 = .ok (.iload 4, 2) := by decide +kernel
theorem dX10_reads_107 : decode cX10_reads 107 = .ok (.iadd, 1) := by decide +kernel
theorem dX10_reads_108 : decode cX10_reads 108 = .ok (.putfield 84, 3) := by decide +kernel
theorem dX10_reads_111 : decode cX10_reads 111 = .ok (.iconst 0, 1) := by decide +kernel
theorem dX10_reads_112 : decode cX10_reads 112 = .ok (.istore_n 1, 1) := by decide +kernel
theorem dX10_reads_113 : decode cX10_reads 113 = .ok (.goto 84, 3) := by decide +kernel
theorem dX10_reads_116 : decode cX10_reads 116 = .ok (.aload_n 0, 1) := by decide +kernel
theorem dX10_reads_117 : decode cX10_reads 117 = .ok (.iload_n 2, 1) := by decide +kernel
theorem dX10_reads_118 : decode cX10_reads 118 = .ok (.invokevirtual 90, 3) := by decide +kernel
theorem dX10_reads_121 : decode cX10_reads 121 = .ok (.ifCond .eq 68, 3) := by decide +kernel
theorem dX10_reads_124 : decode cX10_reads 124 = .ok (.iload_n 3, 1) := by decide +kernel
theorem dX10_reads_125 : decode cX10_reads 125 = .ok (.bipush 48, 2) := by decide +kernel
theorem dX10_reads_127 : decode cX10_reads 127 = .ok (.if_icmp .eq 62, 3) := by decide +kernel
theorem dX10_reads_130 : decode cX10_reads 130 = .ok (.iload_n 1, 1) := by decide +kernel
theorem dX10_reads_131 : decode cX10_reads 131 = .ok (.ifCond .ne 58, 3) := by decide +kernel
theorem dX10_reads_134 : decode cX10_reads 134 = .ok (.iload_n 3, 1) := by decide +kernel
theorem dX10_reads_135 : decode cX10_reads 135 = .ok (.bipush 48, 2) := by decide +kernel
theorem dX10_reads_137 : decode cX10_reads 137 = .ok (.isub, 1) := by decide +kernel
theorem dX10_reads_138 : decode cX10_reads 138 = .ok (.istore_n 1, 1) := by decide +kernel
theorem dX10_reads_139 : decode cX10_reads 139 = .ok (.aload_n 0, 1) := by decide +kernel
theorem dX10_reads_140 : decode cX10_reads 140 = .ok (.iload_n 2, 1) := by decide +kernel
theorem dX10_reads_141 : decode cX10_reads 141 = .ok (.iconst 1, 1) := by decide +kernel
theorem dX10_reads_142 : decode cX10_reads 142 = .ok (.iadd, 1) := by decide +kernel
theorem dX10_reads_143 : decode cX10_reads 143 = .ok (.invokevirtual 90, 3) := by decide +kernel
theorem dX10_reads_146 : decode cX10_reads 146 = .ok (.ifCond .eq 51, 3) := by decide +kernel
theorem dX10_reads_149 : decode cX10_reads 149 = .ok (.bipush 10, 2) := by decide +kernel
theorem dX10_reads_151 : decode cX10_reads 151 = .ok (.iload_n 1, 1) := by decide +kernel
theorem dX10_reads_152 : decode cX10_reads 152 = .ok (.imul, 1) := by decide +kernel
theorem dX10_reads_153 : decode cX10_reads 153 = .ok (.aload_n 0, 1) := by decide +kernel
theorem dX10_reads_154 : decode cX10_reads 154 = .ok (.getfield 39, 3) := by decide +kernel
theorem dX10_reads_157 : decode cX10_reads 157 = .ok (.iload_n 2, 1) := by decide +kernel
theorem dX10_reads_158 : decode cX10_reads 158 = .ok (.iconst 1, 1) := by decide +kernel
theorem dX10_reads_159 : decode cX10_reads 159 = .ok (.iadd, 1) := by decide +kernel
theorem dX10_reads_160 : decode cX10_reads 160 = .ok (.iaload, 1) := by decide +kernel
theorem dX10_reads_161 : decode cX10_reads 161 = .ok (.iadd, 1) := by decide +kernel
theorem dX10_reads_162 : decode cX10_reads 162 = .ok (.bipush 48, 2) := by decide +kernel
theorem dX10_reads_164 : decode cX10_reads 164 = .ok (.isub, 1) := by decide +kernel
theorem dX10_reads_165 : decode cX10_reads 165 = .ok (.istore_n 1, 1) := by decide +kernel
theorem dX10_reads_166 : decode cX10_reads 166 = .ok (.iload_n 1, 1) := by decide +kernel
theorem dX10_reads_167 : decode cX10_reads 167 = .ok (.bipush 24, 2) := by decide +kernel
theorem dX10_reads_169 : decode cX10_reads 169 = .ok (.if_icmp .le 5, 3) := by decide +kernel
theorem dX10_reads_172 : decode cX10_reads 172 = .ok (.iconst 2, 1) := by decide +kernel
theorem dX10_reads_173 : decode cX10_reads 173 = .ok (.ireturn, 1) := by decide +kernel
theorem dX10_reads_174 : decode cX10_reads 174 = .ok (.iinc 2 1, 3) := by decide +kernel
theorem dX10_reads_177 : decode cX10_reads 177 = .ok (.aload_n 0, 1) := by decide +kernel
theorem dX10_reads_178 : decode cX10_reads 178 = .ok (.iload_n 2, 1) := by decide +kernel
theorem dX10_reads_179 : decode cX10_reads 179 = .ok (.iconst 1, 1) := by decide +kernel
theorem dX10_reads_180 : decode cX10_reads 180 = .ok (.iadd, 1) := by decide +kernel
theorem dX10_reads_181 : decode cX10_reads 181 = .ok (.invokevirtual 90, 3) := by decide +kernel
theorem dX10_reads_184 : decode cX10_reads 184 = .ok (.ifCond .eq 13, 3) := by decide +kernel
theorem dX10_reads_187 : decode cX10_reads 187 = .ok (.iconst 2, 1) := by decide +kernel
theorem dX10_reads_188 : decode cX10_reads 188 = .ok (.ireturn, 1) := by decide +kernel
theorem dX10_reads_189 : decode cX10_reads 189 = .ok (.iload_n 3, 1) := by decide +kernel
theorem dX10_reads_190 : decode cX10_reads 190 = .ok (.bipush 32, 2) := by decide +kernel
theorem dX10_reads_192 : decode cX10_reads 192 = .ok (.if_icmp .eq 5, 3) := by decide +kernel
theorem dX10_reads_195 : decode cX10_reads 195 = .ok (.iconst 1, 1) := by decide +kernel
theorem dX10_reads_196 : decode cX10_reads 196 = .ok (.ireturn, 1) := by decide +kernel
theorem dX10_reads_197 : decode cX10_reads 197 = .ok (.iinc 2 1, 3) := by decide +kernel
theorem dX10_reads_200 : decode cX10_reads 200 = .ok (.goto (-186), 3) := by decide +kernel
theorem dX10_reads_203 : decode cX10_reads 203 = .ok (.aload_n 0, 1) := by decide +kernel
theorem dX10_reads_204 : decode cX10_reads 204 = .ok (.aload_n 0, 1) := by decide +kernel
theorem dX10_reads_205 : decode cX10_reads 205 = .ok (.getfield 76, 3) := by decide +kernel
theorem dX10_reads_208 : decode cX10_reads 208 = .ok (.putfield 42, 3) := by decide +kernel
theorem dX10_reads_211 : decode cX10_reads 211 = .ok (.iload_n 1, 1) := by decide +kernel
theorem dX10_reads_212 : decode cX10_reads 212 = .ok (.ifCond .gt 10, 3) := by decide +kernel
theorem dX10_reads_215 : decode cX10_reads 215 = .ok (.aload_n 0, 1) := by decide +kernel
theorem dX10_reads_216 : decode cX10_reads 216 = .ok (.getfield 84, 3) := by decide +kernel
theorem dX10_reads_219 : decode cX10_reads 219 = .ok (.ifCond .ne 7, 3) := by decide +kernel
theorem dX10_reads_222 : decode cX10_reads 222 = .ok (.iconst 1, 1) := by decide +kernel
theorem dX10_reads_223 : decode cX10_reads 223 = .ok (.goto 4, 3) := by decide +kernel
theorem dX10_reads_226 : decode cX10_reads 226 = .ok (.iconst 0, 1) := by decide +kernel
theorem dX10_reads_227 : decode cX10_reads 227 = .ok (.ireturn, 1) := by decide +kernel
set_option maxRecDepth 20000 in
theorem ggX10_tell_X10_reads : GoodIn wsX10_tell wsX10_reads := goodIn_r _ [12, 3, 5, 1, 13, 2, 14, 15, 11, 16, 17, 18, 19, 20, 21, 22, 23, 24, 25, 33, 34, 35, 36, 37, 38, 39, 40, 41, 42, 43, 44, 45, 46, 47, 48, 49, 50, 51, 52, 53, 54, 55, 56, 57, 58, 59] (by decide +kernel) (by decide +kernel)
set_option maxRecDepth 20000 in
theorem gX10_tell_X10_reads : GoodIn wsX10_tell (wsV RX10 94 RX10 yX10_reads wsX10_reads) := goodIn_app (goodIn_of _ (by decide +kernel)) ggX10_tell_X10_reads
set_option maxRecDepth 20000 in
theorem ggX10_tell_X10_save : GoodIn wsX10_tell wsX10_save := goodIn_r _ [29, 30, 31, 32, 4, 6, 33, 34, 35, 36, 37, 38, 39, 40, 41, 42, 43, 44, 45, 46, 47, 48, 49, 50, 51, 52, 53, 54, 55, 56, 57, 58, 59] (by decide +kernel) (by decide +kernel)
set_option maxRecDepth 20000 in
theorem gX10_tell_X10_save : GoodIn wsX10_tell (wsV RX10 98 RX10 yX10_save wsX10_save) := goodIn_app (goodIn_of _ (by decide +kernel)) ggX10_tell_X10_save
theorem dX10_tell_0 : decode cX10_tell 0 = .ok (.aload_n 0, 1) := by decide +kernel
theorem dX10_tell_1 : decode cX10_tell 1 = .ok (.invokevirtual 94, 3) := by decide +kernel
theorem dX10_tell_4 : decode cX10_tell 4 = .ok (.istore_n 1, 1) := by decide +kernel
theorem dX10_tell_5 : decode cX10_tell 5 = .ok (.aload_n 0, 1) := by decide +kernel
theorem dX10_tell_6 : decode cX10_tell 6 = .ok (.iconst 0, 1) := by decide +kernel
theorem dX10_tell_7 : decode cX10_tell 7 = .ok (.putfield 76, 3) := by decide +kernel
theorem dX10_tell_10 : decode cX10_tell 10 = .ok (.iload_n 1, 1) := by decide +kernel
theorem dX10_tell_11 : decode cX10_tell 11 = .ok (.ifCond .le 8, 3) := by decide +kernel
theorem dX10_tell_14 : decode cX10_tell 14 = .ok (.bipush (-10), 2) := by decide +kernel
theorem dX10_tell_16 : decode cX10_tell 16 = .ok (.iload_n 1, 1) := by decide +kernel
theorem dX10_tell_17 : decode cX10_tell 17 = .ok (.isub, 1) := by decide +kernel
theorem dX10_tell_18 : decode cX10_tell 18 = .ok (.ireturn, 1) := by decide +kernel
theorem dX10_tell_19 : decode cX10_tell 19 = .ok (.aload_n 0, 1) := by decide +kernel
theorem dX10_tell_20 : decode cX10_tell 20 = .ok (.iconst (-1), 1) := by decide +kernel
theorem dX10_tell_21 : decode cX10_tell 21 = .ok (.putfield 42, 3) := by decide +kernel
theorem dX10_tell_24 : decode cX10_tell 24 = .ok (.aload_n 0, 1) := by decide +kernel
theorem dX10_tell_25 : decode cX10_tell 25 = .ok (.invokevirtual 98, 3) := by decide +kernel
theorem dX10_tell_28 : decode cX10_tell 28 = .ok (.aload_n 0, 1) := by decide +kernel
theorem dX10_tell_29 : decode cX10_tell 29 = .ok (.aload_n 0, 1) := by decide +kernel
theorem dX10_tell_30 : decode cX10_tell 30 = .ok (.getfield 84, 3) := by decide +kernel
theorem dX10_tell_33 : decode cX10_tell 33 = .ok (.putfield 7, 3) := by decide +kernel
theorem dX10_tell_36 : decode cX10_tell 36 = .ok (.aload_n 0, 1) := by decide +kernel
theorem dX10_tell_37 : decode cX10_tell 37 = .ok (.aload_n 0, 1) := by decide +kernel
theorem dX10_tell_38 : decode cX10_tell 38 = .ok (.getfield 87, 3) := by decide +kernel
theorem dX10_tell_41 : decode cX10_tell 41 = .ok (.putfield 101, 3) := by decide +kernel
theorem dX10_tell_44 : decode cX10_tell 44 = .ok (.aload_n 0, 1) := by decide +kernel
theorem dX10_tell_45 : decode cX10_tell 45 = .ok (.iconst 0, 1) := by decide +kernel
theorem dX10_tell_46 : decode cX10_tell 46 = .ok (.putfield 104, 3) := by decide +kernel
theorem dX10_tell_49 : decode cX10_tell 49 = .ok (.aload_n 0, 1) := by decide +kernel
theorem dX10_tell_50 : decode cX10_tell 50 = .ok (.getfield 7, 3) := by decide +kernel
theorem dX10_tell_53 : decode cX10_tell 53 = .ok (.ireturn, 1) := by decide +kernel
theorem dX10_fault_0 : decode cX10_fault 0 = .ok (.aload_n 0, 1) := by decide +kernel
theorem dX10_fault_1 : decode cX10_fault 1 = .ok (.getfield 42, 3) := by decide +kernel
theorem dX10_fault_4 : decode cX10_fault 4 = .ok (.ireturn, 1) := by decide +kernel
set_option maxRecDepth 20000 in
theorem ggX10_firstFree_X10_has : GoodIn wsX10_firstFree wsX10_has := goodIn_r _ [4] (by decide +kernel) (by decide +kernel)
set_option maxRecDepth 20000 in
theorem gX10_firstFree_X10_has : GoodIn wsX10_firstFree (va_wsS RX10 65 yX10_has wsX10_has) := goodIn_app (goodIn_of _ (by decide +kernel)) ggX10_firstFree_X10_has
theorem dX10_firstFree_0 : decode cX10_firstFree 0 = .ok (.iconst 0, 1) := by decide +kernel
theorem dX10_firstFree_1 : decode cX10_firstFree 1 = .ok (.istore_n 1, 1) := by decide +kernel
theorem dX10_firstFree_2 : decode cX10_firstFree 2 = .ok (.iload_n 0, 1) := by decide +kernel
theorem dX10_firstFree_3 : decode cX10_firstFree 3 = .ok (.iload_n 1, 1) := by decide +kernel
theorem dX10_firstFree_4 : decode cX10_firstFree 4 = .ok (.invokestatic 65, 3) := by decide +kernel
theorem dX10_firstFree_7 : decode cX10_firstFree 7 = .ok (.ifCond .eq 9, 3) := by decide +kernel
theorem dX10_firstFree_10 : decode cX10_firstFree 10 = .ok (.iinc 1 1, 3) := by decide +kernel
theorem dX10_firstFree_13 : decode cX10_firstFree 13 = .ok (.goto (-11), 3) := by decide +kernel
theorem dX10_firstFree_16 : decode cX10_firstFree 16 = .ok (.iload_n 1, 1) := by decide +kernel
theorem dX10_firstFree_17 : decode cX10_firstFree 17 = .ok (.ireturn, 1) := by decide +kernel
set_option maxRecDepth 20000 in
theorem ggX10_findTilings_X10_bits : GoodIn wsX10_findTilings wsX10_bits := goodIn_r _ [8] (by decide +kernel) (by decide +kernel)
set_option maxRecDepth 20000 in
theorem gX10_findTilings_X10_bits : GoodIn wsX10_findTilings (va_wsS RX10 107 yX10_bits wsX10_bits) := goodIn_app (goodIn_of _ (by decide +kernel)) ggX10_findTilings_X10_bits
set_option maxRecDepth 20000 in
theorem ggX10_findTilings_X10_full : GoodIn wsX10_findTilings wsX10_full := goodIn_r _ [11] (by decide +kernel) (by decide +kernel)
set_option maxRecDepth 20000 in
theorem gX10_findTilings_X10_full : GoodIn wsX10_findTilings (va_wsS RX10 61 yX10_full wsX10_full) := goodIn_app (goodIn_of _ (by decide +kernel)) ggX10_findTilings_X10_full
set_option maxRecDepth 20000 in
theorem ggX10_findTilings_X10_firstFree : GoodIn wsX10_findTilings wsX10_firstFree := goodIn_r _ [14, 15, 16, 7, 17] (by decide +kernel) (by decide +kernel)
set_option maxRecDepth 20000 in
theorem gX10_findTilings_X10_firstFree : GoodIn wsX10_findTilings (va_wsS RX10 110 yX10_firstFree wsX10_firstFree) := goodIn_app (goodIn_of _ (by decide +kernel)) ggX10_findTilings_X10_firstFree
set_option maxRecDepth 20000 in
theorem ggX10_findTilings_X10_has : GoodIn wsX10_findTilings wsX10_has := goodIn_r _ [17] (by decide +kernel) (by decide +kernel)
set_option maxRecDepth 20000 in
theorem gX10_findTilings_X10_has : GoodIn wsX10_findTilings (va_wsS RX10 65 yX10_has wsX10_has) := goodIn_app (goodIn_of _ (by decide +kernel)) ggX10_findTilings_X10_has
set_option maxRecDepth 20000 in
theorem ggX10_findTilings_X10_moved : GoodIn wsX10_findTilings wsX10_moved := goodIn_r _ [20, 9, 10, 7, 11] (by decide +kernel) (by decide +kernel)
set_option maxRecDepth 20000 in
theorem gX10_findTilings_X10_moved : GoodIn wsX10_findTilings (va_wsS RX10 69 yX10_moved wsX10_moved) := goodIn_app (goodIn_of _ (by decide +kernel)) ggX10_findTilings_X10_moved
theorem dX10_findTilings_0 : decode cX10_findTilings 0 = .ok (.iconst 0, 1) := by decide +kernel
theorem dX10_findTilings_1 : decode cX10_findTilings 1 = .ok (.istore 4, 2) := by decide +kernel
theorem dX10_findTilings_3 : decode cX10_findTilings 3 = .ok (.iload_n 1, 1) := by decide +kernel
theorem dX10_findTilings_4 : decode cX10_findTilings 4 = .ok (.invokestatic 107, 3) := by decide +kernel
theorem dX10_findTilings_7 : decode cX10_findTilings 7 = .ok (.istore 5, 2) := by decide +kernel
theorem dX10_findTilings_9 : decode cX10_findTilings 9 = .ok (.iload 5, 2) := by decide +kernel
theorem dX10_findTilings_11 : decode cX10_findTilings 11 = .ok (.ifCond .eq 10, 3) := by decide +kernel
theorem dX10_findTilings_14 : decode cX10_findTilings 14 = .ok (.iload_n 2, 1) := by decide +kernel
theorem dX10_findTilings_15 : decode cX10_findTilings 15 = .ok (.iload 5, 2) := by decide +kernel
theorem dX10_findTilings_17 : decode cX10_findTilings 17 = .ok (.irem, 1) := by decide +kernel
theorem dX10_findTilings_18 : decode cX10_findTilings 18 = .ok (.ifCond .eq 5, 3) := by decide +kernel
theorem dX10_findTilings_21 : decode cX10_findTilings 21 = .ok (.iconst 0, 1) := by decide +kernel
theorem dX10_findTilings_22 : decode cX10_findTilings 22 = .ok (.ireturn, 1) := by decide +kernel
theorem dX10_findTilings_23 : decode cX10_findTilings 23 = .ok (.iconst 0, 1) := by decide +kernel
theorem dX10_findTilings_24 : decode cX10_findTilings 24 = .ok (.istore 6, 2) := by decide +kernel
theorem dX10_findTilings_26 : decode cX10_findTilings 26 = .ok (.aload_n 0, 1) := by decide +kernel
theorem dX10_findTilings_27 : decode cX10_findTilings 27 = .ok (.getfield 48, 3) := by decide +kernel
theorem dX10_findTilings_30 : decode cX10_findTilings 30 = .ok (.iconst 0, 1) := by decide +kernel
theorem dX10_findTilings_31 : decode cX10_findTilings 31 = .ok (.iconst 1, 1) := by decide +kernel
theorem dX10_findTilings_32 : decode cX10_findTilings 32 = .ok (.iastore, 1) := by decide +kernel
theorem dX10_findTilings_33 : decode cX10_findTilings 33 = .ok (.aload_n 0, 1) := by decide +kernel
theorem dX10_findTilings_34 : decode cX10_findTilings 34 = .ok (.getfield 51, 3) := by decide +kernel
theorem dX10_findTilings_37 : decode cX10_findTilings 37 = .ok (.iconst 0, 1) := by decide +kernel
theorem dX10_findTilings_38 : decode cX10_findTilings 38 = .ok (.iload_n 1, 1) := by decide +kernel
theorem dX10_findTilings_39 : decode cX10_findTilings 39 = .ok (.iastore, 1) := by decide +kernel
theorem dX10_findTilings_40 : decode cX10_findTilings 40 = .ok (.aload_n 0, 1) := by decide +kernel
theorem dX10_findTilings_41 : decode cX10_findTilings 41 = .ok (.getfield 54, 3) := by decide +kernel
theorem dX10_findTilings_44 : decode cX10_findTilings 44 = .ok (.iconst 0, 1) := by decide +kernel
theorem dX10_findTilings_45 : decode cX10_findTilings 45 = .ok (.iconst (-1), 1) := by decide +kernel
theorem dX10_findTilings_46 : decode cX10_findTilings 46 = .ok (.iastore, 1) := by decide +kernel
theorem dX10_findTilings_47 : decode cX10_findTilings 47 = .ok (.iload 6, 2) := by decide +kernel
theorem dX10_findTilings_49 : decode cX10_findTilings 49 = .ok (.ifCond .lt 194, 3) := by decide +kernel
theorem dX10_findTilings_52 : decode cX10_findTilings 52 = .ok (.iload 4, 2) := by decide +kernel
theorem dX10_findTilings_54 : decode cX10_findTilings 54 = .ok (.iload_n 3, 1) := by decide +kernel
theorem dX10_findTilings_55 : decode cX10_findTilings 55 = .ok (.if_icmp .ge 188, 3) := by decide +kernel
theorem dX10_findTilings_58 : decode cX10_findTilings 58 = .ok (.aload_n 0, 1) := by decide +kernel
theorem dX10_findTilings_59 : decode cX10_findTilings 59 = .ok (.getfield 51, 3) := by decide +kernel
theorem dX10_findTilings_62 : decode cX10_findTilings 62 = .ok (.iload 6, 2) := by decide +kernel
theorem dX10_findTilings_64 : decode cX10_findTilings 64 = .ok (.iaload, 1) := by decide +kernel
theorem dX10_findTilings_65 : decode cX10_findTilings 65 = .ok (.iload_n 2, 1) := by decide +kernel
theorem dX10_findTilings_66 : decode cX10_findTilings 66 = .ok (.invokestatic 61, 3) := by decide +kernel
theorem dX10_findTilings_69 : decode cX10_findTilings 69 = .ok (.if_icmp .ne 26, 3) := by decide +kernel
theorem dX10_findTilings_72 : decode cX10_findTilings 72 = .ok (.aload_n 0, 1) := by decide +kernel
theorem dX10_findTilings_73 : decode cX10_findTilings 73 = .ok (.getfield 45, 3) := by decide +kernel
theorem dX10_findTilings_76 : decode cX10_findTilings 76 = .ok (.iload 4, 2) := by decide +kernel
theorem dX10_findTilings_78 : decode cX10_findTilings 78 = .ok (.aload_n 0, 1) := by decide +kernel
theorem dX10_findTilings_79 : decode cX10_findTilings 79 = .ok (.getfield 48, 3) := by decide +kernel
theorem dX10_findTilings_82 : decode cX10_findTilings 82 = .ok (.iload 6, 2) := by decide +kernel
theorem dX10_findTilings_84 : decode cX10_findTilings 84 = .ok (.iaload, 1) := by decide +kernel
theorem dX10_findTilings_85 : decode cX10_findTilings 85 = .ok (.iastore, 1) := by decide +kernel
theorem dX10_findTilings_86 : decode cX10_findTilings 86 = .ok (.iinc 4 1, 3) := by decide +kernel
theorem dX10_findTilings_89 : decode cX10_findTilings 89 = .ok (.iinc 6 (-1), 3) := by decide +kernel
theorem dX10_findTilings_92 : decode cX10_findTilings 92 = .ok (.goto (-45), 3) := by decide +kernel
theorem dX10_findTilings_95 : decode cX10_findTilings 95 = .ok (.aload_n 0, 1) := by decide +kernel
theorem dX10_findTilings_96 : decode cX10_findTilings 96 = .ok (.getfield 51, 3) := by decide +kernel
theorem dX10_findTilings_99 : decode cX10_findTilings 99 = .ok (.iload 6, 2) := by decide +kernel
theorem dX10_findTilings_101 : decode cX10_findTilings 101 = .ok (.iaload, 1) := by decide +kernel
theorem dX10_findTilings_102 : decode cX10_findTilings 102 = .ok (.invokestatic 110, 3) := by decide +kernel
theorem dX10_findTilings_105 : decode cX10_findTilings 105 = .ok (.istore 7, 2) := by decide +kernel
theorem dX10_findTilings_107 : decode cX10_findTilings 107 = .ok (.aload_n 0, 1) := by decide +kernel
theorem dX10_findTilings_108 : decode cX10_findTilings 108 = .ok (.getfield 54, 3) := by decide +kernel
theorem dX10_findTilings_111 : decode cX10_findTilings 111 = .ok (.iload 6, 2) := by decide +kernel
theorem dX10_findTilings_113 : decode cX10_findTilings 113 = .ok (.dup2, 1) := by decide +kernel
theorem dX10_findTilings_114 : decode cX10_findTilings 114 = .ok (.iaload, 1) := by decide +kernel
theorem dX10_findTilings_115 : decode cX10_findTilings 115 = .ok (.iconst 1, 1) := by decide +kernel
theorem dX10_findTilings_116 : decode cX10_findTilings 116 = .ok (.iadd, 1) := by decide +kernel
theorem dX10_findTilings_117 : decode cX10_findTilings 117 = .ok (.iastore, 1) := by decide +kernel
theorem dX10_findTilings_118 : decode cX10_findTilings 118 = .ok (.aload_n 0, 1) := by decide +kernel
theorem dX10_findTilings_119 : decode cX10_findTilings 119 = .ok (.getfield 54, 3) := by decide +kernel
theorem dX10_findTilings_122 : decode cX10_findTilings 122 = .ok (.iload 6, 2) := by decide +kernel
theorem dX10_findTilings_124 : decode cX10_findTilings 124 = .ok (.iaload, 1) := by decide +kernel
theorem dX10_findTilings_125 : decode cX10_findTilings 125 = .ok (.iload_n 2, 1) := by decide +kernel
theorem dX10_findTilings_126 : decode cX10_findTilings 126 = .ok (.if_icmp .ne 9, 3) := by decide +kernel
theorem dX10_findTilings_129 : decode cX10_findTilings 129 = .ok (.iinc 6 (-1), 3) := by decide +kernel
theorem dX10_findTilings_132 : decode cX10_findTilings 132 = .ok (.goto 108, 3) := by decide +kernel
theorem dX10_findTilings_135 : decode cX10_findTilings 135 = .ok (.iload_n 1, 1) := by decide +kernel
theorem dX10_findTilings_136 : decode cX10_findTilings 136 = .ok (.aload_n 0, 1) := by decide +kernel
theorem dX10_findTilings_137 : decode cX10_findTilings 137 = .ok (.getfield 54, 3) := by decide +kernel
theorem dX10_findTilings_140 : decode cX10_findTilings 140 = .ok (.iload 6, 2) := by decide +kernel
theorem dX10_findTilings_142 : decode cX10_findTilings 142 = .ok (.iaload, 1) := by decide +kernel
theorem dX10_findTilings_143 : decode cX10_findTilings 143 = .ok (.invokestatic 65, 3) := by decide +kernel
theorem dX10_findTilings_146 : decode cX10_findTilings 146 = .ok (.ifCond .eq 94, 3) := by decide +kernel
theorem dX10_findTilings_149 : decode cX10_findTilings 149 = .ok (.iload 7, 2) := by decide +kernel
theorem dX10_findTilings_151 : decode cX10_findTilings 151 = .ok (.aload_n 0, 1) := by decide +kernel
theorem dX10_findTilings_152 : decode cX10_findTilings 152 = .ok (.getfield 54, 3) := by decide +kernel
theorem dX10_findTilings_155 : decode cX10_findTilings 155 = .ok (.iload 6, 2) := by decide +kernel
theorem dX10_findTilings_157 : decode cX10_findTilings 157 = .ok (.iaload, 1) := by decide +kernel
theorem dX10_findTilings_158 : decode cX10_findTilings 158 = .ok (.isub, 1) := by decide +kernel
theorem dX10_findTilings_159 : decode cX10_findTilings 159 = .ok (.iload_n 2, 1) := by decide +kernel
theorem dX10_findTilings_160 : decode cX10_findTilings 160 = .ok (.iadd, 1) := by decide +kernel
theorem dX10_findTilings_161 : decode cX10_findTilings 161 = .ok (.iload_n 2, 1) := by decide +kernel
theorem dX10_findTilings_162 : decode cX10_findTilings 162 = .ok (.irem, 1) := by decide +kernel
theorem dX10_findTilings_163 : decode cX10_findTilings 163 = .ok (.istore 8, 2) := by decide +kernel
theorem dX10_findTilings_165 : decode cX10_findTilings 165 = .ok (.iload_n 1, 1) := by decide +kernel
theorem dX10_findTilings_166 : decode cX10_findTilings 166 = .ok (.iload 8, 2) := by decide +kernel
theorem dX10_findTilings_168 : decode cX10_findTilings 168 = .ok (.iload_n 2, 1) := by decide +kernel
theorem dX10_findTilings_169 : decode cX10_findTilings 169 = .ok (.invokestatic 69, 3) := by decide +kernel
theorem dX10_findTilings_172 : decode cX10_findTilings 172 = .ok (.istore 9, 2) := by decide +kernel
theorem dX10_findTilings_174 : decode cX10_findTilings 174 = .ok (.iload 9, 2) := by decide +kernel
theorem dX10_findTilings_176 : decode cX10_findTilings 176 = .ok (.aload_n 0, 1) := by decide +kernel
theorem dX10_findTilings_177 : decode cX10_findTilings 177 = .ok (.getfield 51, 3) := by decide +kernel
theorem dX10_findTilings_180 : decode cX10_findTilings 180 = .ok (.iload 6, 2) := by decide +kernel
theorem dX10_findTilings_182 : decode cX10_findTilings 182 = .ok (.iaload, 1) := by decide +kernel
theorem dX10_findTilings_183 : decode cX10_findTilings 183 = .ok (.iand, 1) := by decide +kernel
theorem dX10_findTilings_184 : decode cX10_findTilings 184 = .ok (.ifCond .ne 56, 3) := by decide +kernel
theorem dX10_findTilings_187 : decode cX10_findTilings 187 = .ok (.aload_n 0, 1) := by decide +kernel
theorem dX10_findTilings_188 : decode cX10_findTilings 188 = .ok (.getfield 48, 3) := by decide +kernel
theorem dX10_findTilings_191 : decode cX10_findTilings 191 = .ok (.iload 6, 2) := by decide +kernel
theorem dX10_findTilings_193 : decode cX10_findTilings 193 = .ok (.iconst 1, 1) := by decide +kernel
theorem dX10_findTilings_194 : decode cX10_findTilings 194 = .ok (.iadd, 1) := by decide +kernel
theorem dX10_findTilings_195 : decode cX10_findTilings 195 = .ok (.aload_n 0, 1) := by decide +kernel
theorem dX10_findTilings_196 : decode cX10_findTilings 196 = .ok (.getfield 48, 3) := by decide +kernel
theorem dX10_findTilings_199 : decode cX10_findTilings 199 = .ok (.iload 6, 2) := by decide +kernel
theorem dX10_findTilings_201 : decode cX10_findTilings 201 = .ok (.iaload, 1) := by decide +kernel
theorem dX10_findTilings_202 : decode cX10_findTilings 202 = .ok (.iconst 1, 1) := by decide +kernel
theorem dX10_findTilings_203 : decode cX10_findTilings 203 = .ok (.iload 8, 2) := by decide +kernel
theorem dX10_findTilings_205 : decode cX10_findTilings 205 = .ok (.ishl, 1) := by decide +kernel
theorem dX10_findTilings_206 : decode cX10_findTilings 206 = .ok (.ior, 1) := by decide +kernel
theorem dX10_findTilings_207 : decode cX10_findTilings 207 = .ok (.iastore, 1) := by decide +kernel
theorem dX10_findTilings_208 : decode cX10_findTilings 208 = .ok (.aload_n 0, 1) := by decide +kernel
theorem dX10_findTilings_209 : decode cX10_findTilings 209 = .ok (.getfield 51, 3) := by decide +kernel
theorem dX10_findTilings_212 : decode cX10_findTilings 212 = .ok (.iload 6, 2) := by decide +kernel
theorem dX10_findTilings_214 : decode cX10_findTilings 214 = .ok (.iconst 1, 1) := by decide +kernel
theorem dX10_findTilings_215 : decode cX10_findTilings 215 = .ok (.iadd, 1) := by decide +kernel
theorem dX10_findTilings_216 : decode cX10_findTilings 216 = .ok (.aload_n 0, 1) := by decide +kernel
theorem dX10_findTilings_217 : decode cX10_findTilings 217 = .ok (.getfield 51, 3) := by decide +kernel
theorem dX10_findTilings_220 : decode cX10_findTilings 220 = .ok (.iload 6, 2) := by decide +kernel
theorem dX10_findTilings_222 : decode cX10_findTilings 222 = .ok (.iaload, 1) := by decide +kernel
theorem dX10_findTilings_223 : decode cX10_findTilings 223 = .ok (.iload 9, 2) := by decide +kernel
theorem dX10_findTilings_225 : decode cX10_findTilings 225 = .ok (.ior, 1) := by decide +kernel
theorem dX10_findTilings_226 : decode cX10_findTilings 226 = .ok (.iastore, 1) := by decide +kernel
theorem dX10_findTilings_227 : decode cX10_findTilings 227 = .ok (.aload_n 0, 1) := by decide +kernel
theorem dX10_findTilings_228 : decode cX10_findTilings 228 = .ok (.getfield 54, 3) := by decide +kernel
theorem dX10_findTilings_231 : decode cX10_findTilings 231 = .ok (.iload 6, 2) := by decide +kernel
theorem dX10_findTilings_233 : decode cX10_findTilings 233 = .ok (.iconst 1, 1) := by decide +kernel
theorem dX10_findTilings_234 : decode cX10_findTilings 234 = .ok (.iadd, 1) := by decide +kernel
theorem dX10_findTilings_235 : decode cX10_findTilings 235 = .ok (.iconst (-1), 1) := by decide +kernel
theorem dX10_findTilings_236 : decode cX10_findTilings 236 = .ok (.iastore, 1) := by decide +kernel
theorem dX10_findTilings_237 : decode cX10_findTilings 237 = .ok (.iinc 6 1, 3) := by decide +kernel
theorem dX10_findTilings_240 : decode cX10_findTilings 240 = .ok (.goto (-193), 3) := by decide +kernel
theorem dX10_findTilings_243 : decode cX10_findTilings 243 = .ok (.iload 4, 2) := by decide +kernel
theorem dX10_findTilings_245 : decode cX10_findTilings 245 = .ok (.ireturn, 1) := by decide +kernel
theorem dX10_sink_0 : decode cX10_sink 0 = .ok (.iload_n 1, 1) := by decide +kernel
theorem dX10_sink_1 : decode cX10_sink 1 = .ok (.istore_n 3, 1) := by decide +kernel
theorem dX10_sink_2 : decode cX10_sink 2 = .ok (.iconst 1, 1) := by decide +kernel
theorem dX10_sink_3 : decode cX10_sink 3 = .ok (.istore 4, 2) := by decide +kernel
theorem dX10_sink_5 : decode cX10_sink 5 = .ok (.iload 4, 2) := by decide +kernel
theorem dX10_sink_7 : decode cX10_sink 7 = .ok (.ifCond .eq 118, 3) := by decide +kernel
theorem dX10_sink_10 : decode cX10_sink 10 = .ok (.iconst 2, 1) := by decide +kernel
theorem dX10_sink_11 : decode cX10_sink 11 = .ok (.iload_n 3, 1) := by decide +kernel
theorem dX10_sink_12 : decode cX10_sink 12 = .ok (.imul, 1) := by decide +kernel
theorem dX10_sink_13 : decode cX10_sink 13 = .ok (.iconst 1, 1) := by decide +kernel
theorem dX10_sink_14 : decode cX10_sink 14 = .ok (.iadd, 1) := by decide +kernel
theorem dX10_sink_15 : decode cX10_sink 15 = .ok (.istore 5, 2) := by decide +kernel
theorem dX10_sink_17 : decode cX10_sink 17 = .ok (.iload 5, 2) := by decide +kernel
theorem dX10_sink_19 : decode cX10_sink 19 = .ok (.iconst 1, 1) := by decide +kernel
theorem dX10_sink_20 : decode cX10_sink 20 = .ok (.iadd, 1) := by decide +kernel
theorem dX10_sink_21 : decode cX10_sink 21 = .ok (.iload_n 2, 1) := by decide +kernel
theorem dX10_sink_22 : decode cX10_sink 22 = .ok (.if_icmp .ge 29, 3) := by decide +kernel
theorem dX10_sink_25 : decode cX10_sink 25 = .ok (.aload_n 0, 1) := by decide +kernel
theorem dX10_sink_26 : decode cX10_sink 26 = .ok (.getfield 45, 3) := by decide +kernel
theorem dX10_sink_29 : decode cX10_sink 29 = .ok (.iload 5, 2) := by decide +kernel
theorem dX10_sink_31 : decode cX10_sink 31 = .ok (.iconst 1, 1) := by decide +kernel
theorem dX10_sink_32 : decode cX10_sink 32 = .ok (.iadd, 1) := by decide +kernel
theorem dX10_sink_33 : decode cX10_sink 33 = .ok (.iaload, 1) := by decide +kernel
theorem dX10_sink_34 : decode cX10_sink 34 = .ok (.aload_n 0, 1) := by decide +kernel
theorem dX10_sink_35 : decode cX10_sink 35 = .ok (.getfield 45, 3) := by decide +kernel
theorem dX10_sink_38 : decode cX10_sink 38 = .ok (.iload 5, 2) := by decide +kernel
theorem dX10_sink_40 : decode cX10_sink 40 = .ok (.iaload, 1) := by decide +kernel
theorem dX10_sink_41 : decode cX10_sink 41 = .ok (.if_icmp .le 10, 3) := by decide +kernel
theorem dX10_sink_44 : decode cX10_sink 44 = .ok (.iload 5, 2) := by decide +kernel
theorem dX10_sink_46 : decode cX10_sink 46 = .ok (.iconst 1, 1) := by decide +kernel
theorem dX10_sink_47 : decode cX10_sink 47 = .ok (.iadd, 1) := by decide +kernel
theorem dX10_sink_48 : decode cX10_sink 48 = .ok (.goto 5, 3) := by decide +kernel
theorem dX10_sink_51 : decode cX10_sink 51 = .ok (.iload 5, 2) := by decide +kernel
theorem dX10_sink_53 : decode cX10_sink 53 = .ok (.istore 5, 2) := by decide +kernel
theorem dX10_sink_55 : decode cX10_sink 55 = .ok (.iload 5, 2) := by decide +kernel
theorem dX10_sink_57 : decode cX10_sink 57 = .ok (.iload_n 2, 1) := by decide +kernel
theorem dX10_sink_58 : decode cX10_sink 58 = .ok (.if_icmp .ge 23, 3) := by decide +kernel
theorem dX10_sink_61 : decode cX10_sink 61 = .ok (.aload_n 0, 1) := by decide +kernel
theorem dX10_sink_62 : decode cX10_sink 62 = .ok (.getfield 45, 3) := by decide +kernel
theorem dX10_sink_65 : decode cX10_sink 65 = .ok (.iload 5, 2) := by decide +kernel
theorem dX10_sink_67 : decode cX10_sink 67 = .ok (.iaload, 1) := by decide +kernel
theorem dX10_sink_68 : decode cX10_sink 68 = .ok (.aload_n 0, 1) := by decide +kernel
theorem dX10_sink_69 : decode cX10_sink 69 = .ok (.getfield 45, 3) := by decide +kernel
theorem dX10_sink_72 : decode cX10_sink 72 = .ok (.iload_n 3, 1) := by decide +kernel
theorem dX10_sink_73 : decode cX10_sink 73 = .ok (.iaload, 1) := by decide +kernel
theorem dX10_sink_74 : decode cX10_sink 74 = .ok (.if_icmp .le 7, 3) := by decide +kernel
theorem dX10_sink_77 : decode cX10_sink 77 = .ok (.iconst 1, 1) := by decide +kernel
theorem dX10_sink_78 : decode cX10_sink 78 = .ok (.goto 4, 3) := by decide +kernel
theorem dX10_sink_81 : decode cX10_sink 81 = .ok (.iconst 0, 1) := by decide +kernel
theorem dX10_sink_82 : decode cX10_sink 82 = .ok (.istore 4, 2) := by decide +kernel
theorem dX10_sink_84 : decode cX10_sink 84 = .ok (.iload 4, 2) := by decide +kernel
theorem dX10_sink_86 : decode cX10_sink 86 = .ok (.ifCond .eq 36, 3) := by decide +kernel
theorem dX10_sink_89 : decode cX10_sink 89 = .ok (.aload_n 0, 1) := by decide +kernel
theorem dX10_sink_90 : decode cX10_sink 90 = .ok (.getfield 45, 3) := by decide +kernel
theorem dX10_sink_93 : decode cX10_sink 93 = .ok (.iload_n 3, 1) := by decide +kernel
theorem dX10_sink_94 : decode cX10_sink 94 = .ok (.iaload, 1) := by decide +kernel
theorem dX10_sink_95 : decode cX10_sink 95 = .ok (.istore 6, 2) := by decide +kernel
theorem dX10_sink_97 : decode cX10_sink 97 = .ok (.aload_n 0, 1) := by decide +kernel
theorem dX10_sink_98 : decode cX10_sink 98 = .ok (.getfield 45, 3) := by decide +kernel
theorem dX10_sink_101 : decode cX10_sink 101 = .ok (.iload_n 3, 1) := by decide +kernel
theorem dX10_sink_102 : decode cX10_sink 102 = .ok (.aload_n 0, 1) := by decide +kernel
theorem dX10_sink_103 : decode cX10_sink 103 = .ok (.getfield 45, 3) := by decide +kernel
theorem dX10_sink_106 : decode cX10_sink 106 = .ok (.iload 5, 2) := by decide +kernel
theorem dX10_sink_108 : decode cX10_sink 108 = .ok (.iaload, 1) := by decide +kernel
theorem dX10_sink_109 : decode cX10_sink 109 = .ok (.iastore, 1) := by decide +kernel
theorem dX10_sink_110 : decode cX10_sink 110 = .ok (.aload_n 0, 1) := by decide +kernel
theorem dX10_sink_111 : decode cX10_sink 111 = .ok (.getfield 45, 3) := by decide +kernel
theorem dX10_sink_114 : decode cX10_sink 114 = .ok (.iload 5, 2) := by decide +kernel
theorem dX10_sink_116 : decode cX10_sink 116 = .ok (.iload 6, 2) := by decide +kernel
theorem dX10_sink_118 : decode cX10_sink 118 = .ok (.iastore, 1) := by decide +kernel
theorem dX10_sink_119 : decode cX10_sink 119 = .ok (.iload 5, 2) := by decide +kernel
theorem dX10_sink_121 : decode cX10_sink 121 = .ok (.istore_n 3, 1) := by decide +kernel
theorem dX10_sink_122 : decode cX10_sink 122 = .ok (.goto (-117), 3) := by decide +kernel
theorem dX10_sink_125 : decode cX10_sink 125 = .ok (.return_, 1) := by decide +kernel
set_option maxRecDepth 20000 in
theorem ggX10_sort_X10_sink : GoodIn wsX10_sort wsX10_sink := goodIn_r _ [6, 1, 7, 8, 9, 10, 11, 12, 13, 14, 15, 16, 17, 18, 19, 20, 21, 22, 23, 24, 25, 26, 27, 28, 29, 30, 31, 32, 33] (by decide +kernel) (by decide +kernel)
set_option maxRecDepth 20000 in
theorem gX10_sort_X10_sink : GoodIn wsX10_sort (wsV RX10 113 RX10 yX10_sink wsX10_sink) := goodIn_app (goodIn_of _ (by decide +kernel)) ggX10_sort_X10_sink
theorem dX10_sort_0 : decode cX10_sort 0 = .ok (.iload_n 1, 1) := by decide +kernel
theorem dX10_sort_1 : decode cX10_sort 1 = .ok (.iconst 2, 1) := by decide +kernel
theorem dX10_sort_2 : decode cX10_sort 2 = .ok (.idiv, 1) := by decide +kernel
theorem dX10_sort_3 : decode cX10_sort 3 = .ok (.iconst 1, 1) := by decide +kernel
theorem dX10_sort_4 : decode cX10_sort 4 = .ok (.isub, 1) := by decide +kernel
theorem dX10_sort_5 : decode cX10_sort 5 = .ok (.istore_n 2, 1) := by decide +kernel
theorem dX10_sort_6 : decode cX10_sort 6 = .ok (.iload_n 2, 1) := by decide +kernel
theorem dX10_sort_7 : decode cX10_sort 7 = .ok (.ifCond .lt 15, 3) := by decide +kernel
theorem dX10_sort_10 : decode cX10_sort 10 = .ok (.aload_n 0, 1) := by decide +kernel
theorem dX10_sort_11 : decode cX10_sort 11 = .ok (.iload_n 2, 1) := by decide +kernel
theorem dX10_sort_12 : decode cX10_sort 12 = .ok (.iload_n 1, 1) := by decide +kernel
theorem dX10_sort_13 : decode cX10_sort 13 = .ok (.invokevirtual 113, 3) := by decide +kernel
theorem dX10_sort_16 : decode cX10_sort 16 = .ok (.iinc 2 (-1), 3) := by decide +kernel
theorem dX10_sort_19 : decode cX10_sort 19 = .ok (.goto (-13), 3) := by decide +kernel
theorem dX10_sort_22 : decode cX10_sort 22 = .ok (.iload_n 1, 1) := by decide +kernel
theorem dX10_sort_23 : decode cX10_sort 23 = .ok (.iconst 1, 1) := by decide +kernel
theorem dX10_sort_24 : decode cX10_sort 24 = .ok (.isub, 1) := by decide +kernel
theorem dX10_sort_25 : decode cX10_sort 25 = .ok (.istore_n 2, 1) := by decide +kernel
theorem dX10_sort_26 : decode cX10_sort 26 = .ok (.iload_n 2, 1) := by decide +kernel
theorem dX10_sort_27 : decode cX10_sort 27 = .ok (.ifCond .le 41, 3) := by decide +kernel
theorem dX10_sort_30 : decode cX10_sort 30 = .ok (.aload_n 0, 1) := by decide +kernel
theorem dX10_sort_31 : decode cX10_sort 31 = .ok (.getfield 45, 3) := by decide +kernel
theorem dX10_sort_34 : decode cX10_sort 34 = .ok (.iconst 0, 1) := by decide +kernel
theorem dX10_sort_35 : decode cX10_sort 35 = .ok (.iaload, 1) := by decide +kernel
theorem dX10_sort_36 : decode cX10_sort 36 = .ok (.istore_n 3, 1) := by decide +kernel
theorem dX10_sort_37 : decode cX10_sort 37 = .ok (.aload_n 0, 1) := by decide +kernel
theorem dX10_sort_38 : decode cX10_sort 38 = .ok (.getfield 45, 3) := by decide +kernel
theorem dX10_sort_41 : decode cX10_sort 41 = .ok (.iconst 0, 1) := by decide +kernel
theorem dX10_sort_42 : decode cX10_sort 42 = .ok (.aload_n 0, 1) := by decide +kernel
theorem dX10_sort_43 : decode cX10_sort 43 = .ok (.getfield 45, 3) := by decide +kernel
theorem dX10_sort_46 : decode cX10_sort 46 = .ok (.iload_n 2, 1) := by decide +kernel
theorem dX10_sort_47 : decode cX10_sort 47 = .ok (.iaload, 1) := by decide +kernel
theorem dX10_sort_48 : decode cX10_sort 48 = .ok (.iastore, 1) := by decide +kernel
theorem dX10_sort_49 : decode cX10_sort 49 = .ok (.aload_n 0, 1) := by decide +kernel
theorem dX10_sort_50 : decode cX10_sort 50 = .ok (.getfield 45, 3) := by decide +kernel
theorem dX10_sort_53 : decode cX10_sort 53 = .ok (.iload_n 2, 1) := by decide +kernel
theorem dX10_sort_54 : decode cX10_sort 54 = .ok (.iload_n 3, 1) := by decide +kernel
theorem dX10_sort_55 : decode cX10_sort 55 = .ok (.iastore, 1) := by decide +kernel
theorem dX10_sort_56 : decode cX10_sort 56 = .ok (.aload_n 0, 1) := by decide +kernel
theorem dX10_sort_57 : decode cX10_sort 57 = .ok (.iconst 0, 1) := by decide +kernel
theorem dX10_sort_58 : decode cX10_sort 58 = .ok (.iload_n 2, 1) := by decide +kernel
theorem dX10_sort_59 : decode cX10_sort 59 = .ok (.invokevirtual 113, 3) := by decide +kernel
theorem dX10_sort_62 : decode cX10_sort 62 = .ok (.iinc 2 (-1), 3) := by decide +kernel
theorem dX10_sort_65 : decode cX10_sort 65 = .ok (.goto (-39), 3) := by decide +kernel
theorem dX10_sort_68 : decode cX10_sort 68 = .ok (.return_, 1) := by decide +kernel
set_option maxRecDepth 20000 in
theorem ggX10_layTilings_X10_findTilings : GoodIn wsX10_layTilings wsX10_findTilings := goodIn_r _ [10, 11, 12, 13, 14, 15, 16, 9, 17, 18, 19, 20, 21, 22, 23, 24, 25, 26, 27, 28, 29, 38, 39, 40, 41, 42, 43, 44, 45, 46, 47, 48, 49, 50, 51, 52, 53, 54, 55, 56, 57, 58, 59, 60, 61, 62, 63, 64] (by decide +kernel) (by decide +kernel)
set_option maxRecDepth 20000 in
theorem gX10_layTilings_X10_findTilings : GoodIn wsX10_layTilings (wsV RX10 123 RX10 yX10_findTilings wsX10_findTilings) := goodIn_app (goodIn_of _ (by decide +kernel)) ggX10_layTilings_X10_findTilings
set_option maxRecDepth 20000 in
theorem ggX10_layTilings_X10_sort : GoodIn wsX10_layTilings wsX10_sort := goodIn_r _ [33, 14, 34, 35, 36, 9, 37, 38, 39, 40, 41, 42, 43, 44, 45, 46, 47, 48, 49, 50, 51, 52, 53, 54, 55, 56, 57, 58, 59, 60, 61, 62, 63, 64] (by decide +kernel) (by decide +kernel)
set_option maxRecDepth 20000 in
theorem gX10_layTilings_X10_sort : GoodIn wsX10_layTilings (wsV RX10 129 RX10 yX10_sort wsX10_sort) := goodIn_app (goodIn_of _ (by decide +kernel)) ggX10_layTilings_X10_sort
theorem dX10_layTilings_0 : decode cX10_layTilings 0 = .ok (.aload_n 0, 1) := by decide +kernel
theorem dX10_layTilings_1 : decode cX10_layTilings 1 = .ok (.getfield 117, 3) := by decide +kernel
theorem dX10_layTilings_4 : decode cX10_layTilings 4 = .ok (.aload_n 0, 1) := by decide +kernel
theorem dX10_layTilings_5 : decode cX10_layTilings 5 = .ok (.getfield 7, 3) := by decide +kernel
theorem dX10_layTilings_8 : decode cX10_layTilings 8 = .ok (.if_icmp .ne 14, 3) := by decide +kernel
theorem dX10_layTilings_11 : decode cX10_layTilings 11 = .ok (.aload_n 0, 1) := by decide +kernel
theorem dX10_layTilings_12 : decode cX10_layTilings 12 = .ok (.getfield 120, 3) := by decide +kernel
theorem dX10_layTilings_15 : decode cX10_layTilings 15 = .ok (.aload_n 0, 1) := by decide +kernel
theorem dX10_layTilings_16 : decode cX10_layTilings 16 = .ok (.getfield 101, 3) := by decide +kernel
theorem dX10_layTilings_19 : decode cX10_layTilings 19 = .ok (.if_icmp .eq 46, 3) := by decide +kernel
theorem dX10_layTilings_22 : decode cX10_layTilings 22 = .ok (.aload_n 0, 1) := by decide +kernel
theorem dX10_layTilings_23 : decode cX10_layTilings 23 = .ok (.aload_n 0, 1) := by decide +kernel
theorem dX10_layTilings_24 : decode cX10_layTilings 24 = .ok (.aload_n 0, 1) := by decide +kernel
theorem dX10_layTilings_25 : decode cX10_layTilings 25 = .ok (.getfield 101, 3) := by decide +kernel
theorem dX10_layTilings_28 : decode cX10_layTilings 28 = .ok (.aload_n 0, 1) := by decide +kernel
theorem dX10_layTilings_29 : decode cX10_layTilings 29 = .ok (.getfield 7, 3) := by decide +kernel
theorem dX10_layTilings_32 : decode cX10_layTilings 32 = .ok (.sipush 8192, 3) := by decide +kernel
theorem dX10_layTilings_35 : decode cX10_layTilings 35 = .ok (.invokevirtual 123, 3) := by decide +kernel
theorem dX10_layTilings_38 : decode cX10_layTilings 38 = .ok (.putfield 126, 3) := by decide +kernel
theorem dX10_layTilings_41 : decode cX10_layTilings 41 = .ok (.aload_n 0, 1) := by decide +kernel
theorem dX10_layTilings_42 : decode cX10_layTilings 42 = .ok (.aload_n 0, 1) := by decide +kernel
theorem dX10_layTilings_43 : decode cX10_layTilings 43 = .ok (.getfield 126, 3) := by decide +kernel
theorem dX10_layTilings_46 : decode cX10_layTilings 46 = .ok (.invokevirtual 129, 3) := by decide +kernel
theorem dX10_layTilings_49 : decode cX10_layTilings 49 = .ok (.aload_n 0, 1) := by decide +kernel
theorem dX10_layTilings_50 : decode cX10_layTilings 50 = .ok (.aload_n 0, 1) := by decide +kernel
theorem dX10_layTilings_51 : decode cX10_layTilings 51 = .ok (.getfield 7, 3) := by decide +kernel
theorem dX10_layTilings_54 : decode cX10_layTilings 54 = .ok (.putfield 117, 3) := by decide +kernel
theorem dX10_layTilings_57 : decode cX10_layTilings 57 = .ok (.aload_n 0, 1) := by decide +kernel
theorem dX10_layTilings_58 : decode cX10_layTilings 58 = .ok (.aload_n 0, 1) := by decide +kernel
theorem dX10_layTilings_59 : decode cX10_layTilings 59 = .ok (.getfield 101, 3) := by decide +kernel
theorem dX10_layTilings_62 : decode cX10_layTilings 62 = .ok (.putfield 120, 3) := by decide +kernel
theorem dX10_layTilings_65 : decode cX10_layTilings 65 = .ok (.return_, 1) := by decide +kernel
set_option maxRecDepth 20000 in
theorem ggX10_isTiling_X10_layTilings : GoodIn wsX10_isTiling wsX10_layTilings := goodIn_r _ [6, 7, 8, 9, 10, 1, 11, 12, 13, 5, 14, 15, 16, 17, 18, 19, 20, 21, 22, 23, 24, 25, 26, 27, 28, 29, 30, 31, 32, 33, 34, 35, 36, 37, 38, 39, 40, 41, 45, 46, 47, 48, 49, 50, 51, 52, 53, 54, 55, 56, 57, 58, 59, 60, 61, 62, 63, 64, 65, 66, 67, 68, 69, 70, 71] (by decide +kernel) (by decide +kernel)
set_option maxRecDepth 20000 in
theorem gX10_isTiling_X10_layTilings : GoodIn wsX10_isTiling (wsV RX10 133 RX10 yX10_layTilings wsX10_layTilings) := goodIn_app (goodIn_of _ (by decide +kernel)) ggX10_isTiling_X10_layTilings
set_option maxRecDepth 20000 in
theorem ggX10_isTiling_X10_in : GoodIn wsX10_isTiling wsX10_in := goodIn_r _ [44] (by decide +kernel) (by decide +kernel)
set_option maxRecDepth 20000 in
theorem gX10_isTiling_X10_in : GoodIn wsX10_isTiling (va_wsS RX10 57 yX10_in wsX10_in) := goodIn_app (goodIn_of _ (by decide +kernel)) ggX10_isTiling_X10_in
theorem dX10_isTiling_0 : decode cX10_isTiling 0 = .ok (.aload_n 0, 1) := by decide +kernel
theorem dX10_isTiling_1 : decode cX10_isTiling 1 = .ok (.invokevirtual 133, 3) := by decide +kernel
theorem dX10_isTiling_4 : decode cX10_isTiling 4 = .ok (.iload_n 1, 1) := by decide +kernel
theorem dX10_isTiling_5 : decode cX10_isTiling 5 = .ok (.i2l, 1) := by decide +kernel
theorem dX10_isTiling_6 : decode cX10_isTiling 6 = .ok (.lconst 0, 1) := by decide +kernel
theorem dX10_isTiling_7 : decode cX10_isTiling 7 = .ok (.aload_n 0, 1) := by decide +kernel
theorem dX10_isTiling_8 : decode cX10_isTiling 8 = .ok (.getfield 126, 3) := by decide +kernel
theorem dX10_isTiling_11 : decode cX10_isTiling 11 = .ok (.iconst 1, 1) := by decide +kernel
theorem dX10_isTiling_12 : decode cX10_isTiling 12 = .ok (.isub, 1) := by decide +kernel
theorem dX10_isTiling_13 : decode cX10_isTiling 13 = .ok (.i2l, 1) := by decide +kernel
theorem dX10_isTiling_14 : decode cX10_isTiling 14 = .ok (.invokestatic 57, 3) := by decide +kernel
theorem dX10_isTiling_17 : decode cX10_isTiling 17 = .ok (.ireturn, 1) := by decide +kernel
set_option maxRecDepth 20000 in
theorem ggX10_tiling_X10_isTiling : GoodIn wsX10_tiling wsX10_isTiling := goodIn_r _ [10, 11, 12, 13, 14, 9, 15, 16, 5, 17, 18, 19, 20, 21, 22, 23, 24, 25, 4, 26, 27, 28, 29, 30, 31, 32, 33, 34, 35, 36, 37, 38, 39, 40, 41, 42, 43, 44, 45, 46, 47, 48, 49, 50, 51, 55, 56, 57, 58, 59, 60, 61, 62, 63, 64, 65, 66, 67, 68, 69, 70, 71, 72, 73, 74, 75, 76, 77, 78, 79, 80, 81] (by decide +kernel) (by decide +kernel)
set_option maxRecDepth 20000 in
theorem gX10_tiling_X10_isTiling : GoodIn wsX10_tiling (wsV RX10 136 RX10 yX10_isTiling wsX10_isTiling) := goodIn_app (goodIn_of _ (by decide +kernel)) ggX10_tiling_X10_isTiling
set_option maxRecDepth 20000 in
theorem ggX10_tiling_X10_in : GoodIn wsX10_tiling wsX10_in := goodIn_r _ [51] (by decide +kernel) (by decide +kernel)
set_option maxRecDepth 20000 in
theorem gX10_tiling_X10_in : GoodIn wsX10_tiling (va_wsS RX10 57 yX10_in wsX10_in) := goodIn_app (goodIn_of _ (by decide +kernel)) ggX10_tiling_X10_in
set_option maxRecDepth 20000 in
theorem ggX10_tiling_X10_bits : GoodIn wsX10_tiling wsX10_bits := goodIn_r _ [28] (by decide +kernel) (by decide +kernel)
set_option maxRecDepth 20000 in
theorem gX10_tiling_X10_bits : GoodIn wsX10_tiling (va_wsS RX10 107 yX10_bits wsX10_bits) := goodIn_app (goodIn_of _ (by decide +kernel)) ggX10_tiling_X10_bits
set_option maxRecDepth 20000 in
theorem ggX10_tiling_X10_periodOf : GoodIn wsX10_tiling wsX10_periodOf := goodIn_r _ [54, 38, 39, 9, 40, 29, 30, 31] (by decide +kernel) (by decide +kernel)
set_option maxRecDepth 20000 in
theorem gX10_tiling_X10_periodOf : GoodIn wsX10_tiling (va_wsS RX10 142 yX10_periodOf wsX10_periodOf) := goodIn_app (goodIn_of _ (by decide +kernel)) ggX10_tiling_X10_periodOf
theorem dX10_tiling_0 : decode cX10_tiling 0 = .ok (.aload_n 0, 1) := by decide +kernel
theorem dX10_tiling_1 : decode cX10_tiling 1 = .ok (.iload_n 1, 1) := by decide +kernel
theorem dX10_tiling_2 : decode cX10_tiling 2 = .ok (.invokevirtual 136, 3) := by decide +kernel
theorem dX10_tiling_5 : decode cX10_tiling 5 = .ok (.ifCond .ne 6, 3) := by decide +kernel
theorem dX10_tiling_8 : decode cX10_tiling 8 = .ok (.ldc 139, 2) := by decide +kernel
theorem dX10_tiling_10 : decode cX10_tiling 10 = .ok (.ireturn, 1) := by decide +kernel
theorem dX10_tiling_11 : decode cX10_tiling 11 = .ok (.iload_n 2, 1) := by decide +kernel
theorem dX10_tiling_12 : decode cX10_tiling 12 = .ok (.i2l, 1) := by decide +kernel
theorem dX10_tiling_13 : decode cX10_tiling 13 = .ok (.lconst 0, 1) := by decide +kernel
theorem dX10_tiling_14 : decode cX10_tiling 14 = .ok (.ldc2_w 140, 3) := by decide +kernel
theorem dX10_tiling_17 : decode cX10_tiling 17 = .ok (.invokestatic 57, 3) := by decide +kernel
theorem dX10_tiling_20 : decode cX10_tiling 20 = .ok (.ifCond .ne 6, 3) := by decide +kernel
theorem dX10_tiling_23 : decode cX10_tiling 23 = .ok (.ldc 75, 2) := by decide +kernel
theorem dX10_tiling_25 : decode cX10_tiling 25 = .ok (.ireturn, 1) := by decide +kernel
theorem dX10_tiling_26 : decode cX10_tiling 26 = .ok (.aload_n 0, 1) := by decide +kernel
theorem dX10_tiling_27 : decode cX10_tiling 27 = .ok (.getfield 45, 3) := by decide +kernel
theorem dX10_tiling_30 : decode cX10_tiling 30 = .ok (.iload_n 1, 1) := by decide +kernel
theorem dX10_tiling_31 : decode cX10_tiling 31 = .ok (.iaload, 1) := by decide +kernel
theorem dX10_tiling_32 : decode cX10_tiling 32 = .ok (.istore_n 3, 1) := by decide +kernel
theorem dX10_tiling_33 : decode cX10_tiling 33 = .ok (.iload_n 2, 1) := by decide +kernel
theorem dX10_tiling_34 : decode cX10_tiling 34 = .ok (.ifCond .ne 7, 3) := by decide +kernel
theorem dX10_tiling_37 : decode cX10_tiling 37 = .ok (.iload_n 3, 1) := by decide +kernel
theorem dX10_tiling_38 : decode cX10_tiling 38 = .ok (.goto 23, 3) := by decide +kernel
theorem dX10_tiling_41 : decode cX10_tiling 41 = .ok (.iload_n 2, 1) := by decide +kernel
theorem dX10_tiling_42 : decode cX10_tiling 42 = .ok (.iconst 1, 1) := by decide +kernel
theorem dX10_tiling_43 : decode cX10_tiling 43 = .ok (.if_icmp .ne 10, 3) := by decide +kernel
theorem dX10_tiling_46 : decode cX10_tiling 46 = .ok (.iload_n 3, 1) := by decide +kernel
theorem dX10_tiling_47 : decode cX10_tiling 47 = .ok (.invokestatic 107, 3) := by decide +kernel
theorem dX10_tiling_50 : decode cX10_tiling 50 = .ok (.goto 11, 3) := by decide +kernel
theorem dX10_tiling_53 : decode cX10_tiling 53 = .ok (.iload_n 3, 1) := by decide +kernel
theorem dX10_tiling_54 : decode cX10_tiling 54 = .ok (.aload_n 0, 1) := by decide +kernel
theorem dX10_tiling_55 : decode cX10_tiling 55 = .ok (.getfield 7, 3) := by decide +kernel
theorem dX10_tiling_58 : decode cX10_tiling 58 = .ok (.invokestatic 142, 3) := by decide +kernel
theorem dX10_tiling_61 : decode cX10_tiling 61 = .ok (.ireturn, 1) := by decide +kernel
set_option maxRecDepth 20000 in
theorem ggX10_who_X10_isTiling : GoodIn wsX10_who wsX10_isTiling := goodIn_r _ [9, 10, 11, 12, 13, 8, 14, 15, 4, 16, 3, 17, 18, 19, 20, 21, 22, 23, 2, 24, 25, 26, 27, 28, 29, 30, 31, 32, 33, 34, 35, 36, 37, 38, 39, 40, 41, 42, 43, 44, 45, 46, 47, 48, 49, 54, 55, 56, 57, 58, 59, 60, 61, 62, 63, 64, 65, 66, 67, 68, 69, 70, 71, 72, 73, 74, 75, 76, 77, 78, 79, 80] (by decide +kernel) (by decide +kernel)
set_option maxRecDepth 20000 in
theorem gX10_who_X10_isTiling : GoodIn wsX10_who (wsV RX10 136 RX10 yX10_isTiling wsX10_isTiling) := goodIn_app (goodIn_of _ (by decide +kernel)) ggX10_who_X10_isTiling
set_option maxRecDepth 20000 in
theorem ggX10_who_X10_isBeat : GoodIn wsX10_who wsX10_isBeat := goodIn_r _ [53, 4, 47, 48, 8, 49, 54, 55, 56, 57, 58, 59, 60, 61, 62, 63, 64, 65, 66, 67, 68, 69, 70, 71, 72, 73, 74, 75, 76, 77, 78, 79, 80] (by decide +kernel) (by decide +kernel)
set_option maxRecDepth 20000 in
theorem gX10_who_X10_isBeat : GoodIn wsX10_who (wsV RX10 146 RX10 yX10_isBeat wsX10_isBeat) := goodIn_app (goodIn_of _ (by decide +kernel)) ggX10_who_X10_isBeat
set_option maxRecDepth 20000 in
theorem ggX10_who_X10_has : GoodIn wsX10_who wsX10_has := goodIn_r _ [35] (by decide +kernel) (by decide +kernel)
set_option maxRecDepth 20000 in
theorem gX10_who_X10_has : GoodIn wsX10_who (va_wsS RX10 65 yX10_has wsX10_has) := goodIn_app (goodIn_of _ (by decide +kernel)) ggX10_who_X10_has
set_option maxRecDepth 20000 in
theorem ggX10_who_X10_moved : GoodIn wsX10_who wsX10_moved := goodIn_r _ [38, 27, 28, 8, 29] (by decide +kernel) (by decide +kernel)
set_option maxRecDepth 20000 in
theorem gX10_who_X10_moved : GoodIn wsX10_who (va_wsS RX10 69 yX10_moved wsX10_moved) := goodIn_app (goodIn_of _ (by decide +kernel)) ggX10_who_X10_moved
theorem dX10_who_0 : decode cX10_who 0 = .ok (.aload_n 0, 1) := by decide +kernel
theorem dX10_who_1 : decode cX10_who 1 = .ok (.iload_n 1, 1) := by decide +kernel
theorem dX10_who_2 : decode cX10_who 2 = .ok (.invokevirtual 136, 3) := by decide +kernel
theorem dX10_who_5 : decode cX10_who 5 = .ok (.ifCond .eq 11, 3) := by decide +kernel
theorem dX10_who_8 : decode cX10_who 8 = .ok (.aload_n 0, 1) := by decide +kernel
theorem dX10_who_9 : decode cX10_who 9 = .ok (.iload_n 2, 1) := by decide +kernel
theorem dX10_who_10 : decode cX10_who 10 = .ok (.invokevirtual 146, 3) := by decide +kernel
theorem dX10_who_13 : decode cX10_who 13 = .ok (.ifCond .ne 6, 3) := by decide +kernel
theorem dX10_who_16 : decode cX10_who 16 = .ok (.ldc 139, 2) := by decide +kernel
theorem dX10_who_18 : decode cX10_who 18 = .ok (.ireturn, 1) := by decide +kernel
theorem dX10_who_19 : decode cX10_who 19 = .ok (.iconst 0, 1) := by decide +kernel
theorem dX10_who_20 : decode cX10_who 20 = .ok (.istore_n 3, 1) := by decide +kernel
theorem dX10_who_21 : decode cX10_who 21 = .ok (.aload_n 0, 1) := by decide +kernel
theorem dX10_who_22 : decode cX10_who 22 = .ok (.getfield 45, 3) := by decide +kernel
theorem dX10_who_25 : decode cX10_who 25 = .ok (.iload_n 1, 1) := by decide +kernel
theorem dX10_who_26 : decode cX10_who 26 = .ok (.iaload, 1) := by decide +kernel
theorem dX10_who_27 : decode cX10_who 27 = .ok (.iload_n 3, 1) := by decide +kernel
theorem dX10_who_28 : decode cX10_who 28 = .ok (.invokestatic 65, 3) := by decide +kernel
theorem dX10_who_31 : decode cX10_who 31 = .ok (.ifCond .eq 22, 3) := by decide +kernel
theorem dX10_who_34 : decode cX10_who 34 = .ok (.aload_n 0, 1) := by decide +kernel
theorem dX10_who_35 : decode cX10_who 35 = .ok (.getfield 101, 3) := by decide +kernel
theorem dX10_who_38 : decode cX10_who 38 = .ok (.iload_n 3, 1) := by decide +kernel
theorem dX10_who_39 : decode cX10_who 39 = .ok (.aload_n 0, 1) := by decide +kernel
theorem dX10_who_40 : decode cX10_who 40 = .ok (.getfield 7, 3) := by decide +kernel
theorem dX10_who_43 : decode cX10_who 43 = .ok (.invokestatic 69, 3) := by decide +kernel
theorem dX10_who_46 : decode cX10_who 46 = .ok (.iload_n 2, 1) := by decide +kernel
theorem dX10_who_47 : decode cX10_who 47 = .ok (.invokestatic 65, 3) := by decide +kernel
theorem dX10_who_50 : decode cX10_who 50 = .ok (.ifCond .ne 9, 3) := by decide +kernel
theorem dX10_who_53 : decode cX10_who 53 = .ok (.iinc 3 1, 3) := by decide +kernel
theorem dX10_who_56 : decode cX10_who 56 = .ok (.goto (-35), 3) := by decide +kernel
theorem dX10_who_59 : decode cX10_who 59 = .ok (.iload_n 3, 1) := by decide +kernel
theorem dX10_who_60 : decode cX10_who 60 = .ok (.ireturn, 1) := by decide +kernel
set_option maxRecDepth 20000 in
theorem ggX10_leastMany_X10_full : GoodIn wsX10_leastMany wsX10_full := goodIn_r _ [8] (by decide +kernel) (by decide +kernel)
set_option maxRecDepth 20000 in
theorem gX10_leastMany_X10_full : GoodIn wsX10_leastMany (va_wsS RX10 61 yX10_full wsX10_full) := goodIn_app (goodIn_of _ (by decide +kernel)) ggX10_leastMany_X10_full
set_option maxRecDepth 20000 in
theorem ggX10_leastMany_X10_bits : GoodIn wsX10_leastMany wsX10_bits := goodIn_r _ [11] (by decide +kernel) (by decide +kernel)
set_option maxRecDepth 20000 in
theorem gX10_leastMany_X10_bits : GoodIn wsX10_leastMany (va_wsS RX10 107 yX10_bits wsX10_bits) := goodIn_app (goodIn_of _ (by decide +kernel)) ggX10_leastMany_X10_bits
set_option maxRecDepth 20000 in
theorem ggX10_leastMany_X10_findTilings : GoodIn wsX10_leastMany wsX10_findTilings := goodIn_r _ [15, 16, 17, 18, 19, 9, 10, 7, 11, 5, 6, 8, 20, 21, 22, 23, 24, 25, 26, 27, 28, 32, 33, 34, 35, 36, 37, 38, 39, 40, 41, 42, 43, 44, 45, 46, 47, 48, 49, 50, 51, 52, 53, 54, 55, 56, 57, 58] (by decide +kernel) (by decide +kernel)
set_option maxRecDepth 20000 in
theorem gX10_leastMany_X10_findTilings : GoodIn wsX10_leastMany (wsV RX10 123 RX10 yX10_findTilings wsX10_findTilings) := goodIn_app (goodIn_of _ (by decide +kernel)) ggX10_leastMany_X10_findTilings
set_option maxRecDepth 20000 in
theorem ggX10_leastMany_X10_nextOf : GoodIn wsX10_leastMany wsX10_nextOf := goodIn_r _ [31, 9, 10, 7, 11] (by decide +kernel) (by decide +kernel)
set_option maxRecDepth 20000 in
theorem gX10_leastMany_X10_nextOf : GoodIn wsX10_leastMany (va_wsS RX10 152 yX10_nextOf wsX10_nextOf) := goodIn_app (goodIn_of _ (by decide +kernel)) ggX10_leastMany_X10_nextOf
theorem dX10_leastMany_0 : decode cX10_leastMany 0 = .ok (.iconst 0, 1) := by decide +kernel
theorem dX10_leastMany_1 : decode cX10_leastMany 1 = .ok (.istore_n 1, 1) := by decide +kernel
theorem dX10_leastMany_2 : decode cX10_leastMany 2 = .ok (.iload_n 1, 1) := by decide +kernel
theorem dX10_leastMany_3 : decode cX10_leastMany 3 = .ok (.iconst 4, 1) := by decide +kernel
theorem dX10_leastMany_4 : decode cX10_leastMany 4 = .ok (.if_icmp .ge 68, 3) := by decide +kernel
theorem dX10_leastMany_7 : decode cX10_leastMany 7 = .ok (.iconst 0, 1) := by decide +kernel
theorem dX10_leastMany_8 : decode cX10_leastMany 8 = .ok (.istore_n 2, 1) := by decide +kernel
theorem dX10_leastMany_9 : decode cX10_leastMany 9 = .ok (.iload_n 2, 1) := by decide +kernel
theorem dX10_leastMany_10 : decode cX10_leastMany 10 = .ok (.aload_n 0, 1) := by decide +kernel
theorem dX10_leastMany_11 : decode cX10_leastMany 11 = .ok (.getfield 7, 3) := by decide +kernel
theorem dX10_leastMany_14 : decode cX10_leastMany 14 = .ok (.invokestatic 61, 3) := by decide +kernel
theorem dX10_leastMany_17 : decode cX10_leastMany 17 = .ok (.if_icmp .gt 49, 3) := by decide +kernel
theorem dX10_leastMany_20 : decode cX10_leastMany 20 = .ok (.iload_n 2, 1) := by decide +kernel
theorem dX10_leastMany_21 : decode cX10_leastMany 21 = .ok (.invokestatic 107, 3) := by decide +kernel
theorem dX10_leastMany_24 : decode cX10_leastMany 24 = .ok (.iload_n 1, 1) := by decide +kernel
theorem dX10_leastMany_25 : decode cX10_leastMany 25 = .ok (.if_icmp .ne 33, 3) := by decide +kernel
theorem dX10_leastMany_28 : decode cX10_leastMany 28 = .ok (.aload_n 0, 1) := by decide +kernel
theorem dX10_leastMany_29 : decode cX10_leastMany 29 = .ok (.aload_n 0, 1) := by decide +kernel
theorem dX10_leastMany_30 : decode cX10_leastMany 30 = .ok (.getfield 101, 3) := by decide +kernel
theorem dX10_leastMany_33 : decode cX10_leastMany 33 = .ok (.iload_n 2, 1) := by decide +kernel
theorem dX10_leastMany_34 : decode cX10_leastMany 34 = .ok (.ixor, 1) := by decide +kernel
theorem dX10_leastMany_35 : decode cX10_leastMany 35 = .ok (.aload_n 0, 1) := by decide +kernel
theorem dX10_leastMany_36 : decode cX10_leastMany 36 = .ok (.getfield 7, 3) := by decide +kernel
theorem dX10_leastMany_39 : decode cX10_leastMany 39 = .ok (.iconst 1, 1) := by decide +kernel
theorem dX10_leastMany_40 : decode cX10_leastMany 40 = .ok (.invokevirtual 123, 3) := by decide +kernel
theorem dX10_leastMany_43 : decode cX10_leastMany 43 = .ok (.ifCond .le 15, 3) := by decide +kernel
theorem dX10_leastMany_46 : decode cX10_leastMany 46 = .ok (.aload_n 0, 1) := by decide +kernel
theorem dX10_leastMany_47 : decode cX10_leastMany 47 = .ok (.iconst 0, 1) := by decide +kernel
theorem dX10_leastMany_48 : decode cX10_leastMany 48 = .ok (.putfield 117, 3) := by decide +kernel
theorem dX10_leastMany_51 : decode cX10_leastMany 51 = .ok (.aload_n 0, 1) := by decide +kernel
theorem dX10_leastMany_52 : decode cX10_leastMany 52 = .ok (.iload_n 2, 1) := by decide +kernel
theorem dX10_leastMany_53 : decode cX10_leastMany 53 = .ok (.putfield 149, 3) := by decide +kernel
theorem dX10_leastMany_56 : decode cX10_leastMany 56 = .ok (.iload_n 1, 1) := by decide +kernel
theorem dX10_leastMany_57 : decode cX10_leastMany 57 = .ok (.ireturn, 1) := by decide +kernel
theorem dX10_leastMany_58 : decode cX10_leastMany 58 = .ok (.iload_n 2, 1) := by decide +kernel
theorem dX10_leastMany_59 : decode cX10_leastMany 59 = .ok (.invokestatic 152, 3) := by decide +kernel
theorem dX10_leastMany_62 : decode cX10_leastMany 62 = .ok (.istore_n 2, 1) := by decide +kernel
theorem dX10_leastMany_63 : decode cX10_leastMany 63 = .ok (.goto (-54), 3) := by decide +kernel
theorem dX10_leastMany_66 : decode cX10_leastMany 66 = .ok (.iinc 1 1, 3) := by decide +kernel
theorem dX10_leastMany_69 : decode cX10_leastMany 69 = .ok (.goto (-67), 3) := by decide +kernel
theorem dX10_leastMany_72 : decode cX10_leastMany 72 = .ok (.aload_n 0, 1) := by decide +kernel
theorem dX10_leastMany_73 : decode cX10_leastMany 73 = .ok (.iconst 0, 1) := by decide +kernel
theorem dX10_leastMany_74 : decode cX10_leastMany 74 = .ok (.putfield 117, 3) := by decide +kernel
theorem dX10_leastMany_77 : decode cX10_leastMany 77 = .ok (.aload_n 0, 1) := by decide +kernel
theorem dX10_leastMany_78 : decode cX10_leastMany 78 = .ok (.iconst (-1), 1) := by decide +kernel
theorem dX10_leastMany_79 : decode cX10_leastMany 79 = .ok (.putfield 149, 3) := by decide +kernel
theorem dX10_leastMany_82 : decode cX10_leastMany 82 = .ok (.iconst (-1), 1) := by decide +kernel
theorem dX10_leastMany_83 : decode cX10_leastMany 83 = .ok (.ireturn, 1) := by decide +kernel
set_option maxRecDepth 20000 in
theorem ggX10_nextOf_X10_bits : GoodIn wsX10_nextOf wsX10_bits := goodIn_r _ [4] (by decide +kernel) (by decide +kernel)
set_option maxRecDepth 20000 in
theorem gX10_nextOf_X10_bits : GoodIn wsX10_nextOf (va_wsS RX10 107 yX10_bits wsX10_bits) := goodIn_app (goodIn_of _ (by decide +kernel)) ggX10_nextOf_X10_bits
theorem dX10_nextOf_0 : decode cX10_nextOf 0 = .ok (.iload_n 0, 1) := by decide +kernel
theorem dX10_nextOf_1 : decode cX10_nextOf 1 = .ok (.iconst 1, 1) := by decide +kernel
theorem dX10_nextOf_2 : decode cX10_nextOf 2 = .ok (.iadd, 1) := by decide +kernel
theorem dX10_nextOf_3 : decode cX10_nextOf 3 = .ok (.istore_n 1, 1) := by decide +kernel
theorem dX10_nextOf_4 : decode cX10_nextOf 4 = .ok (.iload_n 1, 1) := by decide +kernel
theorem dX10_nextOf_5 : decode cX10_nextOf 5 = .ok (.invokestatic 107, 3) := by decide +kernel
theorem dX10_nextOf_8 : decode cX10_nextOf 8 = .ok (.iconst 3, 1) := by decide +kernel
theorem dX10_nextOf_9 : decode cX10_nextOf 9 = .ok (.if_icmp .le 13, 3) := by decide +kernel
theorem dX10_nextOf_12 : decode cX10_nextOf 12 = .ok (.iload_n 1, 1) := by decide +kernel
theorem dX10_nextOf_13 : decode cX10_nextOf 13 = .ok (.iload_n 1, 1) := by decide +kernel
theorem dX10_nextOf_14 : decode cX10_nextOf 14 = .ok (.iload_n 1, 1) := by decide +kernel
theorem dX10_nextOf_15 : decode cX10_nextOf 15 = .ok (.ineg, 1) := by decide +kernel
theorem dX10_nextOf_16 : decode cX10_nextOf 16 = .ok (.iand, 1) := by decide +kernel
theorem dX10_nextOf_17 : decode cX10_nextOf 17 = .ok (.iadd, 1) := by decide +kernel
theorem dX10_nextOf_18 : decode cX10_nextOf 18 = .ok (.istore_n 1, 1) := by decide +kernel
theorem dX10_nextOf_19 : decode cX10_nextOf 19 = .ok (.goto (-15), 3) := by decide +kernel
theorem dX10_nextOf_22 : decode cX10_nextOf 22 = .ok (.iload_n 1, 1) := by decide +kernel
theorem dX10_nextOf_23 : decode cX10_nextOf 23 = .ok (.ireturn, 1) := by decide +kernel
set_option maxRecDepth 20000 in
theorem ggX10_valueOf_X10_has : GoodIn wsX10_valueOf wsX10_has := goodIn_r _ [4] (by decide +kernel) (by decide +kernel)
set_option maxRecDepth 20000 in
theorem gX10_valueOf_X10_has : GoodIn wsX10_valueOf (va_wsS RX10 65 yX10_has wsX10_has) := goodIn_app (goodIn_of _ (by decide +kernel)) ggX10_valueOf_X10_has
theorem dX10_valueOf_0 : decode cX10_valueOf 0 = .ok (.iconst 0, 1) := by decide +kernel
theorem dX10_valueOf_1 : decode cX10_valueOf 1 = .ok (.istore_n 2, 1) := by decide +kernel
theorem dX10_valueOf_2 : decode cX10_valueOf 2 = .ok (.iconst 0, 1) := by decide +kernel
theorem dX10_valueOf_3 : decode cX10_valueOf 3 = .ok (.istore_n 3, 1) := by decide +kernel
theorem dX10_valueOf_4 : decode cX10_valueOf 4 = .ok (.iload_n 3, 1) := by decide +kernel
theorem dX10_valueOf_5 : decode cX10_valueOf 5 = .ok (.iload_n 1, 1) := by decide +kernel
theorem dX10_valueOf_6 : decode cX10_valueOf 6 = .ok (.if_icmp .ge 27, 3) := by decide +kernel
theorem dX10_valueOf_9 : decode cX10_valueOf 9 = .ok (.iconst 2, 1) := by decide +kernel
theorem dX10_valueOf_10 : decode cX10_valueOf 10 = .ok (.iload_n 2, 1) := by decide +kernel
theorem dX10_valueOf_11 : decode cX10_valueOf 11 = .ok (.imul, 1) := by decide +kernel
theorem dX10_valueOf_12 : decode cX10_valueOf 12 = .ok (.iload_n 0, 1) := by decide +kernel
theorem dX10_valueOf_13 : decode cX10_valueOf 13 = .ok (.iload_n 3, 1) := by decide +kernel
theorem dX10_valueOf_14 : decode cX10_valueOf 14 = .ok (.invokestatic 65, 3) := by decide +kernel
theorem dX10_valueOf_17 : decode cX10_valueOf 17 = .ok (.ifCond .eq 7, 3) := by decide +kernel
theorem dX10_valueOf_20 : decode cX10_valueOf 20 = .ok (.iconst 1, 1) := by decide +kernel
theorem dX10_valueOf_21 : decode cX10_valueOf 21 = .ok (.goto 4, 3) := by decide +kernel
theorem dX10_valueOf_24 : decode cX10_valueOf 24 = .ok (.iconst 0, 1) := by decide +kernel
theorem dX10_valueOf_25 : decode cX10_valueOf 25 = .ok (.iadd, 1) := by decide +kernel
theorem dX10_valueOf_26 : decode cX10_valueOf 26 = .ok (.istore_n 2, 1) := by decide +kernel
theorem dX10_valueOf_27 : decode cX10_valueOf 27 = .ok (.iinc 3 1, 3) := by decide +kernel
theorem dX10_valueOf_30 : decode cX10_valueOf 30 = .ok (.goto (-26), 3) := by decide +kernel
theorem dX10_valueOf_33 : decode cX10_valueOf 33 = .ok (.iload_n 2, 1) := by decide +kernel
theorem dX10_valueOf_34 : decode cX10_valueOf 34 = .ok (.ireturn, 1) := by decide +kernel
set_option maxRecDepth 20000 in
theorem ggX10_necklace_X10_valueOf : GoodIn wsX10_necklace wsX10_valueOf := goodIn_r _ [7, 8, 9, 6, 10] (by decide +kernel) (by decide +kernel)
set_option maxRecDepth 20000 in
theorem gX10_necklace_X10_valueOf : GoodIn wsX10_necklace (va_wsS RX10 155 yX10_valueOf wsX10_valueOf) := goodIn_app (goodIn_of _ (by decide +kernel)) ggX10_necklace_X10_valueOf
set_option maxRecDepth 20000 in
theorem ggX10_necklace_X10_moved : GoodIn wsX10_necklace wsX10_moved := goodIn_r _ [13, 14, 15, 6, 16] (by decide +kernel) (by decide +kernel)
set_option maxRecDepth 20000 in
theorem gX10_necklace_X10_moved : GoodIn wsX10_necklace (va_wsS RX10 69 yX10_moved wsX10_moved) := goodIn_app (goodIn_of _ (by decide +kernel)) ggX10_necklace_X10_moved
theorem dX10_necklace_0 : decode cX10_necklace 0 = .ok (.aload_n 0, 1) := by decide +kernel
theorem dX10_necklace_1 : decode cX10_necklace 1 = .ok (.getfield 101, 3) := by decide +kernel
theorem dX10_necklace_4 : decode cX10_necklace 4 = .ok (.aload_n 0, 1) := by decide +kernel
theorem dX10_necklace_5 : decode cX10_necklace 5 = .ok (.getfield 7, 3) := by decide +kernel
theorem dX10_necklace_8 : decode cX10_necklace 8 = .ok (.invokestatic 155, 3) := by decide +kernel
theorem dX10_necklace_11 : decode cX10_necklace 11 = .ok (.istore_n 1, 1) := by decide +kernel
theorem dX10_necklace_12 : decode cX10_necklace 12 = .ok (.aload_n 0, 1) := by decide +kernel
theorem dX10_necklace_13 : decode cX10_necklace 13 = .ok (.iconst 0, 1) := by decide +kernel
theorem dX10_necklace_14 : decode cX10_necklace 14 = .ok (.putfield 158, 3) := by decide +kernel
theorem dX10_necklace_17 : decode cX10_necklace 17 = .ok (.iconst 1, 1) := by decide +kernel
theorem dX10_necklace_18 : decode cX10_necklace 18 = .ok (.istore_n 2, 1) := by decide +kernel
theorem dX10_necklace_19 : decode cX10_necklace 19 = .ok (.iload_n 2, 1) := by decide +kernel
theorem dX10_necklace_20 : decode cX10_necklace 20 = .ok (.aload_n 0, 1) := by decide +kernel
theorem dX10_necklace_21 : decode cX10_necklace 21 = .ok (.getfield 7, 3) := by decide +kernel
theorem dX10_necklace_24 : decode cX10_necklace 24 = .ok (.if_icmp .ge 57, 3) := by decide +kernel
theorem dX10_necklace_27 : decode cX10_necklace 27 = .ok (.aload_n 0, 1) := by decide +kernel
theorem dX10_necklace_28 : decode cX10_necklace 28 = .ok (.getfield 101, 3) := by decide +kernel
theorem dX10_necklace_31 : decode cX10_necklace 31 = .ok (.iload_n 2, 1) := by decide +kernel
theorem dX10_necklace_32 : decode cX10_necklace 32 = .ok (.aload_n 0, 1) := by decide +kernel
theorem dX10_necklace_33 : decode cX10_necklace 33 = .ok (.getfield 7, 3) := by decide +kernel
theorem dX10_necklace_36 : decode cX10_necklace 36 = .ok (.invokestatic 69, 3) := by decide +kernel
theorem dX10_necklace_39 : decode cX10_necklace 39 = .ok (.aload_n 0, 1) := by decide +kernel
theorem dX10_necklace_40 : decode cX10_necklace 40 = .ok (.getfield 7, 3) := by decide +kernel
theorem dX10_necklace_43 : decode cX10_necklace 43 = .ok (.invokestatic 155, 3) := by decide +kernel
theorem dX10_necklace_46 : decode cX10_necklace 46 = .ok (.istore_n 3, 1) := by decide +kernel
theorem dX10_necklace_47 : decode cX10_necklace 47 = .ok (.aload_n 0, 1) := by decide +kernel
theorem dX10_necklace_48 : decode cX10_necklace 48 = .ok (.iload_n 3, 1) := by decide +kernel
