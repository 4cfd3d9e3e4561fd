theorem dX10_drift_18 : decode cX10_drift 18 = .ok (.iload_n 1, 1) := by decide +kernel
theorem dX10_drift_19 : decode cX10_drift 19 = .ok (.if_icmp .ge 97, 3) := by decide +kernel
theorem dX10_drift_22 : decode cX10_drift 22 = .ok (.aload_n 0, 1) := by decide +kernel
theorem dX10_drift_23 : decode cX10_drift 23 = .ok (.bipush 8, 2) := by decide +kernel
theorem dX10_drift_25 : decode cX10_drift 25 = .ok (.invokevirtual 228, 3) := by decide +kernel
theorem dX10_drift_28 : decode cX10_drift 28 = .ok (.istore_n 3, 1) := by decide +kernel
theorem dX10_drift_29 : decode cX10_drift 29 = .ok (.iload_n 3, 1) := by decide +kernel
theorem dX10_drift_30 : decode cX10_drift 30 = .ok (.iconst 5, 1) := by decide +kernel
theorem dX10_drift_31 : decode cX10_drift 31 = .ok (.if_icmp .ge 27, 3) := by decide +kernel
theorem dX10_drift_34 : decode cX10_drift 34 = .ok (.aload_n 0, 1) := by decide +kernel
theorem dX10_drift_35 : decode cX10_drift 35 = .ok (.aload_n 0, 1) := by decide +kernel
theorem dX10_drift_36 : decode cX10_drift 36 = .ok (.getfield 101, 3) := by decide +kernel
theorem dX10_drift_39 : decode cX10_drift 39 = .ok (.iconst 1, 1) := by decide +kernel
theorem dX10_drift_40 : decode cX10_drift 40 = .ok (.aload_n 0, 1) := by decide +kernel
theorem dX10_drift_41 : decode cX10_drift 41 = .ok (.aload_n 0, 1) := by decide +kernel
theorem dX10_drift_42 : decode cX10_drift 42 = .ok (.getfield 7, 3) := by decide +kernel
theorem dX10_drift_45 : decode cX10_drift 45 = .ok (.invokevirtual 228, 3) := by decide +kernel
theorem dX10_drift_48 : decode cX10_drift 48 = .ok (.ishl, 1) := by decide +kernel
theorem dX10_drift_49 : decode cX10_drift 49 = .ok (.ixor, 1) := by decide +kernel
theorem dX10_drift_50 : decode cX10_drift 50 = .ok (.invokevirtual 208, 3) := by decide +kernel
theorem dX10_drift_53 : decode cX10_drift 53 = .ok (.istore 4, 2) := by decide +kernel
theorem dX10_drift_55 : decode cX10_drift 55 = .ok (.goto 55, 3) := by decide +kernel
theorem dX10_drift_58 : decode cX10_drift 58 = .ok (.iload_n 3, 1) := by decide +kernel
theorem dX10_drift_59 : decode cX10_drift 59 = .ok (.iconst 5, 1) := by decide +kernel
theorem dX10_drift_60 : decode cX10_drift 60 = .ok (.if_icmp .ne 31, 3) := by decide +kernel
theorem dX10_drift_63 : decode cX10_drift 63 = .ok (.aload_n 0, 1) := by decide +kernel
theorem dX10_drift_64 : decode cX10_drift 64 = .ok (.aload_n 0, 1) := by decide +kernel
theorem dX10_drift_65 : decode cX10_drift 65 = .ok (.getfield 101, 3) := by decide +kernel
theorem dX10_drift_68 : decode cX10_drift 68 = .ok (.aload_n 0, 1) := by decide +kernel
theorem dX10_drift_69 : decode cX10_drift 69 = .ok (.aload_n 0, 1) := by decide +kernel
theorem dX10_drift_70 : decode cX10_drift 70 = .ok (.getfield 7, 3) := by decide +kernel
theorem dX10_drift_73 : decode cX10_drift 73 = .ok (.invokevirtual 228, 3) := by decide +kernel
theorem dX10_drift_76 : decode cX10_drift 76 = .ok (.aload_n 0, 1) := by decide +kernel
theorem dX10_drift_77 : decode cX10_drift 77 = .ok (.getfield 7, 3) := by decide +kernel
theorem dX10_drift_80 : decode cX10_drift 80 = .ok (.invokestatic 69, 3) := by decide +kernel
theorem dX10_drift_83 : decode cX10_drift 83 = .ok (.invokevirtual 208, 3) := by decide +kernel
theorem dX10_drift_86 : decode cX10_drift 86 = .ok (.istore 4, 2) := by decide +kernel
theorem dX10_drift_88 : decode cX10_drift 88 = .ok (.goto 22, 3) := by decide +kernel
theorem dX10_drift_91 : decode cX10_drift 91 = .ok (.iload_n 3, 1) := by decide +kernel
theorem dX10_drift_92 : decode cX10_drift 92 = .ok (.bipush 6, 2) := by decide +kernel
theorem dX10_drift_94 : decode cX10_drift 94 = .ok (.if_icmp .ne 10, 3) := by decide +kernel
theorem dX10_drift_97 : decode cX10_drift 97 = .ok (.aload_n 0, 1) := by decide +kernel
theorem dX10_drift_98 : decode cX10_drift 98 = .ok (.invokevirtual 231, 3) := by decide +kernel
theorem dX10_drift_101 : decode cX10_drift 101 = .ok (.goto 7, 3) := by decide +kernel
theorem dX10_drift_104 : decode cX10_drift 104 = .ok (.aload_n 0, 1) := by decide +kernel
theorem dX10_drift_105 : decode cX10_drift 105 = .ok (.invokevirtual 234, 3) := by decide +kernel
theorem dX10_drift_108 : decode cX10_drift 108 = .ok (.istore 4, 2) := by decide +kernel
theorem dX10_drift_110 : decode cX10_drift 110 = .ok (.iinc 2 1, 3) := by decide +kernel
theorem dX10_drift_113 : decode cX10_drift 113 = .ok (.goto (-96), 3) := by decide +kernel
theorem dX10_drift_116 : decode cX10_drift 116 = .ok (.aload_n 0, 1) := by decide +kernel
theorem dX10_drift_117 : decode cX10_drift 117 = .ok (.getfield 101, 3) := by decide +kernel
theorem dX10_drift_120 : decode cX10_drift 120 = .ok (.ireturn, 1) := by decide +kernel
set_option maxRecDepth 20000 in
theorem ggX10_undo_X10_in : GoodIn wsX10_undo wsX10_in := goodIn_r _ [12] (by decide +kernel) (by decide +kernel)
set_option maxRecDepth 20000 in
theorem gX10_undo_X10_in : GoodIn wsX10_undo (va_wsS RX10 57 yX10_in wsX10_in) := goodIn_app (goodIn_of _ (by decide +kernel)) ggX10_undo_X10_in
theorem dX10_undo_0 : decode cX10_undo 0 = .ok (.iload_n 1, 1) := by decide +kernel
theorem dX10_undo_1 : decode cX10_undo 1 = .ok (.i2l, 1) := by decide +kernel
theorem dX10_undo_2 : decode cX10_undo 2 = .ok (.lconst 1, 1) := by decide +kernel
theorem dX10_undo_3 : decode cX10_undo 3 = .ok (.ldc2_w 226, 3) := by decide +kernel
theorem dX10_undo_6 : decode cX10_undo 6 = .ok (.invokestatic 57, 3) := by decide +kernel
theorem dX10_undo_9 : decode cX10_undo 9 = .ok (.ifCond .ne 6, 3) := by decide +kernel
theorem dX10_undo_12 : decode cX10_undo 12 = .ok (.ldc 75, 2) := by decide +kernel
theorem dX10_undo_14 : decode cX10_undo 14 = .ok (.ireturn, 1) := by decide +kernel
theorem dX10_undo_15 : decode cX10_undo 15 = .ok (.iload_n 1, 1) := by decide +kernel
theorem dX10_undo_16 : decode cX10_undo 16 = .ok (.aload_n 0, 1) := by decide +kernel
theorem dX10_undo_17 : decode cX10_undo 17 = .ok (.getfield 205, 3) := by decide +kernel
theorem dX10_undo_20 : decode cX10_undo 20 = .ok (.if_icmp .le 6, 3) := by decide +kernel
theorem dX10_undo_23 : decode cX10_undo 23 = .ok (.ldc 191, 2) := by decide +kernel
theorem dX10_undo_25 : decode cX10_undo 25 = .ok (.ireturn, 1) := by decide +kernel
theorem dX10_undo_26 : decode cX10_undo 26 = .ok (.aload_n 0, 1) := by decide +kernel
theorem dX10_undo_27 : decode cX10_undo 27 = .ok (.dup, 1) := by decide +kernel
theorem dX10_undo_28 : decode cX10_undo 28 = .ok (.getfield 205, 3) := by decide +kernel
theorem dX10_undo_31 : decode cX10_undo 31 = .ok (.iload_n 1, 1) := by decide +kernel
theorem dX10_undo_32 : decode cX10_undo 32 = .ok (.isub, 1) := by decide +kernel
theorem dX10_undo_33 : decode cX10_undo 33 = .ok (.putfield 205, 3) := by decide +kernel
theorem dX10_undo_36 : decode cX10_undo 36 = .ok (.aload_n 0, 1) := by decide +kernel
theorem dX10_undo_37 : decode cX10_undo 37 = .ok (.aload_n 0, 1) := by decide +kernel
theorem dX10_undo_38 : decode cX10_undo 38 = .ok (.getfield 13, 3) := by decide +kernel
theorem dX10_undo_41 : decode cX10_undo 41 = .ok (.aload_n 0, 1) := by decide +kernel
theorem dX10_undo_42 : decode cX10_undo 42 = .ok (.getfield 205, 3) := by decide +kernel
theorem dX10_undo_45 : decode cX10_undo 45 = .ok (.iaload, 1) := by decide +kernel
theorem dX10_undo_46 : decode cX10_undo 46 = .ok (.putfield 7, 3) := by decide +kernel
theorem dX10_undo_49 : decode cX10_undo 49 = .ok (.aload_n 0, 1) := by decide +kernel
theorem dX10_undo_50 : decode cX10_undo 50 = .ok (.aload_n 0, 1) := by decide +kernel
theorem dX10_undo_51 : decode cX10_undo 51 = .ok (.getfield 17, 3) := by decide +kernel
theorem dX10_undo_54 : decode cX10_undo 54 = .ok (.aload_n 0, 1) := by decide +kernel
theorem dX10_undo_55 : decode cX10_undo 55 = .ok (.getfield 205, 3) := by decide +kernel
theorem dX10_undo_58 : decode cX10_undo 58 = .ok (.iaload, 1) := by decide +kernel
theorem dX10_undo_59 : decode cX10_undo 59 = .ok (.putfield 101, 3) := by decide +kernel
theorem dX10_undo_62 : decode cX10_undo 62 = .ok (.aload_n 0, 1) := by decide +kernel
theorem dX10_undo_63 : decode cX10_undo 63 = .ok (.getfield 7, 3) := by decide +kernel
theorem dX10_undo_66 : decode cX10_undo 66 = .ok (.ireturn, 1) := by decide +kernel
set_option maxRecDepth 20000 in
theorem ggX10_hear_X10_isBeat : GoodIn wsX10_hear wsX10_isBeat := goodIn_r _ [10, 11, 12, 13, 9, 14, 15, 16, 17, 18, 19, 20, 21, 22, 23, 24, 25, 26, 27, 28, 29, 30, 31, 32, 33, 34, 35, 36, 37, 38, 39, 40, 41] (by decide +kernel) (by decide +kernel)
set_option maxRecDepth 20000 in
theorem gX10_hear_X10_isBeat : GoodIn wsX10_hear (wsV RX10 146 RX10 yX10_isBeat wsX10_isBeat) := goodIn_app (goodIn_of _ (by decide +kernel)) ggX10_hear_X10_isBeat
theorem dX10_hear_0 : decode cX10_hear 0 = .ok (.aload_n 0, 1) := by decide +kernel
theorem dX10_hear_1 : decode cX10_hear 1 = .ok (.iload_n 1, 1) := by decide +kernel
theorem dX10_hear_2 : decode cX10_hear 2 = .ok (.invokevirtual 146, 3) := by decide +kernel
theorem dX10_hear_5 : decode cX10_hear 5 = .ok (.ifCond .ne 6, 3) := by decide +kernel
theorem dX10_hear_8 : decode cX10_hear 8 = .ok (.ldc 139, 2) := by decide +kernel
theorem dX10_hear_10 : decode cX10_hear 10 = .ok (.ireturn, 1) := by decide +kernel
theorem dX10_hear_11 : decode cX10_hear 11 = .ok (.aload_n 0, 1) := by decide +kernel
theorem dX10_hear_12 : decode cX10_hear 12 = .ok (.getfield 104, 3) := by decide +kernel
theorem dX10_hear_15 : decode cX10_hear 15 = .ok (.bipush 8, 2) := by decide +kernel
theorem dX10_hear_17 : decode cX10_hear 17 = .ok (.if_icmp .ne 6, 3) := by decide +kernel
theorem dX10_hear_20 : decode cX10_hear 20 = .ok (.ldc 79, 2) := by decide +kernel
theorem dX10_hear_22 : decode cX10_hear 22 = .ok (.ireturn, 1) := by decide +kernel
theorem dX10_hear_23 : decode cX10_hear 23 = .ok (.aload_n 0, 1) := by decide +kernel
theorem dX10_hear_24 : decode cX10_hear 24 = .ok (.getfield 33, 3) := by decide +kernel
theorem dX10_hear_27 : decode cX10_hear 27 = .ok (.aload_n 0, 1) := by decide +kernel
theorem dX10_hear_28 : decode cX10_hear 28 = .ok (.getfield 104, 3) := by decide +kernel
theorem dX10_hear_31 : decode cX10_hear 31 = .ok (.iload_n 1, 1) := by decide +kernel
theorem dX10_hear_32 : decode cX10_hear 32 = .ok (.iastore, 1) := by decide +kernel
theorem dX10_hear_33 : decode cX10_hear 33 = .ok (.aload_n 0, 1) := by decide +kernel
theorem dX10_hear_34 : decode cX10_hear 34 = .ok (.getfield 36, 3) := by decide +kernel
theorem dX10_hear_37 : decode cX10_hear 37 = .ok (.aload_n 0, 1) := by decide +kernel
theorem dX10_hear_38 : decode cX10_hear 38 = .ok (.getfield 104, 3) := by decide +kernel
theorem dX10_hear_41 : decode cX10_hear 41 = .ok (.iload_n 2, 1) := by decide +kernel
theorem dX10_hear_42 : decode cX10_hear 42 = .ok (.bastore, 1) := by decide +kernel
theorem dX10_hear_43 : decode cX10_hear 43 = .ok (.aload_n 0, 1) := by decide +kernel
theorem dX10_hear_44 : decode cX10_hear 44 = .ok (.dup, 1) := by decide +kernel
theorem dX10_hear_45 : decode cX10_hear 45 = .ok (.getfield 104, 3) := by decide +kernel
theorem dX10_hear_48 : decode cX10_hear 48 = .ok (.iconst 1, 1) := by decide +kernel
theorem dX10_hear_49 : decode cX10_hear 49 = .ok (.iadd, 1) := by decide +kernel
theorem dX10_hear_50 : decode cX10_hear 50 = .ok (.putfield 104, 3) := by decide +kernel
theorem dX10_hear_53 : decode cX10_hear 53 = .ok (.aload_n 0, 1) := by decide +kernel
theorem dX10_hear_54 : decode cX10_hear 54 = .ok (.getfield 104, 3) := by decide +kernel
theorem dX10_hear_57 : decode cX10_hear 57 = .ok (.ireturn, 1) := by decide +kernel
set_option maxRecDepth 20000 in
theorem ggX10_fitsMove_X10_moved : GoodIn wsX10_fitsMove wsX10_moved := goodIn_r _ [9, 10, 11, 8, 12] (by decide +kernel) (by decide +kernel)
set_option maxRecDepth 20000 in
theorem gX10_fitsMove_X10_moved : GoodIn wsX10_fitsMove (va_wsS RX10 69 yX10_moved wsX10_moved) := goodIn_app (goodIn_of _ (by decide +kernel)) ggX10_fitsMove_X10_moved
set_option maxRecDepth 20000 in
theorem ggX10_fitsMove_X10_isBeat : GoodIn wsX10_fitsMove wsX10_isBeat := goodIn_r _ [16, 2, 17, 18, 8, 19, 23, 24, 25, 26, 27, 28, 29, 30, 31, 32, 33, 34, 35, 36, 37, 38, 39, 40, 41, 42, 43, 44, 45, 46, 47, 48, 49] (by decide +kernel) (by decide +kernel)
set_option maxRecDepth 20000 in
theorem gX10_fitsMove_X10_isBeat : GoodIn wsX10_fitsMove (wsV RX10 146 RX10 yX10_isBeat wsX10_isBeat) := goodIn_app (goodIn_of _ (by decide +kernel)) ggX10_fitsMove_X10_isBeat
set_option maxRecDepth 20000 in
theorem ggX10_fitsMove_X10_has : GoodIn wsX10_fitsMove wsX10_has := goodIn_r _ [22] (by decide +kernel) (by decide +kernel)
set_option maxRecDepth 20000 in
theorem gX10_fitsMove_X10_has : GoodIn wsX10_fitsMove (va_wsS RX10 65 yX10_has wsX10_has) := goodIn_app (goodIn_of _ (by decide +kernel)) ggX10_fitsMove_X10_has
theorem dX10_fitsMove_0 : decode cX10_fitsMove 0 = .ok (.aload_n 0, 1) := by decide +kernel
theorem dX10_fitsMove_1 : decode cX10_fitsMove 1 = .ok (.getfield 101, 3) := by decide +kernel
theorem dX10_fitsMove_4 : decode cX10_fitsMove 4 = .ok (.iload_n 1, 1) := by decide +kernel
theorem dX10_fitsMove_5 : decode cX10_fitsMove 5 = .ok (.aload_n 0, 1) := by decide +kernel
theorem dX10_fitsMove_6 : decode cX10_fitsMove 6 = .ok (.getfield 7, 3) := by decide +kernel
theorem dX10_fitsMove_9 : decode cX10_fitsMove 9 = .ok (.invokestatic 69, 3) := by decide +kernel
theorem dX10_fitsMove_12 : decode cX10_fitsMove 12 = .ok (.istore_n 2, 1) := by decide +kernel
theorem dX10_fitsMove_13 : decode cX10_fitsMove 13 = .ok (.iconst 1, 1) := by decide +kernel
theorem dX10_fitsMove_14 : decode cX10_fitsMove 14 = .ok (.istore_n 3, 1) := by decide +kernel
theorem dX10_fitsMove_15 : decode cX10_fitsMove 15 = .ok (.iconst 0, 1) := by decide +kernel
theorem dX10_fitsMove_16 : decode cX10_fitsMove 16 = .ok (.istore 4, 2) := by decide +kernel
theorem dX10_fitsMove_18 : decode cX10_fitsMove 18 = .ok (.iload 4, 2) := by decide +kernel
theorem dX10_fitsMove_20 : decode cX10_fitsMove 20 = .ok (.aload_n 0, 1) := by decide +kernel
theorem dX10_fitsMove_21 : decode cX10_fitsMove 21 = .ok (.getfield 104, 3) := by decide +kernel
theorem dX10_fitsMove_24 : decode cX10_fitsMove 24 = .ok (.if_icmp .ge 54, 3) := by decide +kernel
theorem dX10_fitsMove_27 : decode cX10_fitsMove 27 = .ok (.iload_n 3, 1) := by decide +kernel
theorem dX10_fitsMove_28 : decode cX10_fitsMove 28 = .ok (.ifCond .eq 42, 3) := by decide +kernel
theorem dX10_fitsMove_31 : decode cX10_fitsMove 31 = .ok (.aload_n 0, 1) := by decide +kernel
theorem dX10_fitsMove_32 : decode cX10_fitsMove 32 = .ok (.aload_n 0, 1) := by decide +kernel
theorem dX10_fitsMove_33 : decode cX10_fitsMove 33 = .ok (.getfield 33, 3) := by decide +kernel
theorem dX10_fitsMove_36 : decode cX10_fitsMove 36 = .ok (.iload 4, 2) := by decide +kernel
theorem dX10_fitsMove_38 : decode cX10_fitsMove 38 = .ok (.iaload, 1) := by decide +kernel
theorem dX10_fitsMove_39 : decode cX10_fitsMove 39 = .ok (.invokevirtual 146, 3) := by decide +kernel
theorem dX10_fitsMove_42 : decode cX10_fitsMove 42 = .ok (.ifCond .eq 28, 3) := by decide +kernel
theorem dX10_fitsMove_45 : decode cX10_fitsMove 45 = .ok (.iload_n 2, 1) := by decide +kernel
theorem dX10_fitsMove_46 : decode cX10_fitsMove 46 = .ok (.aload_n 0, 1) := by decide +kernel
theorem dX10_fitsMove_47 : decode cX10_fitsMove 47 = .ok (.getfield 33, 3) := by decide +kernel
theorem dX10_fitsMove_50 : decode cX10_fitsMove 50 = .ok (.iload 4, 2) := by decide +kernel
theorem dX10_fitsMove_52 : decode cX10_fitsMove 52 = .ok (.iaload, 1) := by decide +kernel
theorem dX10_fitsMove_53 : decode cX10_fitsMove 53 = .ok (.invokestatic 65, 3) := by decide +kernel
theorem dX10_fitsMove_56 : decode cX10_fitsMove 56 = .ok (.aload_n 0, 1) := by decide +kernel
theorem dX10_fitsMove_57 : decode cX10_fitsMove 57 = .ok (.getfield 36, 3) := by decide +kernel
theorem dX10_fitsMove_60 : decode cX10_fitsMove 60 = .ok (.iload 4, 2) := by decide +kernel
theorem dX10_fitsMove_62 : decode cX10_fitsMove 62 = .ok (.baload, 1) := by decide +kernel
theorem dX10_fitsMove_63 : decode cX10_fitsMove 63 = .ok (.if_icmp .ne 7, 3) := by decide +kernel
theorem dX10_fitsMove_66 : decode cX10_fitsMove 66 = .ok (.iconst 1, 1) := by decide +kernel
theorem dX10_fitsMove_67 : decode cX10_fitsMove 67 = .ok (.goto 4, 3) := by decide +kernel
theorem dX10_fitsMove_70 : decode cX10_fitsMove 70 = .ok (.iconst 0, 1) := by decide +kernel
theorem dX10_fitsMove_71 : decode cX10_fitsMove 71 = .ok (.istore_n 3, 1) := by decide +kernel
theorem dX10_fitsMove_72 : decode cX10_fitsMove 72 = .ok (.iinc 4 1, 3) := by decide +kernel
theorem dX10_fitsMove_75 : decode cX10_fitsMove 75 = .ok (.goto (-57), 3) := by decide +kernel
theorem dX10_fitsMove_78 : decode cX10_fitsMove 78 = .ok (.iload_n 3, 1) := by decide +kernel
theorem dX10_fitsMove_79 : decode cX10_fitsMove 79 = .ok (.ireturn, 1) := by decide +kernel
set_option maxRecDepth 20000 in
theorem ggX10_moves_X10_fitsMove : GoodIn wsX10_moves wsX10_fitsMove := goodIn_r _ [6, 7, 1, 8, 9, 10, 11, 12, 5, 13, 14, 15, 16, 17, 18, 19, 20, 21, 22, 23, 24, 25, 26, 27, 28, 29, 30, 31, 32, 33, 34, 35, 36, 37, 38, 39, 40, 41, 42, 43, 44, 45, 46, 47, 48, 49, 50, 51, 52, 53] (by decide +kernel) (by decide +kernel)
set_option maxRecDepth 20000 in
theorem gX10_moves_X10_fitsMove : GoodIn wsX10_moves (wsV RX10 237 RX10 yX10_fitsMove wsX10_fitsMove) := goodIn_app (goodIn_of _ (by decide +kernel)) ggX10_moves_X10_fitsMove
theorem dX10_moves_0 : decode cX10_moves 0 = .ok (.iconst 0, 1) := by decide +kernel
theorem dX10_moves_1 : decode cX10_moves 1 = .ok (.istore_n 1, 1) := by decide +kernel
theorem dX10_moves_2 : decode cX10_moves 2 = .ok (.iconst 0, 1) := by decide +kernel
theorem dX10_moves_3 : decode cX10_moves 3 = .ok (.istore_n 2, 1) := by decide +kernel
theorem dX10_moves_4 : decode cX10_moves 4 = .ok (.iload_n 2, 1) := by decide +kernel
theorem dX10_moves_5 : decode cX10_moves 5 = .ok (.aload_n 0, 1) := by decide +kernel
theorem dX10_moves_6 : decode cX10_moves 6 = .ok (.getfield 7, 3) := by decide +kernel
theorem dX10_moves_9 : decode cX10_moves 9 = .ok (.if_icmp .ge 27, 3) := by decide +kernel
theorem dX10_moves_12 : decode cX10_moves 12 = .ok (.iload_n 1, 1) := by decide +kernel
theorem dX10_moves_13 : decode cX10_moves 13 = .ok (.aload_n 0, 1) := by decide +kernel
theorem dX10_moves_14 : decode cX10_moves 14 = .ok (.iload_n 2, 1) := by decide +kernel
theorem dX10_moves_15 : decode cX10_moves 15 = .ok (.invokevirtual 237, 3) := by decide +kernel
theorem dX10_moves_18 : decode cX10_moves 18 = .ok (.ifCond .eq 9, 3) := by decide +kernel
theorem dX10_moves_21 : decode cX10_moves 21 = .ok (.iconst 1, 1) := by decide +kernel
theorem dX10_moves_22 : decode cX10_moves 22 = .ok (.iload_n 2, 1) := by decide +kernel
theorem dX10_moves_23 : decode cX10_moves 23 = .ok (.ishl, 1) := by decide +kernel
theorem dX10_moves_24 : decode cX10_moves 24 = .ok (.goto 4, 3) := by decide +kernel
theorem dX10_moves_27 : decode cX10_moves 27 = .ok (.iconst 0, 1) := by decide +kernel
theorem dX10_moves_28 : decode cX10_moves 28 = .ok (.ior, 1) := by decide +kernel
theorem dX10_moves_29 : decode cX10_moves 29 = .ok (.istore_n 1, 1) := by decide +kernel
theorem dX10_moves_30 : decode cX10_moves 30 = .ok (.iinc 2 1, 3) := by decide +kernel
theorem dX10_moves_33 : decode cX10_moves 33 = .ok (.goto (-29), 3) := by decide +kernel
theorem dX10_moves_36 : decode cX10_moves 36 = .ok (.iload_n 1, 1) := by decide +kernel
theorem dX10_moves_37 : decode cX10_moves 37 = .ok (.ireturn, 1) := by decide +kernel
set_option maxRecDepth 20000 in
theorem ggX10_listen_X10_moves : GoodIn wsX10_listen wsX10_moves := goodIn_r _ [7, 1, 8, 9, 10, 6, 11, 2, 12, 13, 14, 15, 16, 17, 18, 19, 20, 21, 22, 23, 24, 25, 26, 27, 28, 29, 30, 34, 35, 36, 37, 38, 39, 40, 41, 42, 43, 44, 45, 46, 47, 48, 49, 50, 51, 52, 53, 54, 55, 56, 57, 58, 59, 60] (by decide +kernel) (by decide +kernel)
set_option maxRecDepth 20000 in
theorem gX10_listen_X10_moves : GoodIn wsX10_listen (wsV RX10 240 RX10 yX10_moves wsX10_moves) := goodIn_app (goodIn_of _ (by decide +kernel)) ggX10_listen_X10_moves
set_option maxRecDepth 20000 in
theorem ggX10_listen_X10_bits : GoodIn wsX10_listen wsX10_bits := goodIn_r _ [33] (by decide +kernel) (by decide +kernel)
set_option maxRecDepth 20000 in
theorem gX10_listen_X10_bits : GoodIn wsX10_listen (va_wsS RX10 107 yX10_bits wsX10_bits) := goodIn_app (goodIn_of _ (by decide +kernel)) ggX10_listen_X10_bits
set_option maxRecDepth 20000 in
theorem ggX10_listen_X10_has : GoodIn wsX10_listen wsX10_has := goodIn_r _ [30] (by decide +kernel) (by decide +kernel)
set_option maxRecDepth 20000 in
theorem gX10_listen_X10_has : GoodIn wsX10_listen (va_wsS RX10 65 yX10_has wsX10_has) := goodIn_app (goodIn_of _ (by decide +kernel)) ggX10_listen_X10_has
set_option maxRecDepth 20000 in
theorem ggX10_listen_X10_moved : GoodIn wsX10_listen wsX10_moved := goodIn_r _ [17, 18, 19, 6, 20] (by decide +kernel) (by decide +kernel)
set_option maxRecDepth 20000 in
theorem gX10_listen_X10_moved : GoodIn wsX10_listen (va_wsS RX10 69 yX10_moved wsX10_moved) := goodIn_app (goodIn_of _ (by decide +kernel)) ggX10_listen_X10_moved
theorem dX10_listen_0 : decode cX10_listen 0 = .ok (.aload_n 0, 1) := by decide +kernel
theorem dX10_listen_1 : decode cX10_listen 1 = .ok (.invokevirtual 240, 3) := by decide +kernel
theorem dX10_listen_4 : decode cX10_listen 4 = .ok (.istore_n 1, 1) := by decide +kernel
theorem dX10_listen_5 : decode cX10_listen 5 = .ok (.iload_n 1, 1) := by decide +kernel
theorem dX10_listen_6 : decode cX10_listen 6 = .ok (.invokestatic 107, 3) := by decide +kernel
theorem dX10_listen_9 : decode cX10_listen 9 = .ok (.istore_n 2, 1) := by decide +kernel
theorem dX10_listen_10 : decode cX10_listen 10 = .ok (.iconst (-1), 1) := by decide +kernel
theorem dX10_listen_11 : decode cX10_listen 11 = .ok (.istore_n 3, 1) := by decide +kernel
theorem dX10_listen_12 : decode cX10_listen 12 = .ok (.iload_n 2, 1) := by decide +kernel
theorem dX10_listen_13 : decode cX10_listen 13 = .ok (.istore 4, 2) := by decide +kernel
theorem dX10_listen_15 : decode cX10_listen 15 = .ok (.iconst 0, 1) := by decide +kernel
theorem dX10_listen_16 : decode cX10_listen 16 = .ok (.istore 5, 2) := by decide +kernel
theorem dX10_listen_18 : decode cX10_listen 18 = .ok (.iload 5, 2) := by decide +kernel
theorem dX10_listen_20 : decode cX10_listen 20 = .ok (.aload_n 0, 1) := by decide +kernel
theorem dX10_listen_21 : decode cX10_listen 21 = .ok (.getfield 7, 3) := by decide +kernel
theorem dX10_listen_24 : decode cX10_listen 24 = .ok (.if_icmp .ge 120, 3) := by decide +kernel
theorem dX10_listen_27 : decode cX10_listen 27 = .ok (.iconst 0, 1) := by decide +kernel
theorem dX10_listen_28 : decode cX10_listen 28 = .ok (.istore 6, 2) := by decide +kernel
theorem dX10_listen_30 : decode cX10_listen 30 = .ok (.iconst 0, 1) := by decide +kernel
theorem dX10_listen_31 : decode cX10_listen 31 = .ok (.istore 7, 2) := by decide +kernel
theorem dX10_listen_33 : decode cX10_listen 33 = .ok (.iload 7, 2) := by decide +kernel
theorem dX10_listen_35 : decode cX10_listen 35 = .ok (.aload_n 0, 1) := by decide +kernel
theorem dX10_listen_36 : decode cX10_listen 36 = .ok (.getfield 7, 3) := by decide +kernel
theorem dX10_listen_39 : decode cX10_listen 39 = .ok (.if_icmp .ge 49, 3) := by decide +kernel
theorem dX10_listen_42 : decode cX10_listen 42 = .ok (.iload 6, 2) := by decide +kernel
theorem dX10_listen_44 : decode cX10_listen 44 = .ok (.iload_n 1, 1) := by decide +kernel
theorem dX10_listen_45 : decode cX10_listen 45 = .ok (.iload 7, 2) := by decide +kernel
theorem dX10_listen_47 : decode cX10_listen 47 = .ok (.invokestatic 65, 3) := by decide +kernel
theorem dX10_listen_50 : decode cX10_listen 50 = .ok (.ifCond .eq 28, 3) := by decide +kernel
theorem dX10_listen_53 : decode cX10_listen 53 = .ok (.aload_n 0, 1) := by decide +kernel
theorem dX10_listen_54 : decode cX10_listen 54 = .ok (.getfield 101, 3) := by decide +kernel
theorem dX10_listen_57 : decode cX10_listen 57 = .ok (.iload 7, 2) := by decide +kernel
theorem dX10_listen_59 : decode cX10_listen 59 = .ok (.aload_n 0, 1) := by decide +kernel
theorem dX10_listen_60 : decode cX10_listen 60 = .ok (.getfield 7, 3) := by decide +kernel
theorem dX10_listen_63 : decode cX10_listen 63 = .ok (.invokestatic 69, 3) := by decide +kernel
theorem dX10_listen_66 : decode cX10_listen 66 = .ok (.iload 5, 2) := by decide +kernel
theorem dX10_listen_68 : decode cX10_listen 68 = .ok (.invokestatic 65, 3) := by decide +kernel
theorem dX10_listen_71 : decode cX10_listen 71 = .ok (.ifCond .eq 7, 3) := by decide +kernel
theorem dX10_listen_74 : decode cX10_listen 74 = .ok (.iconst 1, 1) := by decide +kernel
theorem dX10_listen_75 : decode cX10_listen 75 = .ok (.goto 4, 3) := by decide +kernel
theorem dX10_listen_78 : decode cX10_listen 78 = .ok (.iconst 0, 1) := by decide +kernel
theorem dX10_listen_79 : decode cX10_listen 79 = .ok (.iadd, 1) := by decide +kernel
theorem dX10_listen_80 : decode cX10_listen 80 = .ok (.istore 6, 2) := by decide +kernel
theorem dX10_listen_82 : decode cX10_listen 82 = .ok (.iinc 7 1, 3) := by decide +kernel
theorem dX10_listen_85 : decode cX10_listen 85 = .ok (.goto (-52), 3) := by decide +kernel
theorem dX10_listen_88 : decode cX10_listen 88 = .ok (.iload 6, 2) := by decide +kernel
theorem dX10_listen_90 : decode cX10_listen 90 = .ok (.iload_n 2, 1) := by decide +kernel
theorem dX10_listen_91 : decode cX10_listen 91 = .ok (.iload 6, 2) := by decide +kernel
theorem dX10_listen_93 : decode cX10_listen 93 = .ok (.isub, 1) := by decide +kernel
theorem dX10_listen_94 : decode cX10_listen 94 = .ok (.if_icmp .le 8, 3) := by decide +kernel
theorem dX10_listen_97 : decode cX10_listen 97 = .ok (.iload 6, 2) := by decide +kernel
theorem dX10_listen_99 : decode cX10_listen 99 = .ok (.goto 7, 3) := by decide +kernel
theorem dX10_listen_102 : decode cX10_listen 102 = .ok (.iload_n 2, 1) := by decide +kernel
theorem dX10_listen_103 : decode cX10_listen 103 = .ok (.iload 6, 2) := by decide +kernel
theorem dX10_listen_105 : decode cX10_listen 105 = .ok (.isub, 1) := by decide +kernel
theorem dX10_listen_106 : decode cX10_listen 106 = .ok (.istore 7, 2) := by decide +kernel
theorem dX10_listen_108 : decode cX10_listen 108 = .ok (.iload 7, 2) := by decide +kernel
theorem dX10_listen_110 : decode cX10_listen 110 = .ok (.iload 4, 2) := by decide +kernel
theorem dX10_listen_112 : decode cX10_listen 112 = .ok (.if_icmp .ge 8, 3) := by decide +kernel
theorem dX10_listen_115 : decode cX10_listen 115 = .ok (.iload 5, 2) := by decide +kernel
theorem dX10_listen_117 : decode cX10_listen 117 = .ok (.goto 4, 3) := by decide +kernel
theorem dX10_listen_120 : decode cX10_listen 120 = .ok (.iload_n 3, 1) := by decide +kernel
theorem dX10_listen_121 : decode cX10_listen 121 = .ok (.istore_n 3, 1) := by decide +kernel
theorem dX10_listen_122 : decode cX10_listen 122 = .ok (.iload 7, 2) := by decide +kernel
theorem dX10_listen_124 : decode cX10_listen 124 = .ok (.iload 4, 2) := by decide +kernel
theorem dX10_listen_126 : decode cX10_listen 126 = .ok (.if_icmp .ge 8, 3) := by decide +kernel
theorem dX10_listen_129 : decode cX10_listen 129 = .ok (.iload 7, 2) := by decide +kernel
theorem dX10_listen_131 : decode cX10_listen 131 = .ok (.goto 5, 3) := by decide +kernel
theorem dX10_listen_134 : decode cX10_listen 134 = .ok (.iload 4, 2) := by decide +kernel
theorem dX10_listen_136 : decode cX10_listen 136 = .ok (.istore 4, 2) := by decide +kernel
theorem dX10_listen_138 : decode cX10_listen 138 = .ok (.iinc 5 1, 3) := by decide +kernel
theorem dX10_listen_141 : decode cX10_listen 141 = .ok (.goto (-123), 3) := by decide +kernel
theorem dX10_listen_144 : decode cX10_listen 144 = .ok (.iload_n 3, 1) := by decide +kernel
theorem dX10_listen_145 : decode cX10_listen 145 = .ok (.ireturn, 1) := by decide +kernel
theorem dX10_forget_0 : decode cX10_forget 0 = .ok (.aload_n 0, 1) := by decide +kernel
theorem dX10_forget_1 : decode cX10_forget 1 = .ok (.getfield 104, 3) := by decide +kernel
theorem dX10_forget_4 : decode cX10_forget 4 = .ok (.istore_n 1, 1) := by decide +kernel
theorem dX10_forget_5 : decode cX10_forget 5 = .ok (.aload_n 0, 1) := by decide +kernel
theorem dX10_forget_6 : decode cX10_forget 6 = .ok (.iconst 0, 1) := by decide +kernel
theorem dX10_forget_7 : decode cX10_forget 7 = .ok (.putfield 104, 3) := by decide +kernel
theorem dX10_forget_10 : decode cX10_forget 10 = .ok (.iload_n 1, 1) := by decide +kernel
theorem dX10_forget_11 : decode cX10_forget 11 = .ok (.ireturn, 1) := by decide +kernel
theorem dX10_seed_0 : decode cX10_seed 0 = .ok (.iload_n 1, 1) := by decide +kernel
theorem dX10_seed_1 : decode cX10_seed 1 = .ok (.ifCond .ge 6, 3) := by decide +kernel
theorem dX10_seed_4 : decode cX10_seed 4 = .ok (.ldc 75, 2) := by decide +kernel
theorem dX10_seed_6 : decode cX10_seed 6 = .ok (.ireturn, 1) := by decide +kernel
theorem dX10_seed_7 : decode cX10_seed 7 = .ok (.aload_n 0, 1) := by decide +kernel
theorem dX10_seed_8 : decode cX10_seed 8 = .ok (.getfield 216, 3) := by decide +kernel
theorem dX10_seed_11 : decode cX10_seed 11 = .ok (.istore_n 2, 1) := by decide +kernel
theorem dX10_seed_12 : decode cX10_seed 12 = .ok (.aload_n 0, 1) := by decide +kernel
theorem dX10_seed_13 : decode cX10_seed 13 = .ok (.iload_n 1, 1) := by decide +kernel
theorem dX10_seed_14 : decode cX10_seed 14 = .ok (.putfield 216, 3) := by decide +kernel
theorem dX10_seed_17 : decode cX10_seed 17 = .ok (.iload_n 2, 1) := by decide +kernel
theorem dX10_seed_18 : decode cX10_seed 18 = .ok (.ireturn, 1) := by decide +kernel
set_option maxRecDepth 20000 in
theorem ggX10_keep_X10_in : GoodIn wsX10_keep wsX10_in := goodIn_r _ [13] (by decide +kernel) (by decide +kernel)
set_option maxRecDepth 20000 in
theorem gX10_keep_X10_in : GoodIn wsX10_keep (va_wsS RX10 57 yX10_in wsX10_in) := goodIn_app (goodIn_of _ (by decide +kernel)) ggX10_keep_X10_in
theorem dX10_keep_0 : decode cX10_keep 0 = .ok (.iload_n 1, 1) := by decide +kernel
theorem dX10_keep_1 : decode cX10_keep 1 = .ok (.i2l, 1) := by decide +kernel
theorem dX10_keep_2 : decode cX10_keep 2 = .ok (.lconst 0, 1) := by decide +kernel
theorem dX10_keep_3 : decode cX10_keep 3 = .ok (.lconst 1, 1) := by decide +kernel
theorem dX10_keep_4 : decode cX10_keep 4 = .ok (.invokestatic 57, 3) := by decide +kernel
theorem dX10_keep_7 : decode cX10_keep 7 = .ok (.ifCond .ne 6, 3) := by decide +kernel
theorem dX10_keep_10 : decode cX10_keep 10 = .ok (.ldc 139, 2) := by decide +kernel
theorem dX10_keep_12 : decode cX10_keep 12 = .ok (.ireturn, 1) := by decide +kernel
theorem dX10_keep_13 : decode cX10_keep 13 = .ok (.aload_n 0, 1) := by decide +kernel
theorem dX10_keep_14 : decode cX10_keep 14 = .ok (.getfield 20, 3) := by decide +kernel
theorem dX10_keep_17 : decode cX10_keep 17 = .ok (.iload_n 1, 1) := by decide +kernel
theorem dX10_keep_18 : decode cX10_keep 18 = .ok (.aload_n 0, 1) := by decide +kernel
theorem dX10_keep_19 : decode cX10_keep 19 = .ok (.getfield 7, 3) := by decide +kernel
theorem dX10_keep_22 : decode cX10_keep 22 = .ok (.iastore, 1) := by decide +kernel
theorem dX10_keep_23 : decode cX10_keep 23 = .ok (.aload_n 0, 1) := by decide +kernel
theorem dX10_keep_24 : decode cX10_keep 24 = .ok (.getfield 23, 3) := by decide +kernel
theorem dX10_keep_27 : decode cX10_keep 27 = .ok (.iload_n 1, 1) := by decide +kernel
theorem dX10_keep_28 : decode cX10_keep 28 = .ok (.aload_n 0, 1) := by decide +kernel
theorem dX10_keep_29 : decode cX10_keep 29 = .ok (.getfield 101, 3) := by decide +kernel
theorem dX10_keep_32 : decode cX10_keep 32 = .ok (.iastore, 1) := by decide +kernel
theorem dX10_keep_33 : decode cX10_keep 33 = .ok (.aload_n 0, 1) := by decide +kernel
theorem dX10_keep_34 : decode cX10_keep 34 = .ok (.getfield 26, 3) := by decide +kernel
theorem dX10_keep_37 : decode cX10_keep 37 = .ok (.iload_n 1, 1) := by decide +kernel
theorem dX10_keep_38 : decode cX10_keep 38 = .ok (.aload_n 0, 1) := by decide +kernel
theorem dX10_keep_39 : decode cX10_keep 39 = .ok (.getfield 216, 3) := by decide +kernel
theorem dX10_keep_42 : decode cX10_keep 42 = .ok (.iastore, 1) := by decide +kernel
theorem dX10_keep_43 : decode cX10_keep 43 = .ok (.aload_n 0, 1) := by decide +kernel
theorem dX10_keep_44 : decode cX10_keep 44 = .ok (.getfield 29, 3) := by decide +kernel
theorem dX10_keep_47 : decode cX10_keep 47 = .ok (.iload_n 1, 1) := by decide +kernel
theorem dX10_keep_48 : decode cX10_keep 48 = .ok (.iconst 1, 1) := by decide +kernel
theorem dX10_keep_49 : decode cX10_keep 49 = .ok (.bastore, 1) := by decide +kernel
theorem dX10_keep_50 : decode cX10_keep 50 = .ok (.aload_n 0, 1) := by decide +kernel
theorem dX10_keep_51 : decode cX10_keep 51 = .ok (.iconst 0, 1) := by decide +kernel
theorem dX10_keep_52 : decode cX10_keep 52 = .ok (.putfield 205, 3) := by decide +kernel
theorem dX10_keep_55 : decode cX10_keep 55 = .ok (.iconst 1, 1) := by decide +kernel
theorem dX10_keep_56 : decode cX10_keep 56 = .ok (.ireturn, 1) := by decide +kernel
set_option maxRecDepth 20000 in
theorem ggX10_goBack_X10_in : GoodIn wsX10_goBack wsX10_in := goodIn_r _ [14] (by decide +kernel) (by decide +kernel)
set_option maxRecDepth 20000 in
theorem gX10_goBack_X10_in : GoodIn wsX10_goBack (va_wsS RX10 57 yX10_in wsX10_in) := goodIn_app (goodIn_of _ (by decide +kernel)) ggX10_goBack_X10_in
theorem dX10_goBack_0 : decode cX10_goBack 0 = .ok (.iload_n 1, 1) := by decide +kernel
theorem dX10_goBack_1 : decode cX10_goBack 1 = .ok (.i2l, 1) := by decide +kernel
theorem dX10_goBack_2 : decode cX10_goBack 2 = .ok (.lconst 0, 1) := by decide +kernel
theorem dX10_goBack_3 : decode cX10_goBack 3 = .ok (.lconst 1, 1) := by decide +kernel
theorem dX10_goBack_4 : decode cX10_goBack 4 = .ok (.invokestatic 57, 3) := by decide +kernel
theorem dX10_goBack_7 : decode cX10_goBack 7 = .ok (.ifCond .ne 6, 3) := by decide +kernel
theorem dX10_goBack_10 : decode cX10_goBack 10 = .ok (.ldc 139, 2) := by decide +kernel
theorem dX10_goBack_12 : decode cX10_goBack 12 = .ok (.ireturn, 1) := by decide +kernel
theorem dX10_goBack_13 : decode cX10_goBack 13 = .ok (.aload_n 0, 1) := by decide +kernel
theorem dX10_goBack_14 : decode cX10_goBack 14 = .ok (.getfield 29, 3) := by decide +kernel
theorem dX10_goBack_17 : decode cX10_goBack 17 = .ok (.iload_n 1, 1) := by decide +kernel
theorem dX10_goBack_18 : decode cX10_goBack 18 = .ok (.baload, 1) := by decide +kernel
theorem dX10_goBack_19 : decode cX10_goBack 19 = .ok (.ifCond .ne 6, 3) := by decide +kernel
theorem dX10_goBack_22 : decode cX10_goBack 22 = .ok (.ldc 191, 2) := by decide +kernel
theorem dX10_goBack_24 : decode cX10_goBack 24 = .ok (.ireturn, 1) := by decide +kernel
theorem dX10_goBack_25 : decode cX10_goBack 25 = .ok (.aload_n 0, 1) := by decide +kernel
theorem dX10_goBack_26 : decode cX10_goBack 26 = .ok (.aload_n 0, 1) := by decide +kernel
theorem dX10_goBack_27 : decode cX10_goBack 27 = .ok (.getfield 20, 3) := by decide +kernel
theorem dX10_goBack_30 : decode cX10_goBack 30 = .ok (.iload_n 1, 1) := by decide +kernel
theorem dX10_goBack_31 : decode cX10_goBack 31 = .ok (.iaload, 1) := by decide +kernel
theorem dX10_goBack_32 : decode cX10_goBack 32 = .ok (.putfield 7, 3) := by decide +kernel
theorem dX10_goBack_35 : decode cX10_goBack 35 = .ok (.aload_n 0, 1) := by decide +kernel
theorem dX10_goBack_36 : decode cX10_goBack 36 = .ok (.aload_n 0, 1) := by decide +kernel
theorem dX10_goBack_37 : decode cX10_goBack 37 = .ok (.getfield 23, 3) := by decide +kernel
theorem dX10_goBack_40 : decode cX10_goBack 40 = .ok (.iload_n 1, 1) := by decide +kernel
theorem dX10_goBack_41 : decode cX10_goBack 41 = .ok (.iaload, 1) := by decide +kernel
theorem dX10_goBack_42 : decode cX10_goBack 42 = .ok (.putfield 101, 3) := by decide +kernel
theorem dX10_goBack_45 : decode cX10_goBack 45 = .ok (.aload_n 0, 1) := by decide +kernel
theorem dX10_goBack_46 : decode cX10_goBack 46 = .ok (.aload_n 0, 1) := by decide +kernel
theorem dX10_goBack_47 : decode cX10_goBack 47 = .ok (.getfield 26, 3) := by decide +kernel
theorem dX10_goBack_50 : decode cX10_goBack 50 = .ok (.iload_n 1, 1) := by decide +kernel
theorem dX10_goBack_51 : decode cX10_goBack 51 = .ok (.iaload, 1) := by decide +kernel
theorem dX10_goBack_52 : decode cX10_goBack 52 = .ok (.putfield 216, 3) := by decide +kernel
theorem dX10_goBack_55 : decode cX10_goBack 55 = .ok (.aload_n 0, 1) := by decide +kernel
theorem dX10_goBack_56 : decode cX10_goBack 56 = .ok (.iconst 0, 1) := by decide +kernel
theorem dX10_goBack_57 : decode cX10_goBack 57 = .ok (.putfield 205, 3) := by decide +kernel
theorem dX10_goBack_60 : decode cX10_goBack 60 = .ok (.iconst 1, 1) := by decide +kernel
theorem dX10_goBack_61 : decode cX10_goBack 61 = .ok (.ireturn, 1) := by decide +kernel
set_option maxRecDepth 20000 in
theorem ggX10_toldLeast_X10_leastMany : GoodIn wsX10_toldLeast wsX10_leastMany := goodIn_r _ [6, 7, 8, 9, 1, 10, 11, 5, 12, 13, 14, 15, 16, 17, 18, 19, 20, 21, 22, 23, 24, 25, 26, 27, 28, 29, 30, 31, 32, 33, 34, 35, 36, 37, 38, 39, 40, 41, 42, 43, 44, 45, 46, 47, 48, 49, 50, 51, 52, 53, 54, 55, 56, 57, 58, 59, 60, 61, 62] (by decide +kernel) (by decide +kernel)
set_option maxRecDepth 20000 in
theorem gX10_toldLeast_X10_leastMany : GoodIn wsX10_toldLeast (wsV RX10 243 RX10 yX10_leastMany wsX10_leastMany) := goodIn_app (goodIn_of _ (by decide +kernel)) ggX10_toldLeast_X10_leastMany
theorem dX10_toldLeast_0 : decode cX10_toldLeast 0 = .ok (.aload_n 0, 1) := by decide +kernel
theorem dX10_toldLeast_1 : decode cX10_toldLeast 1 = .ok (.invokevirtual 243, 3) := by decide +kernel
theorem dX10_toldLeast_4 : decode cX10_toldLeast 4 = .ok (.istore_n 2, 1) := by decide +kernel
theorem dX10_toldLeast_5 : decode cX10_toldLeast 5 = .ok (.iload_n 1, 1) := by decide +kernel
theorem dX10_toldLeast_6 : decode cX10_toldLeast 6 = .ok (.ifCond .eq 10, 3) := by decide +kernel
theorem dX10_toldLeast_9 : decode cX10_toldLeast 9 = .ok (.aload_n 0, 1) := by decide +kernel
theorem dX10_toldLeast_10 : decode cX10_toldLeast 10 = .ok (.getfield 149, 3) := by decide +kernel
theorem dX10_toldLeast_13 : decode cX10_toldLeast 13 = .ok (.goto 4, 3) := by decide +kernel
theorem dX10_toldLeast_16 : decode cX10_toldLeast 16 = .ok (.iload_n 2, 1) := by decide +kernel
theorem dX10_toldLeast_17 : decode cX10_toldLeast 17 = .ok (.ireturn, 1) := by decide +kernel
set_option maxRecDepth 20000 in
theorem ggX10_toldNecklace_X10_necklace : GoodIn wsX10_toldNecklace wsX10_necklace := goodIn_r _ [6, 7, 8, 1, 9, 10, 5, 11, 12, 13, 14, 15, 16, 17, 18, 19, 20, 21, 22, 23, 24, 25, 26, 27, 28, 29, 30, 31, 32, 33, 34, 35, 36, 37, 38, 39, 40, 41, 42, 43, 44, 45, 46, 47] (by decide +kernel) (by decide +kernel)
set_option maxRecDepth 20000 in
theorem gX10_toldNecklace_X10_necklace : GoodIn wsX10_toldNecklace (wsV RX10 161 RX10 yX10_necklace wsX10_necklace) := goodIn_app (goodIn_of _ (by decide +kernel)) ggX10_toldNecklace_X10_necklace
theorem dX10_toldNecklace_0 : decode cX10_toldNecklace 0 = .ok (.aload_n 0, 1) := by decide +kernel
theorem dX10_toldNecklace_1 : decode cX10_toldNecklace 1 = .ok (.invokevirtual 161, 3) := by decide +kernel
theorem dX10_toldNecklace_4 : decode cX10_toldNecklace 4 = .ok (.istore_n 2, 1) := by decide +kernel
theorem dX10_toldNecklace_5 : decode cX10_toldNecklace 5 = .ok (.iload_n 1, 1) := by decide +kernel
theorem dX10_toldNecklace_6 : decode cX10_toldNecklace 6 = .ok (.ifCond .eq 10, 3) := by decide +kernel
theorem dX10_toldNecklace_9 : decode cX10_toldNecklace 9 = .ok (.aload_n 0, 1) := by decide +kernel
theorem dX10_toldNecklace_10 : decode cX10_toldNecklace 10 = .ok (.getfield 158, 3) := by decide +kernel
theorem dX10_toldNecklace_13 : decode cX10_toldNecklace 13 = .ok (.goto 4, 3) := by decide +kernel
theorem dX10_toldNecklace_16 : decode cX10_toldNecklace 16 = .ok (.iload_n 2, 1) := by decide +kernel
theorem dX10_toldNecklace_17 : decode cX10_toldNecklace 17 = .ok (.ireturn, 1) := by decide +kernel
set_option maxRecDepth 20000 in
theorem ggX10_tilingsTold_X10_layTilings : GoodIn wsX10_tilingsTold wsX10_layTilings := goodIn_r _ [6, 7, 8, 9, 10, 1, 11, 12, 13, 5, 14, 15, 16, 17, 18, 19, 20, 21, 22, 23, 24, 25, 26, 27, 28, 29, 30, 31, 32, 33, 34, 35, 36, 37, 38, 39, 40, 41, 42, 43, 44, 45, 46, 47, 48, 49, 50, 51, 52, 53, 54, 55, 56, 57, 58, 59, 60, 61, 62, 63, 64, 65, 66, 67, 68] (by decide +kernel) (by decide +kernel)
set_option maxRecDepth 20000 in
theorem gX10_tilingsTold_X10_layTilings : GoodIn wsX10_tilingsTold (wsV RX10 133 RX10 yX10_layTilings wsX10_layTilings) := goodIn_app (goodIn_of _ (by decide +kernel)) ggX10_tilingsTold_X10_layTilings
theorem dX10_tilingsTold_0 : decode cX10_tilingsTold 0 = .ok (.aload_n 0, 1) := by decide +kernel
theorem dX10_tilingsTold_1 : decode cX10_tilingsTold 1 = .ok (.invokevirtual 133, 3) := by decide +kernel
theorem dX10_tilingsTold_4 : decode cX10_tilingsTold 4 = .ok (.aload_n 0, 1) := by decide +kernel
theorem dX10_tilingsTold_5 : decode cX10_tilingsTold 5 = .ok (.getfield 126, 3) := by decide +kernel
theorem dX10_tilingsTold_8 : decode cX10_tilingsTold 8 = .ok (.ireturn, 1) := by decide +kernel
set_option maxRecDepth 20000 in
theorem ggX10_told_X10_bits : GoodIn wsX10_told wsX10_bits := goodIn_r _ [10] (by decide +kernel) (by decide +kernel)
set_option maxRecDepth 20000 in
theorem gX10_told_X10_bits : GoodIn wsX10_told (va_wsS RX10 107 yX10_bits wsX10_bits) := goodIn_app (goodIn_of _ (by decide +kernel)) ggX10_told_X10_bits
set_option maxRecDepth 20000 in
theorem ggX10_told_X10_tilingsTold : GoodIn wsX10_told wsX10_tilingsTold := goodIn_r _ [14, 15, 16, 17, 18, 9, 19, 20, 1, 21, 2, 22, 23, 24, 25, 26, 27, 28, 29, 7, 8, 10, 30, 31, 32, 33, 34, 35, 36, 37, 38, 39, 40, 41, 42, 43, 44, 45, 46, 47, 48, 49, 105, 106, 107, 108, 109, 110, 111, 112, 113, 114, 115, 116, 117, 118, 119, 120, 121, 122, 123, 124, 125, 126, 127, 128, 129, 130, 131] (by decide +kernel) (by decide +kernel)
set_option maxRecDepth 20000 in
theorem gX10_told_X10_tilingsTold : GoodIn wsX10_told (wsV RX10 246 RX10 yX10_tilingsTold wsX10_tilingsTold) := goodIn_app (goodIn_of _ (by decide +kernel)) ggX10_told_X10_tilingsTold
set_option maxRecDepth 20000 in
theorem ggX10_told_X10_periodOf : GoodIn wsX10_told wsX10_periodOf := goodIn_r _ [52, 39, 40, 9, 41, 30, 31, 32] (by decide +kernel) (by decide +kernel)
set_option maxRecDepth 20000 in
theorem gX10_told_X10_periodOf : GoodIn wsX10_told (va_wsS RX10 142 yX10_periodOf wsX10_periodOf) := goodIn_app (goodIn_of _ (by decide +kernel)) ggX10_told_X10_periodOf
set_option maxRecDepth 20000 in
theorem ggX10_told_X10_valueOf : GoodIn wsX10_told wsX10_valueOf := goodIn_r _ [55, 36, 37, 9, 38] (by decide +kernel) (by decide +kernel)
set_option maxRecDepth 20000 in
theorem gX10_told_X10_valueOf : GoodIn wsX10_told (va_wsS RX10 155 yX10_valueOf wsX10_valueOf) := goodIn_app (goodIn_of _ (by decide +kernel)) ggX10_told_X10_valueOf
set_option maxRecDepth 20000 in
theorem ggX10_told_X10_toldNecklace : GoodIn wsX10_told wsX10_toldNecklace := goodIn_r _ [59, 60, 61, 62, 63, 9, 64, 2, 1, 53, 54, 55, 36, 37, 38, 39, 40, 41, 30, 31, 32, 105, 106, 107, 108, 109, 110, 111, 112, 113, 114, 115, 116, 117, 118, 119, 120, 121, 122, 123, 124, 125, 126, 127, 128, 129, 130, 131] (by decide +kernel) (by decide +kernel)
set_option maxRecDepth 20000 in
theorem gX10_told_X10_toldNecklace : GoodIn wsX10_told (wsV RX10 249 RX10 yX10_toldNecklace wsX10_toldNecklace) := goodIn_app (goodIn_of _ (by decide +kernel)) ggX10_told_X10_toldNecklace
set_option maxRecDepth 20000 in
theorem ggX10_told_X10_later : GoodIn wsX10_told wsX10_later := goodIn_r _ [68, 2, 1, 61, 62, 63, 9, 64, 60, 53, 54, 55, 36, 37, 38, 39, 40, 41, 30, 31, 32, 7, 8, 10, 69, 70, 71, 72, 73, 74, 105, 106, 107, 108, 109, 110, 111, 112, 113, 114, 115, 116, 117, 118, 119, 120, 121, 122, 123, 124, 125, 126, 127, 128, 129, 130, 131] (by decide +kernel) (by decide +kernel)
set_option maxRecDepth 20000 in
theorem gX10_told_X10_later : GoodIn wsX10_told (wsV RX10 253 RX10 yX10_later wsX10_later) := goodIn_app (goodIn_of _ (by decide +kernel)) ggX10_told_X10_later
set_option maxRecDepth 20000 in
theorem ggX10_told_X10_widest : GoodIn wsX10_told wsX10_widest := goodIn_r _ [78, 2, 7, 8, 9, 10, 79, 80, 81, 82, 1, 83, 84, 85, 86, 33, 34, 35, 36, 37, 38, 105, 106, 107, 108, 109, 110, 111, 112, 113, 114, 115, 116, 117, 118, 119, 120, 121, 122, 123, 124, 125, 126, 127, 128, 129, 130, 131] (by decide +kernel) (by decide +kernel)
set_option maxRecDepth 20000 in
theorem gX10_told_X10_widest : GoodIn wsX10_told (wsV RX10 256 RX10 yX10_widest wsX10_widest) := goodIn_app (goodIn_of _ (by decide +kernel)) ggX10_told_X10_widest
set_option maxRecDepth 20000 in
theorem ggX10_told_X10_evenOf : GoodIn wsX10_told wsX10_evenOf := goodIn_r _ [89] (by decide +kernel) (by decide +kernel)
set_option maxRecDepth 20000 in
theorem gX10_told_X10_evenOf : GoodIn wsX10_told (va_wsS RX10 211 yX10_evenOf wsX10_evenOf) := goodIn_app (goodIn_of _ (by decide +kernel)) ggX10_told_X10_evenOf
set_option maxRecDepth 20000 in
theorem ggX10_told_X10_isMoved : GoodIn wsX10_told wsX10_isMoved := goodIn_r _ [92, 39, 40, 9, 41, 30, 31, 32] (by decide +kernel) (by decide +kernel)
set_option maxRecDepth 20000 in
theorem gX10_told_X10_isMoved : GoodIn wsX10_told (va_wsS RX10 192 yX10_isMoved wsX10_isMoved) := goodIn_app (goodIn_of _ (by decide +kernel)) ggX10_told_X10_isMoved
set_option maxRecDepth 20000 in
theorem ggX10_told_X10_toldLeast : GoodIn wsX10_told wsX10_toldLeast := goodIn_r _ [96, 97, 98, 99, 100, 9, 101, 1, 2, 20, 30, 31, 32, 7, 8, 10, 22, 23, 24, 25, 26, 27, 28, 29, 33, 34, 35, 36, 37, 38, 39, 40, 41, 102, 103, 104, 105, 106, 107, 108, 109, 110, 111, 112, 113, 114, 115, 116, 117, 118, 119, 120, 121, 122, 123, 124, 125, 126, 127, 128, 129, 130, 131] (by decide +kernel) (by decide +kernel)
set_option maxRecDepth 20000 in
theorem gX10_told_X10_toldLeast : GoodIn wsX10_told (wsV RX10 259 RX10 yX10_toldLeast wsX10_toldLeast) := goodIn_app (goodIn_of _ (by decide +kernel)) ggX10_told_X10_toldLeast
theorem dX10_told_0 : decode cX10_told 0 = .ok (.iload_n 1, 1) := by decide +kernel
theorem dX10_told_1 : decode cX10_told 1 = .ok (.tableswitch 232 0 16 #[83, 88, 96, 101, 106, 118, 130, 130, 146, 151, 151, 167, 201, 201, 217, 222, 227], 83) := by decide +kernel
theorem dX10_told_84 : decode cX10_told 84 = .ok (.aload_n 0, 1) := by decide +kernel
theorem dX10_told_85 : decode cX10_told 85 = .ok (.getfield 7, 3) := by decide +kernel
theorem dX10_told_88 : decode cX10_told 88 = .ok (.ireturn, 1) := by decide +kernel
theorem dX10_told_89 : decode cX10_told 89 = .ok (.aload_n 0, 1) := by decide +kernel
theorem dX10_told_90 : decode cX10_told 90 = .ok (.getfield 101, 3) := by decide +kernel
theorem dX10_told_93 : decode cX10_told 93 = .ok (.invokestatic 107, 3) := by decide +kernel
theorem dX10_told_96 : decode cX10_told 96 = .ok (.ireturn, 1) := by decide +kernel
theorem dX10_told_97 : decode cX10_told 97 = .ok (.aload_n 0, 1) := by decide +kernel
theorem dX10_told_98 : decode cX10_told 98 = .ok (.getfield 101, 3) := by decide +kernel
theorem dX10_told_101 : decode cX10_told 101 = .ok (.ireturn, 1) := by decide +kernel
theorem dX10_told_102 : decode cX10_told 102 = .ok (.aload_n 0, 1) := by decide +kernel
theorem dX10_told_103 : decode cX10_told 103 = .ok (.invokevirtual 246, 3) := by decide +kernel
theorem dX10_told_106 : decode cX10_told 106 = .ok (.ireturn, 1) := by decide +kernel
theorem dX10_told_107 : decode cX10_told 107 = .ok (.aload_n 0, 1) := by decide +kernel
theorem dX10_told_108 : decode cX10_told 108 = .ok (.getfield 101, 3) := by decide +kernel
theorem dX10_told_111 : decode cX10_told 111 = .ok (.aload_n 0, 1) := by decide +kernel
theorem dX10_told_112 : decode cX10_told 112 = .ok (.getfield 7, 3) := by decide +kernel
theorem dX10_told_115 : decode cX10_told 115 = .ok (.invokestatic 142, 3) := by decide +kernel
theorem dX10_told_118 : decode cX10_told 118 = .ok (.ireturn, 1) := by decide +kernel
theorem dX10_told_119 : decode cX10_told 119 = .ok (.aload_n 0, 1) := by decide +kernel
theorem dX10_told_120 : decode cX10_told 120 = .ok (.getfield 101, 3) := by decide +kernel
theorem dX10_told_123 : decode cX10_told 123 = .ok (.aload_n 0, 1) := by decide +kernel
theorem dX10_told_124 : decode cX10_told 124 = .ok (.getfield 7, 3) := by decide +kernel
theorem dX10_told_127 : decode cX10_told 127 = .ok (.invokestatic 155, 3) := by decide +kernel
theorem dX10_told_130 : decode cX10_told 130 = .ok (.ireturn, 1) := by decide +kernel
theorem dX10_told_131 : decode cX10_told 131 = .ok (.aload_n 0, 1) := by decide +kernel
theorem dX10_told_132 : decode cX10_told 132 = .ok (.iload_n 1, 1) := by decide +kernel
theorem dX10_told_133 : decode cX10_told 133 = .ok (.bipush 7, 2) := by decide +kernel
theorem dX10_told_135 : decode cX10_told 135 = .ok (.if_icmp .ne 7, 3) := by decide +kernel
theorem dX10_told_138 : decode cX10_told 138 = .ok (.iconst 1, 1) := by decide +kernel
theorem dX10_told_139 : decode cX10_told 139 = .ok (.goto 4, 3) := by decide +kernel
theorem dX10_told_142 : decode cX10_told 142 = .ok (.iconst 0, 1) := by decide +kernel
theorem dX10_told_143 : decode cX10_told 143 = .ok (.invokevirtual 249, 3) := by decide +kernel
theorem dX10_told_146 : decode cX10_told 146 = .ok (.ireturn, 1) := by decide +kernel
theorem dX10_told_147 : decode cX10_told 147 = .ok (.aload_n 0, 1) := by decide +kernel
theorem dX10_told_148 : decode cX10_told 148 = .ok (.invokevirtual 253, 3) := by decide +kernel
theorem dX10_told_151 : decode cX10_told 151 = .ok (.ireturn, 1) := by decide +kernel
theorem dX10_told_152 : decode cX10_told 152 = .ok (.aload_n 0, 1) := by decide +kernel
theorem dX10_told_153 : decode cX10_told 153 = .ok (.iload_n 1, 1) := by decide +kernel
theorem dX10_told_154 : decode cX10_told 154 = .ok (.bipush 9, 2) := by decide +kernel
theorem dX10_told_156 : decode cX10_told 156 = .ok (.if_icmp .ne 7, 3) := by decide +kernel
theorem dX10_told_159 : decode cX10_told 159 = .ok (.iconst 1, 1) := by decide +kernel
theorem dX10_told_160 : decode cX10_told 160 = .ok (.goto 4, 3) := by decide +kernel
theorem dX10_told_163 : decode cX10_told 163 = .ok (.iconst 0, 1) := by decide +kernel
theorem dX10_told_164 : decode cX10_told 164 = .ok (.invokevirtual 256, 3) := by decide +kernel
theorem dX10_told_167 : decode cX10_told 167 = .ok (.ireturn, 1) := by decide +kernel
theorem dX10_told_168 : decode cX10_told 168 = .ok (.aload_n 0, 1) := by decide +kernel
theorem dX10_told_169 : decode cX10_told 169 = .ok (.getfield 101, 3) := by decide +kernel
theorem dX10_told_172 : decode cX10_told 172 = .ok (.invokestatic 107, 3) := by decide +kernel
theorem dX10_told_175 : decode cX10_told 175 = .ok (.aload_n 0, 1) := by decide +kernel
theorem dX10_told_176 : decode cX10_told 176 = .ok (.getfield 7, 3) := by decide +kernel
theorem dX10_told_179 : decode cX10_told 179 = .ok (.invokestatic 211, 3) := by decide +kernel
theorem dX10_told_182 : decode cX10_told 182 = .ok (.aload_n 0, 1) := by decide +kernel
theorem dX10_told_183 : decode cX10_told 183 = .ok (.getfield 101, 3) := by decide +kernel
theorem dX10_told_186 : decode cX10_told 186 = .ok (.aload_n 0, 1) := by decide +kernel
theorem dX10_told_187 : decode cX10_told 187 = .ok (.getfield 7, 3) := by decide +kernel
theorem dX10_told_190 : decode cX10_told 190 = .ok (.invokestatic 192, 3) := by decide +kernel
theorem dX10_told_193 : decode cX10_told 193 = .ok (.ifCond .eq 7, 3) := by decide +kernel
theorem dX10_told_196 : decode cX10_told 196 = .ok (.iconst 1, 1) := by decide +kernel
theorem dX10_told_197 : decode cX10_told 197 = .ok (.goto 4, 3) := by decide +kernel
theorem dX10_told_200 : decode cX10_told 200 = .ok (.iconst 0, 1) := by decide +kernel
theorem dX10_told_201 : decode cX10_told 201 = .ok (.ireturn, 1) := by decide +kernel
theorem dX10_told_202 : decode cX10_told 202 = .ok (.aload_n 0, 1) := by decide +kernel
theorem dX10_told_203 : decode cX10_told 203 = .ok (.iload_n 1, 1) := by decide +kernel
theorem dX10_told_204 : decode cX10_told 204 = .ok (.bipush 13, 2) := by decide +kernel
theorem dX10_told_206 : decode cX10_told 206 = .ok (.if_icmp .ne 7, 3) := by decide +kernel
theorem dX10_told_209 : decode cX10_told 209 = .ok (.iconst 1, 1) := by decide +kernel
theorem dX10_told_210 : decode cX10_told 210 = .ok (.goto 4, 3) := by decide +kernel
theorem dX10_told_213 : decode cX10_told 213 = .ok (.iconst 0, 1) := by decide +kernel
theorem dX10_told_214 : decode cX10_told 214 = .ok (.invokevirtual 259, 3) := by decide +kernel
theorem dX10_told_217 : decode cX10_told 217 = .ok (.ireturn, 1) := by decide +kernel
theorem dX10_told_218 : decode cX10_told 218 = .ok (.aload_n 0, 1) := by decide +kernel
theorem dX10_told_219 : decode cX10_told 219 = .ok (.getfield 76, 3) := by decide +kernel
theorem dX10_told_222 : decode cX10_told 222 = .ok (.ireturn, 1) := by decide +kernel
theorem dX10_told_223 : decode cX10_told 223 = .ok (.aload_n 0, 1) := by decide +kernel
theorem dX10_told_224 : decode cX10_told 224 = .ok (.getfield 104, 3) := by decide +kernel
theorem dX10_told_227 : decode cX10_told 227 = .ok (.ireturn, 1) := by decide +kernel
theorem dX10_told_228 : decode cX10_told 228 = .ok (.aload_n 0, 1) := by decide +kernel
theorem dX10_told_229 : decode cX10_told 229 = .ok (.getfield 205, 3) := by decide +kernel
theorem dX10_told_232 : decode cX10_told 232 = .ok (.ireturn, 1) := by decide +kernel
theorem dX10_told_233 : decode cX10_told 233 = .ok (.ldc 75, 2) := by decide +kernel
theorem dX10_told_235 : decode cX10_told 235 = .ok (.ireturn, 1) := by decide +kernel
theorem dJ6_numberOfTrailingZeros_0f7a4_0 : decode cJ6_numberOfTrailingZeros_0f7a4 0 = .ok (.iload_n 0, 1) := by decide +kernel
theorem dJ6_numberOfTrailingZeros_0f7a4_1 : decode cJ6_numberOfTrailingZeros_0f7a4 1 = .ok (.iconst (-1), 1) := by decide +kernel
theorem dJ6_numberOfTrailingZeros_0f7a4_2 : decode cJ6_numberOfTrailingZeros_0f7a4 2 = .ok (.ixor, 1) := by decide +kernel
theorem dJ6_numberOfTrailingZeros_0f7a4_3 : decode cJ6_numberOfTrailingZeros_0f7a4 3 = .ok (.iload_n 0, 1) := by decide +kernel
theorem dJ6_numberOfTrailingZeros_0f7a4_4 : decode cJ6_numberOfTrailingZeros_0f7a4 4 = .ok (.iconst 1, 1) := by decide +kernel
theorem dJ6_numberOfTrailingZeros_0f7a4_5 : decode cJ6_numberOfTrailingZeros_0f7a4 5 = .ok (.isub, 1) := by decide +kernel
theorem dJ6_numberOfTrailingZeros_0f7a4_6 : decode cJ6_numberOfTrailingZeros_0f7a4 6 = .ok (.iand, 1) := by decide +kernel
theorem dJ6_numberOfTrailingZeros_0f7a4_7 : decode cJ6_numberOfTrailingZeros_0f7a4 7 = .ok (.istore_n 0, 1) := by decide +kernel
theorem dJ6_numberOfTrailingZeros_0f7a4_8 : decode cJ6_numberOfTrailingZeros_0f7a4 8 = .ok (.iload_n 0, 1) := by decide +kernel
theorem dJ6_numberOfTrailingZeros_0f7a4_9 : decode cJ6_numberOfTrailingZeros_0f7a4 9 = .ok (.ifCond .gt 8, 3) := by decide +kernel
theorem dJ6_numberOfTrailingZeros_0f7a4_12 : decode cJ6_numberOfTrailingZeros_0f7a4 12 = .ok (.iload_n 0, 1) := by decide +kernel
theorem dJ6_numberOfTrailingZeros_0f7a4_13 : decode cJ6_numberOfTrailingZeros_0f7a4 13 = .ok (.bipush 32, 2) := by decide +kernel
theorem dJ6_numberOfTrailingZeros_0f7a4_15 : decode cJ6_numberOfTrailingZeros_0f7a4 15 = .ok (.iand, 1) := by decide +kernel
theorem dJ6_numberOfTrailingZeros_0f7a4_16 : decode cJ6_numberOfTrailingZeros_0f7a4 16 = .ok (.ireturn, 1) := by decide +kernel
theorem dJ6_numberOfTrailingZeros_0f7a4_17 : decode cJ6_numberOfTrailingZeros_0f7a4 17 = .ok (.iconst 1, 1) := by decide +kernel
theorem dJ6_numberOfTrailingZeros_0f7a4_18 : decode cJ6_numberOfTrailingZeros_0f7a4 18 = .ok (.istore_n 1, 1) := by decide +kernel
theorem dJ6_numberOfTrailingZeros_0f7a4_19 : decode cJ6_numberOfTrailingZeros_0f7a4 19 = .ok (.iload_n 0, 1) := by decide +kernel
theorem dJ6_numberOfTrailingZeros_0f7a4_20 : decode cJ6_numberOfTrailingZeros_0f7a4 20 = .ok (.ldc_w 264, 3) := by decide +kernel
theorem dJ6_numberOfTrailingZeros_0f7a4_23 : decode cJ6_numberOfTrailingZeros_0f7a4 23 = .ok (.if_icmp .le 11, 3) := by decide +kernel
theorem dJ6_numberOfTrailingZeros_0f7a4_26 : decode cJ6_numberOfTrailingZeros_0f7a4 26 = .ok (.iinc 1 16, 3) := by decide +kernel
theorem dJ6_numberOfTrailingZeros_0f7a4_29 : decode cJ6_numberOfTrailingZeros_0f7a4 29 = .ok (.iload_n 0, 1) := by decide +kernel
theorem dJ6_numberOfTrailingZeros_0f7a4_30 : decode cJ6_numberOfTrailingZeros_0f7a4 30 = .ok (.bipush 16, 2) := by decide +kernel
theorem dJ6_numberOfTrailingZeros_0f7a4_32 : decode cJ6_numberOfTrailingZeros_0f7a4 32 = .ok (.iushr, 1) := by decide +kernel
theorem dJ6_numberOfTrailingZeros_0f7a4_33 : decode cJ6_numberOfTrailingZeros_0f7a4 33 = .ok (.istore_n 0, 1) := by decide +kernel
theorem dJ6_numberOfTrailingZeros_0f7a4_34 : decode cJ6_numberOfTrailingZeros_0f7a4 34 = .ok (.iload_n 0, 1) := by decide +kernel
theorem dJ6_numberOfTrailingZeros_0f7a4_35 : decode cJ6_numberOfTrailingZeros_0f7a4 35 = .ok (.sipush 256, 3) := by decide +kernel
theorem dJ6_numberOfTrailingZeros_0f7a4_38 : decode cJ6_numberOfTrailingZeros_0f7a4 38 = .ok (.if_icmp .le 11, 3) := by decide +kernel
theorem dJ6_numberOfTrailingZeros_0f7a4_41 : decode cJ6_numberOfTrailingZeros_0f7a4 41 = .ok (.iinc 1 8, 3) := by decide +kernel
theorem dJ6_numberOfTrailingZeros_0f7a4_44 : decode cJ6_numberOfTrailingZeros_0f7a4 44 = .ok (.iload_n 0, 1) := by decide +kernel
theorem dJ6_numberOfTrailingZeros_0f7a4_45 : decode cJ6_numberOfTrailingZeros_0f7a4 45 = .ok (.bipush 8, 2) := by decide +kernel
theorem dJ6_numberOfTrailingZeros_0f7a4_47 : decode cJ6_numberOfTrailingZeros_0f7a4 47 = .ok (.iushr, 1) := by decide +kernel
theorem dJ6_numberOfTrailingZeros_0f7a4_48 : decode cJ6_numberOfTrailingZeros_0f7a4 48 = .ok (.istore_n 0, 1) := by decide +kernel
theorem dJ6_numberOfTrailingZeros_0f7a4_49 : decode cJ6_numberOfTrailingZeros_0f7a4 49 = .ok (.iload_n 0, 1) := by decide +kernel
theorem dJ6_numberOfTrailingZeros_0f7a4_50 : decode cJ6_numberOfTrailingZeros_0f7a4 50 = .ok (.bipush 16, 2) := by decide +kernel
theorem dJ6_numberOfTrailingZeros_0f7a4_52 : decode cJ6_numberOfTrailingZeros_0f7a4 52 = .ok (.if_icmp .le 10, 3) := by decide +kernel
theorem dJ6_numberOfTrailingZeros_0f7a4_55 : decode cJ6_numberOfTrailingZeros_0f7a4 55 = .ok (.iinc 1 4, 3) := by decide +kernel
theorem dJ6_numberOfTrailingZeros_0f7a4_58 : decode cJ6_numberOfTrailingZeros_0f7a4 58 = .ok (.iload_n 0, 1) := by decide +kernel
theorem dJ6_numberOfTrailingZeros_0f7a4_59 : decode cJ6_numberOfTrailingZeros_0f7a4 59 = .ok (.iconst 4, 1) := by decide +kernel
theorem dJ6_numberOfTrailingZeros_0f7a4_60 : decode cJ6_numberOfTrailingZeros_0f7a4 60 = .ok (.iushr, 1) := by decide +kernel
theorem dJ6_numberOfTrailingZeros_0f7a4_61 : decode cJ6_numberOfTrailingZeros_0f7a4 61 = .ok (.istore_n 0, 1) := by decide +kernel
theorem dJ6_numberOfTrailingZeros_0f7a4_62 : decode cJ6_numberOfTrailingZeros_0f7a4 62 = .ok (.iload_n 0, 1) := by decide +kernel
theorem dJ6_numberOfTrailingZeros_0f7a4_63 : decode cJ6_numberOfTrailingZeros_0f7a4 63 = .ok (.iconst 4, 1) := by decide +kernel
theorem dJ6_numberOfTrailingZeros_0f7a4_64 : decode cJ6_numberOfTrailingZeros_0f7a4 64 = .ok (.if_icmp .le 10, 3) := by decide +kernel
theorem dJ6_numberOfTrailingZeros_0f7a4_67 : decode cJ6_numberOfTrailingZeros_0f7a4 67 = .ok (.iinc 1 2, 3) := by decide +kernel
theorem dJ6_numberOfTrailingZeros_0f7a4_70 : decode cJ6_numberOfTrailingZeros_0f7a4 70 = .ok (.iload_n 0, 1) := by decide +kernel
theorem dJ6_numberOfTrailingZeros_0f7a4_71 : decode cJ6_numberOfTrailingZeros_0f7a4 71 = .ok (.iconst 2, 1) := by decide +kernel
theorem dJ6_numberOfTrailingZeros_0f7a4_72 : decode cJ6_numberOfTrailingZeros_0f7a4 72 = .ok (.iushr, 1) := by decide +kernel
theorem dJ6_numberOfTrailingZeros_0f7a4_73 : decode cJ6_numberOfTrailingZeros_0f7a4 73 = .ok (.istore_n 0, 1) := by decide +kernel
theorem dJ6_numberOfTrailingZeros_0f7a4_74 : decode cJ6_numberOfTrailingZeros_0f7a4 74 = .ok (.iload_n 1, 1) := by decide +kernel
theorem dJ6_numberOfTrailingZeros_0f7a4_75 : decode cJ6_numberOfTrailingZeros_0f7a4 75 = .ok (.iload_n 0, 1) := by decide +kernel
theorem dJ6_numberOfTrailingZeros_0f7a4_76 : decode cJ6_numberOfTrailingZeros_0f7a4 76 = .ok (.iconst 1, 1) := by decide +kernel
theorem dJ6_numberOfTrailingZeros_0f7a4_77 : decode cJ6_numberOfTrailingZeros_0f7a4 77 = .ok (.iushr, 1) := by decide +kernel
theorem dJ6_numberOfTrailingZeros_0f7a4_78 : decode cJ6_numberOfTrailingZeros_0f7a4 78 = .ok (.iadd, 1) := by decide +kernel
theorem dJ6_numberOfTrailingZeros_0f7a4_79 : decode cJ6_numberOfTrailingZeros_0f7a4 79 = .ok (.ireturn, 1) := by decide +kernel
theorem dJ6_bitCount_0f7a4_0 : decode cJ6_bitCount_0f7a4 0 = .ok (.iload_n 0, 1) := by decide +kernel
theorem dJ6_bitCount_0f7a4_1 : decode cJ6_bitCount_0f7a4 1 = .ok (.iload_n 0, 1) := by decide +kernel
theorem dJ6_bitCount_0f7a4_2 : decode cJ6_bitCount_0f7a4 2 = .ok (.iconst 1, 1) := by decide +kernel
theorem dJ6_bitCount_0f7a4_3 : decode cJ6_bitCount_0f7a4 3 = .ok (.iushr, 1) := by decide +kernel
theorem dJ6_bitCount_0f7a4_4 : decode cJ6_bitCount_0f7a4 4 = .ok (.ldc_w 265, 3) := by decide +kernel
theorem dJ6_bitCount_0f7a4_7 : decode cJ6_bitCount_0f7a4 7 = .ok (.iand, 1) := by decide +kernel
theorem dJ6_bitCount_0f7a4_8 : decode cJ6_bitCount_0f7a4 8 = .ok (.isub, 1) := by decide +kernel
theorem dJ6_bitCount_0f7a4_9 : decode cJ6_bitCount_0f7a4 9 = .ok (.istore_n 0, 1) := by decide +kernel
theorem dJ6_bitCount_0f7a4_10 : decode cJ6_bitCount_0f7a4 10 = .ok (.iload_n 0, 1) := by decide +kernel
theorem dJ6_bitCount_0f7a4_11 : decode cJ6_bitCount_0f7a4 11 = .ok (.ldc_w 266, 3) := by decide +kernel
theorem dJ6_bitCount_0f7a4_14 : decode cJ6_bitCount_0f7a4 14 = .ok (.iand, 1) := by decide +kernel
theorem dJ6_bitCount_0f7a4_15 : decode cJ6_bitCount_0f7a4 15 = .ok (.iload_n 0, 1) := by decide +kernel
theorem dJ6_bitCount_0f7a4_16 : decode cJ6_bitCount_0f7a4 16 = .ok (.iconst 2, 1) := by decide +kernel
theorem dJ6_bitCount_0f7a4_17 : decode cJ6_bitCount_0f7a4 17 = .ok (.iushr, 1) := by decide +kernel
theorem dJ6_bitCount_0f7a4_18 : decode cJ6_bitCount_0f7a4 18 = .ok (.ldc_w 266, 3) := by decide +kernel
theorem dJ6_bitCount_0f7a4_21 : decode cJ6_bitCount_0f7a4 21 = .ok (.iand, 1) := by decide +kernel
theorem dJ6_bitCount_0f7a4_22 : decode cJ6_bitCount_0f7a4 22 = .ok (.iadd, 1) := by decide +kernel
theorem dJ6_bitCount_0f7a4_23 : decode cJ6_bitCount_0f7a4 23 = .ok (.istore_n 0, 1) := by decide +kernel
theorem dJ6_bitCount_0f7a4_24 : decode cJ6_bitCount_0f7a4 24 = .ok (.iload_n 0, 1) := by decide +kernel
theorem dJ6_bitCount_0f7a4_25 : decode cJ6_bitCount_0f7a4 25 = .ok (.iload_n 0, 1) := by decide +kernel
theorem dJ6_bitCount_0f7a4_26 : decode cJ6_bitCount_0f7a4 26 = .ok (.iconst 4, 1) := by decide +kernel
theorem dJ6_bitCount_0f7a4_27 : decode cJ6_bitCount_0f7a4 27 = .ok (.iushr, 1) := by decide +kernel
theorem dJ6_bitCount_0f7a4_28 : decode cJ6_bitCount_0f7a4 28 = .ok (.iadd, 1) := by decide +kernel
theorem dJ6_bitCount_0f7a4_29 : decode cJ6_bitCount_0f7a4 29 = .ok (.ldc_w 267, 3) := by decide +kernel
theorem dJ6_bitCount_0f7a4_32 : decode cJ6_bitCount_0f7a4 32 = .ok (.iand, 1) := by decide +kernel
theorem dJ6_bitCount_0f7a4_33 : decode cJ6_bitCount_0f7a4 33 = .ok (.istore_n 0, 1) := by decide +kernel
theorem dJ6_bitCount_0f7a4_34 : decode cJ6_bitCount_0f7a4 34 = .ok (.iload_n 0, 1) := by decide +kernel
theorem dJ6_bitCount_0f7a4_35 : decode cJ6_bitCount_0f7a4 35 = .ok (.iload_n 0, 1) := by decide +kernel
theorem dJ6_bitCount_0f7a4_36 : decode cJ6_bitCount_0f7a4 36 = .ok (.bipush 8, 2) := by decide +kernel
theorem dJ6_bitCount_0f7a4_38 : decode cJ6_bitCount_0f7a4 38 = .ok (.iushr, 1) := by decide +kernel
theorem dJ6_bitCount_0f7a4_39 : decode cJ6_bitCount_0f7a4 39 = .ok (.iadd, 1) := by decide +kernel
theorem dJ6_bitCount_0f7a4_40 : decode cJ6_bitCount_0f7a4 40 = .ok (.istore_n 0, 1) := by decide +kernel
theorem dJ6_bitCount_0f7a4_41 : decode cJ6_bitCount_0f7a4 41 = .ok (.iload_n 0, 1) := by decide +kernel
theorem dJ6_bitCount_0f7a4_42 : decode cJ6_bitCount_0f7a4 42 = .ok (.iload_n 0, 1) := by decide +kernel
theorem dJ6_bitCount_0f7a4_43 : decode cJ6_bitCount_0f7a4 43 = .ok (.bipush 16, 2) := by decide +kernel
theorem dJ6_bitCount_0f7a4_45 : decode cJ6_bitCount_0f7a4 45 = .ok (.iushr, 1) := by decide +kernel
theorem dJ6_bitCount_0f7a4_46 : decode cJ6_bitCount_0f7a4 46 = .ok (.iadd, 1) := by decide +kernel
theorem dJ6_bitCount_0f7a4_47 : decode cJ6_bitCount_0f7a4 47 = .ok (.istore_n 0, 1) := by decide +kernel
theorem dJ6_bitCount_0f7a4_48 : decode cJ6_bitCount_0f7a4 48 = .ok (.iload_n 0, 1) := by decide +kernel
theorem dJ6_bitCount_0f7a4_49 : decode cJ6_bitCount_0f7a4 49 = .ok (.bipush 63, 2) := by decide +kernel
theorem dJ6_bitCount_0f7a4_51 : decode cJ6_bitCount_0f7a4 51 = .ok (.iand, 1) := by decide +kernel
theorem dJ6_bitCount_0f7a4_52 : decode cJ6_bitCount_0f7a4 52 = .ok (.ireturn, 1) := by decide +kernel
theorem dJ9_max_7cf53_0 : decode cJ9_max_7cf53 0 = .ok (.iload_n 0, 1) := by decide +kernel
theorem dJ9_max_7cf53_1 : decode cJ9_max_7cf53 1 = .ok (.iload_n 1, 1) := by decide +kernel
theorem dJ9_max_7cf53_2 : decode cJ9_max_7cf53 2 = .ok (.if_icmp .lt 7, 3) := by decide +kernel
theorem dJ9_max_7cf53_5 : decode cJ9_max_7cf53 5 = .ok (.iload_n 0, 1) := by decide +kernel
theorem dJ9_max_7cf53_6 : decode cJ9_max_7cf53 6 = .ok (.goto 4, 3) := by decide +kernel
theorem dJ9_max_7cf53_9 : decode cJ9_max_7cf53 9 = .ok (.iload_n 1, 1) := by decide +kernel
theorem dJ9_max_7cf53_10 : decode cJ9_max_7cf53 10 = .ok (.ireturn, 1) := by decide +kernel
theorem dJ9_min_7cf53_0 : decode cJ9_min_7cf53 0 = .ok (.iload_n 0, 1) := by decide +kernel
theorem dJ9_min_7cf53_1 : decode cJ9_min_7cf53 1 = .ok (.iload_n 1, 1) := by decide +kernel
theorem dJ9_min_7cf53_2 : decode cJ9_min_7cf53 2 = .ok (.if_icmp .gt 7, 3) := by decide +kernel
theorem dJ9_min_7cf53_5 : decode cJ9_min_7cf53 5 = .ok (.iload_n 0, 1) := by decide +kernel
theorem dJ9_min_7cf53_6 : decode cJ9_min_7cf53 6 = .ok (.goto 4, 3) := by decide +kernel
theorem dJ9_min_7cf53_9 : decode cJ9_min_7cf53 9 = .ok (.iload_n 1, 1) := by decide +kernel
theorem dJ9_min_7cf53_10 : decode cJ9_min_7cf53 10 = .ok (.ireturn, 1) := by decide +kernel
theorem dL_law_0 : decode cL_law 0 = .ok (.new 7, 3) := by decide +kernel
theorem dL_law_3 : decode cL_law 3 = .ok (.dup, 1) := by decide +kernel
theorem dL_law_4 : decode cL_law 4 = .ok (.invokespecial 9, 3) := by decide +kernel
theorem dL_law_7 : decode cL_law 7 = .ok (.astore_n 1, 1) := by decide +kernel
theorem dL_law_8 : decode cL_law 8 = .ok (.new 10, 3) := by decide +kernel
theorem dL_law_11 : decode cL_law 11 = .ok (.dup, 1) := by decide +kernel
theorem dL_law_12 : decode cL_law 12 = .ok (.invokespecial 12, 3) := by decide +kernel
theorem dL_law_15 : decode cL_law 15 = .ok (.astore_n 2, 1) := by decide +kernel
theorem dL_law_16 : decode cL_law 16 = .ok (.iconst 0, 1) := by decide +kernel
theorem dL_law_17 : decode cL_law 17 = .ok (.istore_n 3, 1) := by decide +kernel
theorem dL_law_18 : decode cL_law 18 = .ok (.iload_n 3, 1) := by decide +kernel
theorem dL_law_19 : decode cL_law 19 = .ok (.aload_n 0, 1) := by decide +kernel
theorem dL_law_20 : decode cL_law 20 = .ok (.arraylength, 1) := by decide +kernel
theorem dL_law_21 : decode cL_law 21 = .ok (.iconst 3, 1) := by decide +kernel
theorem dL_law_22 : decode cL_law 22 = .ok (.isub, 1) := by decide +kernel
theorem dL_law_23 : decode cL_law 23 = .ok (.if_icmp .gt 773, 3) := by decide +kernel
theorem dL_law_26 : decode cL_law 26 = .ok (.aload_n 0, 1) := by decide +kernel
theorem dL_law_27 : decode cL_law 27 = .ok (.iload_n 3, 1) := by decide +kernel
theorem dL_law_28 : decode cL_law 28 = .ok (.iaload, 1) := by decide +kernel
theorem dL_law_29 : decode cL_law 29 = .ok (.bipush 31, 2) := by decide +kernel
theorem dL_law_31 : decode cL_law 31 = .ok (.iand, 1) := by decide +kernel
theorem dL_law_32 : decode cL_law 32 = .ok (.tableswitch 758 0 27 #[128, 151, 164, 177, 200, 233, 266, 289, 312, 345, 368, 401, 424, 447, 470, 483, 496, 519, 532, 555, 578, 601, 650, 663, 676, 689, 712, 735], 128) := by decide +kernel
theorem dL_law_160 : decode cL_law 160 = .ok (.aload_n 1, 1) := by decide +kernel
theorem dL_law_161 : decode cL_law 161 = .ok (.aload_n 0, 1) := by decide +kernel
theorem dL_law_162 : decode cL_law 162 = .ok (.iload_n 3, 1) := by decide +kernel
theorem dL_law_163 : decode cL_law 163 = .ok (.iconst 1, 1) := by decide +kernel
theorem dL_law_164 : decode cL_law 164 = .ok (.iadd, 1) := by decide +kernel
theorem dL_law_165 : decode cL_law 165 = .ok (.iaload, 1) := by decide +kernel
theorem dL_law_166 : decode cL_law 166 = .ok (.invokevirtual 13, 3) := by decide +kernel
theorem dL_law_169 : decode cL_law 169 = .ok (.aload_n 2, 1) := by decide +kernel
theorem dL_law_170 : decode cL_law 170 = .ok (.aload_n 0, 1) := by decide +kernel
theorem dL_law_171 : decode cL_law 171 = .ok (.iload_n 3, 1) := by decide +kernel
theorem dL_law_172 : decode cL_law 172 = .ok (.iconst 1, 1) := by decide +kernel
theorem dL_law_173 : decode cL_law 173 = .ok (.iadd, 1) := by decide +kernel
theorem dL_law_174 : decode cL_law 174 = .ok (.iaload, 1) := by decide +kernel
theorem dL_law_175 : decode cL_law 175 = .ok (.invokevirtual 17, 3) := by decide +kernel
theorem dL_law_178 : decode cL_law 178 = .ok (.if_icmp .eq 612, 3) := by decide +kernel
theorem dL_law_181 : decode cL_law 181 = .ok (.iconst 0, 1) := by decide +kernel
theorem dL_law_182 : decode cL_law 182 = .ok (.ireturn, 1) := by decide +kernel
theorem dL_law_183 : decode cL_law 183 = .ok (.aload_n 1, 1) := by decide +kernel
theorem dL_law_184 : decode cL_law 184 = .ok (.invokevirtual 18, 3) := by decide +kernel
theorem dL_law_187 : decode cL_law 187 = .ok (.aload_n 2, 1) := by decide +kernel
theorem dL_law_188 : decode cL_law 188 = .ok (.invokevirtual 22, 3) := by decide +kernel
theorem dL_law_191 : decode cL_law 191 = .ok (.if_icmp .eq 599, 3) := by decide +kernel
theorem dL_law_194 : decode cL_law 194 = .ok (.iconst 0, 1) := by decide +kernel
theorem dL_law_195 : decode cL_law 195 = .ok (.ireturn, 1) := by decide +kernel
theorem dL_law_196 : decode cL_law 196 = .ok (.aload_n 1, 1) := by decide +kernel
theorem dL_law_197 : decode cL_law 197 = .ok (.invokevirtual 23, 3) := by decide +kernel
theorem dL_law_200 : decode cL_law 200 = .ok (.aload_n 2, 1) := by decide +kernel
theorem dL_law_201 : decode cL_law 201 = .ok (.invokevirtual 26, 3) := by decide +kernel
theorem dL_law_204 : decode cL_law 204 = .ok (.if_icmp .eq 586, 3) := by decide +kernel
theorem dL_law_207 : decode cL_law 207 = .ok (.iconst 0, 1) := by decide +kernel
theorem dL_law_208 : decode cL_law 208 = .ok (.ireturn, 1) := by decide +kernel
theorem dL_law_209 : decode cL_law 209 = .ok (.aload_n 1, 1) := by decide +kernel
theorem dL_law_210 : decode cL_law 210 = .ok (.aload_n 0, 1) := by decide +kernel
theorem dL_law_211 : decode cL_law 211 = .ok (.iload_n 3, 1) := by decide +kernel
theorem dL_law_212 : decode cL_law 212 = .ok (.iconst 1, 1) := by decide +kernel
theorem dL_law_213 : decode cL_law 213 = .ok (.iadd, 1) := by decide +kernel
theorem dL_law_214 : decode cL_law 214 = .ok (.iaload, 1) := by decide +kernel
theorem dL_law_215 : decode cL_law 215 = .ok (.invokevirtual 27, 3) := by decide +kernel
theorem dL_law_218 : decode cL_law 218 = .ok (.aload_n 2, 1) := by decide +kernel
theorem dL_law_219 : decode cL_law 219 = .ok (.aload_n 0, 1) := by decide +kernel
theorem dL_law_220 : decode cL_law 220 = .ok (.iload_n 3, 1) := by decide +kernel
theorem dL_law_221 : decode cL_law 221 = .ok (.iconst 1, 1) := by decide +kernel
theorem dL_law_222 : decode cL_law 222 = .ok (.iadd, 1) := by decide +kernel
theorem dL_law_223 : decode cL_law 223 = .ok (.iaload, 1) := by decide +kernel
theorem dL_law_224 : decode cL_law 224 = .ok (.invokevirtual 30, 3) := by decide +kernel
theorem dL_law_227 : decode cL_law 227 = .ok (.if_icmp .eq 563, 3) := by decide +kernel
theorem dL_law_230 : decode cL_law 230 = .ok (.iconst 0, 1) := by decide +kernel
theorem dL_law_231 : decode cL_law 231 = .ok (.ireturn, 1) := by decide +kernel
theorem dL_law_232 : decode cL_law 232 = .ok (.aload_n 1, 1) := by decide +kernel
theorem dL_law_233 : decode cL_law 233 = .ok (.aload_n 0, 1) := by decide +kernel
theorem dL_law_234 : decode cL_law 234 = .ok (.iload_n 3, 1) := by decide +kernel
theorem dL_law_235 : decode cL_law 235 = .ok (.iconst 1, 1) := by decide +kernel
theorem dL_law_236 : decode cL_law 236 = .ok (.iadd, 1) := by decide +kernel
theorem dL_law_237 : decode cL_law 237 = .ok (.iaload, 1) := by decide +kernel
theorem dL_law_238 : decode cL_law 238 = .ok (.aload_n 0, 1) := by decide +kernel
theorem dL_law_239 : decode cL_law 239 = .ok (.iload_n 3, 1) := by decide +kernel
theorem dL_law_240 : decode cL_law 240 = .ok (.iconst 2, 1) := by decide +kernel
theorem dL_law_241 : decode cL_law 241 = .ok (.iadd, 1) := by decide +kernel
theorem dL_law_242 : decode cL_law 242 = .ok (.iaload, 1) := by decide +kernel
theorem dL_law_243 : decode cL_law 243 = .ok (.invokevirtual 31, 3) := by decide +kernel
theorem dL_law_246 : decode cL_law 246 = .ok (.aload_n 2, 1) := by decide +kernel
theorem dL_law_247 : decode cL_law 247 = .ok (.aload_n 0, 1) := by decide +kernel
theorem dL_law_248 : decode cL_law 248 = .ok (.iload_n 3, 1) := by decide +kernel
theorem dL_law_249 : decode cL_law 249 = .ok (.iconst 1, 1) := by decide +kernel
theorem dL_law_250 : decode cL_law 250 = .ok (.iadd, 1) := by decide +kernel
theorem dL_law_251 : decode cL_law 251 = .ok (.iaload, 1) := by decide +kernel
theorem dL_law_252 : decode cL_law 252 = .ok (.aload_n 0, 1) := by decide +kernel
theorem dL_law_253 : decode cL_law 253 = .ok (.iload_n 3, 1) := by decide +kernel
theorem dL_law_254 : decode cL_law 254 = .ok (.iconst 2, 1) := by decide +kernel
theorem dL_law_255 : decode cL_law 255 = .ok (.iadd, 1) := by decide +kernel
theorem dL_law_256 : decode cL_law 256 = .ok (.iaload, 1) := by decide +kernel
theorem dL_law_257 : decode cL_law 257 = .ok (.invokevirtual 35, 3) := by decide +kernel
theorem dL_law_260 : decode cL_law 260 = .ok (.if_icmp .eq 530, 3) := by decide +kernel
theorem dL_law_263 : decode cL_law 263 = .ok (.iconst 0, 1) := by decide +kernel
theorem dL_law_264 : decode cL_law 264 = .ok (.ireturn, 1) := by decide +kernel
theorem dL_law_265 : decode cL_law 265 = .ok (.aload_n 1, 1) := by decide +kernel
theorem dL_law_266 : decode cL_law 266 = .ok (.aload_n 0, 1) := by decide +kernel
theorem dL_law_267 : decode cL_law 267 = .ok (.iload_n 3, 1) := by decide +kernel
theorem dL_law_268 : decode cL_law 268 = .ok (.iconst 1, 1) := by decide +kernel
theorem dL_law_269 : decode cL_law 269 = .ok (.iadd, 1) := by decide +kernel
theorem dL_law_270 : decode cL_law 270 = .ok (.iaload, 1) := by decide +kernel
theorem dL_law_271 : decode cL_law 271 = .ok (.aload_n 0, 1) := by decide +kernel
theorem dL_law_272 : decode cL_law 272 = .ok (.iload_n 3, 1) := by decide +kernel
theorem dL_law_273 : decode cL_law 273 = .ok (.iconst 2, 1) := by decide +kernel
theorem dL_law_274 : decode cL_law 274 = .ok (.iadd, 1) := by decide +kernel
theorem dL_law_275 : decode cL_law 275 = .ok (.iaload, 1) := by decide +kernel
theorem dL_law_276 : decode cL_law 276 = .ok (.invokevirtual 36, 3) := by decide +kernel
theorem dL_law_279 : decode cL_law 279 = .ok (.aload_n 2, 1) := by decide +kernel
theorem dL_law_280 : decode cL_law 280 = .ok (.aload_n 0, 1) := by decide +kernel
theorem dL_law_281 : decode cL_law 281 = .ok (.iload_n 3, 1) := by decide +kernel
theorem dL_law_282 : decode cL_law 282 = .ok (.iconst 1, 1) := by decide +kernel
theorem dL_law_283 : decode cL_law 283 = .ok (.iadd, 1) := by decide +kernel
theorem dL_law_284 : decode cL_law 284 = .ok (.iaload, 1) := by decide +kernel
theorem dL_law_285 : decode cL_law 285 = .ok (.aload_n 0, 1) := by decide +kernel
theorem dL_law_286 : decode cL_law 286 = .ok (.iload_n 3, 1) := by decide +kernel
theorem dL_law_287 : decode cL_law 287 = .ok (.iconst 2, 1) := by decide +kernel
theorem dL_law_288 : decode cL_law 288 = .ok (.iadd, 1) := by decide +kernel
theorem dL_law_289 : decode cL_law 289 = .ok (.iaload, 1) := by decide +kernel
theorem dL_law_290 : decode cL_law 290 = .ok (.invokevirtual 39, 3) := by decide +kernel
theorem dL_law_293 : decode cL_law 293 = .ok (.if_icmp .eq 497, 3) := by decide +kernel
theorem dL_law_296 : decode cL_law 296 = .ok (.iconst 0, 1) := by decide +kernel
theorem dL_law_297 : decode cL_law 297 = .ok (.ireturn, 1) := by decide +kernel
theorem dL_law_298 : decode cL_law 298 = .ok (.aload_n 1, 1) := by decide +kernel
theorem dL_law_299 : decode cL_law 299 = .ok (.aload_n 0, 1) := by decide +kernel
theorem dL_law_300 : decode cL_law 300 = .ok (.iload_n 3, 1) := by decide +kernel
theorem dL_law_301 : decode cL_law 301 = .ok (.iconst 1, 1) := by decide +kernel
theorem dL_law_302 : decode cL_law 302 = .ok (.iadd, 1) := by decide +kernel
theorem dL_law_303 : decode cL_law 303 = .ok (.iaload, 1) := by decide +kernel
theorem dL_law_304 : decode cL_law 304 = .ok (.invokevirtual 40, 3) := by decide +kernel
theorem dL_law_307 : decode cL_law 307 = .ok (.aload_n 2, 1) := by decide +kernel
theorem dL_law_308 : decode cL_law 308 = .ok (.aload_n 0, 1) := by decide +kernel
theorem dL_law_309 : decode cL_law 309 = .ok (.iload_n 3, 1) := by decide +kernel
theorem dL_law_310 : decode cL_law 310 = .ok (.iconst 1, 1) := by decide +kernel
theorem dL_law_311 : decode cL_law 311 = .ok (.iadd, 1) := by decide +kernel
theorem dL_law_312 : decode cL_law 312 = .ok (.iaload, 1) := by decide +kernel
theorem dL_law_313 : decode cL_law 313 = .ok (.invokevirtual 43, 3) := by decide +kernel
theorem dL_law_316 : decode cL_law 316 = .ok (.if_icmp .eq 474, 3) := by decide +kernel
theorem dL_law_319 : decode cL_law 319 = .ok (.iconst 0, 1) := by decide +kernel
theorem dL_law_320 : decode cL_law 320 = .ok (.ireturn, 1) := by decide +kernel
theorem dL_law_321 : decode cL_law 321 = .ok (.aload_n 1, 1) := by decide +kernel
theorem dL_law_322 : decode cL_law 322 = .ok (.aload_n 0, 1) := by decide +kernel
theorem dL_law_323 : decode cL_law 323 = .ok (.iload_n 3, 1) := by decide +kernel
theorem dL_law_324 : decode cL_law 324 = .ok (.iconst 1, 1) := by decide +kernel
theorem dL_law_325 : decode cL_law 325 = .ok (.iadd, 1) := by decide +kernel
theorem dL_law_326 : decode cL_law 326 = .ok (.iaload, 1) := by decide +kernel
theorem dL_law_327 : decode cL_law 327 = .ok (.invokevirtual 44, 3) := by decide +kernel
theorem dL_law_330 : decode cL_law 330 = .ok (.aload_n 2, 1) := by decide +kernel
theorem dL_law_331 : decode cL_law 331 = .ok (.aload_n 0, 1) := by decide +kernel
theorem dL_law_332 : decode cL_law 332 = .ok (.iload_n 3, 1) := by decide +kernel
theorem dL_law_333 : decode cL_law 333 = .ok (.iconst 1, 1) := by decide +kernel
theorem dL_law_334 : decode cL_law 334 = .ok (.iadd, 1) := by decide +kernel
theorem dL_law_335 : decode cL_law 335 = .ok (.iaload, 1) := by decide +kernel
theorem dL_law_336 : decode cL_law 336 = .ok (.invokevirtual 47, 3) := by decide +kernel
theorem dL_law_339 : decode cL_law 339 = .ok (.if_icmp .eq 451, 3) := by decide +kernel
theorem dL_law_342 : decode cL_law 342 = .ok (.iconst 0, 1) := by decide +kernel
theorem dL_law_343 : decode cL_law 343 = .ok (.ireturn, 1) := by decide +kernel
theorem dL_law_344 : decode cL_law 344 = .ok (.aload_n 1, 1) := by decide +kernel
theorem dL_law_345 : decode cL_law 345 = .ok (.aload_n 0, 1) := by decide +kernel
theorem dL_law_346 : decode cL_law 346 = .ok (.iload_n 3, 1) := by decide +kernel
theorem dL_law_347 : decode cL_law 347 = .ok (.iconst 1, 1) := by decide +kernel
theorem dL_law_348 : decode cL_law 348 = .ok (.iadd, 1) := by decide +kernel
theorem dL_law_349 : decode cL_law 349 = .ok (.iaload, 1) := by decide +kernel
theorem dL_law_350 : decode cL_law 350 = .ok (.aload_n 0, 1) := by decide +kernel
theorem dL_law_351 : decode cL_law 351 = .ok (.iload_n 3, 1) := by decide +kernel
theorem dL_law_352 : decode cL_law 352 = .ok (.iconst 2, 1) := by decide +kernel
theorem dL_law_353 : decode cL_law 353 = .ok (.iadd, 1) := by decide +kernel
theorem dL_law_354 : decode cL_law 354 = .ok (.iaload, 1) := by decide +kernel
theorem dL_law_355 : decode cL_law 355 = .ok (.invokevirtual 48, 3) := by decide +kernel
theorem dL_law_358 : decode cL_law 358 = .ok (.aload_n 2, 1) := by decide +kernel
theorem dL_law_359 : decode cL_law 359 = .ok (.aload_n 0, 1) := by decide +kernel
theorem dL_law_360 : decode cL_law 360 = .ok (.iload_n 3, 1) := by decide +kernel
theorem dL_law_361 : decode cL_law 361 = .ok (.iconst 1, 1) := by decide +kernel
theorem dL_law_362 : decode cL_law 362 = .ok (.iadd, 1) := by decide +kernel
theorem dL_law_363 : decode cL_law 363 = .ok (.iaload, 1) := by decide +kernel
theorem dL_law_364 : decode cL_law 364 = .ok (.aload_n 0, 1) := by decide +kernel
theorem dL_law_365 : decode cL_law 365 = .ok (.iload_n 3, 1) := by decide +kernel
theorem dL_law_366 : decode cL_law 366 = .ok (.iconst 2, 1) := by decide +kernel
theorem dL_law_367 : decode cL_law 367 = .ok (.iadd, 1) := by decide +kernel
theorem dL_law_368 : decode cL_law 368 = .ok (.iaload, 1) := by decide +kernel
theorem dL_law_369 : decode cL_law 369 = .ok (.invokevirtual 51, 3) := by decide +kernel
theorem dL_law_372 : decode cL_law 372 = .ok (.if_icmp .eq 418, 3) := by decide +kernel
theorem dL_law_375 : decode cL_law 375 = .ok (.iconst 0, 1) := by decide +kernel
theorem dL_law_376 : decode cL_law 376 = .ok (.ireturn, 1) := by decide +kernel
theorem dL_law_377 : decode cL_law 377 = .ok (.aload_n 1, 1) := by decide +kernel
theorem dL_law_378 : decode cL_law 378 = .ok (.aload_n 0, 1) := by decide +kernel
theorem dL_law_379 : decode cL_law 379 = .ok (.iload_n 3, 1) := by decide +kernel
theorem dL_law_380 : decode cL_law 380 = .ok (.iconst 1, 1) := by decide +kernel
theorem dL_law_381 : decode cL_law 381 = .ok (.iadd, 1) := by decide +kernel
theorem dL_law_382 : decode cL_law 382 = .ok (.iaload, 1) := by decide +kernel
theorem dL_law_383 : decode cL_law 383 = .ok (.invokevirtual 52, 3) := by decide +kernel
theorem dL_law_386 : decode cL_law 386 = .ok (.aload_n 2, 1) := by decide +kernel
theorem dL_law_387 : decode cL_law 387 = .ok (.aload_n 0, 1) := by decide +kernel
theorem dL_law_388 : decode cL_law 388 = .ok (.iload_n 3, 1) := by decide +kernel
theorem dL_law_389 : decode cL_law 389 = .ok (.iconst 1, 1) := by decide +kernel
theorem dL_law_390 : decode cL_law 390 = .ok (.iadd, 1) := by decide +kernel
theorem dL_law_391 : decode cL_law 391 = .ok (.iaload, 1) := by decide +kernel
theorem dL_law_392 : decode cL_law 392 = .ok (.invokevirtual 55, 3) := by decide +kernel
theorem dL_law_395 : decode cL_law 395 = .ok (.if_icmp .eq 395, 3) := by decide +kernel
theorem dL_law_398 : decode cL_law 398 = .ok (.iconst 0, 1) := by decide +kernel
theorem dL_law_399 : decode cL_law 399 = .ok (.ireturn, 1) := by decide +kernel
theorem dL_law_400 : decode cL_law 400 = .ok (.aload_n 1, 1) := by decide +kernel
theorem dL_law_401 : decode cL_law 401 = .ok (.aload_n 0, 1) := by decide +kernel
theorem dL_law_402 : decode cL_law 402 = .ok (.iload_n 3, 1) := by decide +kernel
theorem dL_law_403 : decode cL_law 403 = .ok (.iconst 1, 1) := by decide +kernel
theorem dL_law_404 : decode cL_law 404 = .ok (.iadd, 1) := by decide +kernel
theorem dL_law_405 : decode cL_law 405 = .ok (.iaload, 1) := by decide +kernel
theorem dL_law_406 : decode cL_law 406 = .ok (.aload_n 0, 1) := by decide +kernel
theorem dL_law_407 : decode cL_law 407 = .ok (.iload_n 3, 1) := by decide +kernel
theorem dL_law_408 : decode cL_law 408 = .ok (.iconst 2, 1) := by decide +kernel
theorem dL_law_409 : decode cL_law 409 = .ok (.iadd, 1) := by decide +kernel
theorem dL_law_410 : decode cL_law 410 = .ok (.iaload, 1) := by decide +kernel
theorem dL_law_411 : decode cL_law 411 = .ok (.invokevirtual 56, 3) := by decide +kernel
theorem dL_law_414 : decode cL_law 414 = .ok (.aload_n 2, 1) := by decide +kernel
theorem dL_law_415 : decode cL_law 415 = .ok (.aload_n 0, 1) := by decide +kernel
theorem dL_law_416 : decode cL_law 416 = .ok (.iload_n 3, 1) := by decide +kernel
theorem dL_law_417 : decode cL_law 417 = .ok (.iconst 1, 1) := by decide +kernel
theorem dL_law_418 : decode cL_law 418 = .ok (.iadd, 1) := by decide +kernel
theorem dL_law_419 : decode cL_law 419 = .ok (.iaload, 1) := by decide +kernel
theorem dL_law_420 : decode cL_law 420 = .ok (.aload_n 0, 1) := by decide +kernel
theorem dL_law_421 : decode cL_law 421 = .ok (.iload_n 3, 1) := by decide +kernel
theorem dL_law_422 : decode cL_law 422 = .ok (.iconst 2, 1) := by decide +kernel
theorem dL_law_423 : decode cL_law 423 = .ok (.iadd, 1) := by decide +kernel
theorem dL_law_424 : decode cL_law 424 = .ok (.iaload, 1) := by decide +kernel
theorem dL_law_425 : decode cL_law 425 = .ok (.invokevirtual 59, 3) := by decide +kernel
theorem dL_law_428 : decode cL_law 428 = .ok (.if_icmp .eq 362, 3) := by decide +kernel
theorem dL_law_431 : decode cL_law 431 = .ok (.iconst 0, 1) := by decide +kernel
theorem dL_law_432 : decode cL_law 432 = .ok (.ireturn, 1) := by decide +kernel
theorem dL_law_433 : decode cL_law 433 = .ok (.aload_n 1, 1) := by decide +kernel
theorem dL_law_434 : decode cL_law 434 = .ok (.aload_n 0, 1) := by decide +kernel
theorem dL_law_435 : decode cL_law 435 = .ok (.iload_n 3, 1) := by decide +kernel
theorem dL_law_436 : decode cL_law 436 = .ok (.iconst 1, 1) := by decide +kernel
theorem dL_law_437 : decode cL_law 437 = .ok (.iadd, 1) := by decide +kernel
theorem dL_law_438 : decode cL_law 438 = .ok (.iaload, 1) := by decide +kernel
theorem dL_law_439 : decode cL_law 439 = .ok (.invokevirtual 60, 3) := by decide +kernel
theorem dL_law_442 : decode cL_law 442 = .ok (.aload_n 2, 1) := by decide +kernel
theorem dL_law_443 : decode cL_law 443 = .ok (.aload_n 0, 1) := by decide +kernel
theorem dL_law_444 : decode cL_law 444 = .ok (.iload_n 3, 1) := by decide +kernel
theorem dL_law_445 : decode cL_law 445 = .ok (.iconst 1, 1) := by decide +kernel
theorem dL_law_446 : decode cL_law 446 = .ok (.iadd, 1) := by decide +kernel
theorem dL_law_447 : decode cL_law 447 = .ok (.iaload, 1) := by decide +kernel
theorem dL_law_448 : decode cL_law 448 = .ok (.invokevirtual 63, 3) := by decide +kernel
theorem dL_law_451 : decode cL_law 451 = .ok (.if_icmp .eq 339, 3) := by decide +kernel
theorem dL_law_454 : decode cL_law 454 = .ok (.iconst 0, 1) := by decide +kernel
theorem dL_law_455 : decode cL_law 455 = .ok (.ireturn, 1) := by decide +kernel
theorem dL_law_456 : decode cL_law 456 = .ok (.aload_n 1, 1) := by decide +kernel
theorem dL_law_457 : decode cL_law 457 = .ok (.aload_n 0, 1) := by decide +kernel
theorem dL_law_458 : decode cL_law 458 = .ok (.iload_n 3, 1) := by decide +kernel
theorem dL_law_459 : decode cL_law 459 = .ok (.iconst 1, 1) := by decide +kernel
theorem dL_law_460 : decode cL_law 460 = .ok (.iadd, 1) := by decide +kernel
theorem dL_law_461 : decode cL_law 461 = .ok (.iaload, 1) := by decide +kernel
theorem dL_law_462 : decode cL_law 462 = .ok (.invokevirtual 64, 3) := by decide +kernel
theorem dL_law_465 : decode cL_law 465 = .ok (.aload_n 2, 1) := by decide +kernel
theorem dL_law_466 : decode cL_law 466 = .ok (.aload_n 0, 1) := by decide +kernel
theorem dL_law_467 : decode cL_law 467 = .ok (.iload_n 3, 1) := by decide +kernel
theorem dL_law_468 : decode cL_law 468 = .ok (.iconst 1, 1) := by decide +kernel
theorem dL_law_469 : decode cL_law 469 = .ok (.iadd, 1) := by decide +kernel
theorem dL_law_470 : decode cL_law 470 = .ok (.iaload, 1) := by decide +kernel
theorem dL_law_471 : decode cL_law 471 = .ok (.invokevirtual 67, 3) := by decide +kernel
theorem dL_law_474 : decode cL_law 474 = .ok (.if_icmp .eq 316, 3) := by decide +kernel
theorem dL_law_477 : decode cL_law 477 = .ok (.iconst 0, 1) := by decide +kernel
theorem dL_law_478 : decode cL_law 478 = .ok (.ireturn, 1) := by decide +kernel
theorem dL_law_479 : decode cL_law 479 = .ok (.aload_n 1, 1) := by decide +kernel
theorem dL_law_480 : decode cL_law 480 = .ok (.aload_n 0, 1) := by decide +kernel
theorem dL_law_481 : decode cL_law 481 = .ok (.iload_n 3, 1) := by decide +kernel
theorem dL_law_482 : decode cL_law 482 = .ok (.iconst 1, 1) := by decide +kernel
theorem dL_law_483 : decode cL_law 483 = .ok (.iadd, 1) := by decide +kernel
theorem dL_law_484 : decode cL_law 484 = .ok (.iaload, 1) := by decide +kernel
theorem dL_law_485 : decode cL_law 485 = .ok (.invokevirtual 68, 3) := by decide +kernel
theorem dL_law_488 : decode cL_law 488 = .ok (.aload_n 2, 1) := by decide +kernel
theorem dL_law_489 : decode cL_law 489 = .ok (.aload_n 0, 1) := by decide +kernel
theorem dL_law_490 : decode cL_law 490 = .ok (.iload_n 3, 1) := by decide +kernel
theorem dL_law_491 : decode cL_law 491 = .ok (.iconst 1, 1) := by decide +kernel
theorem dL_law_492 : decode cL_law 492 = .ok (.iadd, 1) := by decide +kernel
theorem dL_law_493 : decode cL_law 493 = .ok (.iaload, 1) := by decide +kernel
theorem dL_law_494 : decode cL_law 494 = .ok (.invokevirtual 71, 3) := by decide +kernel
theorem dL_law_497 : decode cL_law 497 = .ok (.if_icmp .eq 293, 3) := by decide +kernel
theorem dL_law_500 : decode cL_law 500 = .ok (.iconst 0, 1) := by decide +kernel
theorem dL_law_501 : decode cL_law 501 = .ok (.ireturn, 1) := by decide +kernel
theorem dL_law_502 : decode cL_law 502 = .ok (.aload_n 1, 1) := by decide +kernel
theorem dL_law_503 : decode cL_law 503 = .ok (.invokevirtual 72, 3) := by decide +kernel
theorem dL_law_506 : decode cL_law 506 = .ok (.aload_n 2, 1) := by decide +kernel
theorem dL_law_507 : decode cL_law 507 = .ok (.invokevirtual 75, 3) := by decide +kernel
theorem dL_law_510 : decode cL_law 510 = .ok (.if_icmp .eq 280, 3) := by decide +kernel
theorem dL_law_513 : decode cL_law 513 = .ok (.iconst 0, 1) := by decide +kernel
theorem dL_law_514 : decode cL_law 514 = .ok (.ireturn, 1) := by decide +kernel
theorem dL_law_515 : decode cL_law 515 = .ok (.aload_n 1, 1) := by decide +kernel
theorem dL_law_516 : decode cL_law 516 = .ok (.invokevirtual 76, 3) := by decide +kernel
theorem dL_law_519 : decode cL_law 519 = .ok (.aload_n 2, 1) := by decide +kernel
theorem dL_law_520 : decode cL_law 520 = .ok (.invokevirtual 79, 3) := by decide +kernel
theorem dL_law_523 : decode cL_law 523 = .ok (.if_icmp .eq 267, 3) := by decide +kernel
theorem dL_law_526 : decode cL_law 526 = .ok (.iconst 0, 1) := by decide +kernel
theorem dL_law_527 : decode cL_law 527 = .ok (.ireturn, 1) := by decide +kernel
theorem dL_law_528 : decode cL_law 528 = .ok (.aload_n 1, 1) := by decide +kernel
theorem dL_law_529 : decode cL_law 529 = .ok (.aload_n 0, 1) := by decide +kernel
theorem dL_law_530 : decode cL_law 530 = .ok (.iload_n 3, 1) := by decide +kernel
theorem dL_law_531 : decode cL_law 531 = .ok (.iconst 1, 1) := by decide +kernel
theorem dL_law_532 : decode cL_law 532 = .ok (.iadd, 1) := by decide +kernel
theorem dL_law_533 : decode cL_law 533 = .ok (.iaload, 1) := by decide +kernel
theorem dL_law_534 : decode cL_law 534 = .ok (.invokevirtual 80, 3) := by decide +kernel
theorem dL_law_537 : decode cL_law 537 = .ok (.aload_n 2, 1) := by decide +kernel
theorem dL_law_538 : decode cL_law 538 = .ok (.aload_n 0, 1) := by decide +kernel
theorem dL_law_539 : decode cL_law 539 = .ok (.iload_n 3, 1) := by decide +kernel
theorem dL_law_540 : decode cL_law 540 = .ok (.iconst 1, 1) := by decide +kernel
theorem dL_law_541 : decode cL_law 541 = .ok (.iadd, 1) := by decide +kernel
theorem dL_law_542 : decode cL_law 542 = .ok (.iaload, 1) := by decide +kernel
theorem dL_law_543 : decode cL_law 543 = .ok (.invokevirtual 83, 3) := by decide +kernel
theorem dL_law_546 : decode cL_law 546 = .ok (.if_icmp .eq 244, 3) := by decide +kernel
theorem dL_law_549 : decode cL_law 549 = .ok (.iconst 0, 1) := by decide +kernel
theorem dL_law_550 : decode cL_law 550 = .ok (.ireturn, 1) := by decide +kernel
theorem dL_law_551 : decode cL_law 551 = .ok (.aload_n 1, 1) := by decide +kernel
theorem dL_law_552 : decode cL_law 552 = .ok (.invokevirtual 84, 3) := by decide +kernel
theorem dL_law_555 : decode cL_law 555 = .ok (.aload_n 2, 1) := by decide +kernel
theorem dL_law_556 : decode cL_law 556 = .ok (.invokevirtual 87, 3) := by decide +kernel
theorem dL_law_559 : decode cL_law 559 = .ok (.if_icmp .eq 231, 3) := by decide +kernel
theorem dL_law_562 : decode cL_law 562 = .ok (.iconst 0, 1) := by decide +kernel
theorem dL_law_563 : decode cL_law 563 = .ok (.ireturn, 1) := by decide +kernel
theorem dL_law_564 : decode cL_law 564 = .ok (.aload_n 1, 1) := by decide +kernel
theorem dL_law_565 : decode cL_law 565 = .ok (.aload_n 0, 1) := by decide +kernel
theorem dL_law_566 : decode cL_law 566 = .ok (.iload_n 3, 1) := by decide +kernel
theorem dL_law_567 : decode cL_law 567 = .ok (.iconst 1, 1) := by decide +kernel
theorem dL_law_568 : decode cL_law 568 = .ok (.iadd, 1) := by decide +kernel
theorem dL_law_569 : decode cL_law 569 = .ok (.iaload, 1) := by decide +kernel
