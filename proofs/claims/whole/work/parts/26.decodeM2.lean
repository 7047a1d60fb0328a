set_option maxRecDepth 20000 in
theorem ggX7_reader_X7_isReader : GoodIn wsX7_reader wsX7_isReader := goodIn_r _ [6, 7, 8, 9, 5, 10] (by first | rfl | decide +kernel) (by decide +kernel)
set_option maxRecDepth 20000 in
theorem gX7_reader_X7_isReader : GoodIn wsX7_reader (va_wsS RX7 135 yX7_isReader wsX7_isReader) := goodIn_app (goodIn_of _ (by decide +kernel)) ggX7_reader_X7_isReader
set_option maxRecDepth 20000 in
theorem ggX7_reader_X7_isIn : GoodIn wsX7_reader wsX7_isIn := goodIn_r _ [10] (by first | rfl | decide +kernel) (by decide +kernel)
set_option maxRecDepth 20000 in
theorem gX7_reader_X7_isIn : GoodIn wsX7_reader (va_wsS RX7 34 yX7_isIn wsX7_isIn) := goodIn_app (goodIn_of _ (by decide +kernel)) ggX7_reader_X7_isIn
set_option maxRecDepth 20000 in
theorem ggX7_reader_X7_ofReader : GoodIn wsX7_reader wsX7_ofReader := goodIn_r _ [14, 15, 59, 60, 61, 62, 63] (by first | rfl | decide +kernel) (by decide +kernel)
set_option maxRecDepth 20000 in
theorem gX7_reader_X7_ofReader : GoodIn wsX7_reader (wsV RX7 121 RX7 yX7_ofReader wsX7_ofReader) := goodIn_app (goodIn_of _ (by decide +kernel)) ggX7_reader_X7_ofReader
set_option maxRecDepth 20000 in
theorem ggX7_reader_X7_isInside : GoodIn wsX7_reader wsX7_isInside := goodIn_r _ [19, 11, 12, 13, 5, 14, 15, 59, 60, 61, 62, 63] (by first | rfl | decide +kernel) (by decide +kernel)
set_option maxRecDepth 20000 in
theorem gX7_reader_X7_isInside : GoodIn wsX7_reader (wsV RX7 138 RX7 yX7_isInside wsX7_isInside) := goodIn_app (goodIn_of _ (by decide +kernel)) ggX7_reader_X7_isInside
set_option maxRecDepth 20000 in
theorem ggX7_reader_X7_heldBy : GoodIn wsX7_reader wsX7_heldBy := goodIn_r _ [23, 11, 12, 13, 5, 14, 15, 24, 25, 26, 27, 28, 29, 30, 59, 60, 61, 62, 63] (by first | rfl | decide +kernel) (by decide +kernel)
set_option maxRecDepth 20000 in
theorem gX7_reader_X7_heldBy : GoodIn wsX7_reader (wsV RX7 129 RX7 yX7_heldBy wsX7_heldBy) := goodIn_app (goodIn_of _ (by decide +kernel)) ggX7_reader_X7_heldBy
set_option maxRecDepth 20000 in
theorem ggX7_reader_X7_stallOf : GoodIn wsX7_reader wsX7_stallOf := goodIn_r _ [34, 15, 35, 36, 37, 5, 38, 16, 17, 18, 19, 11, 12, 13, 14, 59, 60, 61, 62, 63] (by first | rfl | decide +kernel) (by decide +kernel)
set_option maxRecDepth 20000 in
theorem gX7_reader_X7_stallOf : GoodIn wsX7_reader (wsV RX7 155 RX7 yX7_stallOf wsX7_stallOf) := goodIn_app (goodIn_of _ (by decide +kernel)) ggX7_reader_X7_stallOf
set_option maxRecDepth 20000 in
theorem ggX7_reader_X7_waitingHeldBy : GoodIn wsX7_reader wsX7_waitingHeldBy := goodIn_r _ [42, 15, 43, 44, 45, 5, 46, 47, 48, 49, 50, 8, 9, 10, 51, 52, 53, 54, 11, 12, 13, 14, 55, 56, 57, 58, 59, 60, 61, 62, 63] (by first | rfl | decide +kernel) (by decide +kernel)
set_option maxRecDepth 20000 in
theorem gX7_reader_X7_waitingHeldBy : GoodIn wsX7_reader (wsV RX7 158 RX7 yX7_waitingHeldBy wsX7_waitingHeldBy) := goodIn_app (goodIn_of _ (by decide +kernel)) ggX7_reader_X7_waitingHeldBy
theorem dX7_reader_0 : decode cX7_reader 0 = .ok (.aload_n 0, 1) := by decide +kernel
theorem dX7_reader_1 : decode cX7_reader 1 = .ok (.iload_n 1, 1) := by decide +kernel
theorem dX7_reader_2 : decode cX7_reader 2 = .ok (.invokestatic 135, 3) := by decide +kernel
theorem dX7_reader_5 : decode cX7_reader 5 = .ok (.ifCond .ne 7, 3) := by decide +kernel
theorem dX7_reader_8 : decode cX7_reader 8 = .ok (.iconst 1, 1) := by decide +kernel
theorem dX7_reader_9 : decode cX7_reader 9 = .ok (.goto 20, 3) := by decide +kernel
theorem dX7_reader_12 : decode cX7_reader 12 = .ok (.iload_n 2, 1) := by decide +kernel
theorem dX7_reader_13 : decode cX7_reader 13 = .ok (.i2l, 1) := by decide +kernel
theorem dX7_reader_14 : decode cX7_reader 14 = .ok (.lconst 0, 1) := by decide +kernel
theorem dX7_reader_15 : decode cX7_reader 15 = .ok (.ldc2_w 153, 3) := by decide +kernel
theorem dX7_reader_18 : decode cX7_reader 18 = .ok (.invokestatic 34, 3) := by decide +kernel
theorem dX7_reader_21 : decode cX7_reader 21 = .ok (.ifCond .ne 7, 3) := by decide +kernel
theorem dX7_reader_24 : decode cX7_reader 24 = .ok (.iconst 2, 1) := by decide +kernel
theorem dX7_reader_25 : decode cX7_reader 25 = .ok (.goto 4, 3) := by decide +kernel
theorem dX7_reader_28 : decode cX7_reader 28 = .ok (.iconst 0, 1) := by decide +kernel
theorem dX7_reader_29 : decode cX7_reader 29 = .ok (.putfield 23, 3) := by decide +kernel
theorem dX7_reader_32 : decode cX7_reader 32 = .ok (.aload_n 0, 1) := by decide +kernel
theorem dX7_reader_33 : decode cX7_reader 33 = .ok (.getfield 23, 3) := by decide +kernel
theorem dX7_reader_36 : decode cX7_reader 36 = .ok (.ifCond .le 5, 3) := by decide +kernel
theorem dX7_reader_39 : decode cX7_reader 39 = .ok (.iconst 0, 1) := by decide +kernel
theorem dX7_reader_40 : decode cX7_reader 40 = .ok (.ireturn, 1) := by decide +kernel
theorem dX7_reader_41 : decode cX7_reader 41 = .ok (.iload_n 2, 1) := by decide +kernel
theorem dX7_reader_42 : decode cX7_reader 42 = .ok (.tableswitch 68 0 3 #[30, 37, 56, 62], 30) := by decide +kernel
theorem dX7_reader_72 : decode cX7_reader 72 = .ok (.aload_n 0, 1) := by decide +kernel
theorem dX7_reader_73 : decode cX7_reader 73 = .ok (.iload_n 1, 1) := by decide +kernel
theorem dX7_reader_74 : decode cX7_reader 74 = .ok (.iconst 0, 1) := by decide +kernel
theorem dX7_reader_75 : decode cX7_reader 75 = .ok (.invokevirtual 121, 3) := by decide +kernel
theorem dX7_reader_78 : decode cX7_reader 78 = .ok (.ireturn, 1) := by decide +kernel
theorem dX7_reader_79 : decode cX7_reader 79 = .ok (.aload_n 0, 1) := by decide +kernel
theorem dX7_reader_80 : decode cX7_reader 80 = .ok (.iload_n 1, 1) := by decide +kernel
theorem dX7_reader_81 : decode cX7_reader 81 = .ok (.invokevirtual 138, 3) := by decide +kernel
theorem dX7_reader_84 : decode cX7_reader 84 = .ok (.ifCond .eq 12, 3) := by decide +kernel
theorem dX7_reader_87 : decode cX7_reader 87 = .ok (.aload_n 0, 1) := by decide +kernel
theorem dX7_reader_88 : decode cX7_reader 88 = .ok (.iload_n 1, 1) := by decide +kernel
theorem dX7_reader_89 : decode cX7_reader 89 = .ok (.iconst 1, 1) := by decide +kernel
theorem dX7_reader_90 : decode cX7_reader 90 = .ok (.invokevirtual 121, 3) := by decide +kernel
theorem dX7_reader_93 : decode cX7_reader 93 = .ok (.goto 4, 3) := by decide +kernel
theorem dX7_reader_96 : decode cX7_reader 96 = .ok (.iconst (-1), 1) := by decide +kernel
theorem dX7_reader_97 : decode cX7_reader 97 = .ok (.ireturn, 1) := by decide +kernel
theorem dX7_reader_98 : decode cX7_reader 98 = .ok (.aload_n 0, 1) := by decide +kernel
theorem dX7_reader_99 : decode cX7_reader 99 = .ok (.iload_n 1, 1) := by decide +kernel
theorem dX7_reader_100 : decode cX7_reader 100 = .ok (.invokevirtual 129, 3) := by decide +kernel
theorem dX7_reader_103 : decode cX7_reader 103 = .ok (.ireturn, 1) := by decide +kernel
theorem dX7_reader_104 : decode cX7_reader 104 = .ok (.aload_n 0, 1) := by decide +kernel
theorem dX7_reader_105 : decode cX7_reader 105 = .ok (.iload_n 1, 1) := by decide +kernel
theorem dX7_reader_106 : decode cX7_reader 106 = .ok (.invokevirtual 155, 3) := by decide +kernel
theorem dX7_reader_109 : decode cX7_reader 109 = .ok (.ireturn, 1) := by decide +kernel
theorem dX7_reader_110 : decode cX7_reader 110 = .ok (.aload_n 0, 1) := by decide +kernel
theorem dX7_reader_111 : decode cX7_reader 111 = .ok (.iload_n 1, 1) := by decide +kernel
theorem dX7_reader_112 : decode cX7_reader 112 = .ok (.invokevirtual 158, 3) := by decide +kernel
theorem dX7_reader_115 : decode cX7_reader 115 = .ok (.ireturn, 1) := by decide +kernel
set_option maxRecDepth 20000 in
theorem ggX7_blocking_X7_isStalled : GoodIn wsX7_blocking wsX7_isStalled := goodIn_r _ [5, 6, 7, 8, 9, 4, 10, 11, 12, 13, 14, 15, 16, 17, 18, 19] (by first | rfl | decide +kernel) (by decide +kernel)
set_option maxRecDepth 20000 in
theorem gX7_blocking_X7_isStalled : GoodIn wsX7_blocking (wsV RX7 150 RX7 yX7_isStalled wsX7_isStalled) := goodIn_app (goodIn_of _ (by decide +kernel)) ggX7_blocking_X7_isStalled
theorem dX7_blocking_0 : decode cX7_blocking 0 = .ok (.iconst 0, 1) := by decide +kernel
theorem dX7_blocking_1 : decode cX7_blocking 1 = .ok (.istore_n 1, 1) := by decide +kernel
theorem dX7_blocking_2 : decode cX7_blocking 2 = .ok (.iconst 0, 1) := by decide +kernel
theorem dX7_blocking_3 : decode cX7_blocking 3 = .ok (.istore_n 2, 1) := by decide +kernel
theorem dX7_blocking_4 : decode cX7_blocking 4 = .ok (.iload_n 2, 1) := by decide +kernel
theorem dX7_blocking_5 : decode cX7_blocking 5 = .ok (.bipush 6, 2) := by decide +kernel
theorem dX7_blocking_7 : decode cX7_blocking 7 = .ok (.if_icmp .ge 27, 3) := by decide +kernel
theorem dX7_blocking_10 : decode cX7_blocking 10 = .ok (.iload_n 1, 1) := by decide +kernel
theorem dX7_blocking_11 : decode cX7_blocking 11 = .ok (.aload_n 0, 1) := by decide +kernel
theorem dX7_blocking_12 : decode cX7_blocking 12 = .ok (.iload_n 2, 1) := by decide +kernel
theorem dX7_blocking_13 : decode cX7_blocking 13 = .ok (.invokevirtual 150, 3) := by decide +kernel
theorem dX7_blocking_16 : decode cX7_blocking 16 = .ok (.ifCond .eq 9, 3) := by decide +kernel
theorem dX7_blocking_19 : decode cX7_blocking 19 = .ok (.iconst 1, 1) := by decide +kernel
theorem dX7_blocking_20 : decode cX7_blocking 20 = .ok (.iload_n 2, 1) := by decide +kernel
theorem dX7_blocking_21 : decode cX7_blocking 21 = .ok (.ishl, 1) := by decide +kernel
theorem dX7_blocking_22 : decode cX7_blocking 22 = .ok (.goto 4, 3) := by decide +kernel
theorem dX7_blocking_25 : decode cX7_blocking 25 = .ok (.iconst 0, 1) := by decide +kernel
theorem dX7_blocking_26 : decode cX7_blocking 26 = .ok (.ior, 1) := by decide +kernel
theorem dX7_blocking_27 : decode cX7_blocking 27 = .ok (.istore_n 1, 1) := by decide +kernel
theorem dX7_blocking_28 : decode cX7_blocking 28 = .ok (.iinc 2 1, 3) := by decide +kernel
theorem dX7_blocking_31 : decode cX7_blocking 31 = .ok (.goto (-27), 3) := by decide +kernel
theorem dX7_blocking_34 : decode cX7_blocking 34 = .ok (.iload_n 1, 1) := by decide +kernel
theorem dX7_blocking_35 : decode cX7_blocking 35 = .ok (.ireturn, 1) := by decide +kernel
set_option maxRecDepth 20000 in
theorem ggX7_blockers_X7_blocking : GoodIn wsX7_blockers wsX7_blocking := goodIn_r _ [6, 7, 8, 9, 5, 10, 11, 12, 13, 14, 15, 16, 17, 18, 19, 20, 21, 22, 23, 24] (by first | rfl | decide +kernel) (by decide +kernel)
set_option maxRecDepth 20000 in
theorem gX7_blockers_X7_blocking : GoodIn wsX7_blockers (wsV RX7 161 RX7 yX7_blocking wsX7_blocking) := goodIn_app (goodIn_of _ (by decide +kernel)) ggX7_blockers_X7_blocking
theorem dX7_blockers_0 : decode cX7_blockers 0 = .ok (.aload_n 0, 1) := by decide +kernel
theorem dX7_blockers_1 : decode cX7_blockers 1 = .ok (.iconst 0, 1) := by decide +kernel
theorem dX7_blockers_2 : decode cX7_blockers 2 = .ok (.putfield 23, 3) := by decide +kernel
theorem dX7_blockers_5 : decode cX7_blockers 5 = .ok (.aload_n 0, 1) := by decide +kernel
theorem dX7_blockers_6 : decode cX7_blockers 6 = .ok (.invokevirtual 161, 3) := by decide +kernel
theorem dX7_blockers_9 : decode cX7_blockers 9 = .ok (.ireturn, 1) := by decide +kernel
set_option maxRecDepth 20000 in
theorem ggX7_expel_X7_isReader : GoodIn wsX7_expel wsX7_isReader := goodIn_r _ [6, 7, 8, 9, 5, 10] (by first | rfl | decide +kernel) (by decide +kernel)
set_option maxRecDepth 20000 in
theorem gX7_expel_X7_isReader : GoodIn wsX7_expel (va_wsS RX7 135 yX7_isReader wsX7_isReader) := goodIn_app (goodIn_of _ (by decide +kernel)) ggX7_expel_X7_isReader
set_option maxRecDepth 20000 in
theorem ggX7_expel_X7_isInside : GoodIn wsX7_expel wsX7_isInside := goodIn_r _ [14, 15, 16, 17, 5, 18, 1, 52, 53, 54, 55, 56] (by first | rfl | decide +kernel) (by decide +kernel)
set_option maxRecDepth 20000 in
theorem gX7_expel_X7_isInside : GoodIn wsX7_expel (wsV RX7 138 RX7 yX7_isInside wsX7_isInside) := goodIn_app (goodIn_of _ (by decide +kernel)) ggX7_expel_X7_isInside
set_option maxRecDepth 20000 in
theorem ggX7_expel_X7_stallOf : GoodIn wsX7_expel wsX7_stallOf := goodIn_r _ [22, 1, 23, 24, 25, 5, 26, 11, 12, 13, 14, 15, 16, 17, 18, 52, 53, 54, 55, 56] (by first | rfl | decide +kernel) (by decide +kernel)
set_option maxRecDepth 20000 in
theorem gX7_expel_X7_stallOf : GoodIn wsX7_expel (wsV RX7 155 RX7 yX7_stallOf wsX7_stallOf) := goodIn_app (goodIn_of _ (by decide +kernel)) ggX7_expel_X7_stallOf
set_option maxRecDepth 20000 in
theorem ggX7_expel_X7_keeps : GoodIn wsX7_expel wsX7_keeps := goodIn_r _ [30, 31, 32, 1, 52, 53, 54, 55, 56] (by first | rfl | decide +kernel) (by decide +kernel)
set_option maxRecDepth 20000 in
theorem gX7_expel_X7_keeps : GoodIn wsX7_expel (wsV RX7 44 RX7 yX7_keeps wsX7_keeps) := goodIn_app (goodIn_of _ (by decide +kernel)) ggX7_expel_X7_keeps
set_option maxRecDepth 20000 in
theorem ggX7_expel_X7_lets : GoodIn wsX7_expel wsX7_lets := goodIn_r _ [36, 1, 37, 38, 39, 5, 40, 15, 16, 17, 18, 41, 42, 43, 44, 45, 46, 47, 48, 49, 50, 51, 52, 53, 54, 55, 56] (by first | rfl | decide +kernel) (by decide +kernel)
set_option maxRecDepth 20000 in
theorem gX7_expel_X7_lets : GoodIn wsX7_expel (wsV RX7 141 RX7 yX7_lets wsX7_lets) := goodIn_app (goodIn_of _ (by decide +kernel)) ggX7_expel_X7_lets
theorem dX7_expel_0 : decode cX7_expel 0 = .ok (.aload_n 0, 1) := by decide +kernel
theorem dX7_expel_1 : decode cX7_expel 1 = .ok (.iload_n 1, 1) := by decide +kernel
theorem dX7_expel_2 : decode cX7_expel 2 = .ok (.invokestatic 135, 3) := by decide +kernel
theorem dX7_expel_5 : decode cX7_expel 5 = .ok (.ifCond .ne 7, 3) := by decide +kernel
theorem dX7_expel_8 : decode cX7_expel 8 = .ok (.iconst 1, 1) := by decide +kernel
theorem dX7_expel_9 : decode cX7_expel 9 = .ok (.goto 30, 3) := by decide +kernel
theorem dX7_expel_12 : decode cX7_expel 12 = .ok (.aload_n 0, 1) := by decide +kernel
theorem dX7_expel_13 : decode cX7_expel 13 = .ok (.iload_n 1, 1) := by decide +kernel
theorem dX7_expel_14 : decode cX7_expel 14 = .ok (.invokevirtual 138, 3) := by decide +kernel
theorem dX7_expel_17 : decode cX7_expel 17 = .ok (.ifCond .eq 17, 3) := by decide +kernel
theorem dX7_expel_20 : decode cX7_expel 20 = .ok (.aload_n 0, 1) := by decide +kernel
theorem dX7_expel_21 : decode cX7_expel 21 = .ok (.iload_n 1, 1) := by decide +kernel
theorem dX7_expel_22 : decode cX7_expel 22 = .ok (.invokevirtual 155, 3) := by decide +kernel
theorem dX7_expel_25 : decode cX7_expel 25 = .ok (.aload_n 0, 1) := by decide +kernel
theorem dX7_expel_26 : decode cX7_expel 26 = .ok (.getfield 7, 3) := by decide +kernel
theorem dX7_expel_29 : decode cX7_expel 29 = .ok (.iconst 2, 1) := by decide +kernel
theorem dX7_expel_30 : decode cX7_expel 30 = .ok (.iaload, 1) := by decide +kernel
theorem dX7_expel_31 : decode cX7_expel 31 = .ok (.if_icmp .ge 7, 3) := by decide +kernel
theorem dX7_expel_34 : decode cX7_expel 34 = .ok (.iconst 2, 1) := by decide +kernel
theorem dX7_expel_35 : decode cX7_expel 35 = .ok (.goto 4, 3) := by decide +kernel
theorem dX7_expel_38 : decode cX7_expel 38 = .ok (.iconst 0, 1) := by decide +kernel
theorem dX7_expel_39 : decode cX7_expel 39 = .ok (.putfield 23, 3) := by decide +kernel
theorem dX7_expel_42 : decode cX7_expel 42 = .ok (.aload_n 0, 1) := by decide +kernel
theorem dX7_expel_43 : decode cX7_expel 43 = .ok (.getfield 23, 3) := by decide +kernel
theorem dX7_expel_46 : decode cX7_expel 46 = .ok (.ifCond .le 5, 3) := by decide +kernel
theorem dX7_expel_49 : decode cX7_expel 49 = .ok (.iconst 0, 1) := by decide +kernel
theorem dX7_expel_50 : decode cX7_expel 50 = .ok (.ireturn, 1) := by decide +kernel
theorem dX7_expel_51 : decode cX7_expel 51 = .ok (.aload_n 0, 1) := by decide +kernel
theorem dX7_expel_52 : decode cX7_expel 52 = .ok (.invokevirtual 44, 3) := by decide +kernel
theorem dX7_expel_55 : decode cX7_expel 55 = .ok (.aload_n 0, 1) := by decide +kernel
theorem dX7_expel_56 : decode cX7_expel 56 = .ok (.iload_n 1, 1) := by decide +kernel
theorem dX7_expel_57 : decode cX7_expel 57 = .ok (.iconst 2, 1) := by decide +kernel
theorem dX7_expel_58 : decode cX7_expel 58 = .ok (.invokevirtual 141, 3) := by decide +kernel
theorem dX7_expel_61 : decode cX7_expel 61 = .ok (.ireturn, 1) := by decide +kernel
set_option maxRecDepth 20000 in
theorem ggX7_advancesWithout_X7_isStalled : GoodIn wsX7_advancesWithout wsX7_isStalled := goodIn_r _ [5, 6, 7, 8, 9, 4, 10, 11, 12, 13, 14, 15, 16, 17, 18, 19] (by first | rfl | decide +kernel) (by decide +kernel)
set_option maxRecDepth 20000 in
theorem gX7_advancesWithout_X7_isStalled : GoodIn wsX7_advancesWithout (wsV RX7 150 RX7 yX7_isStalled wsX7_isStalled) := goodIn_app (goodIn_of _ (by decide +kernel)) ggX7_advancesWithout_X7_isStalled
set_option maxRecDepth 20000 in
theorem ggX7_advancesWithout_X7_isInside : GoodIn wsX7_advancesWithout wsX7_isInside := goodIn_r _ [10, 11, 12, 13, 4, 14, 6, 15, 16, 17, 18, 19] (by first | rfl | decide +kernel) (by decide +kernel)
set_option maxRecDepth 20000 in
theorem gX7_advancesWithout_X7_isInside : GoodIn wsX7_advancesWithout (wsV RX7 138 RX7 yX7_isInside wsX7_isInside) := goodIn_app (goodIn_of _ (by decide +kernel)) ggX7_advancesWithout_X7_isInside
theorem dX7_advancesWithout_0 : decode cX7_advancesWithout 0 = .ok (.iconst 0, 1) := by decide +kernel
theorem dX7_advancesWithout_1 : decode cX7_advancesWithout 1 = .ok (.istore_n 2, 1) := by decide +kernel
theorem dX7_advancesWithout_2 : decode cX7_advancesWithout 2 = .ok (.iconst 0, 1) := by decide +kernel
theorem dX7_advancesWithout_3 : decode cX7_advancesWithout 3 = .ok (.istore_n 3, 1) := by decide +kernel
theorem dX7_advancesWithout_4 : decode cX7_advancesWithout 4 = .ok (.iconst 0, 1) := by decide +kernel
theorem dX7_advancesWithout_5 : decode cX7_advancesWithout 5 = .ok (.istore 4, 2) := by decide +kernel
theorem dX7_advancesWithout_7 : decode cX7_advancesWithout 7 = .ok (.iload 4, 2) := by decide +kernel
theorem dX7_advancesWithout_9 : decode cX7_advancesWithout 9 = .ok (.bipush 6, 2) := by decide +kernel
theorem dX7_advancesWithout_11 : decode cX7_advancesWithout 11 = .ok (.if_icmp .ge 52, 3) := by decide +kernel
theorem dX7_advancesWithout_14 : decode cX7_advancesWithout 14 = .ok (.iload 4, 2) := by decide +kernel
theorem dX7_advancesWithout_16 : decode cX7_advancesWithout 16 = .ok (.iload_n 1, 1) := by decide +kernel
theorem dX7_advancesWithout_17 : decode cX7_advancesWithout 17 = .ok (.if_icmp .ne 6, 3) := by decide +kernel
theorem dX7_advancesWithout_20 : decode cX7_advancesWithout 20 = .ok (.goto 37, 3) := by decide +kernel
theorem dX7_advancesWithout_23 : decode cX7_advancesWithout 23 = .ok (.iload_n 2, 1) := by decide +kernel
theorem dX7_advancesWithout_24 : decode cX7_advancesWithout 24 = .ok (.aload_n 0, 1) := by decide +kernel
theorem dX7_advancesWithout_25 : decode cX7_advancesWithout 25 = .ok (.iload 4, 2) := by decide +kernel
theorem dX7_advancesWithout_27 : decode cX7_advancesWithout 27 = .ok (.invokevirtual 150, 3) := by decide +kernel
theorem dX7_advancesWithout_30 : decode cX7_advancesWithout 30 = .ok (.ifCond .eq 7, 3) := by decide +kernel
theorem dX7_advancesWithout_33 : decode cX7_advancesWithout 33 = .ok (.iconst 1, 1) := by decide +kernel
theorem dX7_advancesWithout_34 : decode cX7_advancesWithout 34 = .ok (.goto 4, 3) := by decide +kernel
theorem dX7_advancesWithout_37 : decode cX7_advancesWithout 37 = .ok (.iconst 0, 1) := by decide +kernel
theorem dX7_advancesWithout_38 : decode cX7_advancesWithout 38 = .ok (.iadd, 1) := by decide +kernel
theorem dX7_advancesWithout_39 : decode cX7_advancesWithout 39 = .ok (.istore_n 2, 1) := by decide +kernel
theorem dX7_advancesWithout_40 : decode cX7_advancesWithout 40 = .ok (.iload_n 3, 1) := by decide +kernel
theorem dX7_advancesWithout_41 : decode cX7_advancesWithout 41 = .ok (.aload_n 0, 1) := by decide +kernel
theorem dX7_advancesWithout_42 : decode cX7_advancesWithout 42 = .ok (.iload 4, 2) := by decide +kernel
theorem dX7_advancesWithout_44 : decode cX7_advancesWithout 44 = .ok (.invokevirtual 138, 3) := by decide +kernel
theorem dX7_advancesWithout_47 : decode cX7_advancesWithout 47 = .ok (.ifCond .eq 7, 3) := by decide +kernel
theorem dX7_advancesWithout_50 : decode cX7_advancesWithout 50 = .ok (.iconst 1, 1) := by decide +kernel
theorem dX7_advancesWithout_51 : decode cX7_advancesWithout 51 = .ok (.goto 4, 3) := by decide +kernel
theorem dX7_advancesWithout_54 : decode cX7_advancesWithout 54 = .ok (.iconst 0, 1) := by decide +kernel
theorem dX7_advancesWithout_55 : decode cX7_advancesWithout 55 = .ok (.iadd, 1) := by decide +kernel
theorem dX7_advancesWithout_56 : decode cX7_advancesWithout 56 = .ok (.istore_n 3, 1) := by decide +kernel
theorem dX7_advancesWithout_57 : decode cX7_advancesWithout 57 = .ok (.iinc 4 1, 3) := by decide +kernel
theorem dX7_advancesWithout_60 : decode cX7_advancesWithout 60 = .ok (.goto (-53), 3) := by decide +kernel
theorem dX7_advancesWithout_63 : decode cX7_advancesWithout 63 = .ok (.iload_n 2, 1) := by decide +kernel
theorem dX7_advancesWithout_64 : decode cX7_advancesWithout 64 = .ok (.ifCond .le 7, 3) := by decide +kernel
theorem dX7_advancesWithout_67 : decode cX7_advancesWithout 67 = .ok (.iconst 0, 1) := by decide +kernel
theorem dX7_advancesWithout_68 : decode cX7_advancesWithout 68 = .ok (.goto 12, 3) := by decide +kernel
theorem dX7_advancesWithout_71 : decode cX7_advancesWithout 71 = .ok (.iload_n 3, 1) := by decide +kernel
theorem dX7_advancesWithout_72 : decode cX7_advancesWithout 72 = .ok (.ifCond .le 7, 3) := by decide +kernel
theorem dX7_advancesWithout_75 : decode cX7_advancesWithout 75 = .ok (.iconst 1, 1) := by decide +kernel
theorem dX7_advancesWithout_76 : decode cX7_advancesWithout 76 = .ok (.goto 4, 3) := by decide +kernel
theorem dX7_advancesWithout_79 : decode cX7_advancesWithout 79 = .ok (.iconst 2, 1) := by decide +kernel
theorem dX7_advancesWithout_80 : decode cX7_advancesWithout 80 = .ok (.ireturn, 1) := by decide +kernel
set_option maxRecDepth 20000 in
theorem ggX7_reclaimableBy_X7_advancesWithout : GoodIn wsX7_reclaimableBy wsX7_advancesWithout := goodIn_r _ [6, 7, 8, 9, 5, 10, 1, 11, 12, 13, 14, 15, 16, 17, 18, 38, 39, 40, 41, 42] (by first | rfl | decide +kernel) (by decide +kernel)
set_option maxRecDepth 20000 in
theorem gX7_reclaimableBy_X7_advancesWithout : GoodIn wsX7_reclaimableBy (wsV RX7 164 RX7 yX7_advancesWithout wsX7_advancesWithout) := goodIn_app (goodIn_of _ (by decide +kernel)) ggX7_reclaimableBy_X7_advancesWithout
set_option maxRecDepth 20000 in
theorem ggX7_reclaimableBy_X7_isBlock : GoodIn wsX7_reclaimableBy wsX7_isBlock := goodIn_r _ [22, 1, 23, 24, 25, 5, 26, 27, 28, 29, 38, 39, 40, 41, 42] (by first | rfl | decide +kernel) (by decide +kernel)
set_option maxRecDepth 20000 in
theorem gX7_reclaimableBy_X7_isBlock : GoodIn wsX7_reclaimableBy (wsV RX7 100 RX7 yX7_isBlock wsX7_isBlock) := goodIn_app (goodIn_of _ (by decide +kernel)) ggX7_reclaimableBy_X7_isBlock
set_option maxRecDepth 20000 in
theorem ggX7_reclaimableBy_X7_ofBlock : GoodIn wsX7_reclaimableBy wsX7_ofBlock := goodIn_r _ [33, 1, 38, 39, 40, 41, 42] (by first | rfl | decide +kernel) (by decide +kernel)
set_option maxRecDepth 20000 in
theorem gX7_reclaimableBy_X7_ofBlock : GoodIn wsX7_reclaimableBy (wsV RX7 67 RX7 yX7_ofBlock wsX7_ofBlock) := goodIn_app (goodIn_of _ (by decide +kernel)) ggX7_reclaimableBy_X7_ofBlock
set_option maxRecDepth 20000 in
theorem ggX7_reclaimableBy_X7_advancesFor : GoodIn wsX7_reclaimableBy wsX7_advancesFor := goodIn_r _ [37, 1, 30, 31, 32, 5, 33, 38, 39, 40, 41, 42] (by first | rfl | decide +kernel) (by decide +kernel)
set_option maxRecDepth 20000 in
theorem gX7_reclaimableBy_X7_advancesFor : GoodIn wsX7_reclaimableBy (wsV RX7 167 RX7 yX7_advancesFor wsX7_advancesFor) := goodIn_app (goodIn_of _ (by decide +kernel)) ggX7_reclaimableBy_X7_advancesFor
theorem dX7_reclaimableBy_0 : decode cX7_reclaimableBy 0 = .ok (.aload_n 0, 1) := by decide +kernel
theorem dX7_reclaimableBy_1 : decode cX7_reclaimableBy 1 = .ok (.iload_n 1, 1) := by decide +kernel
theorem dX7_reclaimableBy_2 : decode cX7_reclaimableBy 2 = .ok (.invokevirtual 164, 3) := by decide +kernel
theorem dX7_reclaimableBy_5 : decode cX7_reclaimableBy 5 = .ok (.istore_n 2, 1) := by decide +kernel
theorem dX7_reclaimableBy_6 : decode cX7_reclaimableBy 6 = .ok (.iconst 0, 1) := by decide +kernel
theorem dX7_reclaimableBy_7 : decode cX7_reclaimableBy 7 = .ok (.istore_n 3, 1) := by decide +kernel
theorem dX7_reclaimableBy_8 : decode cX7_reclaimableBy 8 = .ok (.iconst 0, 1) := by decide +kernel
theorem dX7_reclaimableBy_9 : decode cX7_reclaimableBy 9 = .ok (.istore 4, 2) := by decide +kernel
theorem dX7_reclaimableBy_11 : decode cX7_reclaimableBy 11 = .ok (.iload 4, 2) := by decide +kernel
theorem dX7_reclaimableBy_13 : decode cX7_reclaimableBy 13 = .ok (.bipush 16, 2) := by decide +kernel
theorem dX7_reclaimableBy_15 : decode cX7_reclaimableBy 15 = .ok (.aload_n 0, 1) := by decide +kernel
theorem dX7_reclaimableBy_16 : decode cX7_reclaimableBy 16 = .ok (.getfield 7, 3) := by decide +kernel
theorem dX7_reclaimableBy_19 : decode cX7_reclaimableBy 19 = .ok (.iconst 0, 1) := by decide +kernel
theorem dX7_reclaimableBy_20 : decode cX7_reclaimableBy 20 = .ok (.iaload, 1) := by decide +kernel
theorem dX7_reclaimableBy_21 : decode cX7_reclaimableBy 21 = .ok (.imul, 1) := by decide +kernel
theorem dX7_reclaimableBy_22 : decode cX7_reclaimableBy 22 = .ok (.if_icmp .ge 47, 3) := by decide +kernel
theorem dX7_reclaimableBy_25 : decode cX7_reclaimableBy 25 = .ok (.iload_n 3, 1) := by decide +kernel
theorem dX7_reclaimableBy_26 : decode cX7_reclaimableBy 26 = .ok (.aload_n 0, 1) := by decide +kernel
theorem dX7_reclaimableBy_27 : decode cX7_reclaimableBy 27 = .ok (.iload 4, 2) := by decide +kernel
theorem dX7_reclaimableBy_29 : decode cX7_reclaimableBy 29 = .ok (.invokevirtual 100, 3) := by decide +kernel
theorem dX7_reclaimableBy_32 : decode cX7_reclaimableBy 32 = .ok (.ifCond .eq 28, 3) := by decide +kernel
theorem dX7_reclaimableBy_35 : decode cX7_reclaimableBy 35 = .ok (.aload_n 0, 1) := by decide +kernel
theorem dX7_reclaimableBy_36 : decode cX7_reclaimableBy 36 = .ok (.iload 4, 2) := by decide +kernel
theorem dX7_reclaimableBy_38 : decode cX7_reclaimableBy 38 = .ok (.iconst 0, 1) := by decide +kernel
theorem dX7_reclaimableBy_39 : decode cX7_reclaimableBy 39 = .ok (.invokevirtual 67, 3) := by decide +kernel
theorem dX7_reclaimableBy_42 : decode cX7_reclaimableBy 42 = .ok (.iconst 3, 1) := by decide +kernel
theorem dX7_reclaimableBy_43 : decode cX7_reclaimableBy 43 = .ok (.if_icmp .ne 17, 3) := by decide +kernel
theorem dX7_reclaimableBy_46 : decode cX7_reclaimableBy 46 = .ok (.aload_n 0, 1) := by decide +kernel
theorem dX7_reclaimableBy_47 : decode cX7_reclaimableBy 47 = .ok (.iload 4, 2) := by decide +kernel
theorem dX7_reclaimableBy_49 : decode cX7_reclaimableBy 49 = .ok (.invokevirtual 167, 3) := by decide +kernel
theorem dX7_reclaimableBy_52 : decode cX7_reclaimableBy 52 = .ok (.iload_n 2, 1) := by decide +kernel
theorem dX7_reclaimableBy_53 : decode cX7_reclaimableBy 53 = .ok (.if_icmp .gt 7, 3) := by decide +kernel
theorem dX7_reclaimableBy_56 : decode cX7_reclaimableBy 56 = .ok (.iconst 1, 1) := by decide +kernel
theorem dX7_reclaimableBy_57 : decode cX7_reclaimableBy 57 = .ok (.goto 4, 3) := by decide +kernel
theorem dX7_reclaimableBy_60 : decode cX7_reclaimableBy 60 = .ok (.iconst 0, 1) := by decide +kernel
theorem dX7_reclaimableBy_61 : decode cX7_reclaimableBy 61 = .ok (.iadd, 1) := by decide +kernel
theorem dX7_reclaimableBy_62 : decode cX7_reclaimableBy 62 = .ok (.istore_n 3, 1) := by decide +kernel
theorem dX7_reclaimableBy_63 : decode cX7_reclaimableBy 63 = .ok (.iinc 4 1, 3) := by decide +kernel
theorem dX7_reclaimableBy_66 : decode cX7_reclaimableBy 66 = .ok (.goto (-55), 3) := by decide +kernel
theorem dX7_reclaimableBy_69 : decode cX7_reclaimableBy 69 = .ok (.iload_n 3, 1) := by decide +kernel
theorem dX7_reclaimableBy_70 : decode cX7_reclaimableBy 70 = .ok (.ireturn, 1) := by decide +kernel
set_option maxRecDepth 20000 in
theorem ggX7_reclaimableWithout_X7_isReader : GoodIn wsX7_reclaimableWithout wsX7_isReader := goodIn_r _ [5, 6, 7, 8, 4, 9] (by first | rfl | decide +kernel) (by decide +kernel)
set_option maxRecDepth 20000 in
theorem gX7_reclaimableWithout_X7_isReader : GoodIn wsX7_reclaimableWithout (va_wsS RX7 135 yX7_isReader wsX7_isReader) := goodIn_app (goodIn_of _ (by decide +kernel)) ggX7_reclaimableWithout_X7_isReader
set_option maxRecDepth 20000 in
theorem ggX7_reclaimableWithout_X7_reclaimableBy : GoodIn wsX7_reclaimableWithout wsX7_reclaimableBy := goodIn_r _ [13, 14, 15, 16, 17, 4, 18, 19, 20, 21, 22, 23, 24, 25, 26, 27, 28, 29, 30, 31, 32, 33, 34, 35, 36, 37, 38, 7, 8, 9, 39, 40, 41, 42, 43, 44, 45, 46, 47, 48, 49, 50, 51] (by first | rfl | decide +kernel) (by decide +kernel)
set_option maxRecDepth 20000 in
theorem gX7_reclaimableWithout_X7_reclaimableBy : GoodIn wsX7_reclaimableWithout (wsV RX7 170 RX7 yX7_reclaimableBy wsX7_reclaimableBy) := goodIn_app (goodIn_of _ (by decide +kernel)) ggX7_reclaimableWithout_X7_reclaimableBy
theorem dX7_reclaimableWithout_0 : decode cX7_reclaimableWithout 0 = .ok (.aload_n 0, 1) := by decide +kernel
theorem dX7_reclaimableWithout_1 : decode cX7_reclaimableWithout 1 = .ok (.iload_n 1, 1) := by decide +kernel
theorem dX7_reclaimableWithout_2 : decode cX7_reclaimableWithout 2 = .ok (.iconst (-1), 1) := by decide +kernel
theorem dX7_reclaimableWithout_3 : decode cX7_reclaimableWithout 3 = .ok (.if_icmp .eq 10, 3) := by decide +kernel
theorem dX7_reclaimableWithout_6 : decode cX7_reclaimableWithout 6 = .ok (.iload_n 1, 1) := by decide +kernel
theorem dX7_reclaimableWithout_7 : decode cX7_reclaimableWithout 7 = .ok (.invokestatic 135, 3) := by decide +kernel
theorem dX7_reclaimableWithout_10 : decode cX7_reclaimableWithout 10 = .ok (.ifCond .eq 7, 3) := by decide +kernel
theorem dX7_reclaimableWithout_13 : decode cX7_reclaimableWithout 13 = .ok (.iconst 0, 1) := by decide +kernel
theorem dX7_reclaimableWithout_14 : decode cX7_reclaimableWithout 14 = .ok (.goto 4, 3) := by decide +kernel
theorem dX7_reclaimableWithout_17 : decode cX7_reclaimableWithout 17 = .ok (.iconst 1, 1) := by decide +kernel
theorem dX7_reclaimableWithout_18 : decode cX7_reclaimableWithout 18 = .ok (.putfield 23, 3) := by decide +kernel
theorem dX7_reclaimableWithout_21 : decode cX7_reclaimableWithout 21 = .ok (.aload_n 0, 1) := by decide +kernel
theorem dX7_reclaimableWithout_22 : decode cX7_reclaimableWithout 22 = .ok (.getfield 23, 3) := by decide +kernel
theorem dX7_reclaimableWithout_25 : decode cX7_reclaimableWithout 25 = .ok (.ifCond .le 7, 3) := by decide +kernel
theorem dX7_reclaimableWithout_28 : decode cX7_reclaimableWithout 28 = .ok (.iconst 0, 1) := by decide +kernel
theorem dX7_reclaimableWithout_29 : decode cX7_reclaimableWithout 29 = .ok (.goto 8, 3) := by decide +kernel
theorem dX7_reclaimableWithout_32 : decode cX7_reclaimableWithout 32 = .ok (.aload_n 0, 1) := by decide +kernel
theorem dX7_reclaimableWithout_33 : decode cX7_reclaimableWithout 33 = .ok (.iload_n 1, 1) := by decide +kernel
theorem dX7_reclaimableWithout_34 : decode cX7_reclaimableWithout 34 = .ok (.invokevirtual 170, 3) := by decide +kernel
theorem dX7_reclaimableWithout_37 : decode cX7_reclaimableWithout 37 = .ok (.ireturn, 1) := by decide +kernel
set_option maxRecDepth 20000 in
theorem ggX7_costliestReader_X7_reclaimableBy : GoodIn wsX7_costliestReader wsX7_reclaimableBy := goodIn_r _ [6, 7, 8, 9, 10, 5, 11, 12, 13, 14, 15, 16, 17, 18, 19, 20, 21, 22, 23, 24, 25, 26, 27, 28, 29, 30, 31, 32, 33, 34, 35, 36, 37, 38, 39, 40, 41, 42, 43, 44, 45, 46, 47] (by first | rfl | decide +kernel) (by decide +kernel)
set_option maxRecDepth 20000 in
theorem gX7_costliestReader_X7_reclaimableBy : GoodIn wsX7_costliestReader (wsV RX7 170 RX7 yX7_reclaimableBy wsX7_reclaimableBy) := goodIn_app (goodIn_of _ (by decide +kernel)) ggX7_costliestReader_X7_reclaimableBy
theorem dX7_costliestReader_0 : decode cX7_costliestReader 0 = .ok (.aload_n 0, 1) := by decide +kernel
theorem dX7_costliestReader_1 : decode cX7_costliestReader 1 = .ok (.iconst 0, 1) := by decide +kernel
theorem dX7_costliestReader_2 : decode cX7_costliestReader 2 = .ok (.putfield 23, 3) := by decide +kernel
theorem dX7_costliestReader_5 : decode cX7_costliestReader 5 = .ok (.iconst (-1), 1) := by decide +kernel
theorem dX7_costliestReader_6 : decode cX7_costliestReader 6 = .ok (.istore_n 1, 1) := by decide +kernel
theorem dX7_costliestReader_7 : decode cX7_costliestReader 7 = .ok (.aload_n 0, 1) := by decide +kernel
theorem dX7_costliestReader_8 : decode cX7_costliestReader 8 = .ok (.iconst (-1), 1) := by decide +kernel
theorem dX7_costliestReader_9 : decode cX7_costliestReader 9 = .ok (.invokevirtual 170, 3) := by decide +kernel
theorem dX7_costliestReader_12 : decode cX7_costliestReader 12 = .ok (.istore_n 2, 1) := by decide +kernel
theorem dX7_costliestReader_13 : decode cX7_costliestReader 13 = .ok (.iconst 0, 1) := by decide +kernel
theorem dX7_costliestReader_14 : decode cX7_costliestReader 14 = .ok (.istore_n 3, 1) := by decide +kernel
theorem dX7_costliestReader_15 : decode cX7_costliestReader 15 = .ok (.iload_n 3, 1) := by decide +kernel
theorem dX7_costliestReader_16 : decode cX7_costliestReader 16 = .ok (.bipush 6, 2) := by decide +kernel
theorem dX7_costliestReader_18 : decode cX7_costliestReader 18 = .ok (.if_icmp .ge 30, 3) := by decide +kernel
theorem dX7_costliestReader_21 : decode cX7_costliestReader 21 = .ok (.aload_n 0, 1) := by decide +kernel
theorem dX7_costliestReader_22 : decode cX7_costliestReader 22 = .ok (.iload_n 3, 1) := by decide +kernel
theorem dX7_costliestReader_23 : decode cX7_costliestReader 23 = .ok (.invokevirtual 170, 3) := by decide +kernel
theorem dX7_costliestReader_26 : decode cX7_costliestReader 26 = .ok (.istore 4, 2) := by decide +kernel
theorem dX7_costliestReader_28 : decode cX7_costliestReader 28 = .ok (.iload 4, 2) := by decide +kernel
theorem dX7_costliestReader_30 : decode cX7_costliestReader 30 = .ok (.iload_n 2, 1) := by decide +kernel
theorem dX7_costliestReader_31 : decode cX7_costliestReader 31 = .ok (.if_icmp .gt 6, 3) := by decide +kernel
theorem dX7_costliestReader_34 : decode cX7_costliestReader 34 = .ok (.goto 8, 3) := by decide +kernel
theorem dX7_costliestReader_37 : decode cX7_costliestReader 37 = .ok (.iload_n 3, 1) := by decide +kernel
theorem dX7_costliestReader_38 : decode cX7_costliestReader 38 = .ok (.istore_n 1, 1) := by decide +kernel
theorem dX7_costliestReader_39 : decode cX7_costliestReader 39 = .ok (.iload 4, 2) := by decide +kernel
theorem dX7_costliestReader_41 : decode cX7_costliestReader 41 = .ok (.istore_n 2, 1) := by decide +kernel
theorem dX7_costliestReader_42 : decode cX7_costliestReader 42 = .ok (.iinc 3 1, 3) := by decide +kernel
theorem dX7_costliestReader_45 : decode cX7_costliestReader 45 = .ok (.goto (-30), 3) := by decide +kernel
theorem dX7_costliestReader_48 : decode cX7_costliestReader 48 = .ok (.iload_n 1, 1) := by decide +kernel
theorem dX7_costliestReader_49 : decode cX7_costliestReader 49 = .ok (.ireturn, 1) := by decide +kernel
set_option maxRecDepth 20000 in
theorem ggX7_advance_X7_blocking : GoodIn wsX7_advance wsX7_blocking := goodIn_r _ [7, 8, 9, 10, 6, 11, 2, 12, 13, 14, 15, 16, 17, 18, 19, 26, 27, 28, 29, 30] (by first | rfl | decide +kernel) (by decide +kernel)
set_option maxRecDepth 20000 in
theorem gX7_advance_X7_blocking : GoodIn wsX7_advance (wsV RX7 161 RX7 yX7_blocking wsX7_blocking) := goodIn_app (goodIn_of _ (by decide +kernel)) ggX7_advance_X7_blocking
set_option maxRecDepth 20000 in
theorem ggX7_advance_X7_keeps : GoodIn wsX7_advance wsX7_keeps := goodIn_r _ [23, 24, 25, 2, 26, 27, 28, 29, 30] (by first | rfl | decide +kernel) (by decide +kernel)
set_option maxRecDepth 20000 in
theorem gX7_advance_X7_keeps : GoodIn wsX7_advance (wsV RX7 44 RX7 yX7_keeps wsX7_keeps) := goodIn_app (goodIn_of _ (by decide +kernel)) ggX7_advance_X7_keeps
theorem dX7_advance_0 : decode cX7_advance 0 = .ok (.aload_n 0, 1) := by decide +kernel
theorem dX7_advance_1 : decode cX7_advance 1 = .ok (.aload_n 0, 1) := by decide +kernel
theorem dX7_advance_2 : decode cX7_advance 2 = .ok (.invokevirtual 161, 3) := by decide +kernel
theorem dX7_advance_5 : decode cX7_advance 5 = .ok (.ifCond .ne 7, 3) := by decide +kernel
theorem dX7_advance_8 : decode cX7_advance 8 = .ok (.iconst 0, 1) := by decide +kernel
theorem dX7_advance_9 : decode cX7_advance 9 = .ok (.goto 4, 3) := by decide +kernel
theorem dX7_advance_12 : decode cX7_advance 12 = .ok (.iconst 1, 1) := by decide +kernel
theorem dX7_advance_13 : decode cX7_advance 13 = .ok (.putfield 23, 3) := by decide +kernel
theorem dX7_advance_16 : decode cX7_advance 16 = .ok (.aload_n 0, 1) := by decide +kernel
theorem dX7_advance_17 : decode cX7_advance 17 = .ok (.getfield 23, 3) := by decide +kernel
theorem dX7_advance_20 : decode cX7_advance 20 = .ok (.ifCond .le 5, 3) := by decide +kernel
theorem dX7_advance_23 : decode cX7_advance 23 = .ok (.iconst 0, 1) := by decide +kernel
theorem dX7_advance_24 : decode cX7_advance 24 = .ok (.ireturn, 1) := by decide +kernel
theorem dX7_advance_25 : decode cX7_advance 25 = .ok (.aload_n 0, 1) := by decide +kernel
theorem dX7_advance_26 : decode cX7_advance 26 = .ok (.invokevirtual 44, 3) := by decide +kernel
theorem dX7_advance_29 : decode cX7_advance 29 = .ok (.aload_n 0, 1) := by decide +kernel
theorem dX7_advance_30 : decode cX7_advance 30 = .ok (.getfield 7, 3) := by decide +kernel
theorem dX7_advance_33 : decode cX7_advance 33 = .ok (.iconst 3, 1) := by decide +kernel
theorem dX7_advance_34 : decode cX7_advance 34 = .ok (.dup2, 1) := by decide +kernel
theorem dX7_advance_35 : decode cX7_advance 35 = .ok (.iaload, 1) := by decide +kernel
theorem dX7_advance_36 : decode cX7_advance 36 = .ok (.iconst 1, 1) := by decide +kernel
theorem dX7_advance_37 : decode cX7_advance 37 = .ok (.iadd, 1) := by decide +kernel
theorem dX7_advance_38 : decode cX7_advance 38 = .ok (.iastore, 1) := by decide +kernel
theorem dX7_advance_39 : decode cX7_advance 39 = .ok (.aload_n 0, 1) := by decide +kernel
theorem dX7_advance_40 : decode cX7_advance 40 = .ok (.getfield 7, 3) := by decide +kernel
theorem dX7_advance_43 : decode cX7_advance 43 = .ok (.iconst 5, 1) := by decide +kernel
theorem dX7_advance_44 : decode cX7_advance 44 = .ok (.aload_n 0, 1) := by decide +kernel
theorem dX7_advance_45 : decode cX7_advance 45 = .ok (.getfield 7, 3) := by decide +kernel
theorem dX7_advance_48 : decode cX7_advance 48 = .ok (.iconst 4, 1) := by decide +kernel
theorem dX7_advance_49 : decode cX7_advance 49 = .ok (.iaload, 1) := by decide +kernel
theorem dX7_advance_50 : decode cX7_advance 50 = .ok (.iastore, 1) := by decide +kernel
theorem dX7_advance_51 : decode cX7_advance 51 = .ok (.aload_n 0, 1) := by decide +kernel
theorem dX7_advance_52 : decode cX7_advance 52 = .ok (.getfield 7, 3) := by decide +kernel
theorem dX7_advance_55 : decode cX7_advance 55 = .ok (.iconst 3, 1) := by decide +kernel
theorem dX7_advance_56 : decode cX7_advance 56 = .ok (.iaload, 1) := by decide +kernel
theorem dX7_advance_57 : decode cX7_advance 57 = .ok (.ireturn, 1) := by decide +kernel
set_option maxRecDepth 20000 in
theorem ggX7_pass_X7_isIn : GoodIn wsX7_pass wsX7_isIn := goodIn_r _ [8] (by first | rfl | decide +kernel) (by decide +kernel)
set_option maxRecDepth 20000 in
theorem gX7_pass_X7_isIn : GoodIn wsX7_pass (va_wsS RX7 34 yX7_isIn wsX7_isIn) := goodIn_app (goodIn_of _ (by decide +kernel)) ggX7_pass_X7_isIn
set_option maxRecDepth 20000 in
theorem ggX7_pass_X7_keeps : GoodIn wsX7_pass wsX7_keeps := goodIn_r _ [12, 13, 14, 2, 15, 16, 17, 18, 19] (by first | rfl | decide +kernel) (by decide +kernel)
set_option maxRecDepth 20000 in
theorem gX7_pass_X7_keeps : GoodIn wsX7_pass (wsV RX7 44 RX7 yX7_keeps wsX7_keeps) := goodIn_app (goodIn_of _ (by decide +kernel)) ggX7_pass_X7_keeps
theorem dX7_pass_0 : decode cX7_pass 0 = .ok (.aload_n 0, 1) := by decide +kernel
theorem dX7_pass_1 : decode cX7_pass 1 = .ok (.iload_n 1, 1) := by decide +kernel
theorem dX7_pass_2 : decode cX7_pass 2 = .ok (.i2l, 1) := by decide +kernel
theorem dX7_pass_3 : decode cX7_pass 3 = .ok (.lconst 1, 1) := by decide +kernel
theorem dX7_pass_4 : decode cX7_pass 4 = .ok (.ldc2_w 173, 3) := by decide +kernel
theorem dX7_pass_7 : decode cX7_pass 7 = .ok (.invokestatic 34, 3) := by decide +kernel
theorem dX7_pass_10 : decode cX7_pass 10 = .ok (.ifCond .ne 7, 3) := by decide +kernel
theorem dX7_pass_13 : decode cX7_pass 13 = .ok (.iconst 1, 1) := by decide +kernel
theorem dX7_pass_14 : decode cX7_pass 14 = .ok (.goto 21, 3) := by decide +kernel
theorem dX7_pass_17 : decode cX7_pass 17 = .ok (.aload_n 0, 1) := by decide +kernel
theorem dX7_pass_18 : decode cX7_pass 18 = .ok (.getfield 7, 3) := by decide +kernel
theorem dX7_pass_21 : decode cX7_pass 21 = .ok (.iconst 4, 1) := by decide +kernel
theorem dX7_pass_22 : decode cX7_pass 22 = .ok (.iaload, 1) := by decide +kernel
theorem dX7_pass_23 : decode cX7_pass 23 = .ok (.iload_n 1, 1) := by decide +kernel
theorem dX7_pass_24 : decode cX7_pass 24 = .ok (.iadd, 1) := by decide +kernel
theorem dX7_pass_25 : decode cX7_pass 25 = .ok (.ldc 175, 2) := by decide +kernel
theorem dX7_pass_27 : decode cX7_pass 27 = .ok (.if_icmp .le 7, 3) := by decide +kernel
theorem dX7_pass_30 : decode cX7_pass 30 = .ok (.iconst 2, 1) := by decide +kernel
theorem dX7_pass_31 : decode cX7_pass 31 = .ok (.goto 4, 3) := by decide +kernel
theorem dX7_pass_34 : decode cX7_pass 34 = .ok (.iconst 0, 1) := by decide +kernel
theorem dX7_pass_35 : decode cX7_pass 35 = .ok (.putfield 23, 3) := by decide +kernel
theorem dX7_pass_38 : decode cX7_pass 38 = .ok (.aload_n 0, 1) := by decide +kernel
theorem dX7_pass_39 : decode cX7_pass 39 = .ok (.getfield 23, 3) := by decide +kernel
theorem dX7_pass_42 : decode cX7_pass 42 = .ok (.ifCond .le 5, 3) := by decide +kernel
theorem dX7_pass_45 : decode cX7_pass 45 = .ok (.iconst 0, 1) := by decide +kernel
theorem dX7_pass_46 : decode cX7_pass 46 = .ok (.ireturn, 1) := by decide +kernel
theorem dX7_pass_47 : decode cX7_pass 47 = .ok (.aload_n 0, 1) := by decide +kernel
theorem dX7_pass_48 : decode cX7_pass 48 = .ok (.invokevirtual 44, 3) := by decide +kernel
theorem dX7_pass_51 : decode cX7_pass 51 = .ok (.aload_n 0, 1) := by decide +kernel
theorem dX7_pass_52 : decode cX7_pass 52 = .ok (.getfield 7, 3) := by decide +kernel
theorem dX7_pass_55 : decode cX7_pass 55 = .ok (.iconst 4, 1) := by decide +kernel
theorem dX7_pass_56 : decode cX7_pass 56 = .ok (.dup2, 1) := by decide +kernel
theorem dX7_pass_57 : decode cX7_pass 57 = .ok (.iaload, 1) := by decide +kernel
theorem dX7_pass_58 : decode cX7_pass 58 = .ok (.iload_n 1, 1) := by decide +kernel
theorem dX7_pass_59 : decode cX7_pass 59 = .ok (.iadd, 1) := by decide +kernel
theorem dX7_pass_60 : decode cX7_pass 60 = .ok (.iastore, 1) := by decide +kernel
theorem dX7_pass_61 : decode cX7_pass 61 = .ok (.aload_n 0, 1) := by decide +kernel
theorem dX7_pass_62 : decode cX7_pass 62 = .ok (.getfield 7, 3) := by decide +kernel
theorem dX7_pass_65 : decode cX7_pass 65 = .ok (.iconst 4, 1) := by decide +kernel
theorem dX7_pass_66 : decode cX7_pass 66 = .ok (.iaload, 1) := by decide +kernel
theorem dX7_pass_67 : decode cX7_pass 67 = .ok (.ireturn, 1) := by decide +kernel
set_option maxRecDepth 20000 in
theorem ggX7_count_X7_isIn : GoodIn wsX7_count wsX7_isIn := goodIn_r _ [7] (by first | rfl | decide +kernel) (by decide +kernel)
set_option maxRecDepth 20000 in
theorem gX7_count_X7_isIn : GoodIn wsX7_count (va_wsS RX7 34 yX7_isIn wsX7_isIn) := goodIn_app (goodIn_of _ (by decide +kernel)) ggX7_count_X7_isIn
theorem dX7_count_0 : decode cX7_count 0 = .ok (.aload_n 0, 1) := by decide +kernel
theorem dX7_count_1 : decode cX7_count 1 = .ok (.iload_n 1, 1) := by decide +kernel
theorem dX7_count_2 : decode cX7_count 2 = .ok (.i2l, 1) := by decide +kernel
theorem dX7_count_3 : decode cX7_count 3 = .ok (.lconst 0, 1) := by decide +kernel
theorem dX7_count_4 : decode cX7_count 4 = .ok (.ldc2_w 176, 3) := by decide +kernel
theorem dX7_count_7 : decode cX7_count 7 = .ok (.invokestatic 34, 3) := by decide +kernel
theorem dX7_count_10 : decode cX7_count 10 = .ok (.ifCond .eq 7, 3) := by decide +kernel
theorem dX7_count_13 : decode cX7_count 13 = .ok (.iconst 0, 1) := by decide +kernel
theorem dX7_count_14 : decode cX7_count 14 = .ok (.goto 4, 3) := by decide +kernel
theorem dX7_count_17 : decode cX7_count 17 = .ok (.iconst 1, 1) := by decide +kernel
theorem dX7_count_18 : decode cX7_count 18 = .ok (.putfield 23, 3) := by decide +kernel
theorem dX7_count_21 : decode cX7_count 21 = .ok (.aload_n 0, 1) := by decide +kernel
theorem dX7_count_22 : decode cX7_count 22 = .ok (.getfield 23, 3) := by decide +kernel
theorem dX7_count_25 : decode cX7_count 25 = .ok (.ifCond .le 7, 3) := by decide +kernel
theorem dX7_count_28 : decode cX7_count 28 = .ok (.iconst 0, 1) := by decide +kernel
theorem dX7_count_29 : decode cX7_count 29 = .ok (.goto 9, 3) := by decide +kernel
theorem dX7_count_32 : decode cX7_count 32 = .ok (.aload_n 0, 1) := by decide +kernel
theorem dX7_count_33 : decode cX7_count 33 = .ok (.getfield 7, 3) := by decide +kernel
theorem dX7_count_36 : decode cX7_count 36 = .ok (.iload_n 1, 1) := by decide +kernel
theorem dX7_count_37 : decode cX7_count 37 = .ok (.iaload, 1) := by decide +kernel
theorem dX7_count_38 : decode cX7_count 38 = .ok (.ireturn, 1) := by decide +kernel
set_option maxRecDepth 20000 in
theorem ggX7_inState_X7_ofBlock : GoodIn wsX7_inState wsX7_ofBlock := goodIn_r _ [6, 1, 7, 8, 9, 10, 11] (by first | rfl | decide +kernel) (by decide +kernel)
set_option maxRecDepth 20000 in
theorem gX7_inState_X7_ofBlock : GoodIn wsX7_inState (wsV RX7 67 RX7 yX7_ofBlock wsX7_ofBlock) := goodIn_app (goodIn_of _ (by decide +kernel)) ggX7_inState_X7_ofBlock
theorem dX7_inState_0 : decode cX7_inState 0 = .ok (.iconst 0, 1) := by decide +kernel
theorem dX7_inState_1 : decode cX7_inState 1 = .ok (.istore_n 3, 1) := by decide +kernel
theorem dX7_inState_2 : decode cX7_inState 2 = .ok (.bipush 16, 2) := by decide +kernel
theorem dX7_inState_4 : decode cX7_inState 4 = .ok (.iload_n 1, 1) := by decide +kernel
theorem dX7_inState_5 : decode cX7_inState 5 = .ok (.imul, 1) := by decide +kernel
theorem dX7_inState_6 : decode cX7_inState 6 = .ok (.istore 4, 2) := by decide +kernel
theorem dX7_inState_8 : decode cX7_inState 8 = .ok (.iload 4, 2) := by decide +kernel
theorem dX7_inState_10 : decode cX7_inState 10 = .ok (.bipush 16, 2) := by decide +kernel
theorem dX7_inState_12 : decode cX7_inState 12 = .ok (.iload_n 1, 1) := by decide +kernel
theorem dX7_inState_13 : decode cX7_inState 13 = .ok (.imul, 1) := by decide +kernel
theorem dX7_inState_14 : decode cX7_inState 14 = .ok (.aload_n 0, 1) := by decide +kernel
theorem dX7_inState_15 : decode cX7_inState 15 = .ok (.getfield 7, 3) := by decide +kernel
theorem dX7_inState_18 : decode cX7_inState 18 = .ok (.iconst 1, 1) := by decide +kernel
theorem dX7_inState_19 : decode cX7_inState 19 = .ok (.iaload, 1) := by decide +kernel
theorem dX7_inState_20 : decode cX7_inState 20 = .ok (.iadd, 1) := by decide +kernel
theorem dX7_inState_21 : decode cX7_inState 21 = .ok (.if_icmp .ge 28, 3) := by decide +kernel
theorem dX7_inState_24 : decode cX7_inState 24 = .ok (.iload_n 3, 1) := by decide +kernel
theorem dX7_inState_25 : decode cX7_inState 25 = .ok (.aload_n 0, 1) := by decide +kernel
theorem dX7_inState_26 : decode cX7_inState 26 = .ok (.iload 4, 2) := by decide +kernel
theorem dX7_inState_28 : decode cX7_inState 28 = .ok (.iconst 0, 1) := by decide +kernel
theorem dX7_inState_29 : decode cX7_inState 29 = .ok (.invokevirtual 67, 3) := by decide +kernel
theorem dX7_inState_32 : decode cX7_inState 32 = .ok (.iload_n 2, 1) := by decide +kernel
theorem dX7_inState_33 : decode cX7_inState 33 = .ok (.if_icmp .ne 7, 3) := by decide +kernel
theorem dX7_inState_36 : decode cX7_inState 36 = .ok (.iconst 1, 1) := by decide +kernel
theorem dX7_inState_37 : decode cX7_inState 37 = .ok (.goto 4, 3) := by decide +kernel
theorem dX7_inState_40 : decode cX7_inState 40 = .ok (.iconst 0, 1) := by decide +kernel
theorem dX7_inState_41 : decode cX7_inState 41 = .ok (.iadd, 1) := by decide +kernel
theorem dX7_inState_42 : decode cX7_inState 42 = .ok (.istore_n 3, 1) := by decide +kernel
theorem dX7_inState_43 : decode cX7_inState 43 = .ok (.iinc 4 1, 3) := by decide +kernel
theorem dX7_inState_46 : decode cX7_inState 46 = .ok (.goto (-38), 3) := by decide +kernel
theorem dX7_inState_49 : decode cX7_inState 49 = .ok (.iload_n 3, 1) := by decide +kernel
theorem dX7_inState_50 : decode cX7_inState 50 = .ok (.ireturn, 1) := by decide +kernel
set_option maxRecDepth 20000 in
theorem ggX7_allIn_X7_inState : GoodIn wsX7_allIn wsX7_inState := goodIn_r _ [6, 1, 7, 8, 9, 5, 10, 11, 12, 13, 14, 15] (by first | rfl | decide +kernel) (by decide +kernel)
set_option maxRecDepth 20000 in
theorem gX7_allIn_X7_inState : GoodIn wsX7_allIn (wsV RX7 178 RX7 yX7_inState wsX7_inState) := goodIn_app (goodIn_of _ (by decide +kernel)) ggX7_allIn_X7_inState
theorem dX7_allIn_0 : decode cX7_allIn 0 = .ok (.iconst 0, 1) := by decide +kernel
theorem dX7_allIn_1 : decode cX7_allIn 1 = .ok (.istore_n 2, 1) := by decide +kernel
theorem dX7_allIn_2 : decode cX7_allIn 2 = .ok (.iconst 0, 1) := by decide +kernel
theorem dX7_allIn_3 : decode cX7_allIn 3 = .ok (.istore_n 3, 1) := by decide +kernel
theorem dX7_allIn_4 : decode cX7_allIn 4 = .ok (.iload_n 3, 1) := by decide +kernel
theorem dX7_allIn_5 : decode cX7_allIn 5 = .ok (.aload_n 0, 1) := by decide +kernel
theorem dX7_allIn_6 : decode cX7_allIn 6 = .ok (.getfield 7, 3) := by decide +kernel
theorem dX7_allIn_9 : decode cX7_allIn 9 = .ok (.iconst 0, 1) := by decide +kernel
theorem dX7_allIn_10 : decode cX7_allIn 10 = .ok (.iaload, 1) := by decide +kernel
theorem dX7_allIn_11 : decode cX7_allIn 11 = .ok (.if_icmp .ge 18, 3) := by decide +kernel
theorem dX7_allIn_14 : decode cX7_allIn 14 = .ok (.iload_n 2, 1) := by decide +kernel
theorem dX7_allIn_15 : decode cX7_allIn 15 = .ok (.aload_n 0, 1) := by decide +kernel
theorem dX7_allIn_16 : decode cX7_allIn 16 = .ok (.iload_n 3, 1) := by decide +kernel
theorem dX7_allIn_17 : decode cX7_allIn 17 = .ok (.iload_n 1, 1) := by decide +kernel
theorem dX7_allIn_18 : decode cX7_allIn 18 = .ok (.invokevirtual 178, 3) := by decide +kernel
theorem dX7_allIn_21 : decode cX7_allIn 21 = .ok (.iadd, 1) := by decide +kernel
theorem dX7_allIn_22 : decode cX7_allIn 22 = .ok (.istore_n 2, 1) := by decide +kernel
theorem dX7_allIn_23 : decode cX7_allIn 23 = .ok (.iinc 3 1, 3) := by decide +kernel
theorem dX7_allIn_26 : decode cX7_allIn 26 = .ok (.goto (-22), 3) := by decide +kernel
theorem dX7_allIn_29 : decode cX7_allIn 29 = .ok (.iload_n 2, 1) := by decide +kernel
theorem dX7_allIn_30 : decode cX7_allIn 30 = .ok (.ireturn, 1) := by decide +kernel
set_option maxRecDepth 20000 in
theorem ggX7_blocks_X7_isIn : GoodIn wsX7_blocks wsX7_isIn := goodIn_r _ [6] (by first | rfl | decide +kernel) (by decide +kernel)
set_option maxRecDepth 20000 in
theorem gX7_blocks_X7_isIn : GoodIn wsX7_blocks (va_wsS RX7 34 yX7_isIn wsX7_isIn) := goodIn_app (goodIn_of _ (by decide +kernel)) ggX7_blocks_X7_isIn
set_option maxRecDepth 20000 in
theorem ggX7_blocks_X7_allIn : GoodIn wsX7_blocks wsX7_allIn := goodIn_r _ [10, 11, 12, 13, 14, 5, 15, 16, 17, 18, 19, 20, 21, 22, 23, 24] (by first | rfl | decide +kernel) (by decide +kernel)
set_option maxRecDepth 20000 in
theorem gX7_blocks_X7_allIn : GoodIn wsX7_blocks (wsV RX7 181 RX7 yX7_allIn wsX7_allIn) := goodIn_app (goodIn_of _ (by decide +kernel)) ggX7_blocks_X7_allIn
theorem dX7_blocks_0 : decode cX7_blocks 0 = .ok (.aload_n 0, 1) := by decide +kernel
theorem dX7_blocks_1 : decode cX7_blocks 1 = .ok (.iload_n 1, 1) := by decide +kernel
theorem dX7_blocks_2 : decode cX7_blocks 2 = .ok (.i2l, 1) := by decide +kernel
theorem dX7_blocks_3 : decode cX7_blocks 3 = .ok (.lconst 0, 1) := by decide +kernel
theorem dX7_blocks_4 : decode cX7_blocks 4 = .ok (.ldc2_w 153, 3) := by decide +kernel
theorem dX7_blocks_7 : decode cX7_blocks 7 = .ok (.invokestatic 34, 3) := by decide +kernel
theorem dX7_blocks_10 : decode cX7_blocks 10 = .ok (.ifCond .eq 7, 3) := by decide +kernel
theorem dX7_blocks_13 : decode cX7_blocks 13 = .ok (.iconst 0, 1) := by decide +kernel
theorem dX7_blocks_14 : decode cX7_blocks 14 = .ok (.goto 4, 3) := by decide +kernel
theorem dX7_blocks_17 : decode cX7_blocks 17 = .ok (.iconst 1, 1) := by decide +kernel
theorem dX7_blocks_18 : decode cX7_blocks 18 = .ok (.putfield 23, 3) := by decide +kernel
theorem dX7_blocks_21 : decode cX7_blocks 21 = .ok (.aload_n 0, 1) := by decide +kernel
theorem dX7_blocks_22 : decode cX7_blocks 22 = .ok (.getfield 23, 3) := by decide +kernel
theorem dX7_blocks_25 : decode cX7_blocks 25 = .ok (.ifCond .le 7, 3) := by decide +kernel
theorem dX7_blocks_28 : decode cX7_blocks 28 = .ok (.iconst 0, 1) := by decide +kernel
theorem dX7_blocks_29 : decode cX7_blocks 29 = .ok (.goto 8, 3) := by decide +kernel
theorem dX7_blocks_32 : decode cX7_blocks 32 = .ok (.aload_n 0, 1) := by decide +kernel
theorem dX7_blocks_33 : decode cX7_blocks 33 = .ok (.iload_n 1, 1) := by decide +kernel
theorem dX7_blocks_34 : decode cX7_blocks 34 = .ok (.invokevirtual 181, 3) := by decide +kernel
theorem dX7_blocks_37 : decode cX7_blocks 37 = .ok (.ireturn, 1) := by decide +kernel
set_option maxRecDepth 20000 in
theorem ggX7_useOf_X7_inState : GoodIn wsX7_useOf wsX7_inState := goodIn_r _ [5, 6, 7, 8, 9, 4, 10, 11, 12, 13, 14, 15] (by first | rfl | decide +kernel) (by decide +kernel)
set_option maxRecDepth 20000 in
theorem gX7_useOf_X7_inState : GoodIn wsX7_useOf (wsV RX7 178 RX7 yX7_inState wsX7_inState) := goodIn_app (goodIn_of _ (by decide +kernel)) ggX7_useOf_X7_inState
theorem dX7_useOf_0 : decode cX7_useOf 0 = .ok (.aload_n 0, 1) := by decide +kernel
theorem dX7_useOf_1 : decode cX7_useOf 1 = .ok (.iload_n 1, 1) := by decide +kernel
theorem dX7_useOf_2 : decode cX7_useOf 2 = .ok (.iconst 1, 1) := by decide +kernel
theorem dX7_useOf_3 : decode cX7_useOf 3 = .ok (.invokevirtual 178, 3) := by decide +kernel
theorem dX7_useOf_6 : decode cX7_useOf 6 = .ok (.aload_n 0, 1) := by decide +kernel
theorem dX7_useOf_7 : decode cX7_useOf 7 = .ok (.iload_n 1, 1) := by decide +kernel
theorem dX7_useOf_8 : decode cX7_useOf 8 = .ok (.iconst 2, 1) := by decide +kernel
theorem dX7_useOf_9 : decode cX7_useOf 9 = .ok (.invokevirtual 178, 3) := by decide +kernel
theorem dX7_useOf_12 : decode cX7_useOf 12 = .ok (.iadd, 1) := by decide +kernel
theorem dX7_useOf_13 : decode cX7_useOf 13 = .ok (.ireturn, 1) := by decide +kernel
set_option maxRecDepth 20000 in
theorem ggX7_ageOf_X7_ofSegment : GoodIn wsX7_ageOf wsX7_ofSegment := goodIn_r _ [6, 1, 11, 12, 13, 14, 15] (by first | rfl | decide +kernel) (by decide +kernel)
set_option maxRecDepth 20000 in
theorem gX7_ageOf_X7_ofSegment : GoodIn wsX7_ageOf (wsV RX7 53 RX7 yX7_ofSegment wsX7_ofSegment) := goodIn_app (goodIn_of _ (by decide +kernel)) ggX7_ageOf_X7_ofSegment
set_option maxRecDepth 20000 in
theorem ggX7_ageOf_X7_ofBlock : GoodIn wsX7_ageOf wsX7_ofBlock := goodIn_r _ [10, 1, 11, 12, 13, 14, 15] (by first | rfl | decide +kernel) (by decide +kernel)
set_option maxRecDepth 20000 in
theorem gX7_ageOf_X7_ofBlock : GoodIn wsX7_ageOf (wsV RX7 67 RX7 yX7_ofBlock wsX7_ofBlock) := goodIn_app (goodIn_of _ (by decide +kernel)) ggX7_ageOf_X7_ofBlock
theorem dX7_ageOf_0 : decode cX7_ageOf 0 = .ok (.iconst 0, 1) := by decide +kernel
theorem dX7_ageOf_1 : decode cX7_ageOf 1 = .ok (.istore_n 2, 1) := by decide +kernel
theorem dX7_ageOf_2 : decode cX7_ageOf 2 = .ok (.bipush 16, 2) := by decide +kernel
theorem dX7_ageOf_4 : decode cX7_ageOf 4 = .ok (.iload_n 1, 1) := by decide +kernel
theorem dX7_ageOf_5 : decode cX7_ageOf 5 = .ok (.imul, 1) := by decide +kernel
theorem dX7_ageOf_6 : decode cX7_ageOf 6 = .ok (.istore_n 3, 1) := by decide +kernel
theorem dX7_ageOf_7 : decode cX7_ageOf 7 = .ok (.iload_n 3, 1) := by decide +kernel
theorem dX7_ageOf_8 : decode cX7_ageOf 8 = .ok (.bipush 16, 2) := by decide +kernel
theorem dX7_ageOf_10 : decode cX7_ageOf 10 = .ok (.iload_n 1, 1) := by decide +kernel
theorem dX7_ageOf_11 : decode cX7_ageOf 11 = .ok (.imul, 1) := by decide +kernel
theorem dX7_ageOf_12 : decode cX7_ageOf 12 = .ok (.aload_n 0, 1) := by decide +kernel
theorem dX7_ageOf_13 : decode cX7_ageOf 13 = .ok (.iload_n 1, 1) := by decide +kernel
theorem dX7_ageOf_14 : decode cX7_ageOf 14 = .ok (.iconst 1, 1) := by decide +kernel
theorem dX7_ageOf_15 : decode cX7_ageOf 15 = .ok (.invokevirtual 53, 3) := by decide +kernel
theorem dX7_ageOf_18 : decode cX7_ageOf 18 = .ok (.iadd, 1) := by decide +kernel
theorem dX7_ageOf_19 : decode cX7_ageOf 19 = .ok (.if_icmp .ge 30, 3) := by decide +kernel
theorem dX7_ageOf_22 : decode cX7_ageOf 22 = .ok (.aload_n 0, 1) := by decide +kernel
theorem dX7_ageOf_23 : decode cX7_ageOf 23 = .ok (.iload_n 3, 1) := by decide +kernel
theorem dX7_ageOf_24 : decode cX7_ageOf 24 = .ok (.iconst 3, 1) := by decide +kernel
theorem dX7_ageOf_25 : decode cX7_ageOf 25 = .ok (.invokevirtual 67, 3) := by decide +kernel
theorem dX7_ageOf_28 : decode cX7_ageOf 28 = .ok (.iload_n 2, 1) := by decide +kernel
theorem dX7_ageOf_29 : decode cX7_ageOf 29 = .ok (.if_icmp .le 12, 3) := by decide +kernel
theorem dX7_ageOf_32 : decode cX7_ageOf 32 = .ok (.aload_n 0, 1) := by decide +kernel
theorem dX7_ageOf_33 : decode cX7_ageOf 33 = .ok (.iload_n 3, 1) := by decide +kernel
theorem dX7_ageOf_34 : decode cX7_ageOf 34 = .ok (.iconst 3, 1) := by decide +kernel
theorem dX7_ageOf_35 : decode cX7_ageOf 35 = .ok (.invokevirtual 67, 3) := by decide +kernel
theorem dX7_ageOf_38 : decode cX7_ageOf 38 = .ok (.goto 4, 3) := by decide +kernel
theorem dX7_ageOf_41 : decode cX7_ageOf 41 = .ok (.iload_n 2, 1) := by decide +kernel
theorem dX7_ageOf_42 : decode cX7_ageOf 42 = .ok (.istore_n 2, 1) := by decide +kernel
theorem dX7_ageOf_43 : decode cX7_ageOf 43 = .ok (.iinc 3 1, 3) := by decide +kernel
theorem dX7_ageOf_46 : decode cX7_ageOf 46 = .ok (.goto (-39), 3) := by decide +kernel
theorem dX7_ageOf_49 : decode cX7_ageOf 49 = .ok (.aload_n 0, 1) := by decide +kernel
theorem dX7_ageOf_50 : decode cX7_ageOf 50 = .ok (.iload_n 1, 1) := by decide +kernel
theorem dX7_ageOf_51 : decode cX7_ageOf 51 = .ok (.iconst 0, 1) := by decide +kernel
theorem dX7_ageOf_52 : decode cX7_ageOf 52 = .ok (.invokevirtual 53, 3) := by decide +kernel
theorem dX7_ageOf_55 : decode cX7_ageOf 55 = .ok (.ifCond .ne 7, 3) := by decide +kernel
theorem dX7_ageOf_58 : decode cX7_ageOf 58 = .ok (.iconst 0, 1) := by decide +kernel
theorem dX7_ageOf_59 : decode cX7_ageOf 59 = .ok (.goto 11, 3) := by decide +kernel
theorem dX7_ageOf_62 : decode cX7_ageOf 62 = .ok (.aload_n 0, 1) := by decide +kernel
theorem dX7_ageOf_63 : decode cX7_ageOf 63 = .ok (.getfield 7, 3) := by decide +kernel
theorem dX7_ageOf_66 : decode cX7_ageOf 66 = .ok (.iconst 4, 1) := by decide +kernel
theorem dX7_ageOf_67 : decode cX7_ageOf 67 = .ok (.iaload, 1) := by decide +kernel
theorem dX7_ageOf_68 : decode cX7_ageOf 68 = .ok (.iload_n 2, 1) := by decide +kernel
theorem dX7_ageOf_69 : decode cX7_ageOf 69 = .ok (.isub, 1) := by decide +kernel
theorem dX7_ageOf_70 : decode cX7_ageOf 70 = .ok (.ireturn, 1) := by decide +kernel
set_option maxRecDepth 20000 in
theorem ggX7_segment_X7_isSegment : GoodIn wsX7_segment wsX7_isSegment := goodIn_r _ [7, 8, 9, 10, 6, 11, 32, 33, 34, 35, 36] (by first | rfl | decide +kernel) (by decide +kernel)
set_option maxRecDepth 20000 in
theorem gX7_segment_X7_isSegment : GoodIn wsX7_segment (wsV RX7 47 RX7 yX7_isSegment wsX7_isSegment) := goodIn_app (goodIn_of _ (by decide +kernel)) ggX7_segment_X7_isSegment
set_option maxRecDepth 20000 in
theorem ggX7_segment_X7_isIn : GoodIn wsX7_segment wsX7_isIn := goodIn_r _ [11] (by first | rfl | decide +kernel) (by decide +kernel)
set_option maxRecDepth 20000 in
theorem gX7_segment_X7_isIn : GoodIn wsX7_segment (va_wsS RX7 34 yX7_isIn wsX7_isIn) := goodIn_app (goodIn_of _ (by decide +kernel)) ggX7_segment_X7_isIn
set_option maxRecDepth 20000 in
theorem ggX7_segment_X7_ofSegment : GoodIn wsX7_segment wsX7_ofSegment := goodIn_r _ [15, 8, 32, 33, 34, 35, 36] (by first | rfl | decide +kernel) (by decide +kernel)
set_option maxRecDepth 20000 in
theorem gX7_segment_X7_ofSegment : GoodIn wsX7_segment (wsV RX7 53 RX7 yX7_ofSegment wsX7_ofSegment) := goodIn_app (goodIn_of _ (by decide +kernel)) ggX7_segment_X7_ofSegment
set_option maxRecDepth 20000 in
theorem ggX7_segment_X7_useOf : GoodIn wsX7_segment wsX7_useOf := goodIn_r _ [19, 20, 21, 22, 6, 23, 8, 24, 25, 26, 27, 32, 33, 34, 35, 36] (by first | rfl | decide +kernel) (by decide +kernel)
set_option maxRecDepth 20000 in
theorem gX7_segment_X7_useOf : GoodIn wsX7_segment (wsV RX7 184 RX7 yX7_useOf wsX7_useOf) := goodIn_app (goodIn_of _ (by decide +kernel)) ggX7_segment_X7_useOf
set_option maxRecDepth 20000 in
theorem ggX7_segment_X7_inState : GoodIn wsX7_segment wsX7_inState := goodIn_r _ [23, 8, 24, 25, 26, 6, 27, 32, 33, 34, 35, 36] (by first | rfl | decide +kernel) (by decide +kernel)
set_option maxRecDepth 20000 in
theorem gX7_segment_X7_inState : GoodIn wsX7_segment (wsV RX7 178 RX7 yX7_inState wsX7_inState) := goodIn_app (goodIn_of _ (by decide +kernel)) ggX7_segment_X7_inState
set_option maxRecDepth 20000 in
theorem ggX7_segment_X7_ageOf : GoodIn wsX7_segment wsX7_ageOf := goodIn_r _ [31, 8, 12, 13, 14, 6, 15, 24, 25, 26, 27, 32, 33, 34, 35, 36] (by first | rfl | decide +kernel) (by decide +kernel)
set_option maxRecDepth 20000 in
theorem gX7_segment_X7_ageOf : GoodIn wsX7_segment (wsV RX7 187 RX7 yX7_ageOf wsX7_ageOf) := goodIn_app (goodIn_of _ (by decide +kernel)) ggX7_segment_X7_ageOf
theorem dX7_segment_0 : decode cX7_segment 0 = .ok (.aload_n 0, 1) := by decide +kernel
theorem dX7_segment_1 : decode cX7_segment 1 = .ok (.aload_n 0, 1) := by decide +kernel
theorem dX7_segment_2 : decode cX7_segment 2 = .ok (.iload_n 1, 1) := by decide +kernel
theorem dX7_segment_3 : decode cX7_segment 3 = .ok (.invokevirtual 47, 3) := by decide +kernel
theorem dX7_segment_6 : decode cX7_segment 6 = .ok (.ifCond .ne 7, 3) := by decide +kernel
theorem dX7_segment_9 : decode cX7_segment 9 = .ok (.iconst 1, 1) := by decide +kernel
theorem dX7_segment_10 : decode cX7_segment 10 = .ok (.goto 20, 3) := by decide +kernel
theorem dX7_segment_13 : decode cX7_segment 13 = .ok (.iload_n 2, 1) := by decide +kernel
theorem dX7_segment_14 : decode cX7_segment 14 = .ok (.i2l, 1) := by decide +kernel
theorem dX7_segment_15 : decode cX7_segment 15 = .ok (.lconst 0, 1) := by decide +kernel
theorem dX7_segment_16 : decode cX7_segment 16 = .ok (.ldc2_w 119, 3) := by decide +kernel
theorem dX7_segment_19 : decode cX7_segment 19 = .ok (.invokestatic 34, 3) := by decide +kernel
theorem dX7_segment_22 : decode cX7_segment 22 = .ok (.ifCond .ne 7, 3) := by decide +kernel
theorem dX7_segment_25 : decode cX7_segment 25 = .ok (.iconst 2, 1) := by decide +kernel
theorem dX7_segment_26 : decode cX7_segment 26 = .ok (.goto 4, 3) := by decide +kernel
theorem dX7_segment_29 : decode cX7_segment 29 = .ok (.iconst 0, 1) := by decide +kernel
theorem dX7_segment_30 : decode cX7_segment 30 = .ok (.putfield 23, 3) := by decide +kernel
theorem dX7_segment_33 : decode cX7_segment 33 = .ok (.aload_n 0, 1) := by decide +kernel
theorem dX7_segment_34 : decode cX7_segment 34 = .ok (.getfield 23, 3) := by decide +kernel
theorem dX7_segment_37 : decode cX7_segment 37 = .ok (.ifCond .le 5, 3) := by decide +kernel
theorem dX7_segment_40 : decode cX7_segment 40 = .ok (.iconst 0, 1) := by decide +kernel
theorem dX7_segment_41 : decode cX7_segment 41 = .ok (.ireturn, 1) := by decide +kernel
theorem dX7_segment_42 : decode cX7_segment 42 = .ok (.iload_n 2, 1) := by decide +kernel
theorem dX7_segment_43 : decode cX7_segment 43 = .ok (.tableswitch 67 0 4 #[33, 40, 46, 53, 60], 33) := by decide +kernel
theorem dX7_segment_76 : decode cX7_segment 76 = .ok (.aload_n 0, 1) := by decide +kernel
theorem dX7_segment_77 : decode cX7_segment 77 = .ok (.iload_n 1, 1) := by decide +kernel
theorem dX7_segment_78 : decode cX7_segment 78 = .ok (.iconst 0, 1) := by decide +kernel
theorem dX7_segment_79 : decode cX7_segment 79 = .ok (.invokevirtual 53, 3) := by decide +kernel
theorem dX7_segment_82 : decode cX7_segment 82 = .ok (.ireturn, 1) := by decide +kernel
theorem dX7_segment_83 : decode cX7_segment 83 = .ok (.aload_n 0, 1) := by decide +kernel
theorem dX7_segment_84 : decode cX7_segment 84 = .ok (.iload_n 1, 1) := by decide +kernel
theorem dX7_segment_85 : decode cX7_segment 85 = .ok (.invokevirtual 184, 3) := by decide +kernel
theorem dX7_segment_88 : decode cX7_segment 88 = .ok (.ireturn, 1) := by decide +kernel
theorem dX7_segment_89 : decode cX7_segment 89 = .ok (.aload_n 0, 1) := by decide +kernel
theorem dX7_segment_90 : decode cX7_segment 90 = .ok (.iload_n 1, 1) := by decide +kernel
theorem dX7_segment_91 : decode cX7_segment 91 = .ok (.iconst 3, 1) := by decide +kernel
theorem dX7_segment_92 : decode cX7_segment 92 = .ok (.invokevirtual 178, 3) := by decide +kernel
theorem dX7_segment_95 : decode cX7_segment 95 = .ok (.ireturn, 1) := by decide +kernel
theorem dX7_segment_96 : decode cX7_segment 96 = .ok (.aload_n 0, 1) := by decide +kernel
theorem dX7_segment_97 : decode cX7_segment 97 = .ok (.iload_n 1, 1) := by decide +kernel
theorem dX7_segment_98 : decode cX7_segment 98 = .ok (.iconst 4, 1) := by decide +kernel
theorem dX7_segment_99 : decode cX7_segment 99 = .ok (.invokevirtual 178, 3) := by decide +kernel
theorem dX7_segment_102 : decode cX7_segment 102 = .ok (.ireturn, 1) := by decide +kernel
theorem dX7_segment_103 : decode cX7_segment 103 = .ok (.aload_n 0, 1) := by decide +kernel
theorem dX7_segment_104 : decode cX7_segment 104 = .ok (.iload_n 1, 1) := by decide +kernel
theorem dX7_segment_105 : decode cX7_segment 105 = .ok (.iconst 2, 1) := by decide +kernel
theorem dX7_segment_106 : decode cX7_segment 106 = .ok (.invokevirtual 53, 3) := by decide +kernel
theorem dX7_segment_109 : decode cX7_segment 109 = .ok (.ireturn, 1) := by decide +kernel
theorem dX7_segment_110 : decode cX7_segment 110 = .ok (.aload_n 0, 1) := by decide +kernel
theorem dX7_segment_111 : decode cX7_segment 111 = .ok (.iload_n 1, 1) := by decide +kernel
theorem dX7_segment_112 : decode cX7_segment 112 = .ok (.invokevirtual 187, 3) := by decide +kernel
theorem dX7_segment_115 : decode cX7_segment 115 = .ok (.ireturn, 1) := by decide +kernel
set_option maxRecDepth 20000 in
theorem ggX7_block_X7_isBlock : GoodIn wsX7_block wsX7_isBlock := goodIn_r _ [7, 8, 9, 10, 11, 6, 12, 13, 14, 15, 20, 21, 22, 23, 24] (by first | rfl | decide +kernel) (by decide +kernel)
set_option maxRecDepth 20000 in
theorem gX7_block_X7_isBlock : GoodIn wsX7_block (wsV RX7 100 RX7 yX7_isBlock wsX7_isBlock) := goodIn_app (goodIn_of _ (by decide +kernel)) ggX7_block_X7_isBlock
set_option maxRecDepth 20000 in
theorem ggX7_block_X7_isIn : GoodIn wsX7_block wsX7_isIn := goodIn_r _ [15] (by first | rfl | decide +kernel) (by decide +kernel)
set_option maxRecDepth 20000 in
theorem gX7_block_X7_isIn : GoodIn wsX7_block (va_wsS RX7 34 yX7_isIn wsX7_isIn) := goodIn_app (goodIn_of _ (by decide +kernel)) ggX7_block_X7_isIn
set_option maxRecDepth 20000 in
theorem ggX7_block_X7_ofBlock : GoodIn wsX7_block wsX7_ofBlock := goodIn_r _ [19, 8, 20, 21, 22, 23, 24] (by first | rfl | decide +kernel) (by decide +kernel)
set_option maxRecDepth 20000 in
theorem gX7_block_X7_ofBlock : GoodIn wsX7_block (wsV RX7 67 RX7 yX7_ofBlock wsX7_ofBlock) := goodIn_app (goodIn_of _ (by decide +kernel)) ggX7_block_X7_ofBlock
theorem dX7_block_0 : decode cX7_block 0 = .ok (.aload_n 0, 1) := by decide +kernel
theorem dX7_block_1 : decode cX7_block 1 = .ok (.aload_n 0, 1) := by decide +kernel
theorem dX7_block_2 : decode cX7_block 2 = .ok (.iload_n 1, 1) := by decide +kernel
theorem dX7_block_3 : decode cX7_block 3 = .ok (.invokevirtual 100, 3) := by decide +kernel
theorem dX7_block_6 : decode cX7_block 6 = .ok (.ifCond .ne 7, 3) := by decide +kernel
theorem dX7_block_9 : decode cX7_block 9 = .ok (.iconst 1, 1) := by decide +kernel
theorem dX7_block_10 : decode cX7_block 10 = .ok (.goto 20, 3) := by decide +kernel
theorem dX7_block_13 : decode cX7_block 13 = .ok (.iload_n 2, 1) := by decide +kernel
theorem dX7_block_14 : decode cX7_block 14 = .ok (.i2l, 1) := by decide +kernel
theorem dX7_block_15 : decode cX7_block 15 = .ok (.lconst 0, 1) := by decide +kernel
theorem dX7_block_16 : decode cX7_block 16 = .ok (.ldc2_w 153, 3) := by decide +kernel
theorem dX7_block_19 : decode cX7_block 19 = .ok (.invokestatic 34, 3) := by decide +kernel
theorem dX7_block_22 : decode cX7_block 22 = .ok (.ifCond .ne 7, 3) := by decide +kernel
theorem dX7_block_25 : decode cX7_block 25 = .ok (.iconst 2, 1) := by decide +kernel
theorem dX7_block_26 : decode cX7_block 26 = .ok (.goto 4, 3) := by decide +kernel
theorem dX7_block_29 : decode cX7_block 29 = .ok (.iconst 0, 1) := by decide +kernel
theorem dX7_block_30 : decode cX7_block 30 = .ok (.putfield 23, 3) := by decide +kernel
theorem dX7_block_33 : decode cX7_block 33 = .ok (.aload_n 0, 1) := by decide +kernel
theorem dX7_block_34 : decode cX7_block 34 = .ok (.getfield 23, 3) := by decide +kernel
theorem dX7_block_37 : decode cX7_block 37 = .ok (.ifCond .le 5, 3) := by decide +kernel
theorem dX7_block_40 : decode cX7_block 40 = .ok (.iconst 0, 1) := by decide +kernel
theorem dX7_block_41 : decode cX7_block 41 = .ok (.ireturn, 1) := by decide +kernel
theorem dX7_block_42 : decode cX7_block 42 = .ok (.aload_n 0, 1) := by decide +kernel
theorem dX7_block_43 : decode cX7_block 43 = .ok (.iload_n 1, 1) := by decide +kernel
theorem dX7_block_44 : decode cX7_block 44 = .ok (.iconst 0, 1) := by decide +kernel
theorem dX7_block_45 : decode cX7_block 45 = .ok (.invokevirtual 67, 3) := by decide +kernel
theorem dX7_block_48 : decode cX7_block 48 = .ok (.istore_n 3, 1) := by decide +kernel
theorem dX7_block_49 : decode cX7_block 49 = .ok (.iload_n 2, 1) := by decide +kernel
theorem dX7_block_50 : decode cX7_block 50 = .ok (.ifCond .ne 5, 3) := by decide +kernel
theorem dX7_block_53 : decode cX7_block 53 = .ok (.iload_n 3, 1) := by decide +kernel
theorem dX7_block_54 : decode cX7_block 54 = .ok (.ireturn, 1) := by decide +kernel
theorem dX7_block_55 : decode cX7_block 55 = .ok (.iload_n 2, 1) := by decide +kernel
theorem dX7_block_56 : decode cX7_block 56 = .ok (.iconst 4, 1) := by decide +kernel
theorem dX7_block_57 : decode cX7_block 57 = .ok (.if_icmp .ne 21, 3) := by decide +kernel
theorem dX7_block_60 : decode cX7_block 60 = .ok (.iload_n 3, 1) := by decide +kernel
theorem dX7_block_61 : decode cX7_block 61 = .ok (.iconst 3, 1) := by decide +kernel
theorem dX7_block_62 : decode cX7_block 62 = .ok (.if_icmp .ne 12, 3) := by decide +kernel
theorem dX7_block_65 : decode cX7_block 65 = .ok (.aload_n 0, 1) := by decide +kernel
theorem dX7_block_66 : decode cX7_block 66 = .ok (.iload_n 1, 1) := by decide +kernel
theorem dX7_block_67 : decode cX7_block 67 = .ok (.iconst 4, 1) := by decide +kernel
theorem dX7_block_68 : decode cX7_block 68 = .ok (.invokevirtual 67, 3) := by decide +kernel
theorem dX7_block_71 : decode cX7_block 71 = .ok (.goto 21, 3) := by decide +kernel
theorem dX7_block_74 : decode cX7_block 74 = .ok (.iconst (-1), 1) := by decide +kernel
theorem dX7_block_75 : decode cX7_block 75 = .ok (.goto 17, 3) := by decide +kernel
theorem dX7_block_78 : decode cX7_block 78 = .ok (.iload_n 3, 1) := by decide +kernel
theorem dX7_block_79 : decode cX7_block 79 = .ok (.ifCond .ne 7, 3) := by decide +kernel
theorem dX7_block_82 : decode cX7_block 82 = .ok (.iconst (-1), 1) := by decide +kernel
theorem dX7_block_83 : decode cX7_block 83 = .ok (.goto 9, 3) := by decide +kernel
theorem dX7_block_86 : decode cX7_block 86 = .ok (.aload_n 0, 1) := by decide +kernel
theorem dX7_block_87 : decode cX7_block 87 = .ok (.iload_n 1, 1) := by decide +kernel
theorem dX7_block_88 : decode cX7_block 88 = .ok (.iload_n 2, 1) := by decide +kernel
theorem dX7_block_89 : decode cX7_block 89 = .ok (.invokevirtual 67, 3) := by decide +kernel
theorem dX7_block_92 : decode cX7_block 92 = .ok (.ireturn, 1) := by decide +kernel
set_option maxRecDepth 20000 in
theorem ggX7_neededBy_X7_isBlock : GoodIn wsX7_neededBy wsX7_isBlock := goodIn_r _ [7, 8, 9, 10, 11, 6, 12, 13, 14, 15, 36, 37, 38, 39, 40] (by first | rfl | decide +kernel) (by decide +kernel)
set_option maxRecDepth 20000 in
theorem gX7_neededBy_X7_isBlock : GoodIn wsX7_neededBy (wsV RX7 100 RX7 yX7_isBlock wsX7_isBlock) := goodIn_app (goodIn_of _ (by decide +kernel)) ggX7_neededBy_X7_isBlock
set_option maxRecDepth 20000 in
theorem ggX7_neededBy_X7_snapshotsOf : GoodIn wsX7_neededBy wsX7_snapshotsOf := goodIn_r _ [19, 8, 20, 21, 22, 6, 23, 24, 25, 26, 27, 36, 37, 38, 39, 40] (by first | rfl | decide +kernel) (by decide +kernel)
set_option maxRecDepth 20000 in
theorem gX7_neededBy_X7_snapshotsOf : GoodIn wsX7_neededBy (wsV RX7 73 RX7 yX7_snapshotsOf wsX7_snapshotsOf) := goodIn_app (goodIn_of _ (by decide +kernel)) ggX7_neededBy_X7_snapshotsOf
set_option maxRecDepth 20000 in
theorem ggX7_neededBy_X7_ofBlock : GoodIn wsX7_neededBy wsX7_ofBlock := goodIn_r _ [23, 8, 36, 37, 38, 39, 40] (by first | rfl | decide +kernel) (by decide +kernel)
set_option maxRecDepth 20000 in
theorem gX7_neededBy_X7_ofBlock : GoodIn wsX7_neededBy (wsV RX7 67 RX7 yX7_ofBlock wsX7_ofBlock) := goodIn_app (goodIn_of _ (by decide +kernel)) ggX7_neededBy_X7_ofBlock
set_option maxRecDepth 20000 in
theorem ggX7_neededBy_X7_holds : GoodIn wsX7_neededBy wsX7_holds := goodIn_r _ [31, 32, 33, 34, 6, 35, 8, 36, 37, 38, 39, 40] (by first | rfl | decide +kernel) (by decide +kernel)
set_option maxRecDepth 20000 in
theorem gX7_neededBy_X7_holds : GoodIn wsX7_neededBy (wsV RX7 144 RX7 yX7_holds wsX7_holds) := goodIn_app (goodIn_of _ (by decide +kernel)) ggX7_neededBy_X7_holds
theorem dX7_neededBy_0 : decode cX7_neededBy 0 = .ok (.aload_n 0, 1) := by decide +kernel
theorem dX7_neededBy_1 : decode cX7_neededBy 1 = .ok (.aload_n 0, 1) := by decide +kernel
theorem dX7_neededBy_2 : decode cX7_neededBy 2 = .ok (.iload_n 1, 1) := by decide +kernel
theorem dX7_neededBy_3 : decode cX7_neededBy 3 = .ok (.invokevirtual 100, 3) := by decide +kernel
theorem dX7_neededBy_6 : decode cX7_neededBy 6 = .ok (.ifCond .eq 7, 3) := by decide +kernel
theorem dX7_neededBy_9 : decode cX7_neededBy 9 = .ok (.iconst 0, 1) := by decide +kernel
theorem dX7_neededBy_10 : decode cX7_neededBy 10 = .ok (.goto 4, 3) := by decide +kernel
theorem dX7_neededBy_13 : decode cX7_neededBy 13 = .ok (.iconst 1, 1) := by decide +kernel
theorem dX7_neededBy_14 : decode cX7_neededBy 14 = .ok (.putfield 23, 3) := by decide +kernel
theorem dX7_neededBy_17 : decode cX7_neededBy 17 = .ok (.aload_n 0, 1) := by decide +kernel
theorem dX7_neededBy_18 : decode cX7_neededBy 18 = .ok (.getfield 23, 3) := by decide +kernel
theorem dX7_neededBy_21 : decode cX7_neededBy 21 = .ok (.ifCond .le 5, 3) := by decide +kernel
theorem dX7_neededBy_24 : decode cX7_neededBy 24 = .ok (.iconst 0, 1) := by decide +kernel
theorem dX7_neededBy_25 : decode cX7_neededBy 25 = .ok (.ireturn, 1) := by decide +kernel
theorem dX7_neededBy_26 : decode cX7_neededBy 26 = .ok (.aload_n 0, 1) := by decide +kernel
theorem dX7_neededBy_27 : decode cX7_neededBy 27 = .ok (.iload_n 1, 1) := by decide +kernel
theorem dX7_neededBy_28 : decode cX7_neededBy 28 = .ok (.invokevirtual 73, 3) := by decide +kernel
theorem dX7_neededBy_31 : decode cX7_neededBy 31 = .ok (.bipush 8, 2) := by decide +kernel
theorem dX7_neededBy_33 : decode cX7_neededBy 33 = .ok (.ishl, 1) := by decide +kernel
theorem dX7_neededBy_34 : decode cX7_neededBy 34 = .ok (.aload_n 0, 1) := by decide +kernel
theorem dX7_neededBy_35 : decode cX7_neededBy 35 = .ok (.iload_n 1, 1) := by decide +kernel
theorem dX7_neededBy_36 : decode cX7_neededBy 36 = .ok (.iconst 0, 1) := by decide +kernel
theorem dX7_neededBy_37 : decode cX7_neededBy 37 = .ok (.invokevirtual 67, 3) := by decide +kernel
theorem dX7_neededBy_40 : decode cX7_neededBy 40 = .ok (.iconst 1, 1) := by decide +kernel
theorem dX7_neededBy_41 : decode cX7_neededBy 41 = .ok (.if_icmp .ne 8, 3) := by decide +kernel
theorem dX7_neededBy_44 : decode cX7_neededBy 44 = .ok (.ldc 190, 2) := by decide +kernel
theorem dX7_neededBy_46 : decode cX7_neededBy 46 = .ok (.goto 4, 3) := by decide +kernel
theorem dX7_neededBy_49 : decode cX7_neededBy 49 = .ok (.iconst 0, 1) := by decide +kernel
theorem dX7_neededBy_50 : decode cX7_neededBy 50 = .ok (.ior, 1) := by decide +kernel
theorem dX7_neededBy_51 : decode cX7_neededBy 51 = .ok (.istore_n 2, 1) := by decide +kernel
theorem dX7_neededBy_52 : decode cX7_neededBy 52 = .ok (.iconst 0, 1) := by decide +kernel
theorem dX7_neededBy_53 : decode cX7_neededBy 53 = .ok (.istore_n 3, 1) := by decide +kernel
theorem dX7_neededBy_54 : decode cX7_neededBy 54 = .ok (.iload_n 3, 1) := by decide +kernel
theorem dX7_neededBy_55 : decode cX7_neededBy 55 = .ok (.bipush 6, 2) := by decide +kernel
theorem dX7_neededBy_57 : decode cX7_neededBy 57 = .ok (.if_icmp .ge 28, 3) := by decide +kernel
theorem dX7_neededBy_60 : decode cX7_neededBy 60 = .ok (.iload_n 2, 1) := by decide +kernel
theorem dX7_neededBy_61 : decode cX7_neededBy 61 = .ok (.aload_n 0, 1) := by decide +kernel
theorem dX7_neededBy_62 : decode cX7_neededBy 62 = .ok (.iload_n 3, 1) := by decide +kernel
theorem dX7_neededBy_63 : decode cX7_neededBy 63 = .ok (.iload_n 1, 1) := by decide +kernel
theorem dX7_neededBy_64 : decode cX7_neededBy 64 = .ok (.invokevirtual 144, 3) := by decide +kernel
theorem dX7_neededBy_67 : decode cX7_neededBy 67 = .ok (.ifCond .eq 9, 3) := by decide +kernel
theorem dX7_neededBy_70 : decode cX7_neededBy 70 = .ok (.iconst 1, 1) := by decide +kernel
theorem dX7_neededBy_71 : decode cX7_neededBy 71 = .ok (.iload_n 3, 1) := by decide +kernel
theorem dX7_neededBy_72 : decode cX7_neededBy 72 = .ok (.ishl, 1) := by decide +kernel
theorem dX7_neededBy_73 : decode cX7_neededBy 73 = .ok (.goto 4, 3) := by decide +kernel
theorem dX7_neededBy_76 : decode cX7_neededBy 76 = .ok (.iconst 0, 1) := by decide +kernel
theorem dX7_neededBy_77 : decode cX7_neededBy 77 = .ok (.ior, 1) := by decide +kernel
theorem dX7_neededBy_78 : decode cX7_neededBy 78 = .ok (.istore_n 2, 1) := by decide +kernel
theorem dX7_neededBy_79 : decode cX7_neededBy 79 = .ok (.iinc 3 1, 3) := by decide +kernel
theorem dX7_neededBy_82 : decode cX7_neededBy 82 = .ok (.goto (-28), 3) := by decide +kernel
theorem dX7_neededBy_85 : decode cX7_neededBy 85 = .ok (.iload_n 2, 1) := by decide +kernel
theorem dX7_neededBy_86 : decode cX7_neededBy 86 = .ok (.ireturn, 1) := by decide +kernel
set_option maxRecDepth 20000 in
theorem ggX7_advancesFor_X7_ofBlock : GoodIn wsX7_advancesFor wsX7_ofBlock := goodIn_r _ [6, 1, 7, 8, 9, 10, 11] (by first | rfl | decide +kernel) (by decide +kernel)
set_option maxRecDepth 20000 in
theorem gX7_advancesFor_X7_ofBlock : GoodIn wsX7_advancesFor (wsV RX7 67 RX7 yX7_ofBlock wsX7_ofBlock) := goodIn_app (goodIn_of _ (by decide +kernel)) ggX7_advancesFor_X7_ofBlock
theorem dX7_advancesFor_0 : decode cX7_advancesFor 0 = .ok (.aload_n 0, 1) := by decide +kernel
theorem dX7_advancesFor_1 : decode cX7_advancesFor 1 = .ok (.iload_n 1, 1) := by decide +kernel
theorem dX7_advancesFor_2 : decode cX7_advancesFor 2 = .ok (.iconst 4, 1) := by decide +kernel
theorem dX7_advancesFor_3 : decode cX7_advancesFor 3 = .ok (.invokevirtual 67, 3) := by decide +kernel
theorem dX7_advancesFor_6 : decode cX7_advancesFor 6 = .ok (.iconst 2, 1) := by decide +kernel
theorem dX7_advancesFor_7 : decode cX7_advancesFor 7 = .ok (.iadd, 1) := by decide +kernel
theorem dX7_advancesFor_8 : decode cX7_advancesFor 8 = .ok (.aload_n 0, 1) := by decide +kernel
theorem dX7_advancesFor_9 : decode cX7_advancesFor 9 = .ok (.getfield 7, 3) := by decide +kernel
theorem dX7_advancesFor_12 : decode cX7_advancesFor 12 = .ok (.iconst 3, 1) := by decide +kernel
theorem dX7_advancesFor_13 : decode cX7_advancesFor 13 = .ok (.iaload, 1) := by decide +kernel
theorem dX7_advancesFor_14 : decode cX7_advancesFor 14 = .ok (.isub, 1) := by decide +kernel
theorem dX7_advancesFor_15 : decode cX7_advancesFor 15 = .ok (.istore_n 2, 1) := by decide +kernel
theorem dX7_advancesFor_16 : decode cX7_advancesFor 16 = .ok (.iload_n 2, 1) := by decide +kernel
theorem dX7_advancesFor_17 : decode cX7_advancesFor 17 = .ok (.ifCond .ge 7, 3) := by decide +kernel
theorem dX7_advancesFor_20 : decode cX7_advancesFor 20 = .ok (.iconst 0, 1) := by decide +kernel
theorem dX7_advancesFor_21 : decode cX7_advancesFor 21 = .ok (.goto 4, 3) := by decide +kernel
theorem dX7_advancesFor_24 : decode cX7_advancesFor 24 = .ok (.iload_n 2, 1) := by decide +kernel
theorem dX7_advancesFor_25 : decode cX7_advancesFor 25 = .ok (.ireturn, 1) := by decide +kernel
set_option maxRecDepth 20000 in
theorem ggX7_waiting_X7_isIn : GoodIn wsX7_waiting wsX7_isIn := goodIn_r _ [7] (by first | rfl | decide +kernel) (by decide +kernel)
set_option maxRecDepth 20000 in
theorem gX7_waiting_X7_isIn : GoodIn wsX7_waiting (va_wsS RX7 34 yX7_isIn wsX7_isIn) := goodIn_app (goodIn_of _ (by decide +kernel)) ggX7_waiting_X7_isIn
set_option maxRecDepth 20000 in
theorem ggX7_waiting_X7_isBlock : GoodIn wsX7_waiting wsX7_isBlock := goodIn_r _ [11, 3, 12, 13, 14, 6, 15, 4, 5, 7, 24, 25, 26, 27, 28] (by first | rfl | decide +kernel) (by decide +kernel)
set_option maxRecDepth 20000 in
theorem gX7_waiting_X7_isBlock : GoodIn wsX7_waiting (wsV RX7 100 RX7 yX7_isBlock wsX7_isBlock) := goodIn_app (goodIn_of _ (by decide +kernel)) ggX7_waiting_X7_isBlock
set_option maxRecDepth 20000 in
theorem ggX7_waiting_X7_ofBlock : GoodIn wsX7_waiting wsX7_ofBlock := goodIn_r _ [19, 3, 24, 25, 26, 27, 28] (by first | rfl | decide +kernel) (by decide +kernel)
set_option maxRecDepth 20000 in
theorem gX7_waiting_X7_ofBlock : GoodIn wsX7_waiting (wsV RX7 67 RX7 yX7_ofBlock wsX7_ofBlock) := goodIn_app (goodIn_of _ (by decide +kernel)) ggX7_waiting_X7_ofBlock
set_option maxRecDepth 20000 in
theorem ggX7_waiting_X7_advancesFor : GoodIn wsX7_waiting wsX7_advancesFor := goodIn_r _ [23, 3, 16, 17, 18, 6, 19, 24, 25, 26, 27, 28] (by first | rfl | decide +kernel) (by decide +kernel)
set_option maxRecDepth 20000 in
theorem gX7_waiting_X7_advancesFor : GoodIn wsX7_waiting (wsV RX7 167 RX7 yX7_advancesFor wsX7_advancesFor) := goodIn_app (goodIn_of _ (by decide +kernel)) ggX7_waiting_X7_advancesFor
theorem dX7_waiting_0 : decode cX7_waiting 0 = .ok (.aload_n 0, 1) := by decide +kernel
theorem dX7_waiting_1 : decode cX7_waiting 1 = .ok (.iload_n 1, 1) := by decide +kernel
theorem dX7_waiting_2 : decode cX7_waiting 2 = .ok (.i2l, 1) := by decide +kernel
theorem dX7_waiting_3 : decode cX7_waiting 3 = .ok (.lconst 0, 1) := by decide +kernel
theorem dX7_waiting_4 : decode cX7_waiting 4 = .ok (.ldc2_w 38, 3) := by decide +kernel
theorem dX7_waiting_7 : decode cX7_waiting 7 = .ok (.invokestatic 34, 3) := by decide +kernel
theorem dX7_waiting_10 : decode cX7_waiting 10 = .ok (.ifCond .eq 7, 3) := by decide +kernel
theorem dX7_waiting_13 : decode cX7_waiting 13 = .ok (.iconst 0, 1) := by decide +kernel
theorem dX7_waiting_14 : decode cX7_waiting 14 = .ok (.goto 4, 3) := by decide +kernel
theorem dX7_waiting_17 : decode cX7_waiting 17 = .ok (.iconst 1, 1) := by decide +kernel
theorem dX7_waiting_18 : decode cX7_waiting 18 = .ok (.putfield 23, 3) := by decide +kernel
theorem dX7_waiting_21 : decode cX7_waiting 21 = .ok (.aload_n 0, 1) := by decide +kernel
theorem dX7_waiting_22 : decode cX7_waiting 22 = .ok (.getfield 23, 3) := by decide +kernel
theorem dX7_waiting_25 : decode cX7_waiting 25 = .ok (.ifCond .le 5, 3) := by decide +kernel
theorem dX7_waiting_28 : decode cX7_waiting 28 = .ok (.iconst 0, 1) := by decide +kernel
theorem dX7_waiting_29 : decode cX7_waiting 29 = .ok (.ireturn, 1) := by decide +kernel
theorem dX7_waiting_30 : decode cX7_waiting 30 = .ok (.iconst 0, 1) := by decide +kernel
theorem dX7_waiting_31 : decode cX7_waiting 31 = .ok (.istore_n 2, 1) := by decide +kernel
theorem dX7_waiting_32 : decode cX7_waiting 32 = .ok (.iconst 0, 1) := by decide +kernel
theorem dX7_waiting_33 : decode cX7_waiting 33 = .ok (.istore_n 3, 1) := by decide +kernel
theorem dX7_waiting_34 : decode cX7_waiting 34 = .ok (.iload_n 3, 1) := by decide +kernel
theorem dX7_waiting_35 : decode cX7_waiting 35 = .ok (.bipush 16, 2) := by decide +kernel
theorem dX7_waiting_37 : decode cX7_waiting 37 = .ok (.aload_n 0, 1) := by decide +kernel
theorem dX7_waiting_38 : decode cX7_waiting 38 = .ok (.getfield 7, 3) := by decide +kernel
theorem dX7_waiting_41 : decode cX7_waiting 41 = .ok (.iconst 0, 1) := by decide +kernel
theorem dX7_waiting_42 : decode cX7_waiting 42 = .ok (.iaload, 1) := by decide +kernel
theorem dX7_waiting_43 : decode cX7_waiting 43 = .ok (.imul, 1) := by decide +kernel
theorem dX7_waiting_44 : decode cX7_waiting 44 = .ok (.if_icmp .ge 44, 3) := by decide +kernel
theorem dX7_waiting_47 : decode cX7_waiting 47 = .ok (.iload_n 2, 1) := by decide +kernel
theorem dX7_waiting_48 : decode cX7_waiting 48 = .ok (.aload_n 0, 1) := by decide +kernel
theorem dX7_waiting_49 : decode cX7_waiting 49 = .ok (.iload_n 3, 1) := by decide +kernel
theorem dX7_waiting_50 : decode cX7_waiting 50 = .ok (.invokevirtual 100, 3) := by decide +kernel
theorem dX7_waiting_53 : decode cX7_waiting 53 = .ok (.ifCond .eq 26, 3) := by decide +kernel
theorem dX7_waiting_56 : decode cX7_waiting 56 = .ok (.aload_n 0, 1) := by decide +kernel
theorem dX7_waiting_57 : decode cX7_waiting 57 = .ok (.iload_n 3, 1) := by decide +kernel
theorem dX7_waiting_58 : decode cX7_waiting 58 = .ok (.iconst 0, 1) := by decide +kernel
theorem dX7_waiting_59 : decode cX7_waiting 59 = .ok (.invokevirtual 67, 3) := by decide +kernel
theorem dX7_waiting_62 : decode cX7_waiting 62 = .ok (.iconst 3, 1) := by decide +kernel
theorem dX7_waiting_63 : decode cX7_waiting 63 = .ok (.if_icmp .ne 16, 3) := by decide +kernel
theorem dX7_waiting_66 : decode cX7_waiting 66 = .ok (.aload_n 0, 1) := by decide +kernel
theorem dX7_waiting_67 : decode cX7_waiting 67 = .ok (.iload_n 3, 1) := by decide +kernel
theorem dX7_waiting_68 : decode cX7_waiting 68 = .ok (.invokevirtual 167, 3) := by decide +kernel
theorem dX7_waiting_71 : decode cX7_waiting 71 = .ok (.iload_n 1, 1) := by decide +kernel
theorem dX7_waiting_72 : decode cX7_waiting 72 = .ok (.if_icmp .ne 7, 3) := by decide +kernel
theorem dX7_waiting_75 : decode cX7_waiting 75 = .ok (.iconst 1, 1) := by decide +kernel
theorem dX7_waiting_76 : decode cX7_waiting 76 = .ok (.goto 4, 3) := by decide +kernel
theorem dX7_waiting_79 : decode cX7_waiting 79 = .ok (.iconst 0, 1) := by decide +kernel
theorem dX7_waiting_80 : decode cX7_waiting 80 = .ok (.iadd, 1) := by decide +kernel
theorem dX7_waiting_81 : decode cX7_waiting 81 = .ok (.istore_n 2, 1) := by decide +kernel
theorem dX7_waiting_82 : decode cX7_waiting 82 = .ok (.iinc 3 1, 3) := by decide +kernel
theorem dX7_waiting_85 : decode cX7_waiting 85 = .ok (.goto (-51), 3) := by decide +kernel
theorem dX7_waiting_88 : decode cX7_waiting 88 = .ok (.iload_n 2, 1) := by decide +kernel
theorem dX7_waiting_89 : decode cX7_waiting 89 = .ok (.ireturn, 1) := by decide +kernel
set_option maxRecDepth 20000 in
theorem ggX7_reclaim_X7_keeps : GoodIn wsX7_reclaim wsX7_keeps := goodIn_r _ [6, 7, 8, 9, 53, 54, 55, 56, 57] (by first | rfl | decide +kernel) (by decide +kernel)
set_option maxRecDepth 20000 in
theorem gX7_reclaim_X7_keeps : GoodIn wsX7_reclaim (wsV RX7 44 RX7 yX7_keeps wsX7_keeps) := goodIn_app (goodIn_of _ (by decide +kernel)) ggX7_reclaim_X7_keeps
set_option maxRecDepth 20000 in
theorem ggX7_reclaim_X7_reclaims : GoodIn wsX7_reclaim wsX7_reclaims := goodIn_r _ [13, 9, 14, 15, 16, 5, 17, 18, 19, 20, 21, 22, 23, 24, 25, 26, 27, 28, 29, 30, 31, 32, 33, 34, 35, 36, 37, 38, 39, 40, 41, 42, 43, 44, 45, 46, 47, 48, 49, 50, 51, 52, 53, 54, 55, 56, 57] (by first | rfl | decide +kernel) (by decide +kernel)
set_option maxRecDepth 20000 in
theorem gX7_reclaim_X7_reclaims : GoodIn wsX7_reclaim (wsV RX7 191 RX7 yX7_reclaims wsX7_reclaims) := goodIn_app (goodIn_of _ (by decide +kernel)) ggX7_reclaim_X7_reclaims
theorem dX7_reclaim_0 : decode cX7_reclaim 0 = .ok (.aload_n 0, 1) := by decide +kernel
theorem dX7_reclaim_1 : decode cX7_reclaim 1 = .ok (.iconst 0, 1) := by decide +kernel
theorem dX7_reclaim_2 : decode cX7_reclaim 2 = .ok (.putfield 23, 3) := by decide +kernel
theorem dX7_reclaim_5 : decode cX7_reclaim 5 = .ok (.aload_n 0, 1) := by decide +kernel
theorem dX7_reclaim_6 : decode cX7_reclaim 6 = .ok (.invokevirtual 44, 3) := by decide +kernel
theorem dX7_reclaim_9 : decode cX7_reclaim 9 = .ok (.aload_n 0, 1) := by decide +kernel
theorem dX7_reclaim_10 : decode cX7_reclaim 10 = .ok (.invokevirtual 191, 3) := by decide +kernel
theorem dX7_reclaim_13 : decode cX7_reclaim 13 = .ok (.ireturn, 1) := by decide +kernel
set_option maxRecDepth 20000 in
theorem ggX7_reclaims_X7_isBlock : GoodIn wsX7_reclaims wsX7_isBlock := goodIn_r _ [6, 1, 7, 8, 9, 5, 10, 11, 12, 13, 42, 43, 44, 45, 46] (by first | rfl | decide +kernel) (by decide +kernel)
set_option maxRecDepth 20000 in
theorem gX7_reclaims_X7_isBlock : GoodIn wsX7_reclaims (wsV RX7 100 RX7 yX7_isBlock wsX7_isBlock) := goodIn_app (goodIn_of _ (by decide +kernel)) ggX7_reclaims_X7_isBlock
set_option maxRecDepth 20000 in
theorem ggX7_reclaims_X7_ofBlock : GoodIn wsX7_reclaims wsX7_ofBlock := goodIn_r _ [17, 1, 42, 43, 44, 45, 46] (by first | rfl | decide +kernel) (by decide +kernel)
set_option maxRecDepth 20000 in
theorem gX7_reclaims_X7_ofBlock : GoodIn wsX7_reclaims (wsV RX7 67 RX7 yX7_ofBlock wsX7_ofBlock) := goodIn_app (goodIn_of _ (by decide +kernel)) ggX7_reclaims_X7_ofBlock
set_option maxRecDepth 20000 in
theorem ggX7_reclaims_X7_advancesFor : GoodIn wsX7_reclaims wsX7_advancesFor := goodIn_r _ [21, 1, 14, 15, 16, 5, 17, 42, 43, 44, 45, 46] (by first | rfl | decide +kernel) (by decide +kernel)
set_option maxRecDepth 20000 in
theorem gX7_reclaims_X7_advancesFor : GoodIn wsX7_reclaims (wsV RX7 167 RX7 yX7_advancesFor wsX7_advancesFor) := goodIn_app (goodIn_of _ (by decide +kernel)) ggX7_reclaims_X7_advancesFor
set_option maxRecDepth 20000 in
theorem ggX7_reclaims_X7_setBlock : GoodIn wsX7_reclaims wsX7_setBlock := goodIn_r _ [25, 1, 42, 43, 44, 45, 46] (by first | rfl | decide +kernel) (by decide +kernel)
set_option maxRecDepth 20000 in
theorem gX7_reclaims_X7_setBlock : GoodIn wsX7_reclaims (wsV RX7 64 RX7 yX7_setBlock wsX7_setBlock) := goodIn_app (goodIn_of _ (by decide +kernel)) ggX7_reclaims_X7_setBlock
set_option maxRecDepth 20000 in
theorem ggX7_reclaims_X7_ofSegment : GoodIn wsX7_reclaims wsX7_ofSegment := goodIn_r _ [29, 1, 42, 43, 44, 45, 46] (by first | rfl | decide +kernel) (by decide +kernel)
set_option maxRecDepth 20000 in
theorem gX7_reclaims_X7_ofSegment : GoodIn wsX7_reclaims (wsV RX7 53 RX7 yX7_ofSegment wsX7_ofSegment) := goodIn_app (goodIn_of _ (by decide +kernel)) ggX7_reclaims_X7_ofSegment
set_option maxRecDepth 20000 in
theorem ggX7_reclaims_X7_inState : GoodIn wsX7_reclaims wsX7_inState := goodIn_r _ [33, 1, 14, 15, 16, 5, 17, 42, 43, 44, 45, 46] (by first | rfl | decide +kernel) (by decide +kernel)
set_option maxRecDepth 20000 in
theorem gX7_reclaims_X7_inState : GoodIn wsX7_reclaims (wsV RX7 178 RX7 yX7_inState wsX7_inState) := goodIn_app (goodIn_of _ (by decide +kernel)) ggX7_reclaims_X7_inState
set_option maxRecDepth 20000 in
theorem ggX7_reclaims_X7_erases : GoodIn wsX7_reclaims wsX7_erases := goodIn_r _ [37, 1, 22, 23, 24, 5, 25, 38, 39, 40, 41, 26, 27, 28, 29, 42, 43, 44, 45, 46] (by first | rfl | decide +kernel) (by decide +kernel)
set_option maxRecDepth 20000 in
theorem gX7_reclaims_X7_erases : GoodIn wsX7_reclaims (wsV RX7 194 RX7 yX7_erases wsX7_erases) := goodIn_app (goodIn_of _ (by decide +kernel)) ggX7_reclaims_X7_erases
theorem dX7_reclaims_0 : decode cX7_reclaims 0 = .ok (.iconst 0, 1) := by decide +kernel
theorem dX7_reclaims_1 : decode cX7_reclaims 1 = .ok (.istore_n 1, 1) := by decide +kernel
theorem dX7_reclaims_2 : decode cX7_reclaims 2 = .ok (.iconst 0, 1) := by decide +kernel
theorem dX7_reclaims_3 : decode cX7_reclaims 3 = .ok (.istore_n 2, 1) := by decide +kernel
theorem dX7_reclaims_4 : decode cX7_reclaims 4 = .ok (.iload_n 2, 1) := by decide +kernel
theorem dX7_reclaims_5 : decode cX7_reclaims 5 = .ok (.bipush 16, 2) := by decide +kernel
theorem dX7_reclaims_7 : decode cX7_reclaims 7 = .ok (.aload_n 0, 1) := by decide +kernel
theorem dX7_reclaims_8 : decode cX7_reclaims 8 = .ok (.getfield 7, 3) := by decide +kernel
theorem dX7_reclaims_11 : decode cX7_reclaims 11 = .ok (.iconst 0, 1) := by decide +kernel
theorem dX7_reclaims_12 : decode cX7_reclaims 12 = .ok (.iaload, 1) := by decide +kernel
theorem dX7_reclaims_13 : decode cX7_reclaims 13 = .ok (.imul, 1) := by decide +kernel
theorem dX7_reclaims_14 : decode cX7_reclaims 14 = .ok (.if_icmp .ge 48, 3) := by decide +kernel
theorem dX7_reclaims_17 : decode cX7_reclaims 17 = .ok (.aload_n 0, 1) := by decide +kernel
theorem dX7_reclaims_18 : decode cX7_reclaims 18 = .ok (.iload_n 2, 1) := by decide +kernel
theorem dX7_reclaims_19 : decode cX7_reclaims 19 = .ok (.invokevirtual 100, 3) := by decide +kernel
theorem dX7_reclaims_22 : decode cX7_reclaims 22 = .ok (.ifCond .eq 34, 3) := by decide +kernel
theorem dX7_reclaims_25 : decode cX7_reclaims 25 = .ok (.aload_n 0, 1) := by decide +kernel
theorem dX7_reclaims_26 : decode cX7_reclaims 26 = .ok (.iload_n 2, 1) := by decide +kernel
theorem dX7_reclaims_27 : decode cX7_reclaims 27 = .ok (.iconst 0, 1) := by decide +kernel
theorem dX7_reclaims_28 : decode cX7_reclaims 28 = .ok (.invokevirtual 67, 3) := by decide +kernel
theorem dX7_reclaims_31 : decode cX7_reclaims 31 = .ok (.iconst 3, 1) := by decide +kernel
theorem dX7_reclaims_32 : decode cX7_reclaims 32 = .ok (.if_icmp .ne 24, 3) := by decide +kernel
theorem dX7_reclaims_35 : decode cX7_reclaims 35 = .ok (.aload_n 0, 1) := by decide +kernel
theorem dX7_reclaims_36 : decode cX7_reclaims 36 = .ok (.iload_n 2, 1) := by decide +kernel
theorem dX7_reclaims_37 : decode cX7_reclaims 37 = .ok (.invokevirtual 167, 3) := by decide +kernel
theorem dX7_reclaims_40 : decode cX7_reclaims 40 = .ok (.ifCond .le 6, 3) := by decide +kernel
theorem dX7_reclaims_43 : decode cX7_reclaims 43 = .ok (.goto 13, 3) := by decide +kernel
theorem dX7_reclaims_46 : decode cX7_reclaims 46 = .ok (.aload_n 0, 1) := by decide +kernel
theorem dX7_reclaims_47 : decode cX7_reclaims 47 = .ok (.iload_n 2, 1) := by decide +kernel
theorem dX7_reclaims_48 : decode cX7_reclaims 48 = .ok (.iconst 0, 1) := by decide +kernel
theorem dX7_reclaims_49 : decode cX7_reclaims 49 = .ok (.iconst 4, 1) := by decide +kernel
theorem dX7_reclaims_50 : decode cX7_reclaims 50 = .ok (.invokevirtual 64, 3) := by decide +kernel
theorem dX7_reclaims_53 : decode cX7_reclaims 53 = .ok (.iinc 1 1, 3) := by decide +kernel
theorem dX7_reclaims_56 : decode cX7_reclaims 56 = .ok (.iinc 2 1, 3) := by decide +kernel
theorem dX7_reclaims_59 : decode cX7_reclaims 59 = .ok (.goto (-55), 3) := by decide +kernel
theorem dX7_reclaims_62 : decode cX7_reclaims 62 = .ok (.iconst 0, 1) := by decide +kernel
theorem dX7_reclaims_63 : decode cX7_reclaims 63 = .ok (.istore_n 2, 1) := by decide +kernel
theorem dX7_reclaims_64 : decode cX7_reclaims 64 = .ok (.iload_n 2, 1) := by decide +kernel
theorem dX7_reclaims_65 : decode cX7_reclaims 65 = .ok (.aload_n 0, 1) := by decide +kernel
theorem dX7_reclaims_66 : decode cX7_reclaims 66 = .ok (.getfield 7, 3) := by decide +kernel
theorem dX7_reclaims_69 : decode cX7_reclaims 69 = .ok (.iconst 0, 1) := by decide +kernel
theorem dX7_reclaims_70 : decode cX7_reclaims 70 = .ok (.iaload, 1) := by decide +kernel
theorem dX7_reclaims_71 : decode cX7_reclaims 71 = .ok (.if_icmp .ge 39, 3) := by decide +kernel
theorem dX7_reclaims_74 : decode cX7_reclaims 74 = .ok (.aload_n 0, 1) := by decide +kernel
theorem dX7_reclaims_75 : decode cX7_reclaims 75 = .ok (.iload_n 2, 1) := by decide +kernel
theorem dX7_reclaims_76 : decode cX7_reclaims 76 = .ok (.iconst 0, 1) := by decide +kernel
theorem dX7_reclaims_77 : decode cX7_reclaims 77 = .ok (.invokevirtual 53, 3) := by decide +kernel
theorem dX7_reclaims_80 : decode cX7_reclaims 80 = .ok (.iconst 2, 1) := by decide +kernel
theorem dX7_reclaims_81 : decode cX7_reclaims 81 = .ok (.if_icmp .ne 23, 3) := by decide +kernel
theorem dX7_reclaims_84 : decode cX7_reclaims 84 = .ok (.aload_n 0, 1) := by decide +kernel
theorem dX7_reclaims_85 : decode cX7_reclaims 85 = .ok (.iload_n 2, 1) := by decide +kernel
theorem dX7_reclaims_86 : decode cX7_reclaims 86 = .ok (.iconst 4, 1) := by decide +kernel
theorem dX7_reclaims_87 : decode cX7_reclaims 87 = .ok (.invokevirtual 178, 3) := by decide +kernel
theorem dX7_reclaims_90 : decode cX7_reclaims 90 = .ok (.aload_n 0, 1) := by decide +kernel
theorem dX7_reclaims_91 : decode cX7_reclaims 91 = .ok (.getfield 7, 3) := by decide +kernel
theorem dX7_reclaims_94 : decode cX7_reclaims 94 = .ok (.iconst 1, 1) := by decide +kernel
theorem dX7_reclaims_95 : decode cX7_reclaims 95 = .ok (.iaload, 1) := by decide +kernel
theorem dX7_reclaims_96 : decode cX7_reclaims 96 = .ok (.if_icmp .ne 8, 3) := by decide +kernel
theorem dX7_reclaims_99 : decode cX7_reclaims 99 = .ok (.aload_n 0, 1) := by decide +kernel
theorem dX7_reclaims_100 : decode cX7_reclaims 100 = .ok (.iload_n 2, 1) := by decide +kernel
theorem dX7_reclaims_101 : decode cX7_reclaims 101 = .ok (.invokevirtual 194, 3) := by decide +kernel
theorem dX7_reclaims_104 : decode cX7_reclaims 104 = .ok (.iinc 2 1, 3) := by decide +kernel
theorem dX7_reclaims_107 : decode cX7_reclaims 107 = .ok (.goto (-43), 3) := by decide +kernel
theorem dX7_reclaims_110 : decode cX7_reclaims 110 = .ok (.iload_n 1, 1) := by decide +kernel
theorem dX7_reclaims_111 : decode cX7_reclaims 111 = .ok (.ireturn, 1) := by decide +kernel
set_option maxRecDepth 20000 in
theorem ggX7_erases_X7_setBlock : GoodIn wsX7_erases wsX7_setBlock := goodIn_r _ [6, 1, 15, 16, 17, 18, 19] (by first | rfl | decide +kernel) (by decide +kernel)
set_option maxRecDepth 20000 in
theorem gX7_erases_X7_setBlock : GoodIn wsX7_erases (wsV RX7 64 RX7 yX7_setBlock wsX7_setBlock) := goodIn_app (goodIn_of _ (by decide +kernel)) ggX7_erases_X7_setBlock
set_option maxRecDepth 20000 in
theorem ggX7_erases_X7_setSegment : GoodIn wsX7_erases wsX7_setSegment := goodIn_r _ [10, 1, 15, 16, 17, 18, 19] (by first | rfl | decide +kernel) (by decide +kernel)
set_option maxRecDepth 20000 in
theorem gX7_erases_X7_setSegment : GoodIn wsX7_erases (wsV RX7 61 RX7 yX7_setSegment wsX7_setSegment) := goodIn_app (goodIn_of _ (by decide +kernel)) ggX7_erases_X7_setSegment
set_option maxRecDepth 20000 in
theorem ggX7_erases_X7_ofSegment : GoodIn wsX7_erases wsX7_ofSegment := goodIn_r _ [14, 1, 15, 16, 17, 18, 19] (by first | rfl | decide +kernel) (by decide +kernel)
set_option maxRecDepth 20000 in
theorem gX7_erases_X7_ofSegment : GoodIn wsX7_erases (wsV RX7 53 RX7 yX7_ofSegment wsX7_ofSegment) := goodIn_app (goodIn_of _ (by decide +kernel)) ggX7_erases_X7_ofSegment
theorem dX7_erases_0 : decode cX7_erases 0 = .ok (.bipush 16, 2) := by decide +kernel
theorem dX7_erases_2 : decode cX7_erases 2 = .ok (.iload_n 1, 1) := by decide +kernel
theorem dX7_erases_3 : decode cX7_erases 3 = .ok (.imul, 1) := by decide +kernel
theorem dX7_erases_4 : decode cX7_erases 4 = .ok (.istore_n 2, 1) := by decide +kernel
theorem dX7_erases_5 : decode cX7_erases 5 = .ok (.iload_n 2, 1) := by decide +kernel
theorem dX7_erases_6 : decode cX7_erases 6 = .ok (.bipush 16, 2) := by decide +kernel
theorem dX7_erases_8 : decode cX7_erases 8 = .ok (.iload_n 1, 1) := by decide +kernel
theorem dX7_erases_9 : decode cX7_erases 9 = .ok (.imul, 1) := by decide +kernel
theorem dX7_erases_10 : decode cX7_erases 10 = .ok (.aload_n 0, 1) := by decide +kernel
theorem dX7_erases_11 : decode cX7_erases 11 = .ok (.getfield 7, 3) := by decide +kernel
theorem dX7_erases_14 : decode cX7_erases 14 = .ok (.iconst 1, 1) := by decide +kernel
theorem dX7_erases_15 : decode cX7_erases 15 = .ok (.iaload, 1) := by decide +kernel
theorem dX7_erases_16 : decode cX7_erases 16 = .ok (.iadd, 1) := by decide +kernel
theorem dX7_erases_17 : decode cX7_erases 17 = .ok (.if_icmp .ge 16, 3) := by decide +kernel
theorem dX7_erases_20 : decode cX7_erases 20 = .ok (.aload_n 0, 1) := by decide +kernel
theorem dX7_erases_21 : decode cX7_erases 21 = .ok (.iload_n 2, 1) := by decide +kernel
theorem dX7_erases_22 : decode cX7_erases 22 = .ok (.iconst 0, 1) := by decide +kernel
theorem dX7_erases_23 : decode cX7_erases 23 = .ok (.iconst 0, 1) := by decide +kernel
theorem dX7_erases_24 : decode cX7_erases 24 = .ok (.invokevirtual 64, 3) := by decide +kernel
theorem dX7_erases_27 : decode cX7_erases 27 = .ok (.iinc 2 1, 3) := by decide +kernel
theorem dX7_erases_30 : decode cX7_erases 30 = .ok (.goto (-25), 3) := by decide +kernel
theorem dX7_erases_33 : decode cX7_erases 33 = .ok (.aload_n 0, 1) := by decide +kernel
theorem dX7_erases_34 : decode cX7_erases 34 = .ok (.iload_n 1, 1) := by decide +kernel
theorem dX7_erases_35 : decode cX7_erases 35 = .ok (.iconst 0, 1) := by decide +kernel
theorem dX7_erases_36 : decode cX7_erases 36 = .ok (.iconst 0, 1) := by decide +kernel
theorem dX7_erases_37 : decode cX7_erases 37 = .ok (.invokevirtual 61, 3) := by decide +kernel
theorem dX7_erases_40 : decode cX7_erases 40 = .ok (.aload_n 0, 1) := by decide +kernel
theorem dX7_erases_41 : decode cX7_erases 41 = .ok (.iload_n 1, 1) := by decide +kernel
theorem dX7_erases_42 : decode cX7_erases 42 = .ok (.iconst 1, 1) := by decide +kernel
theorem dX7_erases_43 : decode cX7_erases 43 = .ok (.iconst 0, 1) := by decide +kernel
theorem dX7_erases_44 : decode cX7_erases 44 = .ok (.invokevirtual 61, 3) := by decide +kernel
theorem dX7_erases_47 : decode cX7_erases 47 = .ok (.aload_n 0, 1) := by decide +kernel
theorem dX7_erases_48 : decode cX7_erases 48 = .ok (.iload_n 1, 1) := by decide +kernel
theorem dX7_erases_49 : decode cX7_erases 49 = .ok (.iconst 2, 1) := by decide +kernel
theorem dX7_erases_50 : decode cX7_erases 50 = .ok (.aload_n 0, 1) := by decide +kernel
theorem dX7_erases_51 : decode cX7_erases 51 = .ok (.iload_n 1, 1) := by decide +kernel
theorem dX7_erases_52 : decode cX7_erases 52 = .ok (.iconst 2, 1) := by decide +kernel
theorem dX7_erases_53 : decode cX7_erases 53 = .ok (.invokevirtual 53, 3) := by decide +kernel
theorem dX7_erases_56 : decode cX7_erases 56 = .ok (.iconst 1, 1) := by decide +kernel
theorem dX7_erases_57 : decode cX7_erases 57 = .ok (.iadd, 1) := by decide +kernel
theorem dX7_erases_58 : decode cX7_erases 58 = .ok (.invokevirtual 61, 3) := by decide +kernel
theorem dX7_erases_61 : decode cX7_erases 61 = .ok (.return_, 1) := by decide +kernel
set_option maxRecDepth 20000 in
theorem ggX7_isGone_X7_ofSegment : GoodIn wsX7_isGone wsX7_ofSegment := goodIn_r _ [6, 1, 23, 24, 25, 26, 27] (by first | rfl | decide +kernel) (by decide +kernel)
set_option maxRecDepth 20000 in
theorem gX7_isGone_X7_ofSegment : GoodIn wsX7_isGone (wsV RX7 53 RX7 yX7_ofSegment wsX7_ofSegment) := goodIn_app (goodIn_of _ (by decide +kernel)) ggX7_isGone_X7_ofSegment
set_option maxRecDepth 20000 in
theorem ggX7_isGone_X7_useOf : GoodIn wsX7_isGone wsX7_useOf := goodIn_r _ [10, 11, 12, 13, 5, 14, 1, 15, 16, 17, 18, 23, 24, 25, 26, 27] (by first | rfl | decide +kernel) (by decide +kernel)
set_option maxRecDepth 20000 in
theorem gX7_isGone_X7_useOf : GoodIn wsX7_isGone (wsV RX7 184 RX7 yX7_useOf wsX7_useOf) := goodIn_app (goodIn_of _ (by decide +kernel)) ggX7_isGone_X7_useOf
set_option maxRecDepth 20000 in
theorem ggX7_isGone_X7_ofBlock : GoodIn wsX7_isGone wsX7_ofBlock := goodIn_r _ [18, 1, 23, 24, 25, 26, 27] (by first | rfl | decide +kernel) (by decide +kernel)
set_option maxRecDepth 20000 in
theorem gX7_isGone_X7_ofBlock : GoodIn wsX7_isGone (wsV RX7 67 RX7 yX7_ofBlock wsX7_ofBlock) := goodIn_app (goodIn_of _ (by decide +kernel)) ggX7_isGone_X7_ofBlock
set_option maxRecDepth 20000 in
theorem ggX7_isGone_X7_advancesFor : GoodIn wsX7_isGone wsX7_advancesFor := goodIn_r _ [22, 1, 15, 16, 17, 5, 18, 23, 24, 25, 26, 27] (by first | rfl | decide +kernel) (by decide +kernel)
set_option maxRecDepth 20000 in
theorem gX7_isGone_X7_advancesFor : GoodIn wsX7_isGone (wsV RX7 167 RX7 yX7_advancesFor wsX7_advancesFor) := goodIn_app (goodIn_of _ (by decide +kernel)) ggX7_isGone_X7_advancesFor
theorem dX7_isGone_0 : decode cX7_isGone 0 = .ok (.aload_n 0, 1) := by decide +kernel
theorem dX7_isGone_1 : decode cX7_isGone 1 = .ok (.iload_n 1, 1) := by decide +kernel
theorem dX7_isGone_2 : decode cX7_isGone 2 = .ok (.iconst 0, 1) := by decide +kernel
theorem dX7_isGone_3 : decode cX7_isGone 3 = .ok (.invokevirtual 53, 3) := by decide +kernel
theorem dX7_isGone_6 : decode cX7_isGone 6 = .ok (.iconst 2, 1) := by decide +kernel
theorem dX7_isGone_7 : decode cX7_isGone 7 = .ok (.if_icmp .ne 15, 3) := by decide +kernel
theorem dX7_isGone_10 : decode cX7_isGone 10 = .ok (.aload_n 0, 1) := by decide +kernel
theorem dX7_isGone_11 : decode cX7_isGone 11 = .ok (.iload_n 1, 1) := by decide +kernel
theorem dX7_isGone_12 : decode cX7_isGone 12 = .ok (.invokevirtual 184, 3) := by decide +kernel
theorem dX7_isGone_15 : decode cX7_isGone 15 = .ok (.ifCond .ne 7, 3) := by decide +kernel
theorem dX7_isGone_18 : decode cX7_isGone 18 = .ok (.iconst 1, 1) := by decide +kernel
theorem dX7_isGone_19 : decode cX7_isGone 19 = .ok (.goto 4, 3) := by decide +kernel
theorem dX7_isGone_22 : decode cX7_isGone 22 = .ok (.iconst 0, 1) := by decide +kernel
theorem dX7_isGone_23 : decode cX7_isGone 23 = .ok (.istore_n 3, 1) := by decide +kernel
theorem dX7_isGone_24 : decode cX7_isGone 24 = .ok (.bipush 16, 2) := by decide +kernel
theorem dX7_isGone_26 : decode cX7_isGone 26 = .ok (.iload_n 1, 1) := by decide +kernel
theorem dX7_isGone_27 : decode cX7_isGone 27 = .ok (.imul, 1) := by decide +kernel
theorem dX7_isGone_28 : decode cX7_isGone 28 = .ok (.istore 4, 2) := by decide +kernel
theorem dX7_isGone_30 : decode cX7_isGone 30 = .ok (.iload 4, 2) := by decide +kernel
theorem dX7_isGone_32 : decode cX7_isGone 32 = .ok (.bipush 16, 2) := by decide +kernel
theorem dX7_isGone_34 : decode cX7_isGone 34 = .ok (.iload_n 1, 1) := by decide +kernel
theorem dX7_isGone_35 : decode cX7_isGone 35 = .ok (.imul, 1) := by decide +kernel
theorem dX7_isGone_36 : decode cX7_isGone 36 = .ok (.aload_n 0, 1) := by decide +kernel
theorem dX7_isGone_37 : decode cX7_isGone 37 = .ok (.getfield 7, 3) := by decide +kernel
theorem dX7_isGone_40 : decode cX7_isGone 40 = .ok (.iconst 1, 1) := by decide +kernel
theorem dX7_isGone_41 : decode cX7_isGone 41 = .ok (.iaload, 1) := by decide +kernel
theorem dX7_isGone_42 : decode cX7_isGone 42 = .ok (.iadd, 1) := by decide +kernel
theorem dX7_isGone_43 : decode cX7_isGone 43 = .ok (.if_icmp .ge 40, 3) := by decide +kernel
theorem dX7_isGone_46 : decode cX7_isGone 46 = .ok (.iload_n 3, 1) := by decide +kernel
theorem dX7_isGone_47 : decode cX7_isGone 47 = .ok (.ifCond .eq 36, 3) := by decide +kernel
theorem dX7_isGone_50 : decode cX7_isGone 50 = .ok (.aload_n 0, 1) := by decide +kernel
theorem dX7_isGone_51 : decode cX7_isGone 51 = .ok (.iload 4, 2) := by decide +kernel
theorem dX7_isGone_53 : decode cX7_isGone 53 = .ok (.iconst 0, 1) := by decide +kernel
theorem dX7_isGone_54 : decode cX7_isGone 54 = .ok (.invokevirtual 67, 3) := by decide +kernel
theorem dX7_isGone_57 : decode cX7_isGone 57 = .ok (.iconst 4, 1) := by decide +kernel
theorem dX7_isGone_58 : decode cX7_isGone 58 = .ok (.if_icmp .eq 13, 3) := by decide +kernel
theorem dX7_isGone_61 : decode cX7_isGone 61 = .ok (.aload_n 0, 1) := by decide +kernel
theorem dX7_isGone_62 : decode cX7_isGone 62 = .ok (.iload 4, 2) := by decide +kernel
theorem dX7_isGone_64 : decode cX7_isGone 64 = .ok (.invokevirtual 167, 3) := by decide +kernel
theorem dX7_isGone_67 : decode cX7_isGone 67 = .ok (.iload_n 2, 1) := by decide +kernel
theorem dX7_isGone_68 : decode cX7_isGone 68 = .ok (.if_icmp .gt 7, 3) := by decide +kernel
theorem dX7_isGone_71 : decode cX7_isGone 71 = .ok (.iconst 1, 1) := by decide +kernel
theorem dX7_isGone_72 : decode cX7_isGone 72 = .ok (.goto 4, 3) := by decide +kernel
theorem dX7_isGone_75 : decode cX7_isGone 75 = .ok (.iconst 0, 1) := by decide +kernel
theorem dX7_isGone_76 : decode cX7_isGone 76 = .ok (.istore_n 3, 1) := by decide +kernel
theorem dX7_isGone_77 : decode cX7_isGone 77 = .ok (.iinc 4 1, 3) := by decide +kernel
theorem dX7_isGone_80 : decode cX7_isGone 80 = .ok (.goto (-50), 3) := by decide +kernel
theorem dX7_isGone_83 : decode cX7_isGone 83 = .ok (.iload_n 3, 1) := by decide +kernel
theorem dX7_isGone_84 : decode cX7_isGone 84 = .ok (.ireturn, 1) := by decide +kernel
set_option maxRecDepth 20000 in
theorem ggX7_goneMany_X7_isGone : GoodIn wsX7_goneMany wsX7_isGone := goodIn_r _ [6, 1, 7, 8, 9, 5, 10, 11, 12, 13, 14, 15, 16, 17, 18, 19, 20, 21, 22, 23, 24, 25, 26, 27, 28, 29, 30, 31] (by first | rfl | decide +kernel) (by decide +kernel)
set_option maxRecDepth 20000 in
theorem gX7_goneMany_X7_isGone : GoodIn wsX7_goneMany (wsV RX7 197 RX7 yX7_isGone wsX7_isGone) := goodIn_app (goodIn_of _ (by decide +kernel)) ggX7_goneMany_X7_isGone
theorem dX7_goneMany_0 : decode cX7_goneMany 0 = .ok (.iconst 0, 1) := by decide +kernel
theorem dX7_goneMany_1 : decode cX7_goneMany 1 = .ok (.istore_n 2, 1) := by decide +kernel
theorem dX7_goneMany_2 : decode cX7_goneMany 2 = .ok (.iconst 0, 1) := by decide +kernel
theorem dX7_goneMany_3 : decode cX7_goneMany 3 = .ok (.istore_n 3, 1) := by decide +kernel
theorem dX7_goneMany_4 : decode cX7_goneMany 4 = .ok (.iload_n 3, 1) := by decide +kernel
theorem dX7_goneMany_5 : decode cX7_goneMany 5 = .ok (.aload_n 0, 1) := by decide +kernel
theorem dX7_goneMany_6 : decode cX7_goneMany 6 = .ok (.getfield 7, 3) := by decide +kernel
theorem dX7_goneMany_9 : decode cX7_goneMany 9 = .ok (.iconst 0, 1) := by decide +kernel
theorem dX7_goneMany_10 : decode cX7_goneMany 10 = .ok (.iaload, 1) := by decide +kernel
theorem dX7_goneMany_11 : decode cX7_goneMany 11 = .ok (.if_icmp .ge 26, 3) := by decide +kernel
theorem dX7_goneMany_14 : decode cX7_goneMany 14 = .ok (.iload_n 2, 1) := by decide +kernel
theorem dX7_goneMany_15 : decode cX7_goneMany 15 = .ok (.aload_n 0, 1) := by decide +kernel
theorem dX7_goneMany_16 : decode cX7_goneMany 16 = .ok (.iload_n 3, 1) := by decide +kernel
theorem dX7_goneMany_17 : decode cX7_goneMany 17 = .ok (.iload_n 1, 1) := by decide +kernel
theorem dX7_goneMany_18 : decode cX7_goneMany 18 = .ok (.invokevirtual 197, 3) := by decide +kernel
theorem dX7_goneMany_21 : decode cX7_goneMany 21 = .ok (.ifCond .eq 7, 3) := by decide +kernel
theorem dX7_goneMany_24 : decode cX7_goneMany 24 = .ok (.iconst 1, 1) := by decide +kernel
theorem dX7_goneMany_25 : decode cX7_goneMany 25 = .ok (.goto 4, 3) := by decide +kernel
theorem dX7_goneMany_28 : decode cX7_goneMany 28 = .ok (.iconst 0, 1) := by decide +kernel
theorem dX7_goneMany_29 : decode cX7_goneMany 29 = .ok (.iadd, 1) := by decide +kernel
theorem dX7_goneMany_30 : decode cX7_goneMany 30 = .ok (.istore_n 2, 1) := by decide +kernel
theorem dX7_goneMany_31 : decode cX7_goneMany 31 = .ok (.iinc 3 1, 3) := by decide +kernel
theorem dX7_goneMany_34 : decode cX7_goneMany 34 = .ok (.goto (-30), 3) := by decide +kernel
theorem dX7_goneMany_37 : decode cX7_goneMany 37 = .ok (.iload_n 2, 1) := by decide +kernel
theorem dX7_goneMany_38 : decode cX7_goneMany 38 = .ok (.ireturn, 1) := by decide +kernel
set_option maxRecDepth 20000 in
theorem ggX7_wouldErase_X7_goneMany : GoodIn wsX7_wouldErase wsX7_goneMany := goodIn_r _ [6, 7, 8, 9, 10, 5, 11, 12, 13, 14, 15, 16, 17, 18, 19, 20, 21, 22, 23, 24, 25, 26, 27, 28, 29, 30, 31, 32, 33, 34, 35, 36] (by first | rfl | decide +kernel) (by decide +kernel)
set_option maxRecDepth 20000 in
theorem gX7_wouldErase_X7_goneMany : GoodIn wsX7_wouldErase (wsV RX7 200 RX7 yX7_goneMany wsX7_goneMany) := goodIn_app (goodIn_of _ (by decide +kernel)) ggX7_wouldErase_X7_goneMany
theorem dX7_wouldErase_0 : decode cX7_wouldErase 0 = .ok (.aload_n 0, 1) := by decide +kernel
theorem dX7_wouldErase_1 : decode cX7_wouldErase 1 = .ok (.iconst 0, 1) := by decide +kernel
theorem dX7_wouldErase_2 : decode cX7_wouldErase 2 = .ok (.putfield 23, 3) := by decide +kernel
theorem dX7_wouldErase_5 : decode cX7_wouldErase 5 = .ok (.aload_n 0, 1) := by decide +kernel
theorem dX7_wouldErase_6 : decode cX7_wouldErase 6 = .ok (.iconst 0, 1) := by decide +kernel
theorem dX7_wouldErase_7 : decode cX7_wouldErase 7 = .ok (.invokevirtual 200, 3) := by decide +kernel
theorem dX7_wouldErase_10 : decode cX7_wouldErase 10 = .ok (.ireturn, 1) := by decide +kernel
set_option maxRecDepth 20000 in
theorem ggX7_moves_X7_ofBlock : GoodIn wsX7_moves wsX7_ofBlock := goodIn_r _ [6, 1, 39, 40, 41, 42, 43] (by first | rfl | decide +kernel) (by decide +kernel)
set_option maxRecDepth 20000 in
theorem gX7_moves_X7_ofBlock : GoodIn wsX7_moves (wsV RX7 67 RX7 yX7_ofBlock wsX7_ofBlock) := goodIn_app (goodIn_of _ (by decide +kernel)) ggX7_moves_X7_ofBlock
set_option maxRecDepth 20000 in
theorem ggX7_moves_X7_snapshotsOf : GoodIn wsX7_moves wsX7_snapshotsOf := goodIn_r _ [10, 1, 2, 3, 4, 5, 6, 11, 12, 13, 14, 39, 40, 41, 42, 43] (by first | rfl | decide +kernel) (by decide +kernel)
set_option maxRecDepth 20000 in
theorem gX7_moves_X7_snapshotsOf : GoodIn wsX7_moves (wsV RX7 73 RX7 yX7_snapshotsOf wsX7_snapshotsOf) := goodIn_app (goodIn_of _ (by decide +kernel)) ggX7_moves_X7_snapshotsOf
set_option maxRecDepth 20000 in
theorem ggX7_moves_X7_appends : GoodIn wsX7_moves wsX7_appends := goodIn_r _ [18, 1, 19, 20, 21, 5, 22, 23, 24, 25, 26, 27, 28, 29, 30, 31, 32, 33, 34, 39, 40, 41, 42, 43] (by first | rfl | decide +kernel) (by decide +kernel)
set_option maxRecDepth 20000 in
theorem gX7_moves_X7_appends : GoodIn wsX7_moves (wsV RX7 87 RX7 yX7_appends wsX7_appends) := goodIn_app (goodIn_of _ (by decide +kernel)) ggX7_moves_X7_appends
set_option maxRecDepth 20000 in
theorem ggX7_moves_X7_waits : GoodIn wsX7_moves wsX7_waits := goodIn_r _ [38, 1, 31, 32, 33, 5, 34, 39, 40, 41, 42, 43] (by first | rfl | decide +kernel) (by decide +kernel)
set_option maxRecDepth 20000 in
theorem gX7_moves_X7_waits : GoodIn wsX7_moves (wsV RX7 77 RX7 yX7_waits wsX7_waits) := goodIn_app (goodIn_of _ (by decide +kernel)) ggX7_moves_X7_waits
theorem dX7_moves_0 : decode cX7_moves 0 = .ok (.aload_n 0, 1) := by decide +kernel
theorem dX7_moves_1 : decode cX7_moves 1 = .ok (.iload_n 1, 1) := by decide +kernel
theorem dX7_moves_2 : decode cX7_moves 2 = .ok (.iconst 1, 1) := by decide +kernel
theorem dX7_moves_3 : decode cX7_moves 3 = .ok (.invokevirtual 67, 3) := by decide +kernel
theorem dX7_moves_6 : decode cX7_moves 6 = .ok (.istore_n 2, 1) := by decide +kernel
theorem dX7_moves_7 : decode cX7_moves 7 = .ok (.aload_n 0, 1) := by decide +kernel
theorem dX7_moves_8 : decode cX7_moves 8 = .ok (.iload_n 1, 1) := by decide +kernel
theorem dX7_moves_9 : decode cX7_moves 9 = .ok (.invokevirtual 73, 3) := by decide +kernel
theorem dX7_moves_12 : decode cX7_moves 12 = .ok (.istore_n 3, 1) := by decide +kernel
theorem dX7_moves_13 : decode cX7_moves 13 = .ok (.aload_n 0, 1) := by decide +kernel
theorem dX7_moves_14 : decode cX7_moves 14 = .ok (.iload_n 1, 1) := by decide +kernel
theorem dX7_moves_15 : decode cX7_moves 15 = .ok (.iconst 0, 1) := by decide +kernel
theorem dX7_moves_16 : decode cX7_moves 16 = .ok (.invokevirtual 67, 3) := by decide +kernel
theorem dX7_moves_19 : decode cX7_moves 19 = .ok (.istore 4, 2) := by decide +kernel
theorem dX7_moves_21 : decode cX7_moves 21 = .ok (.aload_n 0, 1) := by decide +kernel
theorem dX7_moves_22 : decode cX7_moves 22 = .ok (.iconst 1, 1) := by decide +kernel
theorem dX7_moves_23 : decode cX7_moves 23 = .ok (.iload_n 2, 1) := by decide +kernel
theorem dX7_moves_24 : decode cX7_moves 24 = .ok (.aload_n 0, 1) := by decide +kernel
theorem dX7_moves_25 : decode cX7_moves 25 = .ok (.iload_n 1, 1) := by decide +kernel
theorem dX7_moves_26 : decode cX7_moves 26 = .ok (.iconst 2, 1) := by decide +kernel
theorem dX7_moves_27 : decode cX7_moves 27 = .ok (.invokevirtual 67, 3) := by decide +kernel
theorem dX7_moves_30 : decode cX7_moves 30 = .ok (.aload_n 0, 1) := by decide +kernel
theorem dX7_moves_31 : decode cX7_moves 31 = .ok (.iload_n 1, 1) := by decide +kernel
theorem dX7_moves_32 : decode cX7_moves 32 = .ok (.iconst 3, 1) := by decide +kernel
theorem dX7_moves_33 : decode cX7_moves 33 = .ok (.invokevirtual 67, 3) := by decide +kernel
theorem dX7_moves_36 : decode cX7_moves 36 = .ok (.iload 4, 2) := by decide +kernel
theorem dX7_moves_38 : decode cX7_moves 38 = .ok (.invokevirtual 87, 3) := by decide +kernel
theorem dX7_moves_41 : decode cX7_moves 41 = .ok (.istore 5, 2) := by decide +kernel
theorem dX7_moves_43 : decode cX7_moves 43 = .ok (.iload 4, 2) := by decide +kernel
theorem dX7_moves_45 : decode cX7_moves 45 = .ok (.iconst 1, 1) := by decide +kernel
theorem dX7_moves_46 : decode cX7_moves 46 = .ok (.if_icmp .ne 15, 3) := by decide +kernel
theorem dX7_moves_49 : decode cX7_moves 49 = .ok (.aload_n 0, 1) := by decide +kernel
theorem dX7_moves_50 : decode cX7_moves 50 = .ok (.getfield 7, 3) := by decide +kernel
theorem dX7_moves_53 : decode cX7_moves 53 = .ok (.sipush 840, 3) := by decide +kernel
theorem dX7_moves_56 : decode cX7_moves 56 = .ok (.iload_n 2, 1) := by decide +kernel
theorem dX7_moves_57 : decode cX7_moves 57 = .ok (.iadd, 1) := by decide +kernel
theorem dX7_moves_58 : decode cX7_moves 58 = .ok (.iload 5, 2) := by decide +kernel
theorem dX7_moves_60 : decode cX7_moves 60 = .ok (.iastore, 1) := by decide +kernel
theorem dX7_moves_61 : decode cX7_moves 61 = .ok (.iconst 0, 1) := by decide +kernel
theorem dX7_moves_62 : decode cX7_moves 62 = .ok (.istore 6, 2) := by decide +kernel
theorem dX7_moves_64 : decode cX7_moves 64 = .ok (.iload 6, 2) := by decide +kernel
theorem dX7_moves_66 : decode cX7_moves 66 = .ok (.iconst 4, 1) := by decide +kernel
theorem dX7_moves_67 : decode cX7_moves 67 = .ok (.if_icmp .ge 37, 3) := by decide +kernel
theorem dX7_moves_70 : decode cX7_moves 70 = .ok (.iload_n 3, 1) := by decide +kernel
theorem dX7_moves_71 : decode cX7_moves 71 = .ok (.iload 6, 2) := by decide +kernel
theorem dX7_moves_73 : decode cX7_moves 73 = .ok (.ishr, 1) := by decide +kernel
theorem dX7_moves_74 : decode cX7_moves 74 = .ok (.iconst 1, 1) := by decide +kernel
theorem dX7_moves_75 : decode cX7_moves 75 = .ok (.iand, 1) := by decide +kernel
theorem dX7_moves_76 : decode cX7_moves 76 = .ok (.iconst 1, 1) := by decide +kernel
theorem dX7_moves_77 : decode cX7_moves 77 = .ok (.if_icmp .ne 21, 3) := by decide +kernel
theorem dX7_moves_80 : decode cX7_moves 80 = .ok (.aload_n 0, 1) := by decide +kernel
theorem dX7_moves_81 : decode cX7_moves 81 = .ok (.getfield 7, 3) := by decide +kernel
theorem dX7_moves_84 : decode cX7_moves 84 = .ok (.sipush 868, 3) := by decide +kernel
theorem dX7_moves_87 : decode cX7_moves 87 = .ok (.bipush 24, 2) := by decide +kernel
theorem dX7_moves_89 : decode cX7_moves 89 = .ok (.iload 6, 2) := by decide +kernel
theorem dX7_moves_91 : decode cX7_moves 91 = .ok (.imul, 1) := by decide +kernel
theorem dX7_moves_92 : decode cX7_moves 92 = .ok (.iadd, 1) := by decide +kernel
theorem dX7_moves_93 : decode cX7_moves 93 = .ok (.iload_n 2, 1) := by decide +kernel
theorem dX7_moves_94 : decode cX7_moves 94 = .ok (.iadd, 1) := by decide +kernel
theorem dX7_moves_95 : decode cX7_moves 95 = .ok (.iload 5, 2) := by decide +kernel
theorem dX7_moves_97 : decode cX7_moves 97 = .ok (.iastore, 1) := by decide +kernel
theorem dX7_moves_98 : decode cX7_moves 98 = .ok (.iinc 6 1, 3) := by decide +kernel
theorem dX7_moves_101 : decode cX7_moves 101 = .ok (.goto (-37), 3) := by decide +kernel
theorem dX7_moves_104 : decode cX7_moves 104 = .ok (.aload_n 0, 1) := by decide +kernel
theorem dX7_moves_105 : decode cX7_moves 105 = .ok (.iload_n 1, 1) := by decide +kernel
theorem dX7_moves_106 : decode cX7_moves 106 = .ok (.invokevirtual 77, 3) := by decide +kernel
theorem dX7_moves_109 : decode cX7_moves 109 = .ok (.return_, 1) := by decide +kernel
set_option maxRecDepth 20000 in
theorem ggX7_relocate_X7_isSegment : GoodIn wsX7_relocate wsX7_isSegment := goodIn_r _ [6, 7, 8, 9, 5, 10, 81, 82, 83, 84, 85] (by first | rfl | decide +kernel) (by decide +kernel)
set_option maxRecDepth 20000 in
theorem gX7_relocate_X7_isSegment : GoodIn wsX7_relocate (wsV RX7 47 RX7 yX7_isSegment wsX7_isSegment) := goodIn_app (goodIn_of _ (by decide +kernel)) ggX7_relocate_X7_isSegment
set_option maxRecDepth 20000 in
theorem ggX7_relocate_X7_ofSegment : GoodIn wsX7_relocate wsX7_ofSegment := goodIn_r _ [14, 7, 81, 82, 83, 84, 85] (by first | rfl | decide +kernel) (by decide +kernel)
set_option maxRecDepth 20000 in
theorem gX7_relocate_X7_ofSegment : GoodIn wsX7_relocate (wsV RX7 53 RX7 yX7_ofSegment wsX7_ofSegment) := goodIn_app (goodIn_of _ (by decide +kernel)) ggX7_relocate_X7_ofSegment
set_option maxRecDepth 20000 in
theorem ggX7_relocate_X7_hasRoom : GoodIn wsX7_relocate wsX7_hasRoom := goodIn_r _ [18, 7, 19, 20, 21, 5, 22, 23, 24, 25, 26, 27, 28, 29, 30, 31, 32, 33, 34, 11, 12, 13, 14, 35, 36, 37, 38, 81, 82, 83, 84, 85] (by first | rfl | decide +kernel) (by decide +kernel)
set_option maxRecDepth 20000 in
theorem gX7_relocate_X7_hasRoom : GoodIn wsX7_relocate (wsV RX7 203 RX7 yX7_hasRoom wsX7_hasRoom) := goodIn_app (goodIn_of _ (by decide +kernel)) ggX7_relocate_X7_hasRoom
set_option maxRecDepth 20000 in
theorem ggX7_relocate_X7_keeps : GoodIn wsX7_relocate wsX7_keeps := goodIn_r _ [42, 43, 44, 7, 81, 82, 83, 84, 85] (by first | rfl | decide +kernel) (by decide +kernel)
set_option maxRecDepth 20000 in
theorem gX7_relocate_X7_keeps : GoodIn wsX7_relocate (wsV RX7 44 RX7 yX7_keeps wsX7_keeps) := goodIn_app (goodIn_of _ (by decide +kernel)) ggX7_relocate_X7_keeps
set_option maxRecDepth 20000 in
theorem ggX7_relocate_X7_relocates : GoodIn wsX7_relocate wsX7_relocates := goodIn_r _ [48, 7, 27, 28, 29, 5, 30, 49, 50, 51, 52, 53, 54, 55, 56, 57, 58, 59, 60, 61, 62, 63, 64, 65, 66, 67, 68, 11, 12, 13, 14, 69, 70, 71, 72, 73, 74, 75, 76, 77, 78, 79, 80, 81, 82, 83, 84, 85] (by first | rfl | decide +kernel) (by decide +kernel)
set_option maxRecDepth 20000 in
theorem gX7_relocate_X7_relocates : GoodIn wsX7_relocate (wsV RX7 206 RX7 yX7_relocates wsX7_relocates) := goodIn_app (goodIn_of _ (by decide +kernel)) ggX7_relocate_X7_relocates
theorem dX7_relocate_0 : decode cX7_relocate 0 = .ok (.aload_n 0, 1) := by decide +kernel
theorem dX7_relocate_1 : decode cX7_relocate 1 = .ok (.aload_n 0, 1) := by decide +kernel
theorem dX7_relocate_2 : decode cX7_relocate 2 = .ok (.iload_n 1, 1) := by decide +kernel
theorem dX7_relocate_3 : decode cX7_relocate 3 = .ok (.invokevirtual 47, 3) := by decide +kernel
theorem dX7_relocate_6 : decode cX7_relocate 6 = .ok (.ifCond .ne 7, 3) := by decide +kernel
theorem dX7_relocate_9 : decode cX7_relocate 9 = .ok (.iconst 1, 1) := by decide +kernel
theorem dX7_relocate_10 : decode cX7_relocate 10 = .ok (.goto 26, 3) := by decide +kernel
theorem dX7_relocate_13 : decode cX7_relocate 13 = .ok (.aload_n 0, 1) := by decide +kernel
theorem dX7_relocate_14 : decode cX7_relocate 14 = .ok (.iload_n 1, 1) := by decide +kernel
theorem dX7_relocate_15 : decode cX7_relocate 15 = .ok (.iconst 0, 1) := by decide +kernel
theorem dX7_relocate_16 : decode cX7_relocate 16 = .ok (.invokevirtual 53, 3) := by decide +kernel
theorem dX7_relocate_19 : decode cX7_relocate 19 = .ok (.iconst 2, 1) := by decide +kernel
theorem dX7_relocate_20 : decode cX7_relocate 20 = .ok (.if_icmp .ne 11, 3) := by decide +kernel
theorem dX7_relocate_23 : decode cX7_relocate 23 = .ok (.aload_n 0, 1) := by decide +kernel
theorem dX7_relocate_24 : decode cX7_relocate 24 = .ok (.iload_n 1, 1) := by decide +kernel
theorem dX7_relocate_25 : decode cX7_relocate 25 = .ok (.invokevirtual 203, 3) := by decide +kernel
theorem dX7_relocate_28 : decode cX7_relocate 28 = .ok (.ifCond .ne 7, 3) := by decide +kernel
theorem dX7_relocate_31 : decode cX7_relocate 31 = .ok (.iconst 2, 1) := by decide +kernel
theorem dX7_relocate_32 : decode cX7_relocate 32 = .ok (.goto 4, 3) := by decide +kernel
theorem dX7_relocate_35 : decode cX7_relocate 35 = .ok (.iconst 0, 1) := by decide +kernel
theorem dX7_relocate_36 : decode cX7_relocate 36 = .ok (.putfield 23, 3) := by decide +kernel
theorem dX7_relocate_39 : decode cX7_relocate 39 = .ok (.aload_n 0, 1) := by decide +kernel
theorem dX7_relocate_40 : decode cX7_relocate 40 = .ok (.getfield 23, 3) := by decide +kernel
theorem dX7_relocate_43 : decode cX7_relocate 43 = .ok (.ifCond .le 5, 3) := by decide +kernel
theorem dX7_relocate_46 : decode cX7_relocate 46 = .ok (.iconst 0, 1) := by decide +kernel
theorem dX7_relocate_47 : decode cX7_relocate 47 = .ok (.ireturn, 1) := by decide +kernel
theorem dX7_relocate_48 : decode cX7_relocate 48 = .ok (.aload_n 0, 1) := by decide +kernel
theorem dX7_relocate_49 : decode cX7_relocate 49 = .ok (.invokevirtual 44, 3) := by decide +kernel
theorem dX7_relocate_52 : decode cX7_relocate 52 = .ok (.aload_n 0, 1) := by decide +kernel
theorem dX7_relocate_53 : decode cX7_relocate 53 = .ok (.iload_n 1, 1) := by decide +kernel
theorem dX7_relocate_54 : decode cX7_relocate 54 = .ok (.invokevirtual 206, 3) := by decide +kernel
theorem dX7_relocate_57 : decode cX7_relocate 57 = .ok (.ireturn, 1) := by decide +kernel
set_option maxRecDepth 20000 in
theorem ggX7_hasRoom_X7_useOf : GoodIn wsX7_hasRoom wsX7_useOf := goodIn_r _ [6, 7, 8, 9, 5, 10, 1, 11, 12, 13, 14, 27, 28, 29, 30, 31] (by first | rfl | decide +kernel) (by decide +kernel)
set_option maxRecDepth 20000 in
theorem gX7_hasRoom_X7_useOf : GoodIn wsX7_hasRoom (wsV RX7 184 RX7 yX7_useOf wsX7_useOf) := goodIn_app (goodIn_of _ (by decide +kernel)) ggX7_hasRoom_X7_useOf
set_option maxRecDepth 20000 in
theorem ggX7_hasRoom_X7_leftIn : GoodIn wsX7_hasRoom wsX7_leftIn := goodIn_r _ [18, 1, 19, 20, 21, 5, 22, 27, 28, 29, 30, 31] (by first | rfl | decide +kernel) (by decide +kernel)
set_option maxRecDepth 20000 in
theorem gX7_hasRoom_X7_leftIn : GoodIn wsX7_hasRoom (wsV RX7 94 RX7 yX7_leftIn wsX7_leftIn) := goodIn_app (goodIn_of _ (by decide +kernel)) ggX7_hasRoom_X7_leftIn
set_option maxRecDepth 20000 in
theorem ggX7_hasRoom_X7_frees : GoodIn wsX7_hasRoom wsX7_frees := goodIn_r _ [26, 1, 19, 20, 21, 5, 22, 27, 28, 29, 30, 31] (by first | rfl | decide +kernel) (by decide +kernel)
set_option maxRecDepth 20000 in
theorem gX7_hasRoom_X7_frees : GoodIn wsX7_hasRoom (wsV RX7 84 RX7 yX7_frees wsX7_frees) := goodIn_app (goodIn_of _ (by decide +kernel)) ggX7_hasRoom_X7_frees
theorem dX7_hasRoom_0 : decode cX7_hasRoom 0 = .ok (.aload_n 0, 1) := by decide +kernel
theorem dX7_hasRoom_1 : decode cX7_hasRoom 1 = .ok (.iload_n 1, 1) := by decide +kernel
theorem dX7_hasRoom_2 : decode cX7_hasRoom 2 = .ok (.invokevirtual 184, 3) := by decide +kernel
theorem dX7_hasRoom_5 : decode cX7_hasRoom 5 = .ok (.aload_n 0, 1) := by decide +kernel
theorem dX7_hasRoom_6 : decode cX7_hasRoom 6 = .ok (.iconst 1, 1) := by decide +kernel
theorem dX7_hasRoom_7 : decode cX7_hasRoom 7 = .ok (.invokevirtual 94, 3) := by decide +kernel
theorem dX7_hasRoom_10 : decode cX7_hasRoom 10 = .ok (.aload_n 0, 1) := by decide +kernel
theorem dX7_hasRoom_11 : decode cX7_hasRoom 11 = .ok (.invokevirtual 84, 3) := by decide +kernel
theorem dX7_hasRoom_14 : decode cX7_hasRoom 14 = .ok (.aload_n 0, 1) := by decide +kernel
theorem dX7_hasRoom_15 : decode cX7_hasRoom 15 = .ok (.getfield 7, 3) := by decide +kernel
theorem dX7_hasRoom_18 : decode cX7_hasRoom 18 = .ok (.iconst 1, 1) := by decide +kernel
theorem dX7_hasRoom_19 : decode cX7_hasRoom 19 = .ok (.iaload, 1) := by decide +kernel
theorem dX7_hasRoom_20 : decode cX7_hasRoom 20 = .ok (.imul, 1) := by decide +kernel
theorem dX7_hasRoom_21 : decode cX7_hasRoom 21 = .ok (.iadd, 1) := by decide +kernel
theorem dX7_hasRoom_22 : decode cX7_hasRoom 22 = .ok (.if_icmp .gt 7, 3) := by decide +kernel
theorem dX7_hasRoom_25 : decode cX7_hasRoom 25 = .ok (.iconst 1, 1) := by decide +kernel
theorem dX7_hasRoom_26 : decode cX7_hasRoom 26 = .ok (.goto 4, 3) := by decide +kernel
theorem dX7_hasRoom_29 : decode cX7_hasRoom 29 = .ok (.iconst 0, 1) := by decide +kernel
theorem dX7_hasRoom_30 : decode cX7_hasRoom 30 = .ok (.ireturn, 1) := by decide +kernel
set_option maxRecDepth 20000 in
theorem ggX7_relocates_X7_ofBlock : GoodIn wsX7_relocates wsX7_ofBlock := goodIn_r _ [6, 1, 43, 44, 45, 46, 47] (by first | rfl | decide +kernel) (by decide +kernel)
set_option maxRecDepth 20000 in
theorem gX7_relocates_X7_ofBlock : GoodIn wsX7_relocates (wsV RX7 67 RX7 yX7_ofBlock wsX7_ofBlock) := goodIn_app (goodIn_of _ (by decide +kernel)) ggX7_relocates_X7_ofBlock
set_option maxRecDepth 20000 in
theorem ggX7_relocates_X7_moves : GoodIn wsX7_relocates wsX7_moves := goodIn_r _ [10, 1, 2, 3, 4, 5, 6, 11, 12, 13, 14, 15, 16, 17, 18, 19, 20, 21, 22, 23, 24, 25, 26, 27, 28, 29, 30, 31, 32, 33, 34, 35, 36, 37, 38, 39, 40, 41, 42, 43, 44, 45, 46, 47] (by first | rfl | decide +kernel) (by decide +kernel)
set_option maxRecDepth 20000 in
theorem gX7_relocates_X7_moves : GoodIn wsX7_relocates (wsV RX7 209 RX7 yX7_moves wsX7_moves) := goodIn_app (goodIn_of _ (by decide +kernel)) ggX7_relocates_X7_moves
theorem dX7_relocates_0 : decode cX7_relocates 0 = .ok (.iconst 0, 1) := by decide +kernel
theorem dX7_relocates_1 : decode cX7_relocates 1 = .ok (.istore_n 2, 1) := by decide +kernel
theorem dX7_relocates_2 : decode cX7_relocates 2 = .ok (.bipush 16, 2) := by decide +kernel
theorem dX7_relocates_4 : decode cX7_relocates 4 = .ok (.iload_n 1, 1) := by decide +kernel
theorem dX7_relocates_5 : decode cX7_relocates 5 = .ok (.imul, 1) := by decide +kernel
theorem dX7_relocates_6 : decode cX7_relocates 6 = .ok (.istore_n 3, 1) := by decide +kernel
theorem dX7_relocates_7 : decode cX7_relocates 7 = .ok (.iload_n 3, 1) := by decide +kernel
theorem dX7_relocates_8 : decode cX7_relocates 8 = .ok (.bipush 16, 2) := by decide +kernel
theorem dX7_relocates_10 : decode cX7_relocates 10 = .ok (.iload_n 1, 1) := by decide +kernel
theorem dX7_relocates_11 : decode cX7_relocates 11 = .ok (.imul, 1) := by decide +kernel
theorem dX7_relocates_12 : decode cX7_relocates 12 = .ok (.aload_n 0, 1) := by decide +kernel
theorem dX7_relocates_13 : decode cX7_relocates 13 = .ok (.getfield 7, 3) := by decide +kernel
theorem dX7_relocates_16 : decode cX7_relocates 16 = .ok (.iconst 1, 1) := by decide +kernel
theorem dX7_relocates_17 : decode cX7_relocates 17 = .ok (.iaload, 1) := by decide +kernel
theorem dX7_relocates_18 : decode cX7_relocates 18 = .ok (.iadd, 1) := by decide +kernel
theorem dX7_relocates_19 : decode cX7_relocates 19 = .ok (.if_icmp .ge 40, 3) := by decide +kernel
theorem dX7_relocates_22 : decode cX7_relocates 22 = .ok (.aload_n 0, 1) := by decide +kernel
theorem dX7_relocates_23 : decode cX7_relocates 23 = .ok (.iload_n 3, 1) := by decide +kernel
theorem dX7_relocates_24 : decode cX7_relocates 24 = .ok (.iconst 0, 1) := by decide +kernel
theorem dX7_relocates_25 : decode cX7_relocates 25 = .ok (.invokevirtual 67, 3) := by decide +kernel
theorem dX7_relocates_28 : decode cX7_relocates 28 = .ok (.iconst 1, 1) := by decide +kernel
theorem dX7_relocates_29 : decode cX7_relocates 29 = .ok (.if_icmp .eq 16, 3) := by decide +kernel
theorem dX7_relocates_32 : decode cX7_relocates 32 = .ok (.aload_n 0, 1) := by decide +kernel
theorem dX7_relocates_33 : decode cX7_relocates 33 = .ok (.iload_n 3, 1) := by decide +kernel
theorem dX7_relocates_34 : decode cX7_relocates 34 = .ok (.iconst 0, 1) := by decide +kernel
theorem dX7_relocates_35 : decode cX7_relocates 35 = .ok (.invokevirtual 67, 3) := by decide +kernel
theorem dX7_relocates_38 : decode cX7_relocates 38 = .ok (.iconst 2, 1) := by decide +kernel
theorem dX7_relocates_39 : decode cX7_relocates 39 = .ok (.if_icmp .eq 6, 3) := by decide +kernel
theorem dX7_relocates_42 : decode cX7_relocates 42 = .ok (.goto 11, 3) := by decide +kernel
theorem dX7_relocates_45 : decode cX7_relocates 45 = .ok (.aload_n 0, 1) := by decide +kernel
theorem dX7_relocates_46 : decode cX7_relocates 46 = .ok (.iload_n 3, 1) := by decide +kernel
theorem dX7_relocates_47 : decode cX7_relocates 47 = .ok (.invokevirtual 209, 3) := by decide +kernel
theorem dX7_relocates_50 : decode cX7_relocates 50 = .ok (.iinc 2 1, 3) := by decide +kernel
theorem dX7_relocates_53 : decode cX7_relocates 53 = .ok (.iinc 3 1, 3) := by decide +kernel
theorem dX7_relocates_56 : decode cX7_relocates 56 = .ok (.goto (-49), 3) := by decide +kernel
theorem dX7_relocates_59 : decode cX7_relocates 59 = .ok (.aload_n 0, 1) := by decide +kernel
theorem dX7_relocates_60 : decode cX7_relocates 60 = .ok (.getfield 7, 3) := by decide +kernel
theorem dX7_relocates_63 : decode cX7_relocates 63 = .ok (.bipush 7, 2) := by decide +kernel
theorem dX7_relocates_65 : decode cX7_relocates 65 = .ok (.dup2, 1) := by decide +kernel
theorem dX7_relocates_66 : decode cX7_relocates 66 = .ok (.iaload, 1) := by decide +kernel
theorem dX7_relocates_67 : decode cX7_relocates 67 = .ok (.iload_n 2, 1) := by decide +kernel
theorem dX7_relocates_68 : decode cX7_relocates 68 = .ok (.iadd, 1) := by decide +kernel
theorem dX7_relocates_69 : decode cX7_relocates 69 = .ok (.iastore, 1) := by decide +kernel
theorem dX7_relocates_70 : decode cX7_relocates 70 = .ok (.iload_n 2, 1) := by decide +kernel
theorem dX7_relocates_71 : decode cX7_relocates 71 = .ok (.ireturn, 1) := by decide +kernel
set_option maxRecDepth 20000 in
theorem ggX7_isBetter_X7_useOf : GoodIn wsX7_isBetter wsX7_useOf := goodIn_r _ [6, 7, 8, 9, 5, 10, 1, 11, 12, 13, 14, 23, 24, 25, 26, 27] (by first | rfl | decide +kernel) (by decide +kernel)
set_option maxRecDepth 20000 in
theorem gX7_isBetter_X7_useOf : GoodIn wsX7_isBetter (wsV RX7 184 RX7 yX7_useOf wsX7_useOf) := goodIn_app (goodIn_of _ (by decide +kernel)) ggX7_isBetter_X7_useOf
set_option maxRecDepth 20000 in
theorem ggX7_isBetter_X7_ageOf : GoodIn wsX7_isBetter wsX7_ageOf := goodIn_r _ [18, 1, 19, 20, 21, 5, 22, 11, 12, 13, 14, 23, 24, 25, 26, 27] (by first | rfl | decide +kernel) (by decide +kernel)
set_option maxRecDepth 20000 in
theorem gX7_isBetter_X7_ageOf : GoodIn wsX7_isBetter (wsV RX7 187 RX7 yX7_ageOf wsX7_ageOf) := goodIn_app (goodIn_of _ (by decide +kernel)) ggX7_isBetter_X7_ageOf
theorem dX7_isBetter_0 : decode cX7_isBetter 0 = .ok (.iload_n 3, 1) := by decide +kernel
theorem dX7_isBetter_1 : decode cX7_isBetter 1 = .ok (.ifCond .ne 22, 3) := by decide +kernel
theorem dX7_isBetter_4 : decode cX7_isBetter 4 = .ok (.aload_n 0, 1) := by decide +kernel
theorem dX7_isBetter_5 : decode cX7_isBetter 5 = .ok (.iload_n 1, 1) := by decide +kernel
theorem dX7_isBetter_6 : decode cX7_isBetter 6 = .ok (.invokevirtual 184, 3) := by decide +kernel
theorem dX7_isBetter_9 : decode cX7_isBetter 9 = .ok (.aload_n 0, 1) := by decide +kernel
theorem dX7_isBetter_10 : decode cX7_isBetter 10 = .ok (.iload_n 2, 1) := by decide +kernel
theorem dX7_isBetter_11 : decode cX7_isBetter 11 = .ok (.invokevirtual 184, 3) := by decide +kernel
theorem dX7_isBetter_14 : decode cX7_isBetter 14 = .ok (.if_icmp .ge 7, 3) := by decide +kernel
theorem dX7_isBetter_17 : decode cX7_isBetter 17 = .ok (.iconst 1, 1) := by decide +kernel
theorem dX7_isBetter_18 : decode cX7_isBetter 18 = .ok (.goto 4, 3) := by decide +kernel
theorem dX7_isBetter_21 : decode cX7_isBetter 21 = .ok (.iconst 0, 1) := by decide +kernel
theorem dX7_isBetter_22 : decode cX7_isBetter 22 = .ok (.ireturn, 1) := by decide +kernel
theorem dX7_isBetter_23 : decode cX7_isBetter 23 = .ok (.iload_n 3, 1) := by decide +kernel
theorem dX7_isBetter_24 : decode cX7_isBetter 24 = .ok (.iconst 2, 1) := by decide +kernel
theorem dX7_isBetter_25 : decode cX7_isBetter 25 = .ok (.if_icmp .ne 22, 3) := by decide +kernel
theorem dX7_isBetter_28 : decode cX7_isBetter 28 = .ok (.aload_n 0, 1) := by decide +kernel
theorem dX7_isBetter_29 : decode cX7_isBetter 29 = .ok (.iload_n 1, 1) := by decide +kernel
theorem dX7_isBetter_30 : decode cX7_isBetter 30 = .ok (.invokevirtual 187, 3) := by decide +kernel
theorem dX7_isBetter_33 : decode cX7_isBetter 33 = .ok (.aload_n 0, 1) := by decide +kernel
theorem dX7_isBetter_34 : decode cX7_isBetter 34 = .ok (.iload_n 2, 1) := by decide +kernel
theorem dX7_isBetter_35 : decode cX7_isBetter 35 = .ok (.invokevirtual 187, 3) := by decide +kernel
theorem dX7_isBetter_38 : decode cX7_isBetter 38 = .ok (.if_icmp .le 7, 3) := by decide +kernel
theorem dX7_isBetter_41 : decode cX7_isBetter 41 = .ok (.iconst 1, 1) := by decide +kernel
theorem dX7_isBetter_42 : decode cX7_isBetter 42 = .ok (.goto 4, 3) := by decide +kernel
theorem dX7_isBetter_45 : decode cX7_isBetter 45 = .ok (.iconst 0, 1) := by decide +kernel
theorem dX7_isBetter_46 : decode cX7_isBetter 46 = .ok (.ireturn, 1) := by decide +kernel
theorem dX7_isBetter_47 : decode cX7_isBetter 47 = .ok (.aload_n 0, 1) := by decide +kernel
theorem dX7_isBetter_48 : decode cX7_isBetter 48 = .ok (.getfield 7, 3) := by decide +kernel
theorem dX7_isBetter_51 : decode cX7_isBetter 51 = .ok (.iconst 1, 1) := by decide +kernel
theorem dX7_isBetter_52 : decode cX7_isBetter 52 = .ok (.iaload, 1) := by decide +kernel
theorem dX7_isBetter_53 : decode cX7_isBetter 53 = .ok (.i2l, 1) := by decide +kernel
theorem dX7_isBetter_54 : decode cX7_isBetter 54 = .ok (.lstore 4, 2) := by decide +kernel
theorem dX7_isBetter_56 : decode cX7_isBetter 56 = .ok (.lload 4, 2) := by decide +kernel
theorem dX7_isBetter_58 : decode cX7_isBetter 58 = .ok (.aload_n 0, 1) := by decide +kernel
theorem dX7_isBetter_59 : decode cX7_isBetter 59 = .ok (.iload_n 1, 1) := by decide +kernel
theorem dX7_isBetter_60 : decode cX7_isBetter 60 = .ok (.invokevirtual 184, 3) := by decide +kernel
theorem dX7_isBetter_63 : decode cX7_isBetter 63 = .ok (.i2l, 1) := by decide +kernel
theorem dX7_isBetter_64 : decode cX7_isBetter 64 = .ok (.lsub, 1) := by decide +kernel
theorem dX7_isBetter_65 : decode cX7_isBetter 65 = .ok (.aload_n 0, 1) := by decide +kernel
theorem dX7_isBetter_66 : decode cX7_isBetter 66 = .ok (.iload_n 1, 1) := by decide +kernel
theorem dX7_isBetter_67 : decode cX7_isBetter 67 = .ok (.invokevirtual 187, 3) := by decide +kernel
theorem dX7_isBetter_70 : decode cX7_isBetter 70 = .ok (.i2l, 1) := by decide +kernel
theorem dX7_isBetter_71 : decode cX7_isBetter 71 = .ok (.lmul, 1) := by decide +kernel
theorem dX7_isBetter_72 : decode cX7_isBetter 72 = .ok (.lload 4, 2) := by decide +kernel
theorem dX7_isBetter_74 : decode cX7_isBetter 74 = .ok (.aload_n 0, 1) := by decide +kernel
theorem dX7_isBetter_75 : decode cX7_isBetter 75 = .ok (.iload_n 2, 1) := by decide +kernel
theorem dX7_isBetter_76 : decode cX7_isBetter 76 = .ok (.invokevirtual 184, 3) := by decide +kernel
theorem dX7_isBetter_79 : decode cX7_isBetter 79 = .ok (.i2l, 1) := by decide +kernel
theorem dX7_isBetter_80 : decode cX7_isBetter 80 = .ok (.ladd, 1) := by decide +kernel
theorem dX7_isBetter_81 : decode cX7_isBetter 81 = .ok (.lmul, 1) := by decide +kernel
theorem dX7_isBetter_82 : decode cX7_isBetter 82 = .ok (.lload 4, 2) := by decide +kernel
theorem dX7_isBetter_84 : decode cX7_isBetter 84 = .ok (.aload_n 0, 1) := by decide +kernel
theorem dX7_isBetter_85 : decode cX7_isBetter 85 = .ok (.iload_n 2, 1) := by decide +kernel
theorem dX7_isBetter_86 : decode cX7_isBetter 86 = .ok (.invokevirtual 184, 3) := by decide +kernel
theorem dX7_isBetter_89 : decode cX7_isBetter 89 = .ok (.i2l, 1) := by decide +kernel
theorem dX7_isBetter_90 : decode cX7_isBetter 90 = .ok (.lsub, 1) := by decide +kernel
theorem dX7_isBetter_91 : decode cX7_isBetter 91 = .ok (.aload_n 0, 1) := by decide +kernel
theorem dX7_isBetter_92 : decode cX7_isBetter 92 = .ok (.iload_n 2, 1) := by decide +kernel
theorem dX7_isBetter_93 : decode cX7_isBetter 93 = .ok (.invokevirtual 187, 3) := by decide +kernel
theorem dX7_isBetter_96 : decode cX7_isBetter 96 = .ok (.i2l, 1) := by decide +kernel
theorem dX7_isBetter_97 : decode cX7_isBetter 97 = .ok (.lmul, 1) := by decide +kernel
theorem dX7_isBetter_98 : decode cX7_isBetter 98 = .ok (.lload 4, 2) := by decide +kernel
theorem dX7_isBetter_100 : decode cX7_isBetter 100 = .ok (.aload_n 0, 1) := by decide +kernel
theorem dX7_isBetter_101 : decode cX7_isBetter 101 = .ok (.iload_n 1, 1) := by decide +kernel
theorem dX7_isBetter_102 : decode cX7_isBetter 102 = .ok (.invokevirtual 184, 3) := by decide +kernel
theorem dX7_isBetter_105 : decode cX7_isBetter 105 = .ok (.i2l, 1) := by decide +kernel
theorem dX7_isBetter_106 : decode cX7_isBetter 106 = .ok (.ladd, 1) := by decide +kernel
theorem dX7_isBetter_107 : decode cX7_isBetter 107 = .ok (.lmul, 1) := by decide +kernel
theorem dX7_isBetter_108 : decode cX7_isBetter 108 = .ok (.lcmp, 1) := by decide +kernel
theorem dX7_isBetter_109 : decode cX7_isBetter 109 = .ok (.ifCond .le 7, 3) := by decide +kernel
theorem dX7_isBetter_112 : decode cX7_isBetter 112 = .ok (.iconst 1, 1) := by decide +kernel
theorem dX7_isBetter_113 : decode cX7_isBetter 113 = .ok (.goto 4, 3) := by decide +kernel
theorem dX7_isBetter_116 : decode cX7_isBetter 116 = .ok (.iconst 0, 1) := by decide +kernel
theorem dX7_isBetter_117 : decode cX7_isBetter 117 = .ok (.ireturn, 1) := by decide +kernel
set_option maxRecDepth 20000 in
theorem ggX7_victim_X7_isIn : GoodIn wsX7_victim wsX7_isIn := goodIn_r _ [6] (by first | rfl | decide +kernel) (by decide +kernel)
set_option maxRecDepth 20000 in
theorem gX7_victim_X7_isIn : GoodIn wsX7_victim (va_wsS RX7 34 yX7_isIn wsX7_isIn) := goodIn_app (goodIn_of _ (by decide +kernel)) ggX7_victim_X7_isIn
set_option maxRecDepth 20000 in
theorem ggX7_victim_X7_chosen : GoodIn wsX7_victim wsX7_chosen := goodIn_r _ [10, 11, 12, 13, 14, 5, 15, 16, 17, 18, 19, 20, 21, 22, 23, 24, 25, 26, 27, 28, 29, 30, 31, 32, 33, 34, 35, 36, 37, 38, 39, 40] (by first | rfl | decide +kernel) (by decide +kernel)
set_option maxRecDepth 20000 in
theorem gX7_victim_X7_chosen : GoodIn wsX7_victim (wsV RX7 212 RX7 yX7_chosen wsX7_chosen) := goodIn_app (goodIn_of _ (by decide +kernel)) ggX7_victim_X7_chosen
theorem dX7_victim_0 : decode cX7_victim 0 = .ok (.aload_n 0, 1) := by decide +kernel
theorem dX7_victim_1 : decode cX7_victim 1 = .ok (.iload_n 1, 1) := by decide +kernel
theorem dX7_victim_2 : decode cX7_victim 2 = .ok (.i2l, 1) := by decide +kernel
theorem dX7_victim_3 : decode cX7_victim 3 = .ok (.lconst 0, 1) := by decide +kernel
theorem dX7_victim_4 : decode cX7_victim 4 = .ok (.ldc2_w 38, 3) := by decide +kernel
theorem dX7_victim_7 : decode cX7_victim 7 = .ok (.invokestatic 34, 3) := by decide +kernel
theorem dX7_victim_10 : decode cX7_victim 10 = .ok (.ifCond .eq 7, 3) := by decide +kernel
theorem dX7_victim_13 : decode cX7_victim 13 = .ok (.iconst 0, 1) := by decide +kernel
theorem dX7_victim_14 : decode cX7_victim 14 = .ok (.goto 4, 3) := by decide +kernel
theorem dX7_victim_17 : decode cX7_victim 17 = .ok (.iconst 1, 1) := by decide +kernel
theorem dX7_victim_18 : decode cX7_victim 18 = .ok (.putfield 23, 3) := by decide +kernel
theorem dX7_victim_21 : decode cX7_victim 21 = .ok (.aload_n 0, 1) := by decide +kernel
theorem dX7_victim_22 : decode cX7_victim 22 = .ok (.getfield 23, 3) := by decide +kernel
theorem dX7_victim_25 : decode cX7_victim 25 = .ok (.ifCond .le 5, 3) := by decide +kernel
theorem dX7_victim_28 : decode cX7_victim 28 = .ok (.iconst 0, 1) := by decide +kernel
theorem dX7_victim_29 : decode cX7_victim 29 = .ok (.ireturn, 1) := by decide +kernel
theorem dX7_victim_30 : decode cX7_victim 30 = .ok (.aload_n 0, 1) := by decide +kernel
theorem dX7_victim_31 : decode cX7_victim 31 = .ok (.iload_n 1, 1) := by decide +kernel
theorem dX7_victim_32 : decode cX7_victim 32 = .ok (.invokevirtual 212, 3) := by decide +kernel
theorem dX7_victim_35 : decode cX7_victim 35 = .ok (.istore_n 2, 1) := by decide +kernel
theorem dX7_victim_36 : decode cX7_victim 36 = .ok (.aload_n 0, 1) := by decide +kernel
theorem dX7_victim_37 : decode cX7_victim 37 = .ok (.iload_n 2, 1) := by decide +kernel
theorem dX7_victim_38 : decode cX7_victim 38 = .ok (.iconst (-1), 1) := by decide +kernel
theorem dX7_victim_39 : decode cX7_victim 39 = .ok (.if_icmp .ne 7, 3) := by decide +kernel
theorem dX7_victim_42 : decode cX7_victim 42 = .ok (.iconst 2, 1) := by decide +kernel
theorem dX7_victim_43 : decode cX7_victim 43 = .ok (.goto 4, 3) := by decide +kernel
theorem dX7_victim_46 : decode cX7_victim 46 = .ok (.iconst 0, 1) := by decide +kernel
theorem dX7_victim_47 : decode cX7_victim 47 = .ok (.putfield 23, 3) := by decide +kernel
theorem dX7_victim_50 : decode cX7_victim 50 = .ok (.aload_n 0, 1) := by decide +kernel
theorem dX7_victim_51 : decode cX7_victim 51 = .ok (.getfield 23, 3) := by decide +kernel
theorem dX7_victim_54 : decode cX7_victim 54 = .ok (.ifCond .le 7, 3) := by decide +kernel
theorem dX7_victim_57 : decode cX7_victim 57 = .ok (.iconst 0, 1) := by decide +kernel
theorem dX7_victim_58 : decode cX7_victim 58 = .ok (.goto 4, 3) := by decide +kernel
theorem dX7_victim_61 : decode cX7_victim 61 = .ok (.iload_n 2, 1) := by decide +kernel
theorem dX7_victim_62 : decode cX7_victim 62 = .ok (.ireturn, 1) := by decide +kernel
set_option maxRecDepth 20000 in
theorem ggX7_chosen_X7_ofSegment : GoodIn wsX7_chosen wsX7_ofSegment := goodIn_r _ [6, 1, 27, 28, 29, 30, 31] (by first | rfl | decide +kernel) (by decide +kernel)
set_option maxRecDepth 20000 in
theorem gX7_chosen_X7_ofSegment : GoodIn wsX7_chosen (wsV RX7 53 RX7 yX7_ofSegment wsX7_ofSegment) := goodIn_app (goodIn_of _ (by decide +kernel)) ggX7_chosen_X7_ofSegment
set_option maxRecDepth 20000 in
theorem ggX7_chosen_X7_useOf : GoodIn wsX7_chosen wsX7_useOf := goodIn_r _ [10, 11, 12, 13, 5, 14, 1, 15, 16, 17, 18, 27, 28, 29, 30, 31] (by first | rfl | decide +kernel) (by decide +kernel)
set_option maxRecDepth 20000 in
theorem gX7_chosen_X7_useOf : GoodIn wsX7_chosen (wsV RX7 184 RX7 yX7_useOf wsX7_useOf) := goodIn_app (goodIn_of _ (by decide +kernel)) ggX7_chosen_X7_useOf
set_option maxRecDepth 20000 in
theorem ggX7_chosen_X7_isBetter : GoodIn wsX7_chosen wsX7_isBetter := goodIn_r _ [22, 1, 7, 8, 9, 5, 10, 11, 12, 13, 14, 15, 16, 17, 18, 23, 24, 25, 26, 2, 3, 4, 6, 27, 28, 29, 30, 31] (by first | rfl | decide +kernel) (by decide +kernel)
set_option maxRecDepth 20000 in
theorem gX7_chosen_X7_isBetter : GoodIn wsX7_chosen (wsV RX7 215 RX7 yX7_isBetter wsX7_isBetter) := goodIn_app (goodIn_of _ (by decide +kernel)) ggX7_chosen_X7_isBetter
theorem dX7_chosen_0 : decode cX7_chosen 0 = .ok (.iconst (-1), 1) := by decide +kernel
theorem dX7_chosen_1 : decode cX7_chosen 1 = .ok (.istore_n 2, 1) := by decide +kernel
theorem dX7_chosen_2 : decode cX7_chosen 2 = .ok (.iconst 0, 1) := by decide +kernel
theorem dX7_chosen_3 : decode cX7_chosen 3 = .ok (.istore_n 3, 1) := by decide +kernel
theorem dX7_chosen_4 : decode cX7_chosen 4 = .ok (.iload_n 3, 1) := by decide +kernel
theorem dX7_chosen_5 : decode cX7_chosen 5 = .ok (.aload_n 0, 1) := by decide +kernel
theorem dX7_chosen_6 : decode cX7_chosen 6 = .ok (.getfield 7, 3) := by decide +kernel
theorem dX7_chosen_9 : decode cX7_chosen 9 = .ok (.iconst 0, 1) := by decide +kernel
theorem dX7_chosen_10 : decode cX7_chosen 10 = .ok (.iaload, 1) := by decide +kernel
theorem dX7_chosen_11 : decode cX7_chosen 11 = .ok (.if_icmp .ge 53, 3) := by decide +kernel
theorem dX7_chosen_14 : decode cX7_chosen 14 = .ok (.aload_n 0, 1) := by decide +kernel
theorem dX7_chosen_15 : decode cX7_chosen 15 = .ok (.iload_n 3, 1) := by decide +kernel
theorem dX7_chosen_16 : decode cX7_chosen 16 = .ok (.iconst 0, 1) := by decide +kernel
theorem dX7_chosen_17 : decode cX7_chosen 17 = .ok (.invokevirtual 53, 3) := by decide +kernel
theorem dX7_chosen_20 : decode cX7_chosen 20 = .ok (.iconst 2, 1) := by decide +kernel
theorem dX7_chosen_21 : decode cX7_chosen 21 = .ok (.if_icmp .ne 37, 3) := by decide +kernel
theorem dX7_chosen_24 : decode cX7_chosen 24 = .ok (.aload_n 0, 1) := by decide +kernel
theorem dX7_chosen_25 : decode cX7_chosen 25 = .ok (.iload_n 3, 1) := by decide +kernel
theorem dX7_chosen_26 : decode cX7_chosen 26 = .ok (.invokevirtual 184, 3) := by decide +kernel
theorem dX7_chosen_29 : decode cX7_chosen 29 = .ok (.aload_n 0, 1) := by decide +kernel
theorem dX7_chosen_30 : decode cX7_chosen 30 = .ok (.getfield 7, 3) := by decide +kernel
theorem dX7_chosen_33 : decode cX7_chosen 33 = .ok (.iconst 1, 1) := by decide +kernel
theorem dX7_chosen_34 : decode cX7_chosen 34 = .ok (.iaload, 1) := by decide +kernel
theorem dX7_chosen_35 : decode cX7_chosen 35 = .ok (.if_icmp .ne 6, 3) := by decide +kernel
theorem dX7_chosen_38 : decode cX7_chosen 38 = .ok (.goto 20, 3) := by decide +kernel
theorem dX7_chosen_41 : decode cX7_chosen 41 = .ok (.iload_n 2, 1) := by decide +kernel
theorem dX7_chosen_42 : decode cX7_chosen 42 = .ok (.iconst (-1), 1) := by decide +kernel
theorem dX7_chosen_43 : decode cX7_chosen 43 = .ok (.if_icmp .eq 13, 3) := by decide +kernel
theorem dX7_chosen_46 : decode cX7_chosen 46 = .ok (.aload_n 0, 1) := by decide +kernel
theorem dX7_chosen_47 : decode cX7_chosen 47 = .ok (.iload_n 3, 1) := by decide +kernel
theorem dX7_chosen_48 : decode cX7_chosen 48 = .ok (.iload_n 2, 1) := by decide +kernel
theorem dX7_chosen_49 : decode cX7_chosen 49 = .ok (.iload_n 1, 1) := by decide +kernel
theorem dX7_chosen_50 : decode cX7_chosen 50 = .ok (.invokevirtual 215, 3) := by decide +kernel
theorem dX7_chosen_53 : decode cX7_chosen 53 = .ok (.ifCond .eq 5, 3) := by decide +kernel
theorem dX7_chosen_56 : decode cX7_chosen 56 = .ok (.iload_n 3, 1) := by decide +kernel
theorem dX7_chosen_57 : decode cX7_chosen 57 = .ok (.istore_n 2, 1) := by decide +kernel
theorem dX7_chosen_58 : decode cX7_chosen 58 = .ok (.iinc 3 1, 3) := by decide +kernel
theorem dX7_chosen_61 : decode cX7_chosen 61 = .ok (.goto (-57), 3) := by decide +kernel
theorem dX7_chosen_64 : decode cX7_chosen 64 = .ok (.iload_n 2, 1) := by decide +kernel
theorem dX7_chosen_65 : decode cX7_chosen 65 = .ok (.ireturn, 1) := by decide +kernel
set_option maxRecDepth 20000 in
theorem ggX7_relocationsNow_X7_lets : GoodIn wsX7_relocationsNow wsX7_lets := goodIn_r _ [6, 1, 7, 8, 9, 5, 10, 11, 12, 13, 14, 15, 16, 17, 18, 19, 20, 21, 22, 23, 24, 25, 129, 130, 131, 132, 133] (by first | rfl | decide +kernel) (by decide +kernel)
set_option maxRecDepth 20000 in
theorem gX7_relocationsNow_X7_lets : GoodIn wsX7_relocationsNow (wsV RX7 141 RX7 yX7_lets wsX7_lets) := goodIn_app (goodIn_of _ (by decide +kernel)) ggX7_relocationsNow_X7_lets
set_option maxRecDepth 20000 in
theorem ggX7_relocationsNow_X7_reclaims : GoodIn wsX7_relocationsNow wsX7_reclaims := goodIn_r _ [29, 1, 30, 31, 32, 5, 33, 34, 35, 36, 37, 38, 39, 40, 41, 42, 43, 44, 45, 46, 47, 48, 49, 50, 51, 52, 53, 54, 55, 56, 57, 58, 59, 60, 61, 62, 63, 64, 65, 66, 67, 68, 129, 130, 131, 132, 133] (by first | rfl | decide +kernel) (by decide +kernel)
set_option maxRecDepth 20000 in
theorem gX7_relocationsNow_X7_reclaims : GoodIn wsX7_relocationsNow (wsV RX7 191 RX7 yX7_reclaims wsX7_reclaims) := goodIn_app (goodIn_of _ (by decide +kernel)) ggX7_relocationsNow_X7_reclaims
set_option maxRecDepth 20000 in
theorem ggX7_relocationsNow_X7_roomNow : GoodIn wsX7_relocationsNow wsX7_roomNow := goodIn_r _ [72, 1, 73, 74, 75, 5, 76, 53, 54, 55, 56, 77, 78, 79, 80, 129, 130, 131, 132, 133] (by first | rfl | decide +kernel) (by decide +kernel)
set_option maxRecDepth 20000 in
theorem gX7_relocationsNow_X7_roomNow : GoodIn wsX7_relocationsNow (wsV RX7 97 RX7 yX7_roomNow wsX7_roomNow) := goodIn_app (goodIn_of _ (by decide +kernel)) ggX7_relocationsNow_X7_roomNow
set_option maxRecDepth 20000 in
theorem ggX7_relocationsNow_X7_chosen : GoodIn wsX7_relocationsNow wsX7_chosen := goodIn_r _ [84, 1, 53, 54, 55, 5, 56, 85, 86, 87, 88, 57, 58, 59, 60, 41, 42, 43, 44, 89, 90, 91, 92, 93, 94, 95, 96, 129, 130, 131, 132, 133] (by first | rfl | decide +kernel) (by decide +kernel)
set_option maxRecDepth 20000 in
theorem gX7_relocationsNow_X7_chosen : GoodIn wsX7_relocationsNow (wsV RX7 212 RX7 yX7_chosen wsX7_chosen) := goodIn_app (goodIn_of _ (by decide +kernel)) ggX7_relocationsNow_X7_chosen
set_option maxRecDepth 20000 in
theorem ggX7_relocationsNow_X7_hasRoom : GoodIn wsX7_relocationsNow wsX7_hasRoom := goodIn_r _ [100, 1, 85, 86, 87, 5, 88, 57, 58, 59, 60, 41, 42, 43, 44, 77, 78, 79, 80, 53, 54, 55, 56, 73, 74, 75, 76, 129, 130, 131, 132, 133] (by first | rfl | decide +kernel) (by decide +kernel)
set_option maxRecDepth 20000 in
theorem gX7_relocationsNow_X7_hasRoom : GoodIn wsX7_relocationsNow (wsV RX7 203 RX7 yX7_hasRoom wsX7_hasRoom) := goodIn_app (goodIn_of _ (by decide +kernel)) ggX7_relocationsNow_X7_hasRoom
set_option maxRecDepth 20000 in
theorem ggX7_relocationsNow_X7_relocates : GoodIn wsX7_relocationsNow wsX7_relocates := goodIn_r _ [104, 1, 41, 42, 43, 5, 44, 105, 106, 107, 108, 109, 110, 111, 112, 113, 114, 115, 116, 117, 118, 119, 120, 121, 122, 123, 124, 53, 54, 55, 56, 65, 66, 67, 68, 49, 50, 51, 52, 125, 126, 127, 128, 129, 130, 131, 132, 133] (by first | rfl | decide +kernel) (by decide +kernel)
set_option maxRecDepth 20000 in
theorem gX7_relocationsNow_X7_relocates : GoodIn wsX7_relocationsNow (wsV RX7 206 RX7 yX7_relocates wsX7_relocates) := goodIn_app (goodIn_of _ (by decide +kernel)) ggX7_relocationsNow_X7_relocates
theorem dX7_relocationsNow_0 : decode cX7_relocationsNow 0 = .ok (.iconst 0, 1) := by decide +kernel
theorem dX7_relocationsNow_1 : decode cX7_relocationsNow 1 = .ok (.istore_n 3, 1) := by decide +kernel
theorem dX7_relocationsNow_2 : decode cX7_relocationsNow 2 = .ok (.iload_n 3, 1) := by decide +kernel
theorem dX7_relocationsNow_3 : decode cX7_relocationsNow 3 = .ok (.bipush 6, 2) := by decide +kernel
theorem dX7_relocationsNow_5 : decode cX7_relocationsNow 5 = .ok (.if_icmp .ge 17, 3) := by decide +kernel
theorem dX7_relocationsNow_8 : decode cX7_relocationsNow 8 = .ok (.aload_n 0, 1) := by decide +kernel
theorem dX7_relocationsNow_9 : decode cX7_relocationsNow 9 = .ok (.iload_n 3, 1) := by decide +kernel
theorem dX7_relocationsNow_10 : decode cX7_relocationsNow 10 = .ok (.iconst 0, 1) := by decide +kernel
theorem dX7_relocationsNow_11 : decode cX7_relocationsNow 11 = .ok (.invokevirtual 141, 3) := by decide +kernel
theorem dX7_relocationsNow_14 : decode cX7_relocationsNow 14 = .ok (.istore 4, 2) := by decide +kernel
theorem dX7_relocationsNow_16 : decode cX7_relocationsNow 16 = .ok (.iinc 3 1, 3) := by decide +kernel
theorem dX7_relocationsNow_19 : decode cX7_relocationsNow 19 = .ok (.goto (-17), 3) := by decide +kernel
theorem dX7_relocationsNow_22 : decode cX7_relocationsNow 22 = .ok (.iconst 0, 1) := by decide +kernel
theorem dX7_relocationsNow_23 : decode cX7_relocationsNow 23 = .ok (.istore_n 3, 1) := by decide +kernel
theorem dX7_relocationsNow_24 : decode cX7_relocationsNow 24 = .ok (.iload_n 3, 1) := by decide +kernel
theorem dX7_relocationsNow_25 : decode cX7_relocationsNow 25 = .ok (.bipush 20, 2) := by decide +kernel
theorem dX7_relocationsNow_27 : decode cX7_relocationsNow 27 = .ok (.if_icmp .gt 67, 3) := by decide +kernel
theorem dX7_relocationsNow_30 : decode cX7_relocationsNow 30 = .ok (.aload_n 0, 1) := by decide +kernel
theorem dX7_relocationsNow_31 : decode cX7_relocationsNow 31 = .ok (.getfield 7, 3) := by decide +kernel
theorem dX7_relocationsNow_34 : decode cX7_relocationsNow 34 = .ok (.iconst 3, 1) := by decide +kernel
theorem dX7_relocationsNow_35 : decode cX7_relocationsNow 35 = .ok (.dup2, 1) := by decide +kernel
theorem dX7_relocationsNow_36 : decode cX7_relocationsNow 36 = .ok (.iaload, 1) := by decide +kernel
theorem dX7_relocationsNow_37 : decode cX7_relocationsNow 37 = .ok (.iconst 2, 1) := by decide +kernel
theorem dX7_relocationsNow_38 : decode cX7_relocationsNow 38 = .ok (.iadd, 1) := by decide +kernel
theorem dX7_relocationsNow_39 : decode cX7_relocationsNow 39 = .ok (.iastore, 1) := by decide +kernel
theorem dX7_relocationsNow_40 : decode cX7_relocationsNow 40 = .ok (.aload_n 0, 1) := by decide +kernel
theorem dX7_relocationsNow_41 : decode cX7_relocationsNow 41 = .ok (.invokevirtual 191, 3) := by decide +kernel
theorem dX7_relocationsNow_44 : decode cX7_relocationsNow 44 = .ok (.istore 4, 2) := by decide +kernel
theorem dX7_relocationsNow_46 : decode cX7_relocationsNow 46 = .ok (.aload_n 0, 1) := by decide +kernel
theorem dX7_relocationsNow_47 : decode cX7_relocationsNow 47 = .ok (.invokevirtual 97, 3) := by decide +kernel
theorem dX7_relocationsNow_50 : decode cX7_relocationsNow 50 = .ok (.iload_n 2, 1) := by decide +kernel
theorem dX7_relocationsNow_51 : decode cX7_relocationsNow 51 = .ok (.if_icmp .lt 5, 3) := by decide +kernel
theorem dX7_relocationsNow_54 : decode cX7_relocationsNow 54 = .ok (.iload_n 3, 1) := by decide +kernel
theorem dX7_relocationsNow_55 : decode cX7_relocationsNow 55 = .ok (.ireturn, 1) := by decide +kernel
theorem dX7_relocationsNow_56 : decode cX7_relocationsNow 56 = .ok (.aload_n 0, 1) := by decide +kernel
theorem dX7_relocationsNow_57 : decode cX7_relocationsNow 57 = .ok (.iload_n 1, 1) := by decide +kernel
theorem dX7_relocationsNow_58 : decode cX7_relocationsNow 58 = .ok (.invokevirtual 212, 3) := by decide +kernel
theorem dX7_relocationsNow_61 : decode cX7_relocationsNow 61 = .ok (.istore 5, 2) := by decide +kernel
theorem dX7_relocationsNow_63 : decode cX7_relocationsNow 63 = .ok (.iload 5, 2) := by decide +kernel
theorem dX7_relocationsNow_65 : decode cX7_relocationsNow 65 = .ok (.iconst (-1), 1) := by decide +kernel
theorem dX7_relocationsNow_66 : decode cX7_relocationsNow 66 = .ok (.if_icmp .eq 12, 3) := by decide +kernel
theorem dX7_relocationsNow_69 : decode cX7_relocationsNow 69 = .ok (.aload_n 0, 1) := by decide +kernel
theorem dX7_relocationsNow_70 : decode cX7_relocationsNow 70 = .ok (.iload 5, 2) := by decide +kernel
theorem dX7_relocationsNow_72 : decode cX7_relocationsNow 72 = .ok (.invokevirtual 203, 3) := by decide +kernel
theorem dX7_relocationsNow_75 : decode cX7_relocationsNow 75 = .ok (.ifCond .ne 5, 3) := by decide +kernel
theorem dX7_relocationsNow_78 : decode cX7_relocationsNow 78 = .ok (.iconst (-1), 1) := by decide +kernel
theorem dX7_relocationsNow_79 : decode cX7_relocationsNow 79 = .ok (.ireturn, 1) := by decide +kernel
theorem dX7_relocationsNow_80 : decode cX7_relocationsNow 80 = .ok (.aload_n 0, 1) := by decide +kernel
theorem dX7_relocationsNow_81 : decode cX7_relocationsNow 81 = .ok (.iload 5, 2) := by decide +kernel
theorem dX7_relocationsNow_83 : decode cX7_relocationsNow 83 = .ok (.invokevirtual 206, 3) := by decide +kernel
theorem dX7_relocationsNow_86 : decode cX7_relocationsNow 86 = .ok (.istore 6, 2) := by decide +kernel
theorem dX7_relocationsNow_88 : decode cX7_relocationsNow 88 = .ok (.iinc 3 1, 3) := by decide +kernel
theorem dX7_relocationsNow_91 : decode cX7_relocationsNow 91 = .ok (.goto (-67), 3) := by decide +kernel
theorem dX7_relocationsNow_94 : decode cX7_relocationsNow 94 = .ok (.iconst (-1), 1) := by decide +kernel
theorem dX7_relocationsNow_95 : decode cX7_relocationsNow 95 = .ok (.ireturn, 1) := by decide +kernel
set_option maxRecDepth 20000 in
theorem ggX7_relocationsFor_X7_isIn : GoodIn wsX7_relocationsFor wsX7_isIn := goodIn_r _ [9] (by first | rfl | decide +kernel) (by decide +kernel)
set_option maxRecDepth 20000 in
theorem gX7_relocationsFor_X7_isIn : GoodIn wsX7_relocationsFor (va_wsS RX7 34 yX7_isIn wsX7_isIn) := goodIn_app (goodIn_of _ (by decide +kernel)) ggX7_relocationsFor_X7_isIn
set_option maxRecDepth 20000 in
theorem ggX7_relocationsFor_X7_relocationsNow : GoodIn wsX7_relocationsFor wsX7_relocationsNow := goodIn_r _ [13, 5, 14, 15, 16, 8, 17, 18, 19, 20, 21, 22, 23, 24, 25, 26, 27, 28, 29, 30, 31, 32, 33, 34, 35, 36, 37, 38, 39, 40, 41, 42, 43, 44, 45, 46, 47, 48, 6, 7, 9, 49, 50, 51, 52, 53, 54, 55, 56, 57, 58, 59, 60, 61, 62, 63, 64, 65, 66, 67, 68, 69, 70, 71, 72, 73, 74, 75, 76, 77, 78, 79, 80, 81, 82, 83, 84, 85, 86, 87, 88, 89, 90, 91, 92, 93, 94, 95, 96, 97, 98, 99, 100, 101, 102, 103, 104, 105, 106, 107, 108, 109, 110, 111, 112, 113, 114, 115, 116, 117, 118, 119, 120, 121, 122, 123, 124, 125, 126, 127, 128, 129, 130, 131, 132, 133, 134, 135, 136, 137, 138, 139, 140, 141] (by first | rfl | decide +kernel) (by decide +kernel)
set_option maxRecDepth 20000 in
theorem gX7_relocationsFor_X7_relocationsNow : GoodIn wsX7_relocationsFor (wsV RX7 221 RX7 yX7_relocationsNow wsX7_relocationsNow) := goodIn_app (goodIn_of _ (by decide +kernel)) ggX7_relocationsFor_X7_relocationsNow
theorem dX7_relocationsFor_0 : decode cX7_relocationsFor 0 = .ok (.aload_n 0, 1) := by decide +kernel
theorem dX7_relocationsFor_1 : decode cX7_relocationsFor 1 = .ok (.iload_n 1, 1) := by decide +kernel
theorem dX7_relocationsFor_2 : decode cX7_relocationsFor 2 = .ok (.i2l, 1) := by decide +kernel
theorem dX7_relocationsFor_3 : decode cX7_relocationsFor 3 = .ok (.lconst 0, 1) := by decide +kernel
theorem dX7_relocationsFor_4 : decode cX7_relocationsFor 4 = .ok (.ldc2_w 38, 3) := by decide +kernel
theorem dX7_relocationsFor_7 : decode cX7_relocationsFor 7 = .ok (.invokestatic 34, 3) := by decide +kernel
theorem dX7_relocationsFor_10 : decode cX7_relocationsFor 10 = .ok (.ifCond .eq 19, 3) := by decide +kernel
theorem dX7_relocationsFor_13 : decode cX7_relocationsFor 13 = .ok (.iload_n 2, 1) := by decide +kernel
theorem dX7_relocationsFor_14 : decode cX7_relocationsFor 14 = .ok (.i2l, 1) := by decide +kernel
theorem dX7_relocationsFor_15 : decode cX7_relocationsFor 15 = .ok (.lconst 1, 1) := by decide +kernel
theorem dX7_relocationsFor_16 : decode cX7_relocationsFor 16 = .ok (.ldc2_w 219, 3) := by decide +kernel
theorem dX7_relocationsFor_19 : decode cX7_relocationsFor 19 = .ok (.invokestatic 34, 3) := by decide +kernel
theorem dX7_relocationsFor_22 : decode cX7_relocationsFor 22 = .ok (.ifCond .eq 7, 3) := by decide +kernel
theorem dX7_relocationsFor_25 : decode cX7_relocationsFor 25 = .ok (.iconst 0, 1) := by decide +kernel
theorem dX7_relocationsFor_26 : decode cX7_relocationsFor 26 = .ok (.goto 4, 3) := by decide +kernel
theorem dX7_relocationsFor_29 : decode cX7_relocationsFor 29 = .ok (.iconst 1, 1) := by decide +kernel
theorem dX7_relocationsFor_30 : decode cX7_relocationsFor 30 = .ok (.putfield 23, 3) := by decide +kernel
theorem dX7_relocationsFor_33 : decode cX7_relocationsFor 33 = .ok (.aload_n 0, 1) := by decide +kernel
theorem dX7_relocationsFor_34 : decode cX7_relocationsFor 34 = .ok (.getfield 23, 3) := by decide +kernel
theorem dX7_relocationsFor_37 : decode cX7_relocationsFor 37 = .ok (.ifCond .le 5, 3) := by decide +kernel
theorem dX7_relocationsFor_40 : decode cX7_relocationsFor 40 = .ok (.iconst 0, 1) := by decide +kernel
theorem dX7_relocationsFor_41 : decode cX7_relocationsFor 41 = .ok (.ireturn, 1) := by decide +kernel
theorem dX7_relocationsFor_42 : decode cX7_relocationsFor 42 = .ok (.iconst 0, 1) := by decide +kernel
theorem dX7_relocationsFor_43 : decode cX7_relocationsFor 43 = .ok (.istore_n 3, 1) := by decide +kernel
theorem dX7_relocationsFor_44 : decode cX7_relocationsFor 44 = .ok (.iload_n 3, 1) := by decide +kernel
theorem dX7_relocationsFor_45 : decode cX7_relocationsFor 45 = .ok (.sipush 1036, 3) := by decide +kernel
theorem dX7_relocationsFor_48 : decode cX7_relocationsFor 48 = .ok (.if_icmp .ge 21, 3) := by decide +kernel
theorem dX7_relocationsFor_51 : decode cX7_relocationsFor 51 = .ok (.aload_n 0, 1) := by decide +kernel
theorem dX7_relocationsFor_52 : decode cX7_relocationsFor 52 = .ok (.getfield 16, 3) := by decide +kernel
theorem dX7_relocationsFor_55 : decode cX7_relocationsFor 55 = .ok (.iload_n 3, 1) := by decide +kernel
theorem dX7_relocationsFor_56 : decode cX7_relocationsFor 56 = .ok (.aload_n 0, 1) := by decide +kernel
theorem dX7_relocationsFor_57 : decode cX7_relocationsFor 57 = .ok (.getfield 7, 3) := by decide +kernel
theorem dX7_relocationsFor_60 : decode cX7_relocationsFor 60 = .ok (.iload_n 3, 1) := by decide +kernel
theorem dX7_relocationsFor_61 : decode cX7_relocationsFor 61 = .ok (.iaload, 1) := by decide +kernel
theorem dX7_relocationsFor_62 : decode cX7_relocationsFor 62 = .ok (.iastore, 1) := by decide +kernel
theorem dX7_relocationsFor_63 : decode cX7_relocationsFor 63 = .ok (.iinc 3 1, 3) := by decide +kernel
theorem dX7_relocationsFor_66 : decode cX7_relocationsFor 66 = .ok (.goto (-22), 3) := by decide +kernel
theorem dX7_relocationsFor_69 : decode cX7_relocationsFor 69 = .ok (.aload_n 0, 1) := by decide +kernel
theorem dX7_relocationsFor_70 : decode cX7_relocationsFor 70 = .ok (.iload_n 1, 1) := by decide +kernel
theorem dX7_relocationsFor_71 : decode cX7_relocationsFor 71 = .ok (.iload_n 2, 1) := by decide +kernel
theorem dX7_relocationsFor_72 : decode cX7_relocationsFor 72 = .ok (.invokevirtual 221, 3) := by decide +kernel
theorem dX7_relocationsFor_75 : decode cX7_relocationsFor 75 = .ok (.istore_n 3, 1) := by decide +kernel
theorem dX7_relocationsFor_76 : decode cX7_relocationsFor 76 = .ok (.iconst 0, 1) := by decide +kernel
theorem dX7_relocationsFor_77 : decode cX7_relocationsFor 77 = .ok (.istore 4, 2) := by decide +kernel
theorem dX7_relocationsFor_79 : decode cX7_relocationsFor 79 = .ok (.iload 4, 2) := by decide +kernel
theorem dX7_relocationsFor_81 : decode cX7_relocationsFor 81 = .ok (.sipush 1036, 3) := by decide +kernel
theorem dX7_relocationsFor_84 : decode cX7_relocationsFor 84 = .ok (.if_icmp .ge 23, 3) := by decide +kernel
theorem dX7_relocationsFor_87 : decode cX7_relocationsFor 87 = .ok (.aload_n 0, 1) := by decide +kernel
theorem dX7_relocationsFor_88 : decode cX7_relocationsFor 88 = .ok (.getfield 7, 3) := by decide +kernel
theorem dX7_relocationsFor_91 : decode cX7_relocationsFor 91 = .ok (.iload 4, 2) := by decide +kernel
theorem dX7_relocationsFor_93 : decode cX7_relocationsFor 93 = .ok (.aload_n 0, 1) := by decide +kernel
theorem dX7_relocationsFor_94 : decode cX7_relocationsFor 94 = .ok (.getfield 16, 3) := by decide +kernel
theorem dX7_relocationsFor_97 : decode cX7_relocationsFor 97 = .ok (.iload 4, 2) := by decide +kernel
theorem dX7_relocationsFor_99 : decode cX7_relocationsFor 99 = .ok (.iaload, 1) := by decide +kernel
theorem dX7_relocationsFor_100 : decode cX7_relocationsFor 100 = .ok (.iastore, 1) := by decide +kernel
theorem dX7_relocationsFor_101 : decode cX7_relocationsFor 101 = .ok (.iinc 4 1, 3) := by decide +kernel
theorem dX7_relocationsFor_104 : decode cX7_relocationsFor 104 = .ok (.goto (-25), 3) := by decide +kernel
theorem dX7_relocationsFor_107 : decode cX7_relocationsFor 107 = .ok (.aload_n 0, 1) := by decide +kernel
theorem dX7_relocationsFor_108 : decode cX7_relocationsFor 108 = .ok (.iload_n 3, 1) := by decide +kernel
theorem dX7_relocationsFor_109 : decode cX7_relocationsFor 109 = .ok (.iconst (-1), 1) := by decide +kernel
theorem dX7_relocationsFor_110 : decode cX7_relocationsFor 110 = .ok (.if_icmp .ne 7, 3) := by decide +kernel
theorem dX7_relocationsFor_113 : decode cX7_relocationsFor 113 = .ok (.iconst 2, 1) := by decide +kernel
theorem dX7_relocationsFor_114 : decode cX7_relocationsFor 114 = .ok (.goto 4, 3) := by decide +kernel
theorem dX7_relocationsFor_117 : decode cX7_relocationsFor 117 = .ok (.iconst 0, 1) := by decide +kernel
theorem dX7_relocationsFor_118 : decode cX7_relocationsFor 118 = .ok (.putfield 23, 3) := by decide +kernel
theorem dX7_relocationsFor_121 : decode cX7_relocationsFor 121 = .ok (.aload_n 0, 1) := by decide +kernel
theorem dX7_relocationsFor_122 : decode cX7_relocationsFor 122 = .ok (.getfield 23, 3) := by decide +kernel
theorem dX7_relocationsFor_125 : decode cX7_relocationsFor 125 = .ok (.ifCond .le 7, 3) := by decide +kernel
theorem dX7_relocationsFor_128 : decode cX7_relocationsFor 128 = .ok (.iconst 0, 1) := by decide +kernel
theorem dX7_relocationsFor_129 : decode cX7_relocationsFor 129 = .ok (.goto 4, 3) := by decide +kernel
theorem dX7_relocationsFor_132 : decode cX7_relocationsFor 132 = .ok (.iload_n 3, 1) := by decide +kernel
theorem dX7_relocationsFor_133 : decode cX7_relocationsFor 133 = .ok (.ireturn, 1) := by decide +kernel
set_option maxRecDepth 20000 in
theorem ggX7_advancesToErase_X7_isSegment : GoodIn wsX7_advancesToErase wsX7_isSegment := goodIn_r _ [6, 7, 8, 9, 5, 10, 35, 36, 37, 38, 39] (by first | rfl | decide +kernel) (by decide +kernel)
set_option maxRecDepth 20000 in
theorem gX7_advancesToErase_X7_isSegment : GoodIn wsX7_advancesToErase (wsV RX7 47 RX7 yX7_isSegment wsX7_isSegment) := goodIn_app (goodIn_of _ (by decide +kernel)) ggX7_advancesToErase_X7_isSegment
set_option maxRecDepth 20000 in
theorem ggX7_advancesToErase_X7_ofSegment : GoodIn wsX7_advancesToErase wsX7_ofSegment := goodIn_r _ [14, 7, 35, 36, 37, 38, 39] (by first | rfl | decide +kernel) (by decide +kernel)
set_option maxRecDepth 20000 in
theorem gX7_advancesToErase_X7_ofSegment : GoodIn wsX7_advancesToErase (wsV RX7 53 RX7 yX7_ofSegment wsX7_ofSegment) := goodIn_app (goodIn_of _ (by decide +kernel)) ggX7_advancesToErase_X7_ofSegment
set_option maxRecDepth 20000 in
theorem ggX7_advancesToErase_X7_useOf : GoodIn wsX7_advancesToErase wsX7_useOf := goodIn_r _ [18, 19, 20, 21, 5, 22, 7, 23, 24, 25, 26, 35, 36, 37, 38, 39] (by first | rfl | decide +kernel) (by decide +kernel)
set_option maxRecDepth 20000 in
theorem gX7_advancesToErase_X7_useOf : GoodIn wsX7_advancesToErase (wsV RX7 184 RX7 yX7_useOf wsX7_useOf) := goodIn_app (goodIn_of _ (by decide +kernel)) ggX7_advancesToErase_X7_useOf
set_option maxRecDepth 20000 in
theorem ggX7_advancesToErase_X7_isGone : GoodIn wsX7_advancesToErase wsX7_isGone := goodIn_r _ [30, 7, 11, 12, 13, 5, 14, 15, 16, 17, 18, 19, 20, 21, 22, 23, 24, 25, 26, 31, 32, 33, 34, 35, 36, 37, 38, 39] (by first | rfl | decide +kernel) (by decide +kernel)
set_option maxRecDepth 20000 in
theorem gX7_advancesToErase_X7_isGone : GoodIn wsX7_advancesToErase (wsV RX7 197 RX7 yX7_isGone wsX7_isGone) := goodIn_app (goodIn_of _ (by decide +kernel)) ggX7_advancesToErase_X7_isGone
theorem dX7_advancesToErase_0 : decode cX7_advancesToErase 0 = .ok (.aload_n 0, 1) := by decide +kernel
theorem dX7_advancesToErase_1 : decode cX7_advancesToErase 1 = .ok (.aload_n 0, 1) := by decide +kernel
theorem dX7_advancesToErase_2 : decode cX7_advancesToErase 2 = .ok (.iload_n 1, 1) := by decide +kernel
theorem dX7_advancesToErase_3 : decode cX7_advancesToErase 3 = .ok (.invokevirtual 47, 3) := by decide +kernel
theorem dX7_advancesToErase_6 : decode cX7_advancesToErase 6 = .ok (.ifCond .ne 7, 3) := by decide +kernel
theorem dX7_advancesToErase_9 : decode cX7_advancesToErase 9 = .ok (.iconst 1, 1) := by decide +kernel
theorem dX7_advancesToErase_10 : decode cX7_advancesToErase 10 = .ok (.goto 26, 3) := by decide +kernel
theorem dX7_advancesToErase_13 : decode cX7_advancesToErase 13 = .ok (.aload_n 0, 1) := by decide +kernel
theorem dX7_advancesToErase_14 : decode cX7_advancesToErase 14 = .ok (.iload_n 1, 1) := by decide +kernel
theorem dX7_advancesToErase_15 : decode cX7_advancesToErase 15 = .ok (.iconst 0, 1) := by decide +kernel
theorem dX7_advancesToErase_16 : decode cX7_advancesToErase 16 = .ok (.invokevirtual 53, 3) := by decide +kernel
theorem dX7_advancesToErase_19 : decode cX7_advancesToErase 19 = .ok (.iconst 2, 1) := by decide +kernel
theorem dX7_advancesToErase_20 : decode cX7_advancesToErase 20 = .ok (.if_icmp .ne 11, 3) := by decide +kernel
theorem dX7_advancesToErase_23 : decode cX7_advancesToErase 23 = .ok (.aload_n 0, 1) := by decide +kernel
theorem dX7_advancesToErase_24 : decode cX7_advancesToErase 24 = .ok (.iload_n 1, 1) := by decide +kernel
theorem dX7_advancesToErase_25 : decode cX7_advancesToErase 25 = .ok (.invokevirtual 184, 3) := by decide +kernel
theorem dX7_advancesToErase_28 : decode cX7_advancesToErase 28 = .ok (.ifCond .le 7, 3) := by decide +kernel
theorem dX7_advancesToErase_31 : decode cX7_advancesToErase 31 = .ok (.iconst 2, 1) := by decide +kernel
theorem dX7_advancesToErase_32 : decode cX7_advancesToErase 32 = .ok (.goto 4, 3) := by decide +kernel
theorem dX7_advancesToErase_35 : decode cX7_advancesToErase 35 = .ok (.iconst 0, 1) := by decide +kernel
theorem dX7_advancesToErase_36 : decode cX7_advancesToErase 36 = .ok (.putfield 23, 3) := by decide +kernel
theorem dX7_advancesToErase_39 : decode cX7_advancesToErase 39 = .ok (.aload_n 0, 1) := by decide +kernel
theorem dX7_advancesToErase_40 : decode cX7_advancesToErase 40 = .ok (.getfield 23, 3) := by decide +kernel
theorem dX7_advancesToErase_43 : decode cX7_advancesToErase 43 = .ok (.ifCond .le 5, 3) := by decide +kernel
theorem dX7_advancesToErase_46 : decode cX7_advancesToErase 46 = .ok (.iconst 0, 1) := by decide +kernel
theorem dX7_advancesToErase_47 : decode cX7_advancesToErase 47 = .ok (.ireturn, 1) := by decide +kernel
theorem dX7_advancesToErase_48 : decode cX7_advancesToErase 48 = .ok (.iconst 0, 1) := by decide +kernel
theorem dX7_advancesToErase_49 : decode cX7_advancesToErase 49 = .ok (.istore_n 2, 1) := by decide +kernel
theorem dX7_advancesToErase_50 : decode cX7_advancesToErase 50 = .ok (.aload_n 0, 1) := by decide +kernel
theorem dX7_advancesToErase_51 : decode cX7_advancesToErase 51 = .ok (.iload_n 1, 1) := by decide +kernel
theorem dX7_advancesToErase_52 : decode cX7_advancesToErase 52 = .ok (.iload_n 2, 1) := by decide +kernel
theorem dX7_advancesToErase_53 : decode cX7_advancesToErase 53 = .ok (.invokevirtual 197, 3) := by decide +kernel
theorem dX7_advancesToErase_56 : decode cX7_advancesToErase 56 = .ok (.ifCond .ne 9, 3) := by decide +kernel
theorem dX7_advancesToErase_59 : decode cX7_advancesToErase 59 = .ok (.iinc 2 1, 3) := by decide +kernel
theorem dX7_advancesToErase_62 : decode cX7_advancesToErase 62 = .ok (.goto (-12), 3) := by decide +kernel
theorem dX7_advancesToErase_65 : decode cX7_advancesToErase 65 = .ok (.iload_n 2, 1) := by decide +kernel
theorem dX7_advancesToErase_66 : decode cX7_advancesToErase 66 = .ok (.ireturn, 1) := by decide +kernel
set_option maxRecDepth 20000 in
theorem ggX7_regainable_X7_allIn : GoodIn wsX7_regainable wsX7_allIn := goodIn_r _ [7, 2, 8, 9, 10, 6, 11, 12, 13, 14, 15, 16, 17, 18, 19, 20] (by first | rfl | decide +kernel) (by decide +kernel)
set_option maxRecDepth 20000 in
theorem gX7_regainable_X7_allIn : GoodIn wsX7_regainable (wsV RX7 181 RX7 yX7_allIn wsX7_allIn) := goodIn_app (goodIn_of _ (by decide +kernel)) ggX7_regainable_X7_allIn
theorem dX7_regainable_0 : decode cX7_regainable 0 = .ok (.aload_n 0, 1) := by decide +kernel
theorem dX7_regainable_1 : decode cX7_regainable 1 = .ok (.iconst 0, 1) := by decide +kernel
theorem dX7_regainable_2 : decode cX7_regainable 2 = .ok (.putfield 23, 3) := by decide +kernel
theorem dX7_regainable_5 : decode cX7_regainable 5 = .ok (.aload_n 0, 1) := by decide +kernel
theorem dX7_regainable_6 : decode cX7_regainable 6 = .ok (.getfield 7, 3) := by decide +kernel
theorem dX7_regainable_9 : decode cX7_regainable 9 = .ok (.iconst 0, 1) := by decide +kernel
theorem dX7_regainable_10 : decode cX7_regainable 10 = .ok (.iaload, 1) := by decide +kernel
theorem dX7_regainable_11 : decode cX7_regainable 11 = .ok (.aload_n 0, 1) := by decide +kernel
theorem dX7_regainable_12 : decode cX7_regainable 12 = .ok (.getfield 7, 3) := by decide +kernel
theorem dX7_regainable_15 : decode cX7_regainable 15 = .ok (.iconst 1, 1) := by decide +kernel
theorem dX7_regainable_16 : decode cX7_regainable 16 = .ok (.iaload, 1) := by decide +kernel
theorem dX7_regainable_17 : decode cX7_regainable 17 = .ok (.imul, 1) := by decide +kernel
theorem dX7_regainable_18 : decode cX7_regainable 18 = .ok (.aload_n 0, 1) := by decide +kernel
theorem dX7_regainable_19 : decode cX7_regainable 19 = .ok (.iconst 1, 1) := by decide +kernel
theorem dX7_regainable_20 : decode cX7_regainable 20 = .ok (.invokevirtual 181, 3) := by decide +kernel
theorem dX7_regainable_23 : decode cX7_regainable 23 = .ok (.isub, 1) := by decide +kernel
theorem dX7_regainable_24 : decode cX7_regainable 24 = .ok (.aload_n 0, 1) := by decide +kernel
theorem dX7_regainable_25 : decode cX7_regainable 25 = .ok (.iconst 2, 1) := by decide +kernel
theorem dX7_regainable_26 : decode cX7_regainable 26 = .ok (.invokevirtual 181, 3) := by decide +kernel
theorem dX7_regainable_29 : decode cX7_regainable 29 = .ok (.isub, 1) := by decide +kernel
theorem dX7_regainable_30 : decode cX7_regainable 30 = .ok (.ireturn, 1) := by decide +kernel
set_option maxRecDepth 20000 in
theorem ggX7_regainableNow_X7_goneMany : GoodIn wsX7_regainableNow wsX7_goneMany := goodIn_r _ [7, 2, 8, 9, 10, 6, 11, 12, 13, 14, 15, 16, 17, 18, 19, 20, 21, 22, 23, 24, 25, 26, 27, 28, 29, 30, 31, 32, 33, 34, 35, 36] (by first | rfl | decide +kernel) (by decide +kernel)
set_option maxRecDepth 20000 in
theorem gX7_regainableNow_X7_goneMany : GoodIn wsX7_regainableNow (wsV RX7 200 RX7 yX7_goneMany wsX7_goneMany) := goodIn_app (goodIn_of _ (by decide +kernel)) ggX7_regainableNow_X7_goneMany
theorem dX7_regainableNow_0 : decode cX7_regainableNow 0 = .ok (.aload_n 0, 1) := by decide +kernel
theorem dX7_regainableNow_1 : decode cX7_regainableNow 1 = .ok (.iconst 0, 1) := by decide +kernel
theorem dX7_regainableNow_2 : decode cX7_regainableNow 2 = .ok (.putfield 23, 3) := by decide +kernel
theorem dX7_regainableNow_5 : decode cX7_regainableNow 5 = .ok (.aload_n 0, 1) := by decide +kernel
theorem dX7_regainableNow_6 : decode cX7_regainableNow 6 = .ok (.iconst 2, 1) := by decide +kernel
theorem dX7_regainableNow_7 : decode cX7_regainableNow 7 = .ok (.invokevirtual 200, 3) := by decide +kernel
theorem dX7_regainableNow_10 : decode cX7_regainableNow 10 = .ok (.aload_n 0, 1) := by decide +kernel
theorem dX7_regainableNow_11 : decode cX7_regainableNow 11 = .ok (.getfield 7, 3) := by decide +kernel
theorem dX7_regainableNow_14 : decode cX7_regainableNow 14 = .ok (.iconst 1, 1) := by decide +kernel
theorem dX7_regainableNow_15 : decode cX7_regainableNow 15 = .ok (.iaload, 1) := by decide +kernel
theorem dX7_regainableNow_16 : decode cX7_regainableNow 16 = .ok (.imul, 1) := by decide +kernel
theorem dX7_regainableNow_17 : decode cX7_regainableNow 17 = .ok (.ireturn, 1) := by decide +kernel
set_option maxRecDepth 20000 in
theorem ggX7_divisor_X7_divisor : GoodIn wsX7_divisor wsX7_divisor := goodIn_r _ [0, 1, 2, 3] (by first | rfl | decide +kernel) (by decide +kernel)
set_option maxRecDepth 20000 in
theorem gX7_divisor_X7_divisor : GoodIn wsX7_divisor (va_wsS RX7 224 yX7_divisor wsX7_divisor) := goodIn_app (goodIn_of _ (by decide +kernel)) ggX7_divisor_X7_divisor
theorem dX7_divisor_0 : decode cX7_divisor 0 = .ok (.iload_n 1, 1) := by decide +kernel
theorem dX7_divisor_1 : decode cX7_divisor 1 = .ok (.ifCond .ne 7, 3) := by decide +kernel
theorem dX7_divisor_4 : decode cX7_divisor 4 = .ok (.iload_n 0, 1) := by decide +kernel
theorem dX7_divisor_5 : decode cX7_divisor 5 = .ok (.goto 10, 3) := by decide +kernel
theorem dX7_divisor_8 : decode cX7_divisor 8 = .ok (.iload_n 1, 1) := by decide +kernel
theorem dX7_divisor_9 : decode cX7_divisor 9 = .ok (.iload_n 0, 1) := by decide +kernel
theorem dX7_divisor_10 : decode cX7_divisor 10 = .ok (.iload_n 1, 1) := by decide +kernel
theorem dX7_divisor_11 : decode cX7_divisor 11 = .ok (.irem, 1) := by decide +kernel
theorem dX7_divisor_12 : decode cX7_divisor 12 = .ok (.invokestatic 224, 3) := by decide +kernel
theorem dX7_divisor_15 : decode cX7_divisor 15 = .ok (.ireturn, 1) := by decide +kernel
set_option maxRecDepth 20000 in
theorem ggX7_amplification_X7_divisor : GoodIn wsX7_amplification wsX7_divisor := goodIn_r _ [6, 3, 4, 5] (by first | rfl | decide +kernel) (by decide +kernel)
set_option maxRecDepth 20000 in
theorem gX7_amplification_X7_divisor : GoodIn wsX7_amplification (va_wsS RX7 224 yX7_divisor wsX7_divisor) := goodIn_app (goodIn_of _ (by decide +kernel)) ggX7_amplification_X7_divisor
theorem dX7_amplification_0 : decode cX7_amplification 0 = .ok (.aload_n 0, 1) := by decide +kernel
theorem dX7_amplification_1 : decode cX7_amplification 1 = .ok (.aload_n 0, 1) := by decide +kernel
theorem dX7_amplification_2 : decode cX7_amplification 2 = .ok (.getfield 7, 3) := by decide +kernel
theorem dX7_amplification_5 : decode cX7_amplification 5 = .ok (.bipush 6, 2) := by decide +kernel
theorem dX7_amplification_7 : decode cX7_amplification 7 = .ok (.iaload, 1) := by decide +kernel
theorem dX7_amplification_8 : decode cX7_amplification 8 = .ok (.ifCond .ne 7, 3) := by decide +kernel
theorem dX7_amplification_11 : decode cX7_amplification 11 = .ok (.iconst 1, 1) := by decide +kernel
theorem dX7_amplification_12 : decode cX7_amplification 12 = .ok (.goto 4, 3) := by decide +kernel
theorem dX7_amplification_15 : decode cX7_amplification 15 = .ok (.iconst 0, 1) := by decide +kernel
theorem dX7_amplification_16 : decode cX7_amplification 16 = .ok (.putfield 23, 3) := by decide +kernel
theorem dX7_amplification_19 : decode cX7_amplification 19 = .ok (.aload_n 0, 1) := by decide +kernel
theorem dX7_amplification_20 : decode cX7_amplification 20 = .ok (.getfield 23, 3) := by decide +kernel
theorem dX7_amplification_23 : decode cX7_amplification 23 = .ok (.ifCond .le 5, 3) := by decide +kernel
theorem dX7_amplification_26 : decode cX7_amplification 26 = .ok (.iconst 0, 1) := by decide +kernel
theorem dX7_amplification_27 : decode cX7_amplification 27 = .ok (.ireturn, 1) := by decide +kernel
theorem dX7_amplification_28 : decode cX7_amplification 28 = .ok (.aload_n 0, 1) := by decide +kernel
theorem dX7_amplification_29 : decode cX7_amplification 29 = .ok (.getfield 7, 3) := by decide +kernel
theorem dX7_amplification_32 : decode cX7_amplification 32 = .ok (.bipush 6, 2) := by decide +kernel
theorem dX7_amplification_34 : decode cX7_amplification 34 = .ok (.iaload, 1) := by decide +kernel
theorem dX7_amplification_35 : decode cX7_amplification 35 = .ok (.aload_n 0, 1) := by decide +kernel
theorem dX7_amplification_36 : decode cX7_amplification 36 = .ok (.getfield 7, 3) := by decide +kernel
theorem dX7_amplification_39 : decode cX7_amplification 39 = .ok (.bipush 7, 2) := by decide +kernel
theorem dX7_amplification_41 : decode cX7_amplification 41 = .ok (.iaload, 1) := by decide +kernel
theorem dX7_amplification_42 : decode cX7_amplification 42 = .ok (.iadd, 1) := by decide +kernel
theorem dX7_amplification_43 : decode cX7_amplification 43 = .ok (.istore_n 2, 1) := by decide +kernel
theorem dX7_amplification_44 : decode cX7_amplification 44 = .ok (.iload_n 1, 1) := by decide +kernel
theorem dX7_amplification_45 : decode cX7_amplification 45 = .ok (.ifCond .eq 13, 3) := by decide +kernel
theorem dX7_amplification_48 : decode cX7_amplification 48 = .ok (.aload_n 0, 1) := by decide +kernel
theorem dX7_amplification_49 : decode cX7_amplification 49 = .ok (.getfield 7, 3) := by decide +kernel
theorem dX7_amplification_52 : decode cX7_amplification 52 = .ok (.bipush 6, 2) := by decide +kernel
theorem dX7_amplification_54 : decode cX7_amplification 54 = .ok (.iaload, 1) := by decide +kernel
theorem dX7_amplification_55 : decode cX7_amplification 55 = .ok (.goto 4, 3) := by decide +kernel
theorem dX7_amplification_58 : decode cX7_amplification 58 = .ok (.iload_n 2, 1) := by decide +kernel
theorem dX7_amplification_59 : decode cX7_amplification 59 = .ok (.iload_n 2, 1) := by decide +kernel
theorem dX7_amplification_60 : decode cX7_amplification 60 = .ok (.aload_n 0, 1) := by decide +kernel
theorem dX7_amplification_61 : decode cX7_amplification 61 = .ok (.getfield 7, 3) := by decide +kernel
theorem dX7_amplification_64 : decode cX7_amplification 64 = .ok (.bipush 6, 2) := by decide +kernel
theorem dX7_amplification_66 : decode cX7_amplification 66 = .ok (.iaload, 1) := by decide +kernel
theorem dX7_amplification_67 : decode cX7_amplification 67 = .ok (.invokestatic 224, 3) := by decide +kernel
theorem dX7_amplification_70 : decode cX7_amplification 70 = .ok (.idiv, 1) := by decide +kernel
theorem dX7_amplification_71 : decode cX7_amplification 71 = .ok (.ireturn, 1) := by decide +kernel
set_option maxRecDepth 20000 in
theorem ggX7_meanAge_X7_isSegment : GoodIn wsX7_meanAge wsX7_isSegment := goodIn_r _ [8, 2, 9, 10, 7, 11, 27, 28, 29, 30, 31] (by first | rfl | decide +kernel) (by decide +kernel)
set_option maxRecDepth 20000 in
theorem gX7_meanAge_X7_isSegment : GoodIn wsX7_meanAge (wsV RX7 47 RX7 yX7_isSegment wsX7_isSegment) := goodIn_app (goodIn_of _ (by decide +kernel)) ggX7_meanAge_X7_isSegment
set_option maxRecDepth 20000 in
theorem ggX7_meanAge_X7_useOf : GoodIn wsX7_meanAge wsX7_useOf := goodIn_r _ [15, 16, 17, 18, 7, 19, 2, 20, 21, 22, 23, 27, 28, 29, 30, 31] (by first | rfl | decide +kernel) (by decide +kernel)
set_option maxRecDepth 20000 in
theorem gX7_meanAge_X7_useOf : GoodIn wsX7_meanAge (wsV RX7 184 RX7 yX7_useOf wsX7_useOf) := goodIn_app (goodIn_of _ (by decide +kernel)) ggX7_meanAge_X7_useOf
set_option maxRecDepth 20000 in
theorem ggX7_meanAge_X7_ofBlock : GoodIn wsX7_meanAge wsX7_ofBlock := goodIn_r _ [23, 2, 27, 28, 29, 30, 31] (by first | rfl | decide +kernel) (by decide +kernel)
set_option maxRecDepth 20000 in
theorem gX7_meanAge_X7_ofBlock : GoodIn wsX7_meanAge (wsV RX7 67 RX7 yX7_ofBlock wsX7_ofBlock) := goodIn_app (goodIn_of _ (by decide +kernel)) ggX7_meanAge_X7_ofBlock
set_option maxRecDepth 20000 in
theorem ggX7_meanAge_X7_isIn : GoodIn wsX7_meanAge wsX7_isIn := goodIn_r _ [11] (by first | rfl | decide +kernel) (by decide +kernel)
set_option maxRecDepth 20000 in
theorem gX7_meanAge_X7_isIn : GoodIn wsX7_meanAge (va_wsS RX7 34 yX7_isIn wsX7_isIn) := goodIn_app (goodIn_of _ (by decide +kernel)) ggX7_meanAge_X7_isIn
set_option maxRecDepth 20000 in
theorem ggX7_meanAge_X7_divisor : GoodIn wsX7_meanAge wsX7_divisor := goodIn_r _ [26, 24, 25, 7] (by first | rfl | decide +kernel) (by decide +kernel)
set_option maxRecDepth 20000 in
theorem gX7_meanAge_X7_divisor : GoodIn wsX7_meanAge (va_wsS RX7 224 yX7_divisor wsX7_divisor) := goodIn_app (goodIn_of _ (by decide +kernel)) ggX7_meanAge_X7_divisor
theorem dX7_meanAge_0 : decode cX7_meanAge 0 = .ok (.aload_n 0, 1) := by decide +kernel
theorem dX7_meanAge_1 : decode cX7_meanAge 1 = .ok (.aload_n 0, 1) := by decide +kernel
theorem dX7_meanAge_2 : decode cX7_meanAge 2 = .ok (.iload_n 1, 1) := by decide +kernel
theorem dX7_meanAge_3 : decode cX7_meanAge 3 = .ok (.invokevirtual 47, 3) := by decide +kernel
theorem dX7_meanAge_6 : decode cX7_meanAge 6 = .ok (.ifCond .ne 7, 3) := by decide +kernel
theorem dX7_meanAge_9 : decode cX7_meanAge 9 = .ok (.iconst 1, 1) := by decide +kernel
theorem dX7_meanAge_10 : decode cX7_meanAge 10 = .ok (.goto 16, 3) := by decide +kernel
theorem dX7_meanAge_13 : decode cX7_meanAge 13 = .ok (.aload_n 0, 1) := by decide +kernel
theorem dX7_meanAge_14 : decode cX7_meanAge 14 = .ok (.iload_n 1, 1) := by decide +kernel
theorem dX7_meanAge_15 : decode cX7_meanAge 15 = .ok (.invokevirtual 184, 3) := by decide +kernel
theorem dX7_meanAge_18 : decode cX7_meanAge 18 = .ok (.ifCond .ne 7, 3) := by decide +kernel
theorem dX7_meanAge_21 : decode cX7_meanAge 21 = .ok (.iconst 2, 1) := by decide +kernel
theorem dX7_meanAge_22 : decode cX7_meanAge 22 = .ok (.goto 4, 3) := by decide +kernel
theorem dX7_meanAge_25 : decode cX7_meanAge 25 = .ok (.iconst 0, 1) := by decide +kernel
theorem dX7_meanAge_26 : decode cX7_meanAge 26 = .ok (.putfield 23, 3) := by decide +kernel
theorem dX7_meanAge_29 : decode cX7_meanAge 29 = .ok (.aload_n 0, 1) := by decide +kernel
theorem dX7_meanAge_30 : decode cX7_meanAge 30 = .ok (.getfield 23, 3) := by decide +kernel
theorem dX7_meanAge_33 : decode cX7_meanAge 33 = .ok (.ifCond .le 5, 3) := by decide +kernel
theorem dX7_meanAge_36 : decode cX7_meanAge 36 = .ok (.iconst 0, 1) := by decide +kernel
theorem dX7_meanAge_37 : decode cX7_meanAge 37 = .ok (.ireturn, 1) := by decide +kernel
theorem dX7_meanAge_38 : decode cX7_meanAge 38 = .ok (.iconst 0, 1) := by decide +kernel
theorem dX7_meanAge_39 : decode cX7_meanAge 39 = .ok (.istore_n 3, 1) := by decide +kernel
theorem dX7_meanAge_40 : decode cX7_meanAge 40 = .ok (.bipush 16, 2) := by decide +kernel
theorem dX7_meanAge_42 : decode cX7_meanAge 42 = .ok (.iload_n 1, 1) := by decide +kernel
theorem dX7_meanAge_43 : decode cX7_meanAge 43 = .ok (.imul, 1) := by decide +kernel
theorem dX7_meanAge_44 : decode cX7_meanAge 44 = .ok (.istore 4, 2) := by decide +kernel
theorem dX7_meanAge_46 : decode cX7_meanAge 46 = .ok (.iload 4, 2) := by decide +kernel
theorem dX7_meanAge_48 : decode cX7_meanAge 48 = .ok (.bipush 16, 2) := by decide +kernel
theorem dX7_meanAge_50 : decode cX7_meanAge 50 = .ok (.iload_n 1, 1) := by decide +kernel
theorem dX7_meanAge_51 : decode cX7_meanAge 51 = .ok (.imul, 1) := by decide +kernel
theorem dX7_meanAge_52 : decode cX7_meanAge 52 = .ok (.aload_n 0, 1) := by decide +kernel
theorem dX7_meanAge_53 : decode cX7_meanAge 53 = .ok (.getfield 7, 3) := by decide +kernel
theorem dX7_meanAge_56 : decode cX7_meanAge 56 = .ok (.iconst 1, 1) := by decide +kernel
theorem dX7_meanAge_57 : decode cX7_meanAge 57 = .ok (.iaload, 1) := by decide +kernel
theorem dX7_meanAge_58 : decode cX7_meanAge 58 = .ok (.iadd, 1) := by decide +kernel
theorem dX7_meanAge_59 : decode cX7_meanAge 59 = .ok (.if_icmp .ge 48, 3) := by decide +kernel
theorem dX7_meanAge_62 : decode cX7_meanAge 62 = .ok (.iload_n 3, 1) := by decide +kernel
theorem dX7_meanAge_63 : decode cX7_meanAge 63 = .ok (.aload_n 0, 1) := by decide +kernel
theorem dX7_meanAge_64 : decode cX7_meanAge 64 = .ok (.iload 4, 2) := by decide +kernel
theorem dX7_meanAge_66 : decode cX7_meanAge 66 = .ok (.iconst 0, 1) := by decide +kernel
theorem dX7_meanAge_67 : decode cX7_meanAge 67 = .ok (.invokevirtual 67, 3) := by decide +kernel
theorem dX7_meanAge_70 : decode cX7_meanAge 70 = .ok (.i2l, 1) := by decide +kernel
theorem dX7_meanAge_71 : decode cX7_meanAge 71 = .ok (.lconst 1, 1) := by decide +kernel
theorem dX7_meanAge_72 : decode cX7_meanAge 72 = .ok (.ldc2_w 38, 3) := by decide +kernel
theorem dX7_meanAge_75 : decode cX7_meanAge 75 = .ok (.invokestatic 34, 3) := by decide +kernel
theorem dX7_meanAge_78 : decode cX7_meanAge 78 = .ok (.ifCond .eq 20, 3) := by decide +kernel
theorem dX7_meanAge_81 : decode cX7_meanAge 81 = .ok (.aload_n 0, 1) := by decide +kernel
theorem dX7_meanAge_82 : decode cX7_meanAge 82 = .ok (.getfield 7, 3) := by decide +kernel
theorem dX7_meanAge_85 : decode cX7_meanAge 85 = .ok (.iconst 4, 1) := by decide +kernel
theorem dX7_meanAge_86 : decode cX7_meanAge 86 = .ok (.iaload, 1) := by decide +kernel
theorem dX7_meanAge_87 : decode cX7_meanAge 87 = .ok (.aload_n 0, 1) := by decide +kernel
theorem dX7_meanAge_88 : decode cX7_meanAge 88 = .ok (.iload 4, 2) := by decide +kernel
theorem dX7_meanAge_90 : decode cX7_meanAge 90 = .ok (.iconst 3, 1) := by decide +kernel
theorem dX7_meanAge_91 : decode cX7_meanAge 91 = .ok (.invokevirtual 67, 3) := by decide +kernel
theorem dX7_meanAge_94 : decode cX7_meanAge 94 = .ok (.isub, 1) := by decide +kernel
theorem dX7_meanAge_95 : decode cX7_meanAge 95 = .ok (.goto 4, 3) := by decide +kernel
theorem dX7_meanAge_98 : decode cX7_meanAge 98 = .ok (.iconst 0, 1) := by decide +kernel
theorem dX7_meanAge_99 : decode cX7_meanAge 99 = .ok (.iadd, 1) := by decide +kernel
theorem dX7_meanAge_100 : decode cX7_meanAge 100 = .ok (.istore_n 3, 1) := by decide +kernel
theorem dX7_meanAge_101 : decode cX7_meanAge 101 = .ok (.iinc 4 1, 3) := by decide +kernel
theorem dX7_meanAge_104 : decode cX7_meanAge 104 = .ok (.goto (-58), 3) := by decide +kernel
theorem dX7_meanAge_107 : decode cX7_meanAge 107 = .ok (.iload_n 2, 1) := by decide +kernel
theorem dX7_meanAge_108 : decode cX7_meanAge 108 = .ok (.ifCond .eq 11, 3) := by decide +kernel
theorem dX7_meanAge_111 : decode cX7_meanAge 111 = .ok (.aload_n 0, 1) := by decide +kernel
theorem dX7_meanAge_112 : decode cX7_meanAge 112 = .ok (.iload_n 1, 1) := by decide +kernel
theorem dX7_meanAge_113 : decode cX7_meanAge 113 = .ok (.invokevirtual 184, 3) := by decide +kernel
theorem dX7_meanAge_116 : decode cX7_meanAge 116 = .ok (.goto 4, 3) := by decide +kernel
theorem dX7_meanAge_119 : decode cX7_meanAge 119 = .ok (.iload_n 3, 1) := by decide +kernel
theorem dX7_meanAge_120 : decode cX7_meanAge 120 = .ok (.iload_n 3, 1) := by decide +kernel
theorem dX7_meanAge_121 : decode cX7_meanAge 121 = .ok (.aload_n 0, 1) := by decide +kernel
theorem dX7_meanAge_122 : decode cX7_meanAge 122 = .ok (.iload_n 1, 1) := by decide +kernel
theorem dX7_meanAge_123 : decode cX7_meanAge 123 = .ok (.invokevirtual 184, 3) := by decide +kernel
theorem dX7_meanAge_126 : decode cX7_meanAge 126 = .ok (.invokestatic 224, 3) := by decide +kernel
theorem dX7_meanAge_129 : decode cX7_meanAge 129 = .ok (.idiv, 1) := by decide +kernel
theorem dX7_meanAge_130 : decode cX7_meanAge 130 = .ok (.ireturn, 1) := by decide +kernel
set_option maxRecDepth 20000 in
theorem ggX7_wearGap_X7_ofSegment : GoodIn wsX7_wearGap wsX7_ofSegment := goodIn_r _ [7, 2, 8, 9, 10, 11, 12] (by first | rfl | decide +kernel) (by decide +kernel)
set_option maxRecDepth 20000 in
theorem gX7_wearGap_X7_ofSegment : GoodIn wsX7_wearGap (wsV RX7 53 RX7 yX7_ofSegment wsX7_ofSegment) := goodIn_app (goodIn_of _ (by decide +kernel)) ggX7_wearGap_X7_ofSegment
theorem dX7_wearGap_0 : decode cX7_wearGap 0 = .ok (.aload_n 0, 1) := by decide +kernel
theorem dX7_wearGap_1 : decode cX7_wearGap 1 = .ok (.iconst 0, 1) := by decide +kernel
theorem dX7_wearGap_2 : decode cX7_wearGap 2 = .ok (.putfield 23, 3) := by decide +kernel
theorem dX7_wearGap_5 : decode cX7_wearGap 5 = .ok (.aload_n 0, 1) := by decide +kernel
theorem dX7_wearGap_6 : decode cX7_wearGap 6 = .ok (.iconst 0, 1) := by decide +kernel
theorem dX7_wearGap_7 : decode cX7_wearGap 7 = .ok (.iconst 2, 1) := by decide +kernel
theorem dX7_wearGap_8 : decode cX7_wearGap 8 = .ok (.invokevirtual 53, 3) := by decide +kernel
theorem dX7_wearGap_11 : decode cX7_wearGap 11 = .ok (.istore_n 1, 1) := by decide +kernel
theorem dX7_wearGap_12 : decode cX7_wearGap 12 = .ok (.iload_n 1, 1) := by decide +kernel
theorem dX7_wearGap_13 : decode cX7_wearGap 13 = .ok (.istore_n 2, 1) := by decide +kernel
theorem dX7_wearGap_14 : decode cX7_wearGap 14 = .ok (.iconst 1, 1) := by decide +kernel
theorem dX7_wearGap_15 : decode cX7_wearGap 15 = .ok (.istore_n 3, 1) := by decide +kernel
theorem dX7_wearGap_16 : decode cX7_wearGap 16 = .ok (.iload_n 3, 1) := by decide +kernel
theorem dX7_wearGap_17 : decode cX7_wearGap 17 = .ok (.aload_n 0, 1) := by decide +kernel
theorem dX7_wearGap_18 : decode cX7_wearGap 18 = .ok (.getfield 7, 3) := by decide +kernel
theorem dX7_wearGap_21 : decode cX7_wearGap 21 = .ok (.iconst 0, 1) := by decide +kernel
theorem dX7_wearGap_22 : decode cX7_wearGap 22 = .ok (.iaload, 1) := by decide +kernel
theorem dX7_wearGap_23 : decode cX7_wearGap 23 = .ok (.if_icmp .ge 43, 3) := by decide +kernel
theorem dX7_wearGap_26 : decode cX7_wearGap 26 = .ok (.aload_n 0, 1) := by decide +kernel
theorem dX7_wearGap_27 : decode cX7_wearGap 27 = .ok (.iload_n 3, 1) := by decide +kernel
theorem dX7_wearGap_28 : decode cX7_wearGap 28 = .ok (.iconst 2, 1) := by decide +kernel
theorem dX7_wearGap_29 : decode cX7_wearGap 29 = .ok (.invokevirtual 53, 3) := by decide +kernel
theorem dX7_wearGap_32 : decode cX7_wearGap 32 = .ok (.istore 4, 2) := by decide +kernel
theorem dX7_wearGap_34 : decode cX7_wearGap 34 = .ok (.iload 4, 2) := by decide +kernel
theorem dX7_wearGap_36 : decode cX7_wearGap 36 = .ok (.iload_n 1, 1) := by decide +kernel
theorem dX7_wearGap_37 : decode cX7_wearGap 37 = .ok (.if_icmp .ge 8, 3) := by decide +kernel
theorem dX7_wearGap_40 : decode cX7_wearGap 40 = .ok (.iload 4, 2) := by decide +kernel
theorem dX7_wearGap_42 : decode cX7_wearGap 42 = .ok (.goto 4, 3) := by decide +kernel
theorem dX7_wearGap_45 : decode cX7_wearGap 45 = .ok (.iload_n 1, 1) := by decide +kernel
theorem dX7_wearGap_46 : decode cX7_wearGap 46 = .ok (.istore_n 1, 1) := by decide +kernel
theorem dX7_wearGap_47 : decode cX7_wearGap 47 = .ok (.iload 4, 2) := by decide +kernel
theorem dX7_wearGap_49 : decode cX7_wearGap 49 = .ok (.iload_n 2, 1) := by decide +kernel
theorem dX7_wearGap_50 : decode cX7_wearGap 50 = .ok (.if_icmp .le 8, 3) := by decide +kernel
theorem dX7_wearGap_53 : decode cX7_wearGap 53 = .ok (.iload 4, 2) := by decide +kernel
theorem dX7_wearGap_55 : decode cX7_wearGap 55 = .ok (.goto 4, 3) := by decide +kernel
theorem dX7_wearGap_58 : decode cX7_wearGap 58 = .ok (.iload_n 2, 1) := by decide +kernel
theorem dX7_wearGap_59 : decode cX7_wearGap 59 = .ok (.istore_n 2, 1) := by decide +kernel
theorem dX7_wearGap_60 : decode cX7_wearGap 60 = .ok (.iinc 3 1, 3) := by decide +kernel
theorem dX7_wearGap_63 : decode cX7_wearGap 63 = .ok (.goto (-47), 3) := by decide +kernel
theorem dX7_wearGap_66 : decode cX7_wearGap 66 = .ok (.iload_n 2, 1) := by decide +kernel
theorem dX7_wearGap_67 : decode cX7_wearGap 67 = .ok (.iload_n 1, 1) := by decide +kernel
theorem dX7_wearGap_68 : decode cX7_wearGap 68 = .ok (.isub, 1) := by decide +kernel
theorem dX7_wearGap_69 : decode cX7_wearGap 69 = .ok (.ireturn, 1) := by decide +kernel
