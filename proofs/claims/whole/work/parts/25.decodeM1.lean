theorem dX7_init_0 : decode cX7_init 0 = .ok (.aload_n 0, 1) := by decide +kernel
theorem dX7_init_1 : decode cX7_init 1 = .ok (.invokespecial 1, 3) := by decide +kernel
theorem dX7_init_4 : decode cX7_init 4 = .ok (.aload_n 0, 1) := by decide +kernel
theorem dX7_init_5 : decode cX7_init 5 = .ok (.sipush 1036, 3) := by decide +kernel
theorem dX7_init_8 : decode cX7_init 8 = .ok (.newarray .int, 2) := by decide +kernel
theorem dX7_init_10 : decode cX7_init 10 = .ok (.putfield 7, 3) := by decide +kernel
theorem dX7_init_13 : decode cX7_init 13 = .ok (.aload_n 0, 1) := by decide +kernel
theorem dX7_init_14 : decode cX7_init 14 = .ok (.sipush 8288, 3) := by decide +kernel
theorem dX7_init_17 : decode cX7_init 17 = .ok (.newarray .int, 2) := by decide +kernel
theorem dX7_init_19 : decode cX7_init 19 = .ok (.putfield 13, 3) := by decide +kernel
theorem dX7_init_22 : decode cX7_init 22 = .ok (.aload_n 0, 1) := by decide +kernel
theorem dX7_init_23 : decode cX7_init 23 = .ok (.sipush 1036, 3) := by decide +kernel
theorem dX7_init_26 : decode cX7_init 26 = .ok (.newarray .int, 2) := by decide +kernel
theorem dX7_init_28 : decode cX7_init 28 = .ok (.putfield 16, 3) := by decide +kernel
theorem dX7_init_31 : decode cX7_init 31 = .ok (.aload_n 0, 1) := by decide +kernel
theorem dX7_init_32 : decode cX7_init 32 = .ok (.iconst 4, 1) := by decide +kernel
theorem dX7_init_33 : decode cX7_init 33 = .ok (.iconst 4, 1) := by decide +kernel
theorem dX7_init_34 : decode cX7_init 34 = .ok (.iconst 5, 1) := by decide +kernel
theorem dX7_init_35 : decode cX7_init 35 = .ok (.invokevirtual 19, 3) := by decide +kernel
theorem dX7_init_38 : decode cX7_init 38 = .ok (.return_, 1) := by decide +kernel
theorem dX7_begins_0 : decode cX7_begins 0 = .ok (.iconst 0, 1) := by decide +kernel
theorem dX7_begins_1 : decode cX7_begins 1 = .ok (.istore 4, 2) := by decide +kernel
theorem dX7_begins_3 : decode cX7_begins 3 = .ok (.iload 4, 2) := by decide +kernel
theorem dX7_begins_5 : decode cX7_begins 5 = .ok (.sipush 1036, 3) := by decide +kernel
theorem dX7_begins_8 : decode cX7_begins 8 = .ok (.if_icmp .ge 67, 3) := by decide +kernel
theorem dX7_begins_11 : decode cX7_begins 11 = .ok (.aload_n 0, 1) := by decide +kernel
theorem dX7_begins_12 : decode cX7_begins 12 = .ok (.getfield 7, 3) := by decide +kernel
theorem dX7_begins_15 : decode cX7_begins 15 = .ok (.iload 4, 2) := by decide +kernel
theorem dX7_begins_17 : decode cX7_begins 17 = .ok (.iload 4, 2) := by decide +kernel
theorem dX7_begins_19 : decode cX7_begins 19 = .ok (.sipush 840, 3) := by decide +kernel
theorem dX7_begins_22 : decode cX7_begins 22 = .ok (.if_icmp .lt 11, 3) := by decide +kernel
theorem dX7_begins_25 : decode cX7_begins 25 = .ok (.iload 4, 2) := by decide +kernel
theorem dX7_begins_27 : decode cX7_begins 27 = .ok (.sipush 864, 3) := by decide +kernel
theorem dX7_begins_30 : decode cX7_begins 30 = .ok (.if_icmp .lt 33, 3) := by decide +kernel
theorem dX7_begins_33 : decode cX7_begins 33 = .ok (.iload 4, 2) := by decide +kernel
theorem dX7_begins_35 : decode cX7_begins 35 = .ok (.sipush 868, 3) := by decide +kernel
theorem dX7_begins_38 : decode cX7_begins 38 = .ok (.if_icmp .lt 11, 3) := by decide +kernel
theorem dX7_begins_41 : decode cX7_begins 41 = .ok (.iload 4, 2) := by decide +kernel
theorem dX7_begins_43 : decode cX7_begins 43 = .ok (.sipush 964, 3) := by decide +kernel
theorem dX7_begins_46 : decode cX7_begins 46 = .ok (.if_icmp .lt 17, 3) := by decide +kernel
theorem dX7_begins_49 : decode cX7_begins 49 = .ok (.iload 4, 2) := by decide +kernel
theorem dX7_begins_51 : decode cX7_begins 51 = .ok (.bipush 8, 2) := by decide +kernel
theorem dX7_begins_53 : decode cX7_begins 53 = .ok (.if_icmp .eq 10, 3) := by decide +kernel
theorem dX7_begins_56 : decode cX7_begins 56 = .ok (.iload 4, 2) := by decide +kernel
theorem dX7_begins_58 : decode cX7_begins 58 = .ok (.bipush 9, 2) := by decide +kernel
theorem dX7_begins_60 : decode cX7_begins 60 = .ok (.if_icmp .ne 7, 3) := by decide +kernel
theorem dX7_begins_63 : decode cX7_begins 63 = .ok (.iconst (-1), 1) := by decide +kernel
theorem dX7_begins_64 : decode cX7_begins 64 = .ok (.goto 4, 3) := by decide +kernel
theorem dX7_begins_67 : decode cX7_begins 67 = .ok (.iconst 0, 1) := by decide +kernel
theorem dX7_begins_68 : decode cX7_begins 68 = .ok (.iastore, 1) := by decide +kernel
theorem dX7_begins_69 : decode cX7_begins 69 = .ok (.iinc 4 1, 3) := by decide +kernel
theorem dX7_begins_72 : decode cX7_begins 72 = .ok (.goto (-69), 3) := by decide +kernel
theorem dX7_begins_75 : decode cX7_begins 75 = .ok (.aload_n 0, 1) := by decide +kernel
theorem dX7_begins_76 : decode cX7_begins 76 = .ok (.getfield 7, 3) := by decide +kernel
theorem dX7_begins_79 : decode cX7_begins 79 = .ok (.iconst 0, 1) := by decide +kernel
theorem dX7_begins_80 : decode cX7_begins 80 = .ok (.iload_n 1, 1) := by decide +kernel
theorem dX7_begins_81 : decode cX7_begins 81 = .ok (.iastore, 1) := by decide +kernel
theorem dX7_begins_82 : decode cX7_begins 82 = .ok (.aload_n 0, 1) := by decide +kernel
theorem dX7_begins_83 : decode cX7_begins 83 = .ok (.getfield 7, 3) := by decide +kernel
theorem dX7_begins_86 : decode cX7_begins 86 = .ok (.iconst 1, 1) := by decide +kernel
theorem dX7_begins_87 : decode cX7_begins 87 = .ok (.iload_n 2, 1) := by decide +kernel
theorem dX7_begins_88 : decode cX7_begins 88 = .ok (.iastore, 1) := by decide +kernel
theorem dX7_begins_89 : decode cX7_begins 89 = .ok (.aload_n 0, 1) := by decide +kernel
theorem dX7_begins_90 : decode cX7_begins 90 = .ok (.getfield 7, 3) := by decide +kernel
theorem dX7_begins_93 : decode cX7_begins 93 = .ok (.iconst 2, 1) := by decide +kernel
theorem dX7_begins_94 : decode cX7_begins 94 = .ok (.iload_n 3, 1) := by decide +kernel
theorem dX7_begins_95 : decode cX7_begins 95 = .ok (.iastore, 1) := by decide +kernel
theorem dX7_begins_96 : decode cX7_begins 96 = .ok (.return_, 1) := by decide +kernel
theorem dX7_thrown_0 : decode cX7_thrown 0 = .ok (.aload_n 0, 1) := by decide +kernel
theorem dX7_thrown_1 : decode cX7_thrown 1 = .ok (.getfield 23, 3) := by decide +kernel
theorem dX7_thrown_4 : decode cX7_thrown 4 = .ok (.ireturn, 1) := by decide +kernel
theorem dX7_isIn_0 : decode cX7_isIn 0 = .ok (.lload_n 0, 1) := by decide +kernel
theorem dX7_isIn_1 : decode cX7_isIn 1 = .ok (.lload_n 2, 1) := by decide +kernel
theorem dX7_isIn_2 : decode cX7_isIn 2 = .ok (.lcmp, 1) := by decide +kernel
theorem dX7_isIn_3 : decode cX7_isIn 3 = .ok (.ifCond .lt 14, 3) := by decide +kernel
theorem dX7_isIn_6 : decode cX7_isIn 6 = .ok (.lload_n 0, 1) := by decide +kernel
theorem dX7_isIn_7 : decode cX7_isIn 7 = .ok (.lload 4, 2) := by decide +kernel
theorem dX7_isIn_9 : decode cX7_isIn 9 = .ok (.lcmp, 1) := by decide +kernel
theorem dX7_isIn_10 : decode cX7_isIn 10 = .ok (.ifCond .gt 7, 3) := by decide +kernel
theorem dX7_isIn_13 : decode cX7_isIn 13 = .ok (.iconst 1, 1) := by decide +kernel
theorem dX7_isIn_14 : decode cX7_isIn 14 = .ok (.goto 4, 3) := by decide +kernel
theorem dX7_isIn_17 : decode cX7_isIn 17 = .ok (.iconst 0, 1) := by decide +kernel
theorem dX7_isIn_18 : decode cX7_isIn 18 = .ok (.ireturn, 1) := by decide +kernel
theorem dX7_keeps_0 : decode cX7_keeps 0 = .ok (.aload_n 0, 1) := by decide +kernel
theorem dX7_keeps_1 : decode cX7_keeps 1 = .ok (.getfield 27, 3) := by decide +kernel
theorem dX7_keeps_4 : decode cX7_keeps 4 = .ok (.bipush 8, 2) := by decide +kernel
theorem dX7_keeps_6 : decode cX7_keeps 6 = .ok (.if_icmp .ne 44, 3) := by decide +kernel
theorem dX7_keeps_9 : decode cX7_keeps 9 = .ok (.iconst 0, 1) := by decide +kernel
theorem dX7_keeps_10 : decode cX7_keeps 10 = .ok (.istore_n 1, 1) := by decide +kernel
theorem dX7_keeps_11 : decode cX7_keeps 11 = .ok (.iload_n 1, 1) := by decide +kernel
theorem dX7_keeps_12 : decode cX7_keeps 12 = .ok (.sipush 7252, 3) := by decide +kernel
theorem dX7_keeps_15 : decode cX7_keeps 15 = .ok (.if_icmp .ge 25, 3) := by decide +kernel
theorem dX7_keeps_18 : decode cX7_keeps 18 = .ok (.aload_n 0, 1) := by decide +kernel
theorem dX7_keeps_19 : decode cX7_keeps 19 = .ok (.getfield 13, 3) := by decide +kernel
theorem dX7_keeps_22 : decode cX7_keeps 22 = .ok (.iload_n 1, 1) := by decide +kernel
theorem dX7_keeps_23 : decode cX7_keeps 23 = .ok (.aload_n 0, 1) := by decide +kernel
theorem dX7_keeps_24 : decode cX7_keeps 24 = .ok (.getfield 13, 3) := by decide +kernel
theorem dX7_keeps_27 : decode cX7_keeps 27 = .ok (.iload_n 1, 1) := by decide +kernel
theorem dX7_keeps_28 : decode cX7_keeps 28 = .ok (.sipush 1036, 3) := by decide +kernel
theorem dX7_keeps_31 : decode cX7_keeps 31 = .ok (.iadd, 1) := by decide +kernel
theorem dX7_keeps_32 : decode cX7_keeps 32 = .ok (.iaload, 1) := by decide +kernel
theorem dX7_keeps_33 : decode cX7_keeps 33 = .ok (.iastore, 1) := by decide +kernel
theorem dX7_keeps_34 : decode cX7_keeps 34 = .ok (.iinc 1 1, 3) := by decide +kernel
theorem dX7_keeps_37 : decode cX7_keeps 37 = .ok (.goto (-26), 3) := by decide +kernel
theorem dX7_keeps_40 : decode cX7_keeps 40 = .ok (.aload_n 0, 1) := by decide +kernel
theorem dX7_keeps_41 : decode cX7_keeps 41 = .ok (.dup, 1) := by decide +kernel
theorem dX7_keeps_42 : decode cX7_keeps 42 = .ok (.getfield 27, 3) := by decide +kernel
theorem dX7_keeps_45 : decode cX7_keeps 45 = .ok (.iconst 1, 1) := by decide +kernel
theorem dX7_keeps_46 : decode cX7_keeps 46 = .ok (.isub, 1) := by decide +kernel
theorem dX7_keeps_47 : decode cX7_keeps 47 = .ok (.putfield 27, 3) := by decide +kernel
theorem dX7_keeps_50 : decode cX7_keeps 50 = .ok (.iconst 0, 1) := by decide +kernel
theorem dX7_keeps_51 : decode cX7_keeps 51 = .ok (.istore_n 1, 1) := by decide +kernel
theorem dX7_keeps_52 : decode cX7_keeps 52 = .ok (.iload_n 1, 1) := by decide +kernel
theorem dX7_keeps_53 : decode cX7_keeps 53 = .ok (.sipush 1036, 3) := by decide +kernel
theorem dX7_keeps_56 : decode cX7_keeps 56 = .ok (.if_icmp .ge 30, 3) := by decide +kernel
theorem dX7_keeps_59 : decode cX7_keeps 59 = .ok (.aload_n 0, 1) := by decide +kernel
theorem dX7_keeps_60 : decode cX7_keeps 60 = .ok (.getfield 13, 3) := by decide +kernel
theorem dX7_keeps_63 : decode cX7_keeps 63 = .ok (.sipush 1036, 3) := by decide +kernel
theorem dX7_keeps_66 : decode cX7_keeps 66 = .ok (.aload_n 0, 1) := by decide +kernel
theorem dX7_keeps_67 : decode cX7_keeps 67 = .ok (.getfield 27, 3) := by decide +kernel
theorem dX7_keeps_70 : decode cX7_keeps 70 = .ok (.imul, 1) := by decide +kernel
theorem dX7_keeps_71 : decode cX7_keeps 71 = .ok (.iload_n 1, 1) := by decide +kernel
theorem dX7_keeps_72 : decode cX7_keeps 72 = .ok (.iadd, 1) := by decide +kernel
theorem dX7_keeps_73 : decode cX7_keeps 73 = .ok (.aload_n 0, 1) := by decide +kernel
theorem dX7_keeps_74 : decode cX7_keeps 74 = .ok (.getfield 7, 3) := by decide +kernel
theorem dX7_keeps_77 : decode cX7_keeps 77 = .ok (.iload_n 1, 1) := by decide +kernel
theorem dX7_keeps_78 : decode cX7_keeps 78 = .ok (.iaload, 1) := by decide +kernel
theorem dX7_keeps_79 : decode cX7_keeps 79 = .ok (.iastore, 1) := by decide +kernel
theorem dX7_keeps_80 : decode cX7_keeps 80 = .ok (.iinc 1 1, 3) := by decide +kernel
theorem dX7_keeps_83 : decode cX7_keeps 83 = .ok (.goto (-31), 3) := by decide +kernel
theorem dX7_keeps_86 : decode cX7_keeps 86 = .ok (.aload_n 0, 1) := by decide +kernel
theorem dX7_keeps_87 : decode cX7_keeps 87 = .ok (.dup, 1) := by decide +kernel
theorem dX7_keeps_88 : decode cX7_keeps 88 = .ok (.getfield 27, 3) := by decide +kernel
theorem dX7_keeps_91 : decode cX7_keeps 91 = .ok (.iconst 1, 1) := by decide +kernel
theorem dX7_keeps_92 : decode cX7_keeps 92 = .ok (.iadd, 1) := by decide +kernel
theorem dX7_keeps_93 : decode cX7_keeps 93 = .ok (.putfield 27, 3) := by decide +kernel
theorem dX7_keeps_96 : decode cX7_keeps 96 = .ok (.return_, 1) := by decide +kernel
theorem dX7_undo_0 : decode cX7_undo 0 = .ok (.aload_n 0, 1) := by decide +kernel
theorem dX7_undo_1 : decode cX7_undo 1 = .ok (.aload_n 0, 1) := by decide +kernel
theorem dX7_undo_2 : decode cX7_undo 2 = .ok (.getfield 27, 3) := by decide +kernel
theorem dX7_undo_5 : decode cX7_undo 5 = .ok (.ifCond .ne 7, 3) := by decide +kernel
theorem dX7_undo_8 : decode cX7_undo 8 = .ok (.iconst 1, 1) := by decide +kernel
theorem dX7_undo_9 : decode cX7_undo 9 = .ok (.goto 4, 3) := by decide +kernel
theorem dX7_undo_12 : decode cX7_undo 12 = .ok (.iconst 0, 1) := by decide +kernel
theorem dX7_undo_13 : decode cX7_undo 13 = .ok (.putfield 23, 3) := by decide +kernel
theorem dX7_undo_16 : decode cX7_undo 16 = .ok (.aload_n 0, 1) := by decide +kernel
theorem dX7_undo_17 : decode cX7_undo 17 = .ok (.getfield 23, 3) := by decide +kernel
theorem dX7_undo_20 : decode cX7_undo 20 = .ok (.ifCond .le 5, 3) := by decide +kernel
theorem dX7_undo_23 : decode cX7_undo 23 = .ok (.iconst 0, 1) := by decide +kernel
theorem dX7_undo_24 : decode cX7_undo 24 = .ok (.ireturn, 1) := by decide +kernel
theorem dX7_undo_25 : decode cX7_undo 25 = .ok (.aload_n 0, 1) := by decide +kernel
theorem dX7_undo_26 : decode cX7_undo 26 = .ok (.dup, 1) := by decide +kernel
theorem dX7_undo_27 : decode cX7_undo 27 = .ok (.getfield 27, 3) := by decide +kernel
theorem dX7_undo_30 : decode cX7_undo 30 = .ok (.iconst 1, 1) := by decide +kernel
theorem dX7_undo_31 : decode cX7_undo 31 = .ok (.isub, 1) := by decide +kernel
theorem dX7_undo_32 : decode cX7_undo 32 = .ok (.putfield 27, 3) := by decide +kernel
theorem dX7_undo_35 : decode cX7_undo 35 = .ok (.iconst 0, 1) := by decide +kernel
theorem dX7_undo_36 : decode cX7_undo 36 = .ok (.istore_n 1, 1) := by decide +kernel
theorem dX7_undo_37 : decode cX7_undo 37 = .ok (.iload_n 1, 1) := by decide +kernel
theorem dX7_undo_38 : decode cX7_undo 38 = .ok (.sipush 1036, 3) := by decide +kernel
theorem dX7_undo_41 : decode cX7_undo 41 = .ok (.if_icmp .ge 30, 3) := by decide +kernel
theorem dX7_undo_44 : decode cX7_undo 44 = .ok (.aload_n 0, 1) := by decide +kernel
theorem dX7_undo_45 : decode cX7_undo 45 = .ok (.getfield 7, 3) := by decide +kernel
theorem dX7_undo_48 : decode cX7_undo 48 = .ok (.iload_n 1, 1) := by decide +kernel
theorem dX7_undo_49 : decode cX7_undo 49 = .ok (.aload_n 0, 1) := by decide +kernel
theorem dX7_undo_50 : decode cX7_undo 50 = .ok (.getfield 13, 3) := by decide +kernel
theorem dX7_undo_53 : decode cX7_undo 53 = .ok (.sipush 1036, 3) := by decide +kernel
theorem dX7_undo_56 : decode cX7_undo 56 = .ok (.aload_n 0, 1) := by decide +kernel
theorem dX7_undo_57 : decode cX7_undo 57 = .ok (.getfield 27, 3) := by decide +kernel
theorem dX7_undo_60 : decode cX7_undo 60 = .ok (.imul, 1) := by decide +kernel
theorem dX7_undo_61 : decode cX7_undo 61 = .ok (.iload_n 1, 1) := by decide +kernel
theorem dX7_undo_62 : decode cX7_undo 62 = .ok (.iadd, 1) := by decide +kernel
theorem dX7_undo_63 : decode cX7_undo 63 = .ok (.iaload, 1) := by decide +kernel
theorem dX7_undo_64 : decode cX7_undo 64 = .ok (.iastore, 1) := by decide +kernel
theorem dX7_undo_65 : decode cX7_undo 65 = .ok (.iinc 1 1, 3) := by decide +kernel
theorem dX7_undo_68 : decode cX7_undo 68 = .ok (.goto (-31), 3) := by decide +kernel
theorem dX7_undo_71 : decode cX7_undo 71 = .ok (.aload_n 0, 1) := by decide +kernel
theorem dX7_undo_72 : decode cX7_undo 72 = .ok (.getfield 27, 3) := by decide +kernel
theorem dX7_undo_75 : decode cX7_undo 75 = .ok (.ireturn, 1) := by decide +kernel
set_option maxRecDepth 20000 in
theorem ggX7_reset_X7_isIn : GoodIn wsX7_reset wsX7_isIn := goodIn_r _ [10] (by first | rfl | decide +kernel) (by decide +kernel)
set_option maxRecDepth 20000 in
theorem gX7_reset_X7_isIn : GoodIn wsX7_reset (va_wsS RX7 34 yX7_isIn wsX7_isIn) := goodIn_app (goodIn_of _ (by decide +kernel)) ggX7_reset_X7_isIn
set_option maxRecDepth 20000 in
theorem ggX7_reset_X7_keeps : GoodIn wsX7_reset wsX7_keeps := goodIn_r _ [14, 15, 16, 17, 22, 23, 24, 25, 26] (by first | rfl | decide +kernel) (by decide +kernel)
set_option maxRecDepth 20000 in
theorem gX7_reset_X7_keeps : GoodIn wsX7_reset (wsV RX7 44 RX7 yX7_keeps wsX7_keeps) := goodIn_app (goodIn_of _ (by decide +kernel)) ggX7_reset_X7_keeps
set_option maxRecDepth 20000 in
theorem ggX7_reset_X7_begins : GoodIn wsX7_reset wsX7_begins := goodIn_r _ [21, 17, 22, 23, 24, 25, 26] (by first | rfl | decide +kernel) (by decide +kernel)
set_option maxRecDepth 20000 in
theorem gX7_reset_X7_begins : GoodIn wsX7_reset (wsV RX7 19 RX7 yX7_begins wsX7_begins) := goodIn_app (goodIn_of _ (by decide +kernel)) ggX7_reset_X7_begins
theorem dX7_reset_0 : decode cX7_reset 0 = .ok (.aload_n 0, 1) := by decide +kernel
theorem dX7_reset_1 : decode cX7_reset 1 = .ok (.iload_n 1, 1) := by decide +kernel
theorem dX7_reset_2 : decode cX7_reset 2 = .ok (.i2l, 1) := by decide +kernel
theorem dX7_reset_3 : decode cX7_reset 3 = .ok (.ldc2_w 30, 3) := by decide +kernel
theorem dX7_reset_6 : decode cX7_reset 6 = .ok (.ldc2_w 32, 3) := by decide +kernel
theorem dX7_reset_9 : decode cX7_reset 9 = .ok (.invokestatic 34, 3) := by decide +kernel
theorem dX7_reset_12 : decode cX7_reset 12 = .ok (.ifCond .eq 33, 3) := by decide +kernel
theorem dX7_reset_15 : decode cX7_reset 15 = .ok (.iload_n 2, 1) := by decide +kernel
theorem dX7_reset_16 : decode cX7_reset 16 = .ok (.i2l, 1) := by decide +kernel
theorem dX7_reset_17 : decode cX7_reset 17 = .ok (.ldc2_w 38, 3) := by decide +kernel
theorem dX7_reset_20 : decode cX7_reset 20 = .ok (.ldc2_w 40, 3) := by decide +kernel
theorem dX7_reset_23 : decode cX7_reset 23 = .ok (.invokestatic 34, 3) := by decide +kernel
theorem dX7_reset_26 : decode cX7_reset 26 = .ok (.ifCond .eq 19, 3) := by decide +kernel
theorem dX7_reset_29 : decode cX7_reset 29 = .ok (.iload_n 3, 1) := by decide +kernel
theorem dX7_reset_30 : decode cX7_reset 30 = .ok (.i2l, 1) := by decide +kernel
theorem dX7_reset_31 : decode cX7_reset 31 = .ok (.lconst 1, 1) := by decide +kernel
theorem dX7_reset_32 : decode cX7_reset 32 = .ok (.ldc2_w 42, 3) := by decide +kernel
theorem dX7_reset_35 : decode cX7_reset 35 = .ok (.invokestatic 34, 3) := by decide +kernel
theorem dX7_reset_38 : decode cX7_reset 38 = .ok (.ifCond .eq 7, 3) := by decide +kernel
theorem dX7_reset_41 : decode cX7_reset 41 = .ok (.iconst 0, 1) := by decide +kernel
theorem dX7_reset_42 : decode cX7_reset 42 = .ok (.goto 4, 3) := by decide +kernel
theorem dX7_reset_45 : decode cX7_reset 45 = .ok (.iconst 1, 1) := by decide +kernel
theorem dX7_reset_46 : decode cX7_reset 46 = .ok (.putfield 23, 3) := by decide +kernel
theorem dX7_reset_49 : decode cX7_reset 49 = .ok (.aload_n 0, 1) := by decide +kernel
theorem dX7_reset_50 : decode cX7_reset 50 = .ok (.getfield 23, 3) := by decide +kernel
theorem dX7_reset_53 : decode cX7_reset 53 = .ok (.ifCond .le 4, 3) := by decide +kernel
theorem dX7_reset_56 : decode cX7_reset 56 = .ok (.return_, 1) := by decide +kernel
theorem dX7_reset_57 : decode cX7_reset 57 = .ok (.aload_n 0, 1) := by decide +kernel
theorem dX7_reset_58 : decode cX7_reset 58 = .ok (.invokevirtual 44, 3) := by decide +kernel
theorem dX7_reset_61 : decode cX7_reset 61 = .ok (.aload_n 0, 1) := by decide +kernel
theorem dX7_reset_62 : decode cX7_reset 62 = .ok (.iload_n 1, 1) := by decide +kernel
theorem dX7_reset_63 : decode cX7_reset 63 = .ok (.iload_n 2, 1) := by decide +kernel
theorem dX7_reset_64 : decode cX7_reset 64 = .ok (.iload_n 3, 1) := by decide +kernel
theorem dX7_reset_65 : decode cX7_reset 65 = .ok (.invokevirtual 19, 3) := by decide +kernel
theorem dX7_reset_68 : decode cX7_reset 68 = .ok (.return_, 1) := by decide +kernel
theorem dX7_ofSegment_0 : decode cX7_ofSegment 0 = .ok (.aload_n 0, 1) := by decide +kernel
theorem dX7_ofSegment_1 : decode cX7_ofSegment 1 = .ok (.getfield 7, 3) := by decide +kernel
theorem dX7_ofSegment_4 : decode cX7_ofSegment 4 = .ok (.bipush 10, 2) := by decide +kernel
theorem dX7_ofSegment_6 : decode cX7_ofSegment 6 = .ok (.iconst 3, 1) := by decide +kernel
theorem dX7_ofSegment_7 : decode cX7_ofSegment 7 = .ok (.iload_n 1, 1) := by decide +kernel
theorem dX7_ofSegment_8 : decode cX7_ofSegment 8 = .ok (.imul, 1) := by decide +kernel
theorem dX7_ofSegment_9 : decode cX7_ofSegment 9 = .ok (.iadd, 1) := by decide +kernel
theorem dX7_ofSegment_10 : decode cX7_ofSegment 10 = .ok (.iload_n 2, 1) := by decide +kernel
theorem dX7_ofSegment_11 : decode cX7_ofSegment 11 = .ok (.iadd, 1) := by decide +kernel
theorem dX7_ofSegment_12 : decode cX7_ofSegment 12 = .ok (.iaload, 1) := by decide +kernel
theorem dX7_ofSegment_13 : decode cX7_ofSegment 13 = .ok (.ireturn, 1) := by decide +kernel
theorem dX7_setSegment_0 : decode cX7_setSegment 0 = .ok (.aload_n 0, 1) := by decide +kernel
theorem dX7_setSegment_1 : decode cX7_setSegment 1 = .ok (.getfield 7, 3) := by decide +kernel
theorem dX7_setSegment_4 : decode cX7_setSegment 4 = .ok (.bipush 10, 2) := by decide +kernel
theorem dX7_setSegment_6 : decode cX7_setSegment 6 = .ok (.iconst 3, 1) := by decide +kernel
theorem dX7_setSegment_7 : decode cX7_setSegment 7 = .ok (.iload_n 1, 1) := by decide +kernel
theorem dX7_setSegment_8 : decode cX7_setSegment 8 = .ok (.imul, 1) := by decide +kernel
theorem dX7_setSegment_9 : decode cX7_setSegment 9 = .ok (.iadd, 1) := by decide +kernel
theorem dX7_setSegment_10 : decode cX7_setSegment 10 = .ok (.iload_n 2, 1) := by decide +kernel
theorem dX7_setSegment_11 : decode cX7_setSegment 11 = .ok (.iadd, 1) := by decide +kernel
theorem dX7_setSegment_12 : decode cX7_setSegment 12 = .ok (.iload_n 3, 1) := by decide +kernel
theorem dX7_setSegment_13 : decode cX7_setSegment 13 = .ok (.iastore, 1) := by decide +kernel
theorem dX7_setSegment_14 : decode cX7_setSegment 14 = .ok (.return_, 1) := by decide +kernel
theorem dX7_ofBlock_0 : decode cX7_ofBlock 0 = .ok (.aload_n 0, 1) := by decide +kernel
theorem dX7_ofBlock_1 : decode cX7_ofBlock 1 = .ok (.getfield 7, 3) := by decide +kernel
theorem dX7_ofBlock_4 : decode cX7_ofBlock 4 = .ok (.bipush 40, 2) := by decide +kernel
theorem dX7_ofBlock_6 : decode cX7_ofBlock 6 = .ok (.iconst 5, 1) := by decide +kernel
theorem dX7_ofBlock_7 : decode cX7_ofBlock 7 = .ok (.iload_n 1, 1) := by decide +kernel
theorem dX7_ofBlock_8 : decode cX7_ofBlock 8 = .ok (.imul, 1) := by decide +kernel
theorem dX7_ofBlock_9 : decode cX7_ofBlock 9 = .ok (.iadd, 1) := by decide +kernel
theorem dX7_ofBlock_10 : decode cX7_ofBlock 10 = .ok (.iload_n 2, 1) := by decide +kernel
theorem dX7_ofBlock_11 : decode cX7_ofBlock 11 = .ok (.iadd, 1) := by decide +kernel
theorem dX7_ofBlock_12 : decode cX7_ofBlock 12 = .ok (.iaload, 1) := by decide +kernel
theorem dX7_ofBlock_13 : decode cX7_ofBlock 13 = .ok (.ireturn, 1) := by decide +kernel
theorem dX7_setBlock_0 : decode cX7_setBlock 0 = .ok (.aload_n 0, 1) := by decide +kernel
theorem dX7_setBlock_1 : decode cX7_setBlock 1 = .ok (.getfield 7, 3) := by decide +kernel
theorem dX7_setBlock_4 : decode cX7_setBlock 4 = .ok (.bipush 40, 2) := by decide +kernel
theorem dX7_setBlock_6 : decode cX7_setBlock 6 = .ok (.iconst 5, 1) := by decide +kernel
theorem dX7_setBlock_7 : decode cX7_setBlock 7 = .ok (.iload_n 1, 1) := by decide +kernel
theorem dX7_setBlock_8 : decode cX7_setBlock 8 = .ok (.imul, 1) := by decide +kernel
theorem dX7_setBlock_9 : decode cX7_setBlock 9 = .ok (.iadd, 1) := by decide +kernel
theorem dX7_setBlock_10 : decode cX7_setBlock 10 = .ok (.iload_n 2, 1) := by decide +kernel
theorem dX7_setBlock_11 : decode cX7_setBlock 11 = .ok (.iadd, 1) := by decide +kernel
theorem dX7_setBlock_12 : decode cX7_setBlock 12 = .ok (.iload_n 3, 1) := by decide +kernel
theorem dX7_setBlock_13 : decode cX7_setBlock 13 = .ok (.iastore, 1) := by decide +kernel
theorem dX7_setBlock_14 : decode cX7_setBlock 14 = .ok (.return_, 1) := by decide +kernel
set_option maxRecDepth 20000 in
theorem ggX7_isSegment_X7_isIn : GoodIn wsX7_isSegment wsX7_isIn := goodIn_r _ [5] (by first | rfl | decide +kernel) (by decide +kernel)
set_option maxRecDepth 20000 in
theorem gX7_isSegment_X7_isIn : GoodIn wsX7_isSegment (va_wsS RX7 34 yX7_isIn wsX7_isIn) := goodIn_app (goodIn_of _ (by decide +kernel)) ggX7_isSegment_X7_isIn
theorem dX7_isSegment_0 : decode cX7_isSegment 0 = .ok (.iload_n 1, 1) := by decide +kernel
theorem dX7_isSegment_1 : decode cX7_isSegment 1 = .ok (.i2l, 1) := by decide +kernel
theorem dX7_isSegment_2 : decode cX7_isSegment 2 = .ok (.lconst 0, 1) := by decide +kernel
theorem dX7_isSegment_3 : decode cX7_isSegment 3 = .ok (.aload_n 0, 1) := by decide +kernel
theorem dX7_isSegment_4 : decode cX7_isSegment 4 = .ok (.getfield 7, 3) := by decide +kernel
theorem dX7_isSegment_7 : decode cX7_isSegment 7 = .ok (.iconst 0, 1) := by decide +kernel
theorem dX7_isSegment_8 : decode cX7_isSegment 8 = .ok (.iaload, 1) := by decide +kernel
theorem dX7_isSegment_9 : decode cX7_isSegment 9 = .ok (.iconst 1, 1) := by decide +kernel
theorem dX7_isSegment_10 : decode cX7_isSegment 10 = .ok (.isub, 1) := by decide +kernel
theorem dX7_isSegment_11 : decode cX7_isSegment 11 = .ok (.i2l, 1) := by decide +kernel
theorem dX7_isSegment_12 : decode cX7_isSegment 12 = .ok (.invokestatic 34, 3) := by decide +kernel
theorem dX7_isSegment_15 : decode cX7_isSegment 15 = .ok (.ireturn, 1) := by decide +kernel
set_option maxRecDepth 20000 in
theorem ggX7_isBlock_X7_isSegment : GoodIn wsX7_isBlock wsX7_isSegment := goodIn_r _ [6, 1, 7, 8, 5, 9, 10, 11, 12, 13, 14] (by first | rfl | decide +kernel) (by decide +kernel)
set_option maxRecDepth 20000 in
theorem gX7_isBlock_X7_isSegment : GoodIn wsX7_isBlock (wsV RX7 47 RX7 yX7_isSegment wsX7_isSegment) := goodIn_app (goodIn_of _ (by decide +kernel)) ggX7_isBlock_X7_isSegment
theorem dX7_isBlock_0 : decode cX7_isBlock 0 = .ok (.iload_n 1, 1) := by decide +kernel
theorem dX7_isBlock_1 : decode cX7_isBlock 1 = .ok (.ifCond .lt 31, 3) := by decide +kernel
theorem dX7_isBlock_4 : decode cX7_isBlock 4 = .ok (.aload_n 0, 1) := by decide +kernel
theorem dX7_isBlock_5 : decode cX7_isBlock 5 = .ok (.iload_n 1, 1) := by decide +kernel
theorem dX7_isBlock_6 : decode cX7_isBlock 6 = .ok (.bipush 16, 2) := by decide +kernel
theorem dX7_isBlock_8 : decode cX7_isBlock 8 = .ok (.idiv, 1) := by decide +kernel
theorem dX7_isBlock_9 : decode cX7_isBlock 9 = .ok (.invokevirtual 47, 3) := by decide +kernel
theorem dX7_isBlock_12 : decode cX7_isBlock 12 = .ok (.ifCond .eq 20, 3) := by decide +kernel
theorem dX7_isBlock_15 : decode cX7_isBlock 15 = .ok (.iload_n 1, 1) := by decide +kernel
theorem dX7_isBlock_16 : decode cX7_isBlock 16 = .ok (.bipush 16, 2) := by decide +kernel
theorem dX7_isBlock_18 : decode cX7_isBlock 18 = .ok (.irem, 1) := by decide +kernel
theorem dX7_isBlock_19 : decode cX7_isBlock 19 = .ok (.aload_n 0, 1) := by decide +kernel
theorem dX7_isBlock_20 : decode cX7_isBlock 20 = .ok (.getfield 7, 3) := by decide +kernel
theorem dX7_isBlock_23 : decode cX7_isBlock 23 = .ok (.iconst 1, 1) := by decide +kernel
theorem dX7_isBlock_24 : decode cX7_isBlock 24 = .ok (.iaload, 1) := by decide +kernel
theorem dX7_isBlock_25 : decode cX7_isBlock 25 = .ok (.if_icmp .ge 7, 3) := by decide +kernel
theorem dX7_isBlock_28 : decode cX7_isBlock 28 = .ok (.iconst 1, 1) := by decide +kernel
theorem dX7_isBlock_29 : decode cX7_isBlock 29 = .ok (.goto 4, 3) := by decide +kernel
theorem dX7_isBlock_32 : decode cX7_isBlock 32 = .ok (.iconst 0, 1) := by decide +kernel
theorem dX7_isBlock_33 : decode cX7_isBlock 33 = .ok (.ireturn, 1) := by decide +kernel
set_option maxRecDepth 20000 in
theorem ggX7_isKey_X7_isIn : GoodIn wsX7_isKey wsX7_isIn := goodIn_r _ [5] (by first | rfl | decide +kernel) (by decide +kernel)
set_option maxRecDepth 20000 in
theorem gX7_isKey_X7_isIn : GoodIn wsX7_isKey (va_wsS RX7 34 yX7_isIn wsX7_isIn) := goodIn_app (goodIn_of _ (by decide +kernel)) ggX7_isKey_X7_isIn
theorem dX7_isKey_0 : decode cX7_isKey 0 = .ok (.iload_n 0, 1) := by decide +kernel
theorem dX7_isKey_1 : decode cX7_isKey 1 = .ok (.i2l, 1) := by decide +kernel
theorem dX7_isKey_2 : decode cX7_isKey 2 = .ok (.lconst 0, 1) := by decide +kernel
theorem dX7_isKey_3 : decode cX7_isKey 3 = .ok (.ldc2_w 51, 3) := by decide +kernel
theorem dX7_isKey_6 : decode cX7_isKey 6 = .ok (.invokestatic 34, 3) := by decide +kernel
theorem dX7_isKey_9 : decode cX7_isKey 9 = .ok (.ireturn, 1) := by decide +kernel
set_option maxRecDepth 20000 in
theorem ggX7_frees_X7_ofSegment : GoodIn wsX7_frees wsX7_ofSegment := goodIn_r _ [6, 1, 7, 8, 9, 10, 11] (by first | rfl | decide +kernel) (by decide +kernel)
set_option maxRecDepth 20000 in
theorem gX7_frees_X7_ofSegment : GoodIn wsX7_frees (wsV RX7 53 RX7 yX7_ofSegment wsX7_ofSegment) := goodIn_app (goodIn_of _ (by decide +kernel)) ggX7_frees_X7_ofSegment
theorem dX7_frees_0 : decode cX7_frees 0 = .ok (.iconst 0, 1) := by decide +kernel
theorem dX7_frees_1 : decode cX7_frees 1 = .ok (.istore_n 1, 1) := by decide +kernel
theorem dX7_frees_2 : decode cX7_frees 2 = .ok (.iconst 0, 1) := by decide +kernel
theorem dX7_frees_3 : decode cX7_frees 3 = .ok (.istore_n 2, 1) := by decide +kernel
theorem dX7_frees_4 : decode cX7_frees 4 = .ok (.iload_n 2, 1) := by decide +kernel
theorem dX7_frees_5 : decode cX7_frees 5 = .ok (.aload_n 0, 1) := by decide +kernel
theorem dX7_frees_6 : decode cX7_frees 6 = .ok (.getfield 7, 3) := by decide +kernel
theorem dX7_frees_9 : decode cX7_frees 9 = .ok (.iconst 0, 1) := by decide +kernel
theorem dX7_frees_10 : decode cX7_frees 10 = .ok (.iaload, 1) := by decide +kernel
theorem dX7_frees_11 : decode cX7_frees 11 = .ok (.if_icmp .ge 26, 3) := by decide +kernel
theorem dX7_frees_14 : decode cX7_frees 14 = .ok (.iload_n 1, 1) := by decide +kernel
theorem dX7_frees_15 : decode cX7_frees 15 = .ok (.aload_n 0, 1) := by decide +kernel
theorem dX7_frees_16 : decode cX7_frees 16 = .ok (.iload_n 2, 1) := by decide +kernel
theorem dX7_frees_17 : decode cX7_frees 17 = .ok (.iconst 0, 1) := by decide +kernel
theorem dX7_frees_18 : decode cX7_frees 18 = .ok (.invokevirtual 53, 3) := by decide +kernel
theorem dX7_frees_21 : decode cX7_frees 21 = .ok (.ifCond .ne 7, 3) := by decide +kernel
theorem dX7_frees_24 : decode cX7_frees 24 = .ok (.iconst 1, 1) := by decide +kernel
theorem dX7_frees_25 : decode cX7_frees 25 = .ok (.goto 4, 3) := by decide +kernel
theorem dX7_frees_28 : decode cX7_frees 28 = .ok (.iconst 0, 1) := by decide +kernel
theorem dX7_frees_29 : decode cX7_frees 29 = .ok (.iadd, 1) := by decide +kernel
theorem dX7_frees_30 : decode cX7_frees 30 = .ok (.istore_n 1, 1) := by decide +kernel
theorem dX7_frees_31 : decode cX7_frees 31 = .ok (.iinc 2 1, 3) := by decide +kernel
theorem dX7_frees_34 : decode cX7_frees 34 = .ok (.goto (-30), 3) := by decide +kernel
theorem dX7_frees_37 : decode cX7_frees 37 = .ok (.iload_n 1, 1) := by decide +kernel
theorem dX7_frees_38 : decode cX7_frees 38 = .ok (.ireturn, 1) := by decide +kernel
set_option maxRecDepth 20000 in
theorem ggX7_leftIn_X7_ofSegment : GoodIn wsX7_leftIn wsX7_ofSegment := goodIn_r _ [6, 1, 7, 8, 9, 10, 11] (by first | rfl | decide +kernel) (by decide +kernel)
set_option maxRecDepth 20000 in
theorem gX7_leftIn_X7_ofSegment : GoodIn wsX7_leftIn (wsV RX7 53 RX7 yX7_ofSegment wsX7_ofSegment) := goodIn_app (goodIn_of _ (by decide +kernel)) ggX7_leftIn_X7_ofSegment
theorem dX7_leftIn_0 : decode cX7_leftIn 0 = .ok (.aload_n 0, 1) := by decide +kernel
theorem dX7_leftIn_1 : decode cX7_leftIn 1 = .ok (.getfield 7, 3) := by decide +kernel
theorem dX7_leftIn_4 : decode cX7_leftIn 4 = .ok (.bipush 8, 2) := by decide +kernel
theorem dX7_leftIn_6 : decode cX7_leftIn 6 = .ok (.iload_n 1, 1) := by decide +kernel
theorem dX7_leftIn_7 : decode cX7_leftIn 7 = .ok (.iadd, 1) := by decide +kernel
theorem dX7_leftIn_8 : decode cX7_leftIn 8 = .ok (.iaload, 1) := by decide +kernel
theorem dX7_leftIn_9 : decode cX7_leftIn 9 = .ok (.iconst (-1), 1) := by decide +kernel
theorem dX7_leftIn_10 : decode cX7_leftIn 10 = .ok (.if_icmp .ne 7, 3) := by decide +kernel
theorem dX7_leftIn_13 : decode cX7_leftIn 13 = .ok (.iconst 0, 1) := by decide +kernel
theorem dX7_leftIn_14 : decode cX7_leftIn 14 = .ok (.goto 24, 3) := by decide +kernel
theorem dX7_leftIn_17 : decode cX7_leftIn 17 = .ok (.aload_n 0, 1) := by decide +kernel
theorem dX7_leftIn_18 : decode cX7_leftIn 18 = .ok (.getfield 7, 3) := by decide +kernel
theorem dX7_leftIn_21 : decode cX7_leftIn 21 = .ok (.iconst 1, 1) := by decide +kernel
theorem dX7_leftIn_22 : decode cX7_leftIn 22 = .ok (.iaload, 1) := by decide +kernel
theorem dX7_leftIn_23 : decode cX7_leftIn 23 = .ok (.aload_n 0, 1) := by decide +kernel
theorem dX7_leftIn_24 : decode cX7_leftIn 24 = .ok (.aload_n 0, 1) := by decide +kernel
theorem dX7_leftIn_25 : decode cX7_leftIn 25 = .ok (.getfield 7, 3) := by decide +kernel
theorem dX7_leftIn_28 : decode cX7_leftIn 28 = .ok (.bipush 8, 2) := by decide +kernel
theorem dX7_leftIn_30 : decode cX7_leftIn 30 = .ok (.iload_n 1, 1) := by decide +kernel
theorem dX7_leftIn_31 : decode cX7_leftIn 31 = .ok (.iadd, 1) := by decide +kernel
theorem dX7_leftIn_32 : decode cX7_leftIn 32 = .ok (.iaload, 1) := by decide +kernel
theorem dX7_leftIn_33 : decode cX7_leftIn 33 = .ok (.iconst 1, 1) := by decide +kernel
theorem dX7_leftIn_34 : decode cX7_leftIn 34 = .ok (.invokevirtual 53, 3) := by decide +kernel
theorem dX7_leftIn_37 : decode cX7_leftIn 37 = .ok (.isub, 1) := by decide +kernel
theorem dX7_leftIn_38 : decode cX7_leftIn 38 = .ok (.ireturn, 1) := by decide +kernel
set_option maxRecDepth 20000 in
theorem ggX7_freshest_X7_ofSegment : GoodIn wsX7_freshest wsX7_ofSegment := goodIn_r _ [6, 1, 7, 8, 9, 10, 11] (by first | rfl | decide +kernel) (by decide +kernel)
set_option maxRecDepth 20000 in
theorem gX7_freshest_X7_ofSegment : GoodIn wsX7_freshest (wsV RX7 53 RX7 yX7_ofSegment wsX7_ofSegment) := goodIn_app (goodIn_of _ (by decide +kernel)) ggX7_freshest_X7_ofSegment
theorem dX7_freshest_0 : decode cX7_freshest 0 = .ok (.iconst (-1), 1) := by decide +kernel
theorem dX7_freshest_1 : decode cX7_freshest 1 = .ok (.istore_n 1, 1) := by decide +kernel
theorem dX7_freshest_2 : decode cX7_freshest 2 = .ok (.iconst 0, 1) := by decide +kernel
theorem dX7_freshest_3 : decode cX7_freshest 3 = .ok (.istore_n 2, 1) := by decide +kernel
theorem dX7_freshest_4 : decode cX7_freshest 4 = .ok (.iload_n 2, 1) := by decide +kernel
theorem dX7_freshest_5 : decode cX7_freshest 5 = .ok (.aload_n 0, 1) := by decide +kernel
theorem dX7_freshest_6 : decode cX7_freshest 6 = .ok (.getfield 7, 3) := by decide +kernel
theorem dX7_freshest_9 : decode cX7_freshest 9 = .ok (.iconst 0, 1) := by decide +kernel
theorem dX7_freshest_10 : decode cX7_freshest 10 = .ok (.iaload, 1) := by decide +kernel
theorem dX7_freshest_11 : decode cX7_freshest 11 = .ok (.if_icmp .ge 40, 3) := by decide +kernel
theorem dX7_freshest_14 : decode cX7_freshest 14 = .ok (.aload_n 0, 1) := by decide +kernel
theorem dX7_freshest_15 : decode cX7_freshest 15 = .ok (.iload_n 2, 1) := by decide +kernel
theorem dX7_freshest_16 : decode cX7_freshest 16 = .ok (.iconst 0, 1) := by decide +kernel
theorem dX7_freshest_17 : decode cX7_freshest 17 = .ok (.invokevirtual 53, 3) := by decide +kernel
theorem dX7_freshest_20 : decode cX7_freshest 20 = .ok (.ifCond .ne 25, 3) := by decide +kernel
theorem dX7_freshest_23 : decode cX7_freshest 23 = .ok (.iload_n 1, 1) := by decide +kernel
theorem dX7_freshest_24 : decode cX7_freshest 24 = .ok (.iconst (-1), 1) := by decide +kernel
theorem dX7_freshest_25 : decode cX7_freshest 25 = .ok (.if_icmp .eq 18, 3) := by decide +kernel
theorem dX7_freshest_28 : decode cX7_freshest 28 = .ok (.aload_n 0, 1) := by decide +kernel
theorem dX7_freshest_29 : decode cX7_freshest 29 = .ok (.iload_n 2, 1) := by decide +kernel
theorem dX7_freshest_30 : decode cX7_freshest 30 = .ok (.iconst 2, 1) := by decide +kernel
theorem dX7_freshest_31 : decode cX7_freshest 31 = .ok (.invokevirtual 53, 3) := by decide +kernel
theorem dX7_freshest_34 : decode cX7_freshest 34 = .ok (.aload_n 0, 1) := by decide +kernel
theorem dX7_freshest_35 : decode cX7_freshest 35 = .ok (.iload_n 1, 1) := by decide +kernel
theorem dX7_freshest_36 : decode cX7_freshest 36 = .ok (.iconst 2, 1) := by decide +kernel
theorem dX7_freshest_37 : decode cX7_freshest 37 = .ok (.invokevirtual 53, 3) := by decide +kernel
theorem dX7_freshest_40 : decode cX7_freshest 40 = .ok (.if_icmp .ge 5, 3) := by decide +kernel
theorem dX7_freshest_43 : decode cX7_freshest 43 = .ok (.iload_n 2, 1) := by decide +kernel
theorem dX7_freshest_44 : decode cX7_freshest 44 = .ok (.istore_n 1, 1) := by decide +kernel
theorem dX7_freshest_45 : decode cX7_freshest 45 = .ok (.iinc 2 1, 3) := by decide +kernel
theorem dX7_freshest_48 : decode cX7_freshest 48 = .ok (.goto (-44), 3) := by decide +kernel
theorem dX7_freshest_51 : decode cX7_freshest 51 = .ok (.iload_n 1, 1) := by decide +kernel
theorem dX7_freshest_52 : decode cX7_freshest 52 = .ok (.ireturn, 1) := by decide +kernel
set_option maxRecDepth 20000 in
theorem ggX7_appends_X7_freshest : GoodIn wsX7_appends wsX7_freshest := goodIn_r _ [6, 1, 7, 8, 9, 5, 10, 19, 20, 21, 22, 23] (by first | rfl | decide +kernel) (by decide +kernel)
set_option maxRecDepth 20000 in
theorem gX7_appends_X7_freshest : GoodIn wsX7_appends (wsV RX7 57 RX7 yX7_freshest wsX7_freshest) := goodIn_app (goodIn_of _ (by decide +kernel)) ggX7_appends_X7_freshest
set_option maxRecDepth 20000 in
theorem ggX7_appends_X7_setSegment : GoodIn wsX7_appends wsX7_setSegment := goodIn_r _ [14, 1, 19, 20, 21, 22, 23] (by first | rfl | decide +kernel) (by decide +kernel)
set_option maxRecDepth 20000 in
theorem gX7_appends_X7_setSegment : GoodIn wsX7_appends (wsV RX7 61 RX7 yX7_setSegment wsX7_setSegment) := goodIn_app (goodIn_of _ (by decide +kernel)) ggX7_appends_X7_setSegment
set_option maxRecDepth 20000 in
theorem ggX7_appends_X7_ofSegment : GoodIn wsX7_appends wsX7_ofSegment := goodIn_r _ [10, 1, 19, 20, 21, 22, 23] (by first | rfl | decide +kernel) (by decide +kernel)
set_option maxRecDepth 20000 in
theorem gX7_appends_X7_ofSegment : GoodIn wsX7_appends (wsV RX7 53 RX7 yX7_ofSegment wsX7_ofSegment) := goodIn_app (goodIn_of _ (by decide +kernel)) ggX7_appends_X7_ofSegment
set_option maxRecDepth 20000 in
theorem ggX7_appends_X7_setBlock : GoodIn wsX7_appends wsX7_setBlock := goodIn_r _ [18, 1, 19, 20, 21, 22, 23] (by first | rfl | decide +kernel) (by decide +kernel)
set_option maxRecDepth 20000 in
theorem gX7_appends_X7_setBlock : GoodIn wsX7_appends (wsV RX7 64 RX7 yX7_setBlock wsX7_setBlock) := goodIn_app (goodIn_of _ (by decide +kernel)) ggX7_appends_X7_setBlock
theorem dX7_appends_0 : decode cX7_appends 0 = .ok (.aload_n 0, 1) := by decide +kernel
theorem dX7_appends_1 : decode cX7_appends 1 = .ok (.getfield 7, 3) := by decide +kernel
theorem dX7_appends_4 : decode cX7_appends 4 = .ok (.bipush 8, 2) := by decide +kernel
theorem dX7_appends_6 : decode cX7_appends 6 = .ok (.iload_n 1, 1) := by decide +kernel
theorem dX7_appends_7 : decode cX7_appends 7 = .ok (.iadd, 1) := by decide +kernel
theorem dX7_appends_8 : decode cX7_appends 8 = .ok (.iaload, 1) := by decide +kernel
theorem dX7_appends_9 : decode cX7_appends 9 = .ok (.iconst (-1), 1) := by decide +kernel
theorem dX7_appends_10 : decode cX7_appends 10 = .ok (.if_icmp .ne 31, 3) := by decide +kernel
theorem dX7_appends_13 : decode cX7_appends 13 = .ok (.aload_n 0, 1) := by decide +kernel
theorem dX7_appends_14 : decode cX7_appends 14 = .ok (.getfield 7, 3) := by decide +kernel
theorem dX7_appends_17 : decode cX7_appends 17 = .ok (.bipush 8, 2) := by decide +kernel
theorem dX7_appends_19 : decode cX7_appends 19 = .ok (.iload_n 1, 1) := by decide +kernel
theorem dX7_appends_20 : decode cX7_appends 20 = .ok (.iadd, 1) := by decide +kernel
theorem dX7_appends_21 : decode cX7_appends 21 = .ok (.aload_n 0, 1) := by decide +kernel
theorem dX7_appends_22 : decode cX7_appends 22 = .ok (.invokevirtual 57, 3) := by decide +kernel
theorem dX7_appends_25 : decode cX7_appends 25 = .ok (.iastore, 1) := by decide +kernel
theorem dX7_appends_26 : decode cX7_appends 26 = .ok (.aload_n 0, 1) := by decide +kernel
theorem dX7_appends_27 : decode cX7_appends 27 = .ok (.aload_n 0, 1) := by decide +kernel
theorem dX7_appends_28 : decode cX7_appends 28 = .ok (.getfield 7, 3) := by decide +kernel
theorem dX7_appends_31 : decode cX7_appends 31 = .ok (.bipush 8, 2) := by decide +kernel
theorem dX7_appends_33 : decode cX7_appends 33 = .ok (.iload_n 1, 1) := by decide +kernel
theorem dX7_appends_34 : decode cX7_appends 34 = .ok (.iadd, 1) := by decide +kernel
theorem dX7_appends_35 : decode cX7_appends 35 = .ok (.iaload, 1) := by decide +kernel
theorem dX7_appends_36 : decode cX7_appends 36 = .ok (.iconst 0, 1) := by decide +kernel
theorem dX7_appends_37 : decode cX7_appends 37 = .ok (.iconst 1, 1) := by decide +kernel
theorem dX7_appends_38 : decode cX7_appends 38 = .ok (.invokevirtual 61, 3) := by decide +kernel
theorem dX7_appends_41 : decode cX7_appends 41 = .ok (.aload_n 0, 1) := by decide +kernel
theorem dX7_appends_42 : decode cX7_appends 42 = .ok (.getfield 7, 3) := by decide +kernel
theorem dX7_appends_45 : decode cX7_appends 45 = .ok (.bipush 8, 2) := by decide +kernel
theorem dX7_appends_47 : decode cX7_appends 47 = .ok (.iload_n 1, 1) := by decide +kernel
theorem dX7_appends_48 : decode cX7_appends 48 = .ok (.iadd, 1) := by decide +kernel
theorem dX7_appends_49 : decode cX7_appends 49 = .ok (.iaload, 1) := by decide +kernel
theorem dX7_appends_50 : decode cX7_appends 50 = .ok (.istore 6, 2) := by decide +kernel
theorem dX7_appends_52 : decode cX7_appends 52 = .ok (.bipush 16, 2) := by decide +kernel
theorem dX7_appends_54 : decode cX7_appends 54 = .ok (.iload 6, 2) := by decide +kernel
theorem dX7_appends_56 : decode cX7_appends 56 = .ok (.imul, 1) := by decide +kernel
theorem dX7_appends_57 : decode cX7_appends 57 = .ok (.aload_n 0, 1) := by decide +kernel
theorem dX7_appends_58 : decode cX7_appends 58 = .ok (.iload 6, 2) := by decide +kernel
theorem dX7_appends_60 : decode cX7_appends 60 = .ok (.iconst 1, 1) := by decide +kernel
theorem dX7_appends_61 : decode cX7_appends 61 = .ok (.invokevirtual 53, 3) := by decide +kernel
theorem dX7_appends_64 : decode cX7_appends 64 = .ok (.iadd, 1) := by decide +kernel
theorem dX7_appends_65 : decode cX7_appends 65 = .ok (.istore 7, 2) := by decide +kernel
theorem dX7_appends_67 : decode cX7_appends 67 = .ok (.aload_n 0, 1) := by decide +kernel
theorem dX7_appends_68 : decode cX7_appends 68 = .ok (.iload 6, 2) := by decide +kernel
theorem dX7_appends_70 : decode cX7_appends 70 = .ok (.iconst 1, 1) := by decide +kernel
theorem dX7_appends_71 : decode cX7_appends 71 = .ok (.aload_n 0, 1) := by decide +kernel
theorem dX7_appends_72 : decode cX7_appends 72 = .ok (.iload 6, 2) := by decide +kernel
theorem dX7_appends_74 : decode cX7_appends 74 = .ok (.iconst 1, 1) := by decide +kernel
theorem dX7_appends_75 : decode cX7_appends 75 = .ok (.invokevirtual 53, 3) := by decide +kernel
theorem dX7_appends_78 : decode cX7_appends 78 = .ok (.iconst 1, 1) := by decide +kernel
theorem dX7_appends_79 : decode cX7_appends 79 = .ok (.iadd, 1) := by decide +kernel
theorem dX7_appends_80 : decode cX7_appends 80 = .ok (.invokevirtual 61, 3) := by decide +kernel
theorem dX7_appends_83 : decode cX7_appends 83 = .ok (.aload_n 0, 1) := by decide +kernel
theorem dX7_appends_84 : decode cX7_appends 84 = .ok (.iload 7, 2) := by decide +kernel
theorem dX7_appends_86 : decode cX7_appends 86 = .ok (.iconst 0, 1) := by decide +kernel
theorem dX7_appends_87 : decode cX7_appends 87 = .ok (.iload 5, 2) := by decide +kernel
theorem dX7_appends_89 : decode cX7_appends 89 = .ok (.invokevirtual 64, 3) := by decide +kernel
theorem dX7_appends_92 : decode cX7_appends 92 = .ok (.aload_n 0, 1) := by decide +kernel
theorem dX7_appends_93 : decode cX7_appends 93 = .ok (.iload 7, 2) := by decide +kernel
theorem dX7_appends_95 : decode cX7_appends 95 = .ok (.iconst 1, 1) := by decide +kernel
theorem dX7_appends_96 : decode cX7_appends 96 = .ok (.iload_n 2, 1) := by decide +kernel
theorem dX7_appends_97 : decode cX7_appends 97 = .ok (.invokevirtual 64, 3) := by decide +kernel
theorem dX7_appends_100 : decode cX7_appends 100 = .ok (.aload_n 0, 1) := by decide +kernel
theorem dX7_appends_101 : decode cX7_appends 101 = .ok (.iload 7, 2) := by decide +kernel
theorem dX7_appends_103 : decode cX7_appends 103 = .ok (.iconst 2, 1) := by decide +kernel
theorem dX7_appends_104 : decode cX7_appends 104 = .ok (.iload_n 3, 1) := by decide +kernel
theorem dX7_appends_105 : decode cX7_appends 105 = .ok (.invokevirtual 64, 3) := by decide +kernel
theorem dX7_appends_108 : decode cX7_appends 108 = .ok (.aload_n 0, 1) := by decide +kernel
theorem dX7_appends_109 : decode cX7_appends 109 = .ok (.iload 7, 2) := by decide +kernel
theorem dX7_appends_111 : decode cX7_appends 111 = .ok (.iconst 3, 1) := by decide +kernel
theorem dX7_appends_112 : decode cX7_appends 112 = .ok (.iload 4, 2) := by decide +kernel
theorem dX7_appends_114 : decode cX7_appends 114 = .ok (.invokevirtual 64, 3) := by decide +kernel
theorem dX7_appends_117 : decode cX7_appends 117 = .ok (.aload_n 0, 1) := by decide +kernel
theorem dX7_appends_118 : decode cX7_appends 118 = .ok (.iload 6, 2) := by decide +kernel
theorem dX7_appends_120 : decode cX7_appends 120 = .ok (.iconst 1, 1) := by decide +kernel
theorem dX7_appends_121 : decode cX7_appends 121 = .ok (.invokevirtual 53, 3) := by decide +kernel
theorem dX7_appends_124 : decode cX7_appends 124 = .ok (.aload_n 0, 1) := by decide +kernel
theorem dX7_appends_125 : decode cX7_appends 125 = .ok (.getfield 7, 3) := by decide +kernel
theorem dX7_appends_128 : decode cX7_appends 128 = .ok (.iconst 1, 1) := by decide +kernel
theorem dX7_appends_129 : decode cX7_appends 129 = .ok (.iaload, 1) := by decide +kernel
theorem dX7_appends_130 : decode cX7_appends 130 = .ok (.if_icmp .ne 21, 3) := by decide +kernel
theorem dX7_appends_133 : decode cX7_appends 133 = .ok (.aload_n 0, 1) := by decide +kernel
theorem dX7_appends_134 : decode cX7_appends 134 = .ok (.iload 6, 2) := by decide +kernel
theorem dX7_appends_136 : decode cX7_appends 136 = .ok (.iconst 0, 1) := by decide +kernel
theorem dX7_appends_137 : decode cX7_appends 137 = .ok (.iconst 2, 1) := by decide +kernel
theorem dX7_appends_138 : decode cX7_appends 138 = .ok (.invokevirtual 61, 3) := by decide +kernel
theorem dX7_appends_141 : decode cX7_appends 141 = .ok (.aload_n 0, 1) := by decide +kernel
theorem dX7_appends_142 : decode cX7_appends 142 = .ok (.getfield 7, 3) := by decide +kernel
theorem dX7_appends_145 : decode cX7_appends 145 = .ok (.bipush 8, 2) := by decide +kernel
theorem dX7_appends_147 : decode cX7_appends 147 = .ok (.iload_n 1, 1) := by decide +kernel
theorem dX7_appends_148 : decode cX7_appends 148 = .ok (.iadd, 1) := by decide +kernel
theorem dX7_appends_149 : decode cX7_appends 149 = .ok (.iconst (-1), 1) := by decide +kernel
theorem dX7_appends_150 : decode cX7_appends 150 = .ok (.iastore, 1) := by decide +kernel
theorem dX7_appends_151 : decode cX7_appends 151 = .ok (.iload 7, 2) := by decide +kernel
theorem dX7_appends_153 : decode cX7_appends 153 = .ok (.ireturn, 1) := by decide +kernel
set_option maxRecDepth 20000 in
theorem ggX7_waits_X7_setBlock : GoodIn wsX7_waits wsX7_setBlock := goodIn_r _ [6, 1, 7, 8, 9, 10, 11] (by first | rfl | decide +kernel) (by decide +kernel)
set_option maxRecDepth 20000 in
theorem gX7_waits_X7_setBlock : GoodIn wsX7_waits (wsV RX7 64 RX7 yX7_setBlock wsX7_setBlock) := goodIn_app (goodIn_of _ (by decide +kernel)) ggX7_waits_X7_setBlock
theorem dX7_waits_0 : decode cX7_waits 0 = .ok (.aload_n 0, 1) := by decide +kernel
theorem dX7_waits_1 : decode cX7_waits 1 = .ok (.iload_n 1, 1) := by decide +kernel
theorem dX7_waits_2 : decode cX7_waits 2 = .ok (.iconst 0, 1) := by decide +kernel
theorem dX7_waits_3 : decode cX7_waits 3 = .ok (.iconst 3, 1) := by decide +kernel
theorem dX7_waits_4 : decode cX7_waits 4 = .ok (.invokevirtual 64, 3) := by decide +kernel
theorem dX7_waits_7 : decode cX7_waits 7 = .ok (.aload_n 0, 1) := by decide +kernel
theorem dX7_waits_8 : decode cX7_waits 8 = .ok (.iload_n 1, 1) := by decide +kernel
theorem dX7_waits_9 : decode cX7_waits 9 = .ok (.iconst 4, 1) := by decide +kernel
theorem dX7_waits_10 : decode cX7_waits 10 = .ok (.aload_n 0, 1) := by decide +kernel
theorem dX7_waits_11 : decode cX7_waits 11 = .ok (.getfield 7, 3) := by decide +kernel
theorem dX7_waits_14 : decode cX7_waits 14 = .ok (.iconst 3, 1) := by decide +kernel
theorem dX7_waits_15 : decode cX7_waits 15 = .ok (.iaload, 1) := by decide +kernel
theorem dX7_waits_16 : decode cX7_waits 16 = .ok (.invokevirtual 64, 3) := by decide +kernel
theorem dX7_waits_19 : decode cX7_waits 19 = .ok (.return_, 1) := by decide +kernel
theorem dX7_inSnapshot_0 : decode cX7_inSnapshot 0 = .ok (.aload_n 0, 1) := by decide +kernel
theorem dX7_inSnapshot_1 : decode cX7_inSnapshot 1 = .ok (.getfield 7, 3) := by decide +kernel
theorem dX7_inSnapshot_4 : decode cX7_inSnapshot 4 = .ok (.sipush 868, 3) := by decide +kernel
theorem dX7_inSnapshot_7 : decode cX7_inSnapshot 7 = .ok (.bipush 24, 2) := by decide +kernel
theorem dX7_inSnapshot_9 : decode cX7_inSnapshot 9 = .ok (.iload_n 1, 1) := by decide +kernel
theorem dX7_inSnapshot_10 : decode cX7_inSnapshot 10 = .ok (.imul, 1) := by decide +kernel
theorem dX7_inSnapshot_11 : decode cX7_inSnapshot 11 = .ok (.iadd, 1) := by decide +kernel
theorem dX7_inSnapshot_12 : decode cX7_inSnapshot 12 = .ok (.iload_n 2, 1) := by decide +kernel
theorem dX7_inSnapshot_13 : decode cX7_inSnapshot 13 = .ok (.iadd, 1) := by decide +kernel
theorem dX7_inSnapshot_14 : decode cX7_inSnapshot 14 = .ok (.iaload, 1) := by decide +kernel
theorem dX7_inSnapshot_15 : decode cX7_inSnapshot 15 = .ok (.ireturn, 1) := by decide +kernel
set_option maxRecDepth 20000 in
theorem ggX7_snapshotsOf_X7_ofBlock : GoodIn wsX7_snapshotsOf wsX7_ofBlock := goodIn_r _ [6, 1, 11, 12, 13, 14, 15] (by first | rfl | decide +kernel) (by decide +kernel)
set_option maxRecDepth 20000 in
theorem gX7_snapshotsOf_X7_ofBlock : GoodIn wsX7_snapshotsOf (wsV RX7 67 RX7 yX7_ofBlock wsX7_ofBlock) := goodIn_app (goodIn_of _ (by decide +kernel)) ggX7_snapshotsOf_X7_ofBlock
set_option maxRecDepth 20000 in
theorem ggX7_snapshotsOf_X7_inSnapshot : GoodIn wsX7_snapshotsOf wsX7_inSnapshot := goodIn_r _ [10, 1, 11, 12, 13, 14, 15] (by first | rfl | decide +kernel) (by decide +kernel)
set_option maxRecDepth 20000 in
theorem gX7_snapshotsOf_X7_inSnapshot : GoodIn wsX7_snapshotsOf (wsV RX7 70 RX7 yX7_inSnapshot wsX7_inSnapshot) := goodIn_app (goodIn_of _ (by decide +kernel)) ggX7_snapshotsOf_X7_inSnapshot
theorem dX7_snapshotsOf_0 : decode cX7_snapshotsOf 0 = .ok (.iconst 0, 1) := by decide +kernel
theorem dX7_snapshotsOf_1 : decode cX7_snapshotsOf 1 = .ok (.istore_n 2, 1) := by decide +kernel
theorem dX7_snapshotsOf_2 : decode cX7_snapshotsOf 2 = .ok (.aload_n 0, 1) := by decide +kernel
theorem dX7_snapshotsOf_3 : decode cX7_snapshotsOf 3 = .ok (.iload_n 1, 1) := by decide +kernel
theorem dX7_snapshotsOf_4 : decode cX7_snapshotsOf 4 = .ok (.iconst 1, 1) := by decide +kernel
theorem dX7_snapshotsOf_5 : decode cX7_snapshotsOf 5 = .ok (.invokevirtual 67, 3) := by decide +kernel
theorem dX7_snapshotsOf_8 : decode cX7_snapshotsOf 8 = .ok (.istore_n 3, 1) := by decide +kernel
theorem dX7_snapshotsOf_9 : decode cX7_snapshotsOf 9 = .ok (.iconst 0, 1) := by decide +kernel
theorem dX7_snapshotsOf_10 : decode cX7_snapshotsOf 10 = .ok (.istore 4, 2) := by decide +kernel
theorem dX7_snapshotsOf_12 : decode cX7_snapshotsOf 12 = .ok (.iload 4, 2) := by decide +kernel
theorem dX7_snapshotsOf_14 : decode cX7_snapshotsOf 14 = .ok (.iconst 4, 1) := by decide +kernel
theorem dX7_snapshotsOf_15 : decode cX7_snapshotsOf 15 = .ok (.if_icmp .ge 55, 3) := by decide +kernel
theorem dX7_snapshotsOf_18 : decode cX7_snapshotsOf 18 = .ok (.iload_n 2, 1) := by decide +kernel
theorem dX7_snapshotsOf_19 : decode cX7_snapshotsOf 19 = .ok (.aload_n 0, 1) := by decide +kernel
theorem dX7_snapshotsOf_20 : decode cX7_snapshotsOf 20 = .ok (.iload_n 1, 1) := by decide +kernel
theorem dX7_snapshotsOf_21 : decode cX7_snapshotsOf 21 = .ok (.iconst 0, 1) := by decide +kernel
theorem dX7_snapshotsOf_22 : decode cX7_snapshotsOf 22 = .ok (.invokevirtual 67, 3) := by decide +kernel
theorem dX7_snapshotsOf_25 : decode cX7_snapshotsOf 25 = .ok (.ifCond .eq 36, 3) := by decide +kernel
theorem dX7_snapshotsOf_28 : decode cX7_snapshotsOf 28 = .ok (.aload_n 0, 1) := by decide +kernel
theorem dX7_snapshotsOf_29 : decode cX7_snapshotsOf 29 = .ok (.getfield 7, 3) := by decide +kernel
theorem dX7_snapshotsOf_32 : decode cX7_snapshotsOf 32 = .ok (.sipush 864, 3) := by decide +kernel
theorem dX7_snapshotsOf_35 : decode cX7_snapshotsOf 35 = .ok (.iload 4, 2) := by decide +kernel
theorem dX7_snapshotsOf_37 : decode cX7_snapshotsOf 37 = .ok (.iadd, 1) := by decide +kernel
theorem dX7_snapshotsOf_38 : decode cX7_snapshotsOf 38 = .ok (.iaload, 1) := by decide +kernel
theorem dX7_snapshotsOf_39 : decode cX7_snapshotsOf 39 = .ok (.iconst 1, 1) := by decide +kernel
theorem dX7_snapshotsOf_40 : decode cX7_snapshotsOf 40 = .ok (.if_icmp .ne 21, 3) := by decide +kernel
theorem dX7_snapshotsOf_43 : decode cX7_snapshotsOf 43 = .ok (.aload_n 0, 1) := by decide +kernel
theorem dX7_snapshotsOf_44 : decode cX7_snapshotsOf 44 = .ok (.iload 4, 2) := by decide +kernel
theorem dX7_snapshotsOf_46 : decode cX7_snapshotsOf 46 = .ok (.iload_n 3, 1) := by decide +kernel
theorem dX7_snapshotsOf_47 : decode cX7_snapshotsOf 47 = .ok (.invokevirtual 70, 3) := by decide +kernel
theorem dX7_snapshotsOf_50 : decode cX7_snapshotsOf 50 = .ok (.iload_n 1, 1) := by decide +kernel
theorem dX7_snapshotsOf_51 : decode cX7_snapshotsOf 51 = .ok (.if_icmp .ne 10, 3) := by decide +kernel
theorem dX7_snapshotsOf_54 : decode cX7_snapshotsOf 54 = .ok (.iconst 1, 1) := by decide +kernel
theorem dX7_snapshotsOf_55 : decode cX7_snapshotsOf 55 = .ok (.iload 4, 2) := by decide +kernel
theorem dX7_snapshotsOf_57 : decode cX7_snapshotsOf 57 = .ok (.ishl, 1) := by decide +kernel
theorem dX7_snapshotsOf_58 : decode cX7_snapshotsOf 58 = .ok (.goto 4, 3) := by decide +kernel
theorem dX7_snapshotsOf_61 : decode cX7_snapshotsOf 61 = .ok (.iconst 0, 1) := by decide +kernel
theorem dX7_snapshotsOf_62 : decode cX7_snapshotsOf 62 = .ok (.ior, 1) := by decide +kernel
theorem dX7_snapshotsOf_63 : decode cX7_snapshotsOf 63 = .ok (.istore_n 2, 1) := by decide +kernel
theorem dX7_snapshotsOf_64 : decode cX7_snapshotsOf 64 = .ok (.iinc 4 1, 3) := by decide +kernel
theorem dX7_snapshotsOf_67 : decode cX7_snapshotsOf 67 = .ok (.goto (-55), 3) := by decide +kernel
theorem dX7_snapshotsOf_70 : decode cX7_snapshotsOf 70 = .ok (.iload_n 2, 1) := by decide +kernel
theorem dX7_snapshotsOf_71 : decode cX7_snapshotsOf 71 = .ok (.ireturn, 1) := by decide +kernel
set_option maxRecDepth 20000 in
theorem ggX7_ends_X7_snapshotsOf : GoodIn wsX7_ends wsX7_snapshotsOf := goodIn_r _ [6, 1, 7, 8, 9, 5, 10, 11, 12, 13, 14, 23, 24, 25, 26, 27] (by first | rfl | decide +kernel) (by decide +kernel)
set_option maxRecDepth 20000 in
theorem gX7_ends_X7_snapshotsOf : GoodIn wsX7_ends (wsV RX7 73 RX7 yX7_snapshotsOf wsX7_snapshotsOf) := goodIn_app (goodIn_of _ (by decide +kernel)) ggX7_ends_X7_snapshotsOf
set_option maxRecDepth 20000 in
theorem ggX7_ends_X7_setBlock : GoodIn wsX7_ends wsX7_setBlock := goodIn_r _ [18, 1, 23, 24, 25, 26, 27] (by first | rfl | decide +kernel) (by decide +kernel)
set_option maxRecDepth 20000 in
theorem gX7_ends_X7_setBlock : GoodIn wsX7_ends (wsV RX7 64 RX7 yX7_setBlock wsX7_setBlock) := goodIn_app (goodIn_of _ (by decide +kernel)) ggX7_ends_X7_setBlock
set_option maxRecDepth 20000 in
theorem ggX7_ends_X7_waits : GoodIn wsX7_ends wsX7_waits := goodIn_r _ [22, 1, 15, 16, 17, 5, 18, 23, 24, 25, 26, 27] (by first | rfl | decide +kernel) (by decide +kernel)
set_option maxRecDepth 20000 in
theorem gX7_ends_X7_waits : GoodIn wsX7_ends (wsV RX7 77 RX7 yX7_waits wsX7_waits) := goodIn_app (goodIn_of _ (by decide +kernel)) ggX7_ends_X7_waits
theorem dX7_ends_0 : decode cX7_ends 0 = .ok (.aload_n 0, 1) := by decide +kernel
theorem dX7_ends_1 : decode cX7_ends 1 = .ok (.getfield 7, 3) := by decide +kernel
theorem dX7_ends_4 : decode cX7_ends 4 = .ok (.sipush 840, 3) := by decide +kernel
theorem dX7_ends_7 : decode cX7_ends 7 = .ok (.iload_n 1, 1) := by decide +kernel
theorem dX7_ends_8 : decode cX7_ends 8 = .ok (.iadd, 1) := by decide +kernel
theorem dX7_ends_9 : decode cX7_ends 9 = .ok (.iaload, 1) := by decide +kernel
theorem dX7_ends_10 : decode cX7_ends 10 = .ok (.istore_n 2, 1) := by decide +kernel
theorem dX7_ends_11 : decode cX7_ends 11 = .ok (.aload_n 0, 1) := by decide +kernel
theorem dX7_ends_12 : decode cX7_ends 12 = .ok (.getfield 7, 3) := by decide +kernel
theorem dX7_ends_15 : decode cX7_ends 15 = .ok (.sipush 840, 3) := by decide +kernel
theorem dX7_ends_18 : decode cX7_ends 18 = .ok (.iload_n 1, 1) := by decide +kernel
theorem dX7_ends_19 : decode cX7_ends 19 = .ok (.iadd, 1) := by decide +kernel
theorem dX7_ends_20 : decode cX7_ends 20 = .ok (.iconst (-1), 1) := by decide +kernel
theorem dX7_ends_21 : decode cX7_ends 21 = .ok (.iastore, 1) := by decide +kernel
theorem dX7_ends_22 : decode cX7_ends 22 = .ok (.iload_n 2, 1) := by decide +kernel
theorem dX7_ends_23 : decode cX7_ends 23 = .ok (.iconst (-1), 1) := by decide +kernel
theorem dX7_ends_24 : decode cX7_ends 24 = .ok (.if_icmp .ne 4, 3) := by decide +kernel
theorem dX7_ends_27 : decode cX7_ends 27 = .ok (.return_, 1) := by decide +kernel
theorem dX7_ends_28 : decode cX7_ends 28 = .ok (.aload_n 0, 1) := by decide +kernel
theorem dX7_ends_29 : decode cX7_ends 29 = .ok (.iload_n 2, 1) := by decide +kernel
theorem dX7_ends_30 : decode cX7_ends 30 = .ok (.invokevirtual 73, 3) := by decide +kernel
theorem dX7_ends_33 : decode cX7_ends 33 = .ok (.ifCond .eq 13, 3) := by decide +kernel
theorem dX7_ends_36 : decode cX7_ends 36 = .ok (.aload_n 0, 1) := by decide +kernel
theorem dX7_ends_37 : decode cX7_ends 37 = .ok (.iload_n 2, 1) := by decide +kernel
theorem dX7_ends_38 : decode cX7_ends 38 = .ok (.iconst 0, 1) := by decide +kernel
theorem dX7_ends_39 : decode cX7_ends 39 = .ok (.iconst 2, 1) := by decide +kernel
theorem dX7_ends_40 : decode cX7_ends 40 = .ok (.invokevirtual 64, 3) := by decide +kernel
theorem dX7_ends_43 : decode cX7_ends 43 = .ok (.goto 8, 3) := by decide +kernel
theorem dX7_ends_46 : decode cX7_ends 46 = .ok (.aload_n 0, 1) := by decide +kernel
theorem dX7_ends_47 : decode cX7_ends 47 = .ok (.iload_n 2, 1) := by decide +kernel
theorem dX7_ends_48 : decode cX7_ends 48 = .ok (.invokevirtual 77, 3) := by decide +kernel
theorem dX7_ends_51 : decode cX7_ends 51 = .ok (.return_, 1) := by decide +kernel
set_option maxRecDepth 20000 in
theorem ggX7_write_X7_isKey : GoodIn wsX7_write wsX7_isKey := goodIn_r _ [6, 7, 8, 9, 5, 10] (by first | rfl | decide +kernel) (by decide +kernel)
set_option maxRecDepth 20000 in
theorem gX7_write_X7_isKey : GoodIn wsX7_write (va_wsS RX7 81 yX7_isKey wsX7_isKey) := goodIn_app (goodIn_of _ (by decide +kernel)) ggX7_write_X7_isKey
set_option maxRecDepth 20000 in
theorem ggX7_write_X7_frees : GoodIn wsX7_write wsX7_frees := goodIn_r _ [14, 1, 15, 16, 17, 5, 18, 61, 62, 63, 64, 65] (by first | rfl | decide +kernel) (by decide +kernel)
set_option maxRecDepth 20000 in
theorem gX7_write_X7_frees : GoodIn wsX7_write (wsV RX7 84 RX7 yX7_frees wsX7_frees) := goodIn_app (goodIn_of _ (by decide +kernel)) ggX7_write_X7_frees
set_option maxRecDepth 20000 in
theorem ggX7_write_X7_keeps : GoodIn wsX7_write wsX7_keeps := goodIn_r _ [22, 23, 24, 1, 61, 62, 63, 64, 65] (by first | rfl | decide +kernel) (by decide +kernel)
set_option maxRecDepth 20000 in
theorem gX7_write_X7_keeps : GoodIn wsX7_write (wsV RX7 44 RX7 yX7_keeps wsX7_keeps) := goodIn_app (goodIn_of _ (by decide +kernel)) ggX7_write_X7_keeps
set_option maxRecDepth 20000 in
theorem ggX7_write_X7_appends : GoodIn wsX7_write wsX7_appends := goodIn_r _ [28, 1, 29, 30, 31, 5, 32, 15, 16, 17, 18, 33, 34, 35, 36, 37, 38, 39, 40, 61, 62, 63, 64, 65] (by first | rfl | decide +kernel) (by decide +kernel)
set_option maxRecDepth 20000 in
theorem gX7_write_X7_appends : GoodIn wsX7_write (wsV RX7 87 RX7 yX7_appends wsX7_appends) := goodIn_app (goodIn_of _ (by decide +kernel)) ggX7_write_X7_appends
set_option maxRecDepth 20000 in
theorem ggX7_write_X7_ends : GoodIn wsX7_write wsX7_ends := goodIn_r _ [44, 1, 45, 46, 47, 5, 48, 49, 50, 51, 52, 53, 54, 55, 56, 37, 38, 39, 40, 57, 58, 59, 60, 61, 62, 63, 64, 65] (by first | rfl | decide +kernel) (by decide +kernel)
set_option maxRecDepth 20000 in
theorem gX7_write_X7_ends : GoodIn wsX7_write (wsV RX7 91 RX7 yX7_ends wsX7_ends) := goodIn_app (goodIn_of _ (by decide +kernel)) ggX7_write_X7_ends
theorem dX7_write_0 : decode cX7_write 0 = .ok (.aload_n 0, 1) := by decide +kernel
theorem dX7_write_1 : decode cX7_write 1 = .ok (.iload_n 1, 1) := by decide +kernel
theorem dX7_write_2 : decode cX7_write 2 = .ok (.invokestatic 81, 3) := by decide +kernel
theorem dX7_write_5 : decode cX7_write 5 = .ok (.ifCond .ne 7, 3) := by decide +kernel
theorem dX7_write_8 : decode cX7_write 8 = .ok (.iconst 1, 1) := by decide +kernel
theorem dX7_write_9 : decode cX7_write 9 = .ok (.goto 27, 3) := by decide +kernel
theorem dX7_write_12 : decode cX7_write 12 = .ok (.aload_n 0, 1) := by decide +kernel
theorem dX7_write_13 : decode cX7_write 13 = .ok (.getfield 7, 3) := by decide +kernel
theorem dX7_write_16 : decode cX7_write 16 = .ok (.bipush 8, 2) := by decide +kernel
theorem dX7_write_18 : decode cX7_write 18 = .ok (.iaload, 1) := by decide +kernel
theorem dX7_write_19 : decode cX7_write 19 = .ok (.iconst (-1), 1) := by decide +kernel
theorem dX7_write_20 : decode cX7_write 20 = .ok (.if_icmp .ne 15, 3) := by decide +kernel
theorem dX7_write_23 : decode cX7_write 23 = .ok (.aload_n 0, 1) := by decide +kernel
theorem dX7_write_24 : decode cX7_write 24 = .ok (.invokevirtual 84, 3) := by decide +kernel
theorem dX7_write_27 : decode cX7_write 27 = .ok (.iconst 2, 1) := by decide +kernel
theorem dX7_write_28 : decode cX7_write 28 = .ok (.if_icmp .ge 7, 3) := by decide +kernel
theorem dX7_write_31 : decode cX7_write 31 = .ok (.iconst 2, 1) := by decide +kernel
theorem dX7_write_32 : decode cX7_write 32 = .ok (.goto 4, 3) := by decide +kernel
theorem dX7_write_35 : decode cX7_write 35 = .ok (.iconst 0, 1) := by decide +kernel
theorem dX7_write_36 : decode cX7_write 36 = .ok (.putfield 23, 3) := by decide +kernel
theorem dX7_write_39 : decode cX7_write 39 = .ok (.aload_n 0, 1) := by decide +kernel
theorem dX7_write_40 : decode cX7_write 40 = .ok (.getfield 23, 3) := by decide +kernel
theorem dX7_write_43 : decode cX7_write 43 = .ok (.ifCond .le 5, 3) := by decide +kernel
theorem dX7_write_46 : decode cX7_write 46 = .ok (.iconst 0, 1) := by decide +kernel
theorem dX7_write_47 : decode cX7_write 47 = .ok (.ireturn, 1) := by decide +kernel
theorem dX7_write_48 : decode cX7_write 48 = .ok (.aload_n 0, 1) := by decide +kernel
theorem dX7_write_49 : decode cX7_write 49 = .ok (.invokevirtual 44, 3) := by decide +kernel
theorem dX7_write_52 : decode cX7_write 52 = .ok (.aload_n 0, 1) := by decide +kernel
theorem dX7_write_53 : decode cX7_write 53 = .ok (.iconst 0, 1) := by decide +kernel
theorem dX7_write_54 : decode cX7_write 54 = .ok (.iload_n 1, 1) := by decide +kernel
theorem dX7_write_55 : decode cX7_write 55 = .ok (.iload_n 2, 1) := by decide +kernel
theorem dX7_write_56 : decode cX7_write 56 = .ok (.aload_n 0, 1) := by decide +kernel
theorem dX7_write_57 : decode cX7_write 57 = .ok (.getfield 7, 3) := by decide +kernel
theorem dX7_write_60 : decode cX7_write 60 = .ok (.iconst 4, 1) := by decide +kernel
theorem dX7_write_61 : decode cX7_write 61 = .ok (.iaload, 1) := by decide +kernel
theorem dX7_write_62 : decode cX7_write 62 = .ok (.iconst 1, 1) := by decide +kernel
theorem dX7_write_63 : decode cX7_write 63 = .ok (.invokevirtual 87, 3) := by decide +kernel
theorem dX7_write_66 : decode cX7_write 66 = .ok (.istore_n 3, 1) := by decide +kernel
theorem dX7_write_67 : decode cX7_write 67 = .ok (.aload_n 0, 1) := by decide +kernel
theorem dX7_write_68 : decode cX7_write 68 = .ok (.iload_n 1, 1) := by decide +kernel
theorem dX7_write_69 : decode cX7_write 69 = .ok (.invokevirtual 91, 3) := by decide +kernel
theorem dX7_write_72 : decode cX7_write 72 = .ok (.aload_n 0, 1) := by decide +kernel
theorem dX7_write_73 : decode cX7_write 73 = .ok (.getfield 7, 3) := by decide +kernel
theorem dX7_write_76 : decode cX7_write 76 = .ok (.sipush 840, 3) := by decide +kernel
theorem dX7_write_79 : decode cX7_write 79 = .ok (.iload_n 1, 1) := by decide +kernel
theorem dX7_write_80 : decode cX7_write 80 = .ok (.iadd, 1) := by decide +kernel
theorem dX7_write_81 : decode cX7_write 81 = .ok (.iload_n 3, 1) := by decide +kernel
theorem dX7_write_82 : decode cX7_write 82 = .ok (.iastore, 1) := by decide +kernel
theorem dX7_write_83 : decode cX7_write 83 = .ok (.aload_n 0, 1) := by decide +kernel
theorem dX7_write_84 : decode cX7_write 84 = .ok (.getfield 7, 3) := by decide +kernel
theorem dX7_write_87 : decode cX7_write 87 = .ok (.bipush 6, 2) := by decide +kernel
theorem dX7_write_89 : decode cX7_write 89 = .ok (.dup2, 1) := by decide +kernel
theorem dX7_write_90 : decode cX7_write 90 = .ok (.iaload, 1) := by decide +kernel
theorem dX7_write_91 : decode cX7_write 91 = .ok (.iconst 1, 1) := by decide +kernel
theorem dX7_write_92 : decode cX7_write 92 = .ok (.iadd, 1) := by decide +kernel
theorem dX7_write_93 : decode cX7_write 93 = .ok (.iastore, 1) := by decide +kernel
theorem dX7_write_94 : decode cX7_write 94 = .ok (.iload_n 3, 1) := by decide +kernel
theorem dX7_write_95 : decode cX7_write 95 = .ok (.ireturn, 1) := by decide +kernel
set_option maxRecDepth 20000 in
theorem ggX7_delete_X7_isKey : GoodIn wsX7_delete wsX7_isKey := goodIn_r _ [6, 7, 8, 9, 5, 10] (by first | rfl | decide +kernel) (by decide +kernel)
set_option maxRecDepth 20000 in
theorem gX7_delete_X7_isKey : GoodIn wsX7_delete (va_wsS RX7 81 yX7_isKey wsX7_isKey) := goodIn_app (goodIn_of _ (by decide +kernel)) ggX7_delete_X7_isKey
set_option maxRecDepth 20000 in
theorem ggX7_delete_X7_keeps : GoodIn wsX7_delete wsX7_keeps := goodIn_r _ [14, 15, 16, 1, 41, 42, 43, 44, 45] (by first | rfl | decide +kernel) (by decide +kernel)
set_option maxRecDepth 20000 in
theorem gX7_delete_X7_keeps : GoodIn wsX7_delete (wsV RX7 44 RX7 yX7_keeps wsX7_keeps) := goodIn_app (goodIn_of _ (by decide +kernel)) ggX7_delete_X7_keeps
set_option maxRecDepth 20000 in
theorem ggX7_delete_X7_ends : GoodIn wsX7_delete wsX7_ends := goodIn_r _ [20, 1, 21, 22, 23, 5, 24, 25, 26, 27, 28, 29, 30, 31, 32, 33, 34, 35, 36, 37, 38, 39, 40, 41, 42, 43, 44, 45] (by first | rfl | decide +kernel) (by decide +kernel)
set_option maxRecDepth 20000 in
theorem gX7_delete_X7_ends : GoodIn wsX7_delete (wsV RX7 91 RX7 yX7_ends wsX7_ends) := goodIn_app (goodIn_of _ (by decide +kernel)) ggX7_delete_X7_ends
theorem dX7_delete_0 : decode cX7_delete 0 = .ok (.aload_n 0, 1) := by decide +kernel
theorem dX7_delete_1 : decode cX7_delete 1 = .ok (.iload_n 1, 1) := by decide +kernel
theorem dX7_delete_2 : decode cX7_delete 2 = .ok (.invokestatic 81, 3) := by decide +kernel
theorem dX7_delete_5 : decode cX7_delete 5 = .ok (.ifCond .ne 7, 3) := by decide +kernel
theorem dX7_delete_8 : decode cX7_delete 8 = .ok (.iconst 1, 1) := by decide +kernel
theorem dX7_delete_9 : decode cX7_delete 9 = .ok (.goto 22, 3) := by decide +kernel
theorem dX7_delete_12 : decode cX7_delete 12 = .ok (.aload_n 0, 1) := by decide +kernel
theorem dX7_delete_13 : decode cX7_delete 13 = .ok (.getfield 7, 3) := by decide +kernel
theorem dX7_delete_16 : decode cX7_delete 16 = .ok (.sipush 840, 3) := by decide +kernel
theorem dX7_delete_19 : decode cX7_delete 19 = .ok (.iload_n 1, 1) := by decide +kernel
theorem dX7_delete_20 : decode cX7_delete 20 = .ok (.iadd, 1) := by decide +kernel
theorem dX7_delete_21 : decode cX7_delete 21 = .ok (.iaload, 1) := by decide +kernel
theorem dX7_delete_22 : decode cX7_delete 22 = .ok (.iconst (-1), 1) := by decide +kernel
theorem dX7_delete_23 : decode cX7_delete 23 = .ok (.if_icmp .ne 7, 3) := by decide +kernel
theorem dX7_delete_26 : decode cX7_delete 26 = .ok (.iconst 2, 1) := by decide +kernel
theorem dX7_delete_27 : decode cX7_delete 27 = .ok (.goto 4, 3) := by decide +kernel
theorem dX7_delete_30 : decode cX7_delete 30 = .ok (.iconst 0, 1) := by decide +kernel
theorem dX7_delete_31 : decode cX7_delete 31 = .ok (.putfield 23, 3) := by decide +kernel
theorem dX7_delete_34 : decode cX7_delete 34 = .ok (.aload_n 0, 1) := by decide +kernel
theorem dX7_delete_35 : decode cX7_delete 35 = .ok (.getfield 23, 3) := by decide +kernel
theorem dX7_delete_38 : decode cX7_delete 38 = .ok (.ifCond .le 5, 3) := by decide +kernel
theorem dX7_delete_41 : decode cX7_delete 41 = .ok (.iconst 0, 1) := by decide +kernel
theorem dX7_delete_42 : decode cX7_delete 42 = .ok (.ireturn, 1) := by decide +kernel
theorem dX7_delete_43 : decode cX7_delete 43 = .ok (.aload_n 0, 1) := by decide +kernel
theorem dX7_delete_44 : decode cX7_delete 44 = .ok (.invokevirtual 44, 3) := by decide +kernel
theorem dX7_delete_47 : decode cX7_delete 47 = .ok (.aload_n 0, 1) := by decide +kernel
theorem dX7_delete_48 : decode cX7_delete 48 = .ok (.getfield 7, 3) := by decide +kernel
theorem dX7_delete_51 : decode cX7_delete 51 = .ok (.sipush 840, 3) := by decide +kernel
theorem dX7_delete_54 : decode cX7_delete 54 = .ok (.iload_n 1, 1) := by decide +kernel
theorem dX7_delete_55 : decode cX7_delete 55 = .ok (.iadd, 1) := by decide +kernel
theorem dX7_delete_56 : decode cX7_delete 56 = .ok (.iaload, 1) := by decide +kernel
theorem dX7_delete_57 : decode cX7_delete 57 = .ok (.istore_n 2, 1) := by decide +kernel
theorem dX7_delete_58 : decode cX7_delete 58 = .ok (.aload_n 0, 1) := by decide +kernel
theorem dX7_delete_59 : decode cX7_delete 59 = .ok (.iload_n 1, 1) := by decide +kernel
theorem dX7_delete_60 : decode cX7_delete 60 = .ok (.invokevirtual 91, 3) := by decide +kernel
theorem dX7_delete_63 : decode cX7_delete 63 = .ok (.iload_n 2, 1) := by decide +kernel
theorem dX7_delete_64 : decode cX7_delete 64 = .ok (.ireturn, 1) := by decide +kernel
set_option maxRecDepth 20000 in
theorem ggX7_get_X7_isKey : GoodIn wsX7_get wsX7_isKey := goodIn_r _ [6, 7, 8, 9, 5, 10] (by first | rfl | decide +kernel) (by decide +kernel)
set_option maxRecDepth 20000 in
theorem gX7_get_X7_isKey : GoodIn wsX7_get (va_wsS RX7 81 yX7_isKey wsX7_isKey) := goodIn_app (goodIn_of _ (by decide +kernel)) ggX7_get_X7_isKey
set_option maxRecDepth 20000 in
theorem ggX7_get_X7_ofBlock : GoodIn wsX7_get wsX7_ofBlock := goodIn_r _ [14, 1, 15, 16, 17, 18, 19] (by first | rfl | decide +kernel) (by decide +kernel)
set_option maxRecDepth 20000 in
theorem gX7_get_X7_ofBlock : GoodIn wsX7_get (wsV RX7 67 RX7 yX7_ofBlock wsX7_ofBlock) := goodIn_app (goodIn_of _ (by decide +kernel)) ggX7_get_X7_ofBlock
theorem dX7_get_0 : decode cX7_get 0 = .ok (.aload_n 0, 1) := by decide +kernel
theorem dX7_get_1 : decode cX7_get 1 = .ok (.iload_n 1, 1) := by decide +kernel
theorem dX7_get_2 : decode cX7_get 2 = .ok (.invokestatic 81, 3) := by decide +kernel
theorem dX7_get_5 : decode cX7_get 5 = .ok (.ifCond .ne 7, 3) := by decide +kernel
theorem dX7_get_8 : decode cX7_get 8 = .ok (.iconst 1, 1) := by decide +kernel
theorem dX7_get_9 : decode cX7_get 9 = .ok (.goto 22, 3) := by decide +kernel
theorem dX7_get_12 : decode cX7_get 12 = .ok (.aload_n 0, 1) := by decide +kernel
theorem dX7_get_13 : decode cX7_get 13 = .ok (.getfield 7, 3) := by decide +kernel
theorem dX7_get_16 : decode cX7_get 16 = .ok (.sipush 840, 3) := by decide +kernel
theorem dX7_get_19 : decode cX7_get 19 = .ok (.iload_n 1, 1) := by decide +kernel
theorem dX7_get_20 : decode cX7_get 20 = .ok (.iadd, 1) := by decide +kernel
theorem dX7_get_21 : decode cX7_get 21 = .ok (.iaload, 1) := by decide +kernel
theorem dX7_get_22 : decode cX7_get 22 = .ok (.iconst (-1), 1) := by decide +kernel
theorem dX7_get_23 : decode cX7_get 23 = .ok (.if_icmp .ne 7, 3) := by decide +kernel
theorem dX7_get_26 : decode cX7_get 26 = .ok (.iconst 2, 1) := by decide +kernel
theorem dX7_get_27 : decode cX7_get 27 = .ok (.goto 4, 3) := by decide +kernel
theorem dX7_get_30 : decode cX7_get 30 = .ok (.iconst 0, 1) := by decide +kernel
theorem dX7_get_31 : decode cX7_get 31 = .ok (.putfield 23, 3) := by decide +kernel
theorem dX7_get_34 : decode cX7_get 34 = .ok (.aload_n 0, 1) := by decide +kernel
theorem dX7_get_35 : decode cX7_get 35 = .ok (.getfield 23, 3) := by decide +kernel
theorem dX7_get_38 : decode cX7_get 38 = .ok (.ifCond .le 7, 3) := by decide +kernel
theorem dX7_get_41 : decode cX7_get 41 = .ok (.iconst 0, 1) := by decide +kernel
theorem dX7_get_42 : decode cX7_get 42 = .ok (.goto 18, 3) := by decide +kernel
theorem dX7_get_45 : decode cX7_get 45 = .ok (.aload_n 0, 1) := by decide +kernel
theorem dX7_get_46 : decode cX7_get 46 = .ok (.aload_n 0, 1) := by decide +kernel
theorem dX7_get_47 : decode cX7_get 47 = .ok (.getfield 7, 3) := by decide +kernel
theorem dX7_get_50 : decode cX7_get 50 = .ok (.sipush 840, 3) := by decide +kernel
theorem dX7_get_53 : decode cX7_get 53 = .ok (.iload_n 1, 1) := by decide +kernel
theorem dX7_get_54 : decode cX7_get 54 = .ok (.iadd, 1) := by decide +kernel
theorem dX7_get_55 : decode cX7_get 55 = .ok (.iaload, 1) := by decide +kernel
theorem dX7_get_56 : decode cX7_get 56 = .ok (.iconst 2, 1) := by decide +kernel
theorem dX7_get_57 : decode cX7_get 57 = .ok (.invokevirtual 67, 3) := by decide +kernel
theorem dX7_get_60 : decode cX7_get 60 = .ok (.ireturn, 1) := by decide +kernel
set_option maxRecDepth 20000 in
theorem ggX7_addressOf_X7_isKey : GoodIn wsX7_addressOf wsX7_isKey := goodIn_r _ [6, 7, 8, 9, 5, 10] (by first | rfl | decide +kernel) (by decide +kernel)
set_option maxRecDepth 20000 in
theorem gX7_addressOf_X7_isKey : GoodIn wsX7_addressOf (va_wsS RX7 81 yX7_isKey wsX7_isKey) := goodIn_app (goodIn_of _ (by decide +kernel)) ggX7_addressOf_X7_isKey
theorem dX7_addressOf_0 : decode cX7_addressOf 0 = .ok (.aload_n 0, 1) := by decide +kernel
theorem dX7_addressOf_1 : decode cX7_addressOf 1 = .ok (.iload_n 1, 1) := by decide +kernel
theorem dX7_addressOf_2 : decode cX7_addressOf 2 = .ok (.invokestatic 81, 3) := by decide +kernel
theorem dX7_addressOf_5 : decode cX7_addressOf 5 = .ok (.ifCond .eq 7, 3) := by decide +kernel
theorem dX7_addressOf_8 : decode cX7_addressOf 8 = .ok (.iconst 0, 1) := by decide +kernel
theorem dX7_addressOf_9 : decode cX7_addressOf 9 = .ok (.goto 4, 3) := by decide +kernel
theorem dX7_addressOf_12 : decode cX7_addressOf 12 = .ok (.iconst 1, 1) := by decide +kernel
theorem dX7_addressOf_13 : decode cX7_addressOf 13 = .ok (.putfield 23, 3) := by decide +kernel
theorem dX7_addressOf_16 : decode cX7_addressOf 16 = .ok (.aload_n 0, 1) := by decide +kernel
theorem dX7_addressOf_17 : decode cX7_addressOf 17 = .ok (.getfield 23, 3) := by decide +kernel
theorem dX7_addressOf_20 : decode cX7_addressOf 20 = .ok (.ifCond .le 7, 3) := by decide +kernel
theorem dX7_addressOf_23 : decode cX7_addressOf 23 = .ok (.iconst 0, 1) := by decide +kernel
theorem dX7_addressOf_24 : decode cX7_addressOf 24 = .ok (.goto 13, 3) := by decide +kernel
theorem dX7_addressOf_27 : decode cX7_addressOf 27 = .ok (.aload_n 0, 1) := by decide +kernel
theorem dX7_addressOf_28 : decode cX7_addressOf 28 = .ok (.getfield 7, 3) := by decide +kernel
theorem dX7_addressOf_31 : decode cX7_addressOf 31 = .ok (.sipush 840, 3) := by decide +kernel
theorem dX7_addressOf_34 : decode cX7_addressOf 34 = .ok (.iload_n 1, 1) := by decide +kernel
theorem dX7_addressOf_35 : decode cX7_addressOf 35 = .ok (.iadd, 1) := by decide +kernel
theorem dX7_addressOf_36 : decode cX7_addressOf 36 = .ok (.iaload, 1) := by decide +kernel
theorem dX7_addressOf_37 : decode cX7_addressOf 37 = .ok (.ireturn, 1) := by decide +kernel
set_option maxRecDepth 20000 in
theorem ggX7_roomNow_X7_frees : GoodIn wsX7_roomNow wsX7_frees := goodIn_r _ [6, 1, 7, 8, 9, 5, 10, 15, 16, 17, 18, 19] (by first | rfl | decide +kernel) (by decide +kernel)
set_option maxRecDepth 20000 in
theorem gX7_roomNow_X7_frees : GoodIn wsX7_roomNow (wsV RX7 84 RX7 yX7_frees wsX7_frees) := goodIn_app (goodIn_of _ (by decide +kernel)) ggX7_roomNow_X7_frees
set_option maxRecDepth 20000 in
theorem ggX7_roomNow_X7_leftIn : GoodIn wsX7_roomNow wsX7_leftIn := goodIn_r _ [14, 1, 7, 8, 9, 5, 10, 15, 16, 17, 18, 19] (by first | rfl | decide +kernel) (by decide +kernel)
set_option maxRecDepth 20000 in
theorem gX7_roomNow_X7_leftIn : GoodIn wsX7_roomNow (wsV RX7 94 RX7 yX7_leftIn wsX7_leftIn) := goodIn_app (goodIn_of _ (by decide +kernel)) ggX7_roomNow_X7_leftIn
theorem dX7_roomNow_0 : decode cX7_roomNow 0 = .ok (.aload_n 0, 1) := by decide +kernel
theorem dX7_roomNow_1 : decode cX7_roomNow 1 = .ok (.invokevirtual 84, 3) := by decide +kernel
theorem dX7_roomNow_4 : decode cX7_roomNow 4 = .ok (.iconst 1, 1) := by decide +kernel
theorem dX7_roomNow_5 : decode cX7_roomNow 5 = .ok (.isub, 1) := by decide +kernel
theorem dX7_roomNow_6 : decode cX7_roomNow 6 = .ok (.istore_n 1, 1) := by decide +kernel
theorem dX7_roomNow_7 : decode cX7_roomNow 7 = .ok (.aload_n 0, 1) := by decide +kernel
theorem dX7_roomNow_8 : decode cX7_roomNow 8 = .ok (.iconst 0, 1) := by decide +kernel
theorem dX7_roomNow_9 : decode cX7_roomNow 9 = .ok (.invokevirtual 94, 3) := by decide +kernel
theorem dX7_roomNow_12 : decode cX7_roomNow 12 = .ok (.iload_n 1, 1) := by decide +kernel
theorem dX7_roomNow_13 : decode cX7_roomNow 13 = .ok (.ifCond .ge 7, 3) := by decide +kernel
theorem dX7_roomNow_16 : decode cX7_roomNow 16 = .ok (.iconst 0, 1) := by decide +kernel
theorem dX7_roomNow_17 : decode cX7_roomNow 17 = .ok (.goto 11, 3) := by decide +kernel
theorem dX7_roomNow_20 : decode cX7_roomNow 20 = .ok (.iload_n 1, 1) := by decide +kernel
theorem dX7_roomNow_21 : decode cX7_roomNow 21 = .ok (.aload_n 0, 1) := by decide +kernel
theorem dX7_roomNow_22 : decode cX7_roomNow 22 = .ok (.getfield 7, 3) := by decide +kernel
theorem dX7_roomNow_25 : decode cX7_roomNow 25 = .ok (.iconst 1, 1) := by decide +kernel
theorem dX7_roomNow_26 : decode cX7_roomNow 26 = .ok (.iaload, 1) := by decide +kernel
theorem dX7_roomNow_27 : decode cX7_roomNow 27 = .ok (.imul, 1) := by decide +kernel
theorem dX7_roomNow_28 : decode cX7_roomNow 28 = .ok (.iadd, 1) := by decide +kernel
theorem dX7_roomNow_29 : decode cX7_roomNow 29 = .ok (.ireturn, 1) := by decide +kernel
set_option maxRecDepth 20000 in
theorem ggX7_room_X7_roomNow : GoodIn wsX7_room wsX7_roomNow := goodIn_r _ [6, 7, 8, 9, 10, 5, 11, 12, 13, 14, 15, 16, 17, 18, 19, 20, 21, 22, 23, 24] (by first | rfl | decide +kernel) (by decide +kernel)
set_option maxRecDepth 20000 in
theorem gX7_room_X7_roomNow : GoodIn wsX7_room (wsV RX7 97 RX7 yX7_roomNow wsX7_roomNow) := goodIn_app (goodIn_of _ (by decide +kernel)) ggX7_room_X7_roomNow
theorem dX7_room_0 : decode cX7_room 0 = .ok (.aload_n 0, 1) := by decide +kernel
theorem dX7_room_1 : decode cX7_room 1 = .ok (.iconst 0, 1) := by decide +kernel
theorem dX7_room_2 : decode cX7_room 2 = .ok (.putfield 23, 3) := by decide +kernel
theorem dX7_room_5 : decode cX7_room 5 = .ok (.aload_n 0, 1) := by decide +kernel
theorem dX7_room_6 : decode cX7_room 6 = .ok (.invokevirtual 97, 3) := by decide +kernel
theorem dX7_room_9 : decode cX7_room 9 = .ok (.ireturn, 1) := by decide +kernel
set_option maxRecDepth 20000 in
theorem ggX7_isVersion_X7_isBlock : GoodIn wsX7_isVersion wsX7_isBlock := goodIn_r _ [6, 7, 8, 9, 10, 5, 11, 12, 13, 14, 19, 20, 21, 22, 23] (by first | rfl | decide +kernel) (by decide +kernel)
set_option maxRecDepth 20000 in
theorem gX7_isVersion_X7_isBlock : GoodIn wsX7_isVersion (wsV RX7 100 RX7 yX7_isBlock wsX7_isBlock) := goodIn_app (goodIn_of _ (by decide +kernel)) ggX7_isVersion_X7_isBlock
set_option maxRecDepth 20000 in
theorem ggX7_isVersion_X7_ofBlock : GoodIn wsX7_isVersion wsX7_ofBlock := goodIn_r _ [18, 7, 19, 20, 21, 22, 23] (by first | rfl | decide +kernel) (by decide +kernel)
set_option maxRecDepth 20000 in
theorem gX7_isVersion_X7_ofBlock : GoodIn wsX7_isVersion (wsV RX7 67 RX7 yX7_ofBlock wsX7_ofBlock) := goodIn_app (goodIn_of _ (by decide +kernel)) ggX7_isVersion_X7_ofBlock
set_option maxRecDepth 20000 in
theorem ggX7_isVersion_X7_isIn : GoodIn wsX7_isVersion wsX7_isIn := goodIn_r _ [14] (by first | rfl | decide +kernel) (by decide +kernel)
set_option maxRecDepth 20000 in
theorem gX7_isVersion_X7_isIn : GoodIn wsX7_isVersion (va_wsS RX7 34 yX7_isIn wsX7_isIn) := goodIn_app (goodIn_of _ (by decide +kernel)) ggX7_isVersion_X7_isIn
theorem dX7_isVersion_0 : decode cX7_isVersion 0 = .ok (.aload_n 0, 1) := by decide +kernel
theorem dX7_isVersion_1 : decode cX7_isVersion 1 = .ok (.iload_n 1, 1) := by decide +kernel
theorem dX7_isVersion_2 : decode cX7_isVersion 2 = .ok (.invokevirtual 100, 3) := by decide +kernel
theorem dX7_isVersion_5 : decode cX7_isVersion 5 = .ok (.ifCond .eq 34, 3) := by decide +kernel
theorem dX7_isVersion_8 : decode cX7_isVersion 8 = .ok (.aload_n 0, 1) := by decide +kernel
theorem dX7_isVersion_9 : decode cX7_isVersion 9 = .ok (.iload_n 1, 1) := by decide +kernel
theorem dX7_isVersion_10 : decode cX7_isVersion 10 = .ok (.iconst 0, 1) := by decide +kernel
theorem dX7_isVersion_11 : decode cX7_isVersion 11 = .ok (.invokevirtual 67, 3) := by decide +kernel
theorem dX7_isVersion_14 : decode cX7_isVersion 14 = .ok (.i2l, 1) := by decide +kernel
theorem dX7_isVersion_15 : decode cX7_isVersion 15 = .ok (.lconst 1, 1) := by decide +kernel
theorem dX7_isVersion_16 : decode cX7_isVersion 16 = .ok (.ldc2_w 30, 3) := by decide +kernel
theorem dX7_isVersion_19 : decode cX7_isVersion 19 = .ok (.invokestatic 34, 3) := by decide +kernel
theorem dX7_isVersion_22 : decode cX7_isVersion 22 = .ok (.ifCond .eq 17, 3) := by decide +kernel
theorem dX7_isVersion_25 : decode cX7_isVersion 25 = .ok (.aload_n 0, 1) := by decide +kernel
theorem dX7_isVersion_26 : decode cX7_isVersion 26 = .ok (.iload_n 1, 1) := by decide +kernel
theorem dX7_isVersion_27 : decode cX7_isVersion 27 = .ok (.iconst 1, 1) := by decide +kernel
theorem dX7_isVersion_28 : decode cX7_isVersion 28 = .ok (.invokevirtual 67, 3) := by decide +kernel
theorem dX7_isVersion_31 : decode cX7_isVersion 31 = .ok (.iload_n 2, 1) := by decide +kernel
theorem dX7_isVersion_32 : decode cX7_isVersion 32 = .ok (.if_icmp .ne 7, 3) := by decide +kernel
theorem dX7_isVersion_35 : decode cX7_isVersion 35 = .ok (.iconst 1, 1) := by decide +kernel
theorem dX7_isVersion_36 : decode cX7_isVersion 36 = .ok (.goto 4, 3) := by decide +kernel
theorem dX7_isVersion_39 : decode cX7_isVersion 39 = .ok (.iconst 0, 1) := by decide +kernel
theorem dX7_isVersion_40 : decode cX7_isVersion 40 = .ok (.ireturn, 1) := by decide +kernel
set_option maxRecDepth 20000 in
theorem ggX7_versionsOf_X7_isVersion : GoodIn wsX7_versionsOf wsX7_isVersion := goodIn_r _ [6, 7, 8, 9, 10, 5, 11, 1, 12, 13, 14, 15, 16, 17, 18, 19, 20, 21, 22, 23, 24, 25, 26, 27] (by first | rfl | decide +kernel) (by decide +kernel)
set_option maxRecDepth 20000 in
theorem gX7_versionsOf_X7_isVersion : GoodIn wsX7_versionsOf (wsV RX7 103 RX7 yX7_isVersion wsX7_isVersion) := goodIn_app (goodIn_of _ (by decide +kernel)) ggX7_versionsOf_X7_isVersion
theorem dX7_versionsOf_0 : decode cX7_versionsOf 0 = .ok (.iconst 0, 1) := by decide +kernel
theorem dX7_versionsOf_1 : decode cX7_versionsOf 1 = .ok (.istore_n 2, 1) := by decide +kernel
theorem dX7_versionsOf_2 : decode cX7_versionsOf 2 = .ok (.iconst 0, 1) := by decide +kernel
theorem dX7_versionsOf_3 : decode cX7_versionsOf 3 = .ok (.istore_n 3, 1) := by decide +kernel
theorem dX7_versionsOf_4 : decode cX7_versionsOf 4 = .ok (.iload_n 3, 1) := by decide +kernel
theorem dX7_versionsOf_5 : decode cX7_versionsOf 5 = .ok (.bipush 16, 2) := by decide +kernel
theorem dX7_versionsOf_7 : decode cX7_versionsOf 7 = .ok (.aload_n 0, 1) := by decide +kernel
theorem dX7_versionsOf_8 : decode cX7_versionsOf 8 = .ok (.getfield 7, 3) := by decide +kernel
theorem dX7_versionsOf_11 : decode cX7_versionsOf 11 = .ok (.iconst 0, 1) := by decide +kernel
theorem dX7_versionsOf_12 : decode cX7_versionsOf 12 = .ok (.iaload, 1) := by decide +kernel
theorem dX7_versionsOf_13 : decode cX7_versionsOf 13 = .ok (.imul, 1) := by decide +kernel
theorem dX7_versionsOf_14 : decode cX7_versionsOf 14 = .ok (.if_icmp .ge 26, 3) := by decide +kernel
theorem dX7_versionsOf_17 : decode cX7_versionsOf 17 = .ok (.iload_n 2, 1) := by decide +kernel
theorem dX7_versionsOf_18 : decode cX7_versionsOf 18 = .ok (.aload_n 0, 1) := by decide +kernel
theorem dX7_versionsOf_19 : decode cX7_versionsOf 19 = .ok (.iload_n 3, 1) := by decide +kernel
theorem dX7_versionsOf_20 : decode cX7_versionsOf 20 = .ok (.iload_n 1, 1) := by decide +kernel
theorem dX7_versionsOf_21 : decode cX7_versionsOf 21 = .ok (.invokevirtual 103, 3) := by decide +kernel
theorem dX7_versionsOf_24 : decode cX7_versionsOf 24 = .ok (.ifCond .eq 7, 3) := by decide +kernel
theorem dX7_versionsOf_27 : decode cX7_versionsOf 27 = .ok (.iconst 1, 1) := by decide +kernel
theorem dX7_versionsOf_28 : decode cX7_versionsOf 28 = .ok (.goto 4, 3) := by decide +kernel
theorem dX7_versionsOf_31 : decode cX7_versionsOf 31 = .ok (.iconst 0, 1) := by decide +kernel
theorem dX7_versionsOf_32 : decode cX7_versionsOf 32 = .ok (.iadd, 1) := by decide +kernel
theorem dX7_versionsOf_33 : decode cX7_versionsOf 33 = .ok (.istore_n 2, 1) := by decide +kernel
theorem dX7_versionsOf_34 : decode cX7_versionsOf 34 = .ok (.iinc 3 1, 3) := by decide +kernel
theorem dX7_versionsOf_37 : decode cX7_versionsOf 37 = .ok (.goto (-33), 3) := by decide +kernel
theorem dX7_versionsOf_40 : decode cX7_versionsOf 40 = .ok (.iload_n 2, 1) := by decide +kernel
theorem dX7_versionsOf_41 : decode cX7_versionsOf 41 = .ok (.ireturn, 1) := by decide +kernel
set_option maxRecDepth 20000 in
theorem ggX7_versions_X7_isKey : GoodIn wsX7_versions wsX7_isKey := goodIn_r _ [5, 6, 7, 8, 4, 9] (by first | rfl | decide +kernel) (by decide +kernel)
set_option maxRecDepth 20000 in
theorem gX7_versions_X7_isKey : GoodIn wsX7_versions (va_wsS RX7 81 yX7_isKey wsX7_isKey) := goodIn_app (goodIn_of _ (by decide +kernel)) ggX7_versions_X7_isKey
set_option maxRecDepth 20000 in
theorem ggX7_versions_X7_versionsOf : GoodIn wsX7_versions wsX7_versionsOf := goodIn_r _ [13, 14, 15, 16, 17, 4, 18, 19, 20, 21, 22, 23, 24, 25, 26, 27, 7, 8, 9, 28, 29, 30, 31, 32, 33, 34, 35, 36] (by first | rfl | decide +kernel) (by decide +kernel)
set_option maxRecDepth 20000 in
theorem gX7_versions_X7_versionsOf : GoodIn wsX7_versions (wsV RX7 107 RX7 yX7_versionsOf wsX7_versionsOf) := goodIn_app (goodIn_of _ (by decide +kernel)) ggX7_versions_X7_versionsOf
theorem dX7_versions_0 : decode cX7_versions 0 = .ok (.aload_n 0, 1) := by decide +kernel
theorem dX7_versions_1 : decode cX7_versions 1 = .ok (.iload_n 1, 1) := by decide +kernel
theorem dX7_versions_2 : decode cX7_versions 2 = .ok (.invokestatic 81, 3) := by decide +kernel
theorem dX7_versions_5 : decode cX7_versions 5 = .ok (.ifCond .eq 7, 3) := by decide +kernel
theorem dX7_versions_8 : decode cX7_versions 8 = .ok (.iconst 0, 1) := by decide +kernel
theorem dX7_versions_9 : decode cX7_versions 9 = .ok (.goto 4, 3) := by decide +kernel
theorem dX7_versions_12 : decode cX7_versions 12 = .ok (.iconst 1, 1) := by decide +kernel
theorem dX7_versions_13 : decode cX7_versions 13 = .ok (.putfield 23, 3) := by decide +kernel
theorem dX7_versions_16 : decode cX7_versions 16 = .ok (.aload_n 0, 1) := by decide +kernel
theorem dX7_versions_17 : decode cX7_versions 17 = .ok (.getfield 23, 3) := by decide +kernel
theorem dX7_versions_20 : decode cX7_versions 20 = .ok (.ifCond .le 7, 3) := by decide +kernel
theorem dX7_versions_23 : decode cX7_versions 23 = .ok (.iconst 0, 1) := by decide +kernel
theorem dX7_versions_24 : decode cX7_versions 24 = .ok (.goto 8, 3) := by decide +kernel
theorem dX7_versions_27 : decode cX7_versions 27 = .ok (.aload_n 0, 1) := by decide +kernel
theorem dX7_versions_28 : decode cX7_versions 28 = .ok (.iload_n 1, 1) := by decide +kernel
theorem dX7_versions_29 : decode cX7_versions 29 = .ok (.invokevirtual 107, 3) := by decide +kernel
theorem dX7_versions_32 : decode cX7_versions 32 = .ok (.ireturn, 1) := by decide +kernel
set_option maxRecDepth 20000 in
theorem ggX7_version_X7_isKey : GoodIn wsX7_version wsX7_isKey := goodIn_r _ [5, 6, 7, 8, 4, 9] (by first | rfl | decide +kernel) (by decide +kernel)
set_option maxRecDepth 20000 in
theorem gX7_version_X7_isKey : GoodIn wsX7_version (va_wsS RX7 81 yX7_isKey wsX7_isKey) := goodIn_app (goodIn_of _ (by decide +kernel)) ggX7_version_X7_isKey
set_option maxRecDepth 20000 in
theorem ggX7_version_X7_versionsOf : GoodIn wsX7_version wsX7_versionsOf := goodIn_r _ [13, 14, 15, 16, 17, 4, 18, 19, 20, 21, 22, 23, 24, 25, 26, 27, 7, 8, 9, 28, 29, 30, 31, 32, 33, 34, 35, 36] (by first | rfl | decide +kernel) (by decide +kernel)
set_option maxRecDepth 20000 in
theorem gX7_version_X7_versionsOf : GoodIn wsX7_version (wsV RX7 107 RX7 yX7_versionsOf wsX7_versionsOf) := goodIn_app (goodIn_of _ (by decide +kernel)) ggX7_version_X7_versionsOf
set_option maxRecDepth 20000 in
theorem ggX7_version_X7_isIn : GoodIn wsX7_version wsX7_isIn := goodIn_r _ [9] (by first | rfl | decide +kernel) (by decide +kernel)
set_option maxRecDepth 20000 in
theorem gX7_version_X7_isIn : GoodIn wsX7_version (va_wsS RX7 34 yX7_isIn wsX7_isIn) := goodIn_app (goodIn_of _ (by decide +kernel)) ggX7_version_X7_isIn
set_option maxRecDepth 20000 in
theorem ggX7_version_X7_isVersion : GoodIn wsX7_version wsX7_isVersion := goodIn_r _ [18, 19, 20, 21, 22, 4, 23, 14, 24, 25, 26, 27, 7, 8, 9, 28, 29, 30, 31, 32, 33, 34, 35, 36] (by first | rfl | decide +kernel) (by decide +kernel)
set_option maxRecDepth 20000 in
theorem gX7_version_X7_isVersion : GoodIn wsX7_version (wsV RX7 103 RX7 yX7_isVersion wsX7_isVersion) := goodIn_app (goodIn_of _ (by decide +kernel)) ggX7_version_X7_isVersion
theorem dX7_version_0 : decode cX7_version 0 = .ok (.aload_n 0, 1) := by decide +kernel
theorem dX7_version_1 : decode cX7_version 1 = .ok (.iload_n 1, 1) := by decide +kernel
theorem dX7_version_2 : decode cX7_version 2 = .ok (.invokestatic 81, 3) := by decide +kernel
theorem dX7_version_5 : decode cX7_version 5 = .ok (.ifCond .eq 24, 3) := by decide +kernel
theorem dX7_version_8 : decode cX7_version 8 = .ok (.iload_n 2, 1) := by decide +kernel
theorem dX7_version_9 : decode cX7_version 9 = .ok (.i2l, 1) := by decide +kernel
theorem dX7_version_10 : decode cX7_version 10 = .ok (.lconst 0, 1) := by decide +kernel
theorem dX7_version_11 : decode cX7_version 11 = .ok (.aload_n 0, 1) := by decide +kernel
theorem dX7_version_12 : decode cX7_version 12 = .ok (.iload_n 1, 1) := by decide +kernel
theorem dX7_version_13 : decode cX7_version 13 = .ok (.invokevirtual 107, 3) := by decide +kernel
theorem dX7_version_16 : decode cX7_version 16 = .ok (.iconst 1, 1) := by decide +kernel
theorem dX7_version_17 : decode cX7_version 17 = .ok (.isub, 1) := by decide +kernel
theorem dX7_version_18 : decode cX7_version 18 = .ok (.i2l, 1) := by decide +kernel
theorem dX7_version_19 : decode cX7_version 19 = .ok (.invokestatic 34, 3) := by decide +kernel
theorem dX7_version_22 : decode cX7_version 22 = .ok (.ifCond .eq 7, 3) := by decide +kernel
theorem dX7_version_25 : decode cX7_version 25 = .ok (.iconst 0, 1) := by decide +kernel
theorem dX7_version_26 : decode cX7_version 26 = .ok (.goto 4, 3) := by decide +kernel
theorem dX7_version_29 : decode cX7_version 29 = .ok (.iconst 1, 1) := by decide +kernel
theorem dX7_version_30 : decode cX7_version 30 = .ok (.putfield 23, 3) := by decide +kernel
theorem dX7_version_33 : decode cX7_version 33 = .ok (.aload_n 0, 1) := by decide +kernel
theorem dX7_version_34 : decode cX7_version 34 = .ok (.getfield 23, 3) := by decide +kernel
theorem dX7_version_37 : decode cX7_version 37 = .ok (.ifCond .le 5, 3) := by decide +kernel
theorem dX7_version_40 : decode cX7_version 40 = .ok (.iconst 0, 1) := by decide +kernel
theorem dX7_version_41 : decode cX7_version 41 = .ok (.ireturn, 1) := by decide +kernel
theorem dX7_version_42 : decode cX7_version 42 = .ok (.iconst 0, 1) := by decide +kernel
theorem dX7_version_43 : decode cX7_version 43 = .ok (.istore_n 3, 1) := by decide +kernel
theorem dX7_version_44 : decode cX7_version 44 = .ok (.iload_n 2, 1) := by decide +kernel
theorem dX7_version_45 : decode cX7_version 45 = .ok (.istore 4, 2) := by decide +kernel
theorem dX7_version_47 : decode cX7_version 47 = .ok (.iload 4, 2) := by decide +kernel
theorem dX7_version_49 : decode cX7_version 49 = .ok (.ifCond .gt 12, 3) := by decide +kernel
theorem dX7_version_52 : decode cX7_version 52 = .ok (.aload_n 0, 1) := by decide +kernel
theorem dX7_version_53 : decode cX7_version 53 = .ok (.iload_n 3, 1) := by decide +kernel
theorem dX7_version_54 : decode cX7_version 54 = .ok (.iload_n 1, 1) := by decide +kernel
theorem dX7_version_55 : decode cX7_version 55 = .ok (.invokevirtual 103, 3) := by decide +kernel
theorem dX7_version_58 : decode cX7_version 58 = .ok (.ifCond .ne 28, 3) := by decide +kernel
theorem dX7_version_61 : decode cX7_version 61 = .ok (.iload 4, 2) := by decide +kernel
theorem dX7_version_63 : decode cX7_version 63 = .ok (.aload_n 0, 1) := by decide +kernel
theorem dX7_version_64 : decode cX7_version 64 = .ok (.iload_n 3, 1) := by decide +kernel
theorem dX7_version_65 : decode cX7_version 65 = .ok (.iload_n 1, 1) := by decide +kernel
theorem dX7_version_66 : decode cX7_version 66 = .ok (.invokevirtual 103, 3) := by decide +kernel
theorem dX7_version_69 : decode cX7_version 69 = .ok (.ifCond .eq 7, 3) := by decide +kernel
theorem dX7_version_72 : decode cX7_version 72 = .ok (.iconst 1, 1) := by decide +kernel
theorem dX7_version_73 : decode cX7_version 73 = .ok (.goto 4, 3) := by decide +kernel
theorem dX7_version_76 : decode cX7_version 76 = .ok (.iconst 0, 1) := by decide +kernel
theorem dX7_version_77 : decode cX7_version 77 = .ok (.isub, 1) := by decide +kernel
theorem dX7_version_78 : decode cX7_version 78 = .ok (.istore 4, 2) := by decide +kernel
theorem dX7_version_80 : decode cX7_version 80 = .ok (.iinc 3 1, 3) := by decide +kernel
theorem dX7_version_83 : decode cX7_version 83 = .ok (.goto (-36), 3) := by decide +kernel
theorem dX7_version_86 : decode cX7_version 86 = .ok (.iload_n 3, 1) := by decide +kernel
theorem dX7_version_87 : decode cX7_version 87 = .ok (.ireturn, 1) := by decide +kernel
set_option maxRecDepth 20000 in
theorem ggX7_isSnapshot_X7_isIn : GoodIn wsX7_isSnapshot wsX7_isIn := goodIn_r _ [5] (by first | rfl | decide +kernel) (by decide +kernel)
set_option maxRecDepth 20000 in
theorem gX7_isSnapshot_X7_isIn : GoodIn wsX7_isSnapshot (va_wsS RX7 34 yX7_isIn wsX7_isIn) := goodIn_app (goodIn_of _ (by decide +kernel)) ggX7_isSnapshot_X7_isIn
theorem dX7_isSnapshot_0 : decode cX7_isSnapshot 0 = .ok (.iload_n 0, 1) := by decide +kernel
theorem dX7_isSnapshot_1 : decode cX7_isSnapshot 1 = .ok (.i2l, 1) := by decide +kernel
theorem dX7_isSnapshot_2 : decode cX7_isSnapshot 2 = .ok (.lconst 0, 1) := by decide +kernel
theorem dX7_isSnapshot_3 : decode cX7_isSnapshot 3 = .ok (.ldc2_w 30, 3) := by decide +kernel
theorem dX7_isSnapshot_6 : decode cX7_isSnapshot 6 = .ok (.invokestatic 34, 3) := by decide +kernel
theorem dX7_isSnapshot_9 : decode cX7_isSnapshot 9 = .ok (.ireturn, 1) := by decide +kernel
set_option maxRecDepth 20000 in
theorem ggX7_takeSnapshot_X7_isSnapshot : GoodIn wsX7_takeSnapshot wsX7_isSnapshot := goodIn_r _ [6, 7, 8, 9, 5, 10] (by first | rfl | decide +kernel) (by decide +kernel)
set_option maxRecDepth 20000 in
theorem gX7_takeSnapshot_X7_isSnapshot : GoodIn wsX7_takeSnapshot (va_wsS RX7 110 yX7_isSnapshot wsX7_isSnapshot) := goodIn_app (goodIn_of _ (by decide +kernel)) ggX7_takeSnapshot_X7_isSnapshot
set_option maxRecDepth 20000 in
theorem ggX7_takeSnapshot_X7_keeps : GoodIn wsX7_takeSnapshot wsX7_keeps := goodIn_r _ [14, 15, 16, 1, 17, 18, 19, 20, 21] (by first | rfl | decide +kernel) (by decide +kernel)
set_option maxRecDepth 20000 in
theorem gX7_takeSnapshot_X7_keeps : GoodIn wsX7_takeSnapshot (wsV RX7 44 RX7 yX7_keeps wsX7_keeps) := goodIn_app (goodIn_of _ (by decide +kernel)) ggX7_takeSnapshot_X7_keeps
theorem dX7_takeSnapshot_0 : decode cX7_takeSnapshot 0 = .ok (.aload_n 0, 1) := by decide +kernel
theorem dX7_takeSnapshot_1 : decode cX7_takeSnapshot 1 = .ok (.iload_n 1, 1) := by decide +kernel
theorem dX7_takeSnapshot_2 : decode cX7_takeSnapshot 2 = .ok (.invokestatic 110, 3) := by decide +kernel
theorem dX7_takeSnapshot_5 : decode cX7_takeSnapshot 5 = .ok (.ifCond .ne 7, 3) := by decide +kernel
theorem dX7_takeSnapshot_8 : decode cX7_takeSnapshot 8 = .ok (.iconst 1, 1) := by decide +kernel
theorem dX7_takeSnapshot_9 : decode cX7_takeSnapshot 9 = .ok (.goto 22, 3) := by decide +kernel
theorem dX7_takeSnapshot_12 : decode cX7_takeSnapshot 12 = .ok (.aload_n 0, 1) := by decide +kernel
theorem dX7_takeSnapshot_13 : decode cX7_takeSnapshot 13 = .ok (.getfield 7, 3) := by decide +kernel
theorem dX7_takeSnapshot_16 : decode cX7_takeSnapshot 16 = .ok (.sipush 864, 3) := by decide +kernel
theorem dX7_takeSnapshot_19 : decode cX7_takeSnapshot 19 = .ok (.iload_n 1, 1) := by decide +kernel
theorem dX7_takeSnapshot_20 : decode cX7_takeSnapshot 20 = .ok (.iadd, 1) := by decide +kernel
theorem dX7_takeSnapshot_21 : decode cX7_takeSnapshot 21 = .ok (.iaload, 1) := by decide +kernel
theorem dX7_takeSnapshot_22 : decode cX7_takeSnapshot 22 = .ok (.iconst 1, 1) := by decide +kernel
theorem dX7_takeSnapshot_23 : decode cX7_takeSnapshot 23 = .ok (.if_icmp .ne 7, 3) := by decide +kernel
theorem dX7_takeSnapshot_26 : decode cX7_takeSnapshot 26 = .ok (.iconst 2, 1) := by decide +kernel
theorem dX7_takeSnapshot_27 : decode cX7_takeSnapshot 27 = .ok (.goto 4, 3) := by decide +kernel
theorem dX7_takeSnapshot_30 : decode cX7_takeSnapshot 30 = .ok (.iconst 0, 1) := by decide +kernel
theorem dX7_takeSnapshot_31 : decode cX7_takeSnapshot 31 = .ok (.putfield 23, 3) := by decide +kernel
theorem dX7_takeSnapshot_34 : decode cX7_takeSnapshot 34 = .ok (.aload_n 0, 1) := by decide +kernel
theorem dX7_takeSnapshot_35 : decode cX7_takeSnapshot 35 = .ok (.getfield 23, 3) := by decide +kernel
theorem dX7_takeSnapshot_38 : decode cX7_takeSnapshot 38 = .ok (.ifCond .le 5, 3) := by decide +kernel
theorem dX7_takeSnapshot_41 : decode cX7_takeSnapshot 41 = .ok (.iconst 0, 1) := by decide +kernel
theorem dX7_takeSnapshot_42 : decode cX7_takeSnapshot 42 = .ok (.ireturn, 1) := by decide +kernel
theorem dX7_takeSnapshot_43 : decode cX7_takeSnapshot 43 = .ok (.aload_n 0, 1) := by decide +kernel
theorem dX7_takeSnapshot_44 : decode cX7_takeSnapshot 44 = .ok (.invokevirtual 44, 3) := by decide +kernel
theorem dX7_takeSnapshot_47 : decode cX7_takeSnapshot 47 = .ok (.aload_n 0, 1) := by decide +kernel
theorem dX7_takeSnapshot_48 : decode cX7_takeSnapshot 48 = .ok (.getfield 7, 3) := by decide +kernel
theorem dX7_takeSnapshot_51 : decode cX7_takeSnapshot 51 = .ok (.sipush 864, 3) := by decide +kernel
theorem dX7_takeSnapshot_54 : decode cX7_takeSnapshot 54 = .ok (.iload_n 1, 1) := by decide +kernel
theorem dX7_takeSnapshot_55 : decode cX7_takeSnapshot 55 = .ok (.iadd, 1) := by decide +kernel
theorem dX7_takeSnapshot_56 : decode cX7_takeSnapshot 56 = .ok (.iconst 1, 1) := by decide +kernel
theorem dX7_takeSnapshot_57 : decode cX7_takeSnapshot 57 = .ok (.iastore, 1) := by decide +kernel
theorem dX7_takeSnapshot_58 : decode cX7_takeSnapshot 58 = .ok (.iconst 0, 1) := by decide +kernel
theorem dX7_takeSnapshot_59 : decode cX7_takeSnapshot 59 = .ok (.istore_n 2, 1) := by decide +kernel
theorem dX7_takeSnapshot_60 : decode cX7_takeSnapshot 60 = .ok (.iconst 0, 1) := by decide +kernel
theorem dX7_takeSnapshot_61 : decode cX7_takeSnapshot 61 = .ok (.istore_n 3, 1) := by decide +kernel
theorem dX7_takeSnapshot_62 : decode cX7_takeSnapshot 62 = .ok (.iload_n 3, 1) := by decide +kernel
theorem dX7_takeSnapshot_63 : decode cX7_takeSnapshot 63 = .ok (.bipush 24, 2) := by decide +kernel
theorem dX7_takeSnapshot_65 : decode cX7_takeSnapshot 65 = .ok (.if_icmp .ge 56, 3) := by decide +kernel
theorem dX7_takeSnapshot_68 : decode cX7_takeSnapshot 68 = .ok (.aload_n 0, 1) := by decide +kernel
theorem dX7_takeSnapshot_69 : decode cX7_takeSnapshot 69 = .ok (.getfield 7, 3) := by decide +kernel
theorem dX7_takeSnapshot_72 : decode cX7_takeSnapshot 72 = .ok (.sipush 868, 3) := by decide +kernel
theorem dX7_takeSnapshot_75 : decode cX7_takeSnapshot 75 = .ok (.bipush 24, 2) := by decide +kernel
theorem dX7_takeSnapshot_77 : decode cX7_takeSnapshot 77 = .ok (.iload_n 1, 1) := by decide +kernel
theorem dX7_takeSnapshot_78 : decode cX7_takeSnapshot 78 = .ok (.imul, 1) := by decide +kernel
theorem dX7_takeSnapshot_79 : decode cX7_takeSnapshot 79 = .ok (.iadd, 1) := by decide +kernel
theorem dX7_takeSnapshot_80 : decode cX7_takeSnapshot 80 = .ok (.iload_n 3, 1) := by decide +kernel
theorem dX7_takeSnapshot_81 : decode cX7_takeSnapshot 81 = .ok (.iadd, 1) := by decide +kernel
theorem dX7_takeSnapshot_82 : decode cX7_takeSnapshot 82 = .ok (.aload_n 0, 1) := by decide +kernel
theorem dX7_takeSnapshot_83 : decode cX7_takeSnapshot 83 = .ok (.getfield 7, 3) := by decide +kernel
theorem dX7_takeSnapshot_86 : decode cX7_takeSnapshot 86 = .ok (.sipush 840, 3) := by decide +kernel
theorem dX7_takeSnapshot_89 : decode cX7_takeSnapshot 89 = .ok (.iload_n 3, 1) := by decide +kernel
theorem dX7_takeSnapshot_90 : decode cX7_takeSnapshot 90 = .ok (.iadd, 1) := by decide +kernel
theorem dX7_takeSnapshot_91 : decode cX7_takeSnapshot 91 = .ok (.iaload, 1) := by decide +kernel
theorem dX7_takeSnapshot_92 : decode cX7_takeSnapshot 92 = .ok (.iastore, 1) := by decide +kernel
theorem dX7_takeSnapshot_93 : decode cX7_takeSnapshot 93 = .ok (.iload_n 2, 1) := by decide +kernel
theorem dX7_takeSnapshot_94 : decode cX7_takeSnapshot 94 = .ok (.aload_n 0, 1) := by decide +kernel
theorem dX7_takeSnapshot_95 : decode cX7_takeSnapshot 95 = .ok (.getfield 7, 3) := by decide +kernel
theorem dX7_takeSnapshot_98 : decode cX7_takeSnapshot 98 = .ok (.sipush 840, 3) := by decide +kernel
theorem dX7_takeSnapshot_101 : decode cX7_takeSnapshot 101 = .ok (.iload_n 3, 1) := by decide +kernel
theorem dX7_takeSnapshot_102 : decode cX7_takeSnapshot 102 = .ok (.iadd, 1) := by decide +kernel
theorem dX7_takeSnapshot_103 : decode cX7_takeSnapshot 103 = .ok (.iaload, 1) := by decide +kernel
theorem dX7_takeSnapshot_104 : decode cX7_takeSnapshot 104 = .ok (.iconst (-1), 1) := by decide +kernel
theorem dX7_takeSnapshot_105 : decode cX7_takeSnapshot 105 = .ok (.if_icmp .ne 7, 3) := by decide +kernel
theorem dX7_takeSnapshot_108 : decode cX7_takeSnapshot 108 = .ok (.iconst 0, 1) := by decide +kernel
theorem dX7_takeSnapshot_109 : decode cX7_takeSnapshot 109 = .ok (.goto 4, 3) := by decide +kernel
theorem dX7_takeSnapshot_112 : decode cX7_takeSnapshot 112 = .ok (.iconst 1, 1) := by decide +kernel
theorem dX7_takeSnapshot_113 : decode cX7_takeSnapshot 113 = .ok (.iadd, 1) := by decide +kernel
theorem dX7_takeSnapshot_114 : decode cX7_takeSnapshot 114 = .ok (.istore_n 2, 1) := by decide +kernel
theorem dX7_takeSnapshot_115 : decode cX7_takeSnapshot 115 = .ok (.iinc 3 1, 3) := by decide +kernel
theorem dX7_takeSnapshot_118 : decode cX7_takeSnapshot 118 = .ok (.goto (-56), 3) := by decide +kernel
theorem dX7_takeSnapshot_121 : decode cX7_takeSnapshot 121 = .ok (.iload_n 2, 1) := by decide +kernel
theorem dX7_takeSnapshot_122 : decode cX7_takeSnapshot 122 = .ok (.ireturn, 1) := by decide +kernel
set_option maxRecDepth 20000 in
theorem ggX7_lacks_X7_isSnapshot : GoodIn wsX7_lacks wsX7_isSnapshot := goodIn_r _ [6, 7, 8, 9, 5, 10] (by first | rfl | decide +kernel) (by decide +kernel)
set_option maxRecDepth 20000 in
theorem gX7_lacks_X7_isSnapshot : GoodIn wsX7_lacks (va_wsS RX7 110 yX7_isSnapshot wsX7_isSnapshot) := goodIn_app (goodIn_of _ (by decide +kernel)) ggX7_lacks_X7_isSnapshot
theorem dX7_lacks_0 : decode cX7_lacks 0 = .ok (.aload_n 0, 1) := by decide +kernel
theorem dX7_lacks_1 : decode cX7_lacks 1 = .ok (.iload_n 1, 1) := by decide +kernel
theorem dX7_lacks_2 : decode cX7_lacks 2 = .ok (.invokestatic 110, 3) := by decide +kernel
theorem dX7_lacks_5 : decode cX7_lacks 5 = .ok (.ifCond .ne 7, 3) := by decide +kernel
theorem dX7_lacks_8 : decode cX7_lacks 8 = .ok (.iconst 1, 1) := by decide +kernel
theorem dX7_lacks_9 : decode cX7_lacks 9 = .ok (.goto 21, 3) := by decide +kernel
theorem dX7_lacks_12 : decode cX7_lacks 12 = .ok (.aload_n 0, 1) := by decide +kernel
theorem dX7_lacks_13 : decode cX7_lacks 13 = .ok (.getfield 7, 3) := by decide +kernel
theorem dX7_lacks_16 : decode cX7_lacks 16 = .ok (.sipush 864, 3) := by decide +kernel
theorem dX7_lacks_19 : decode cX7_lacks 19 = .ok (.iload_n 1, 1) := by decide +kernel
theorem dX7_lacks_20 : decode cX7_lacks 20 = .ok (.iadd, 1) := by decide +kernel
theorem dX7_lacks_21 : decode cX7_lacks 21 = .ok (.iaload, 1) := by decide +kernel
theorem dX7_lacks_22 : decode cX7_lacks 22 = .ok (.ifCond .ne 7, 3) := by decide +kernel
theorem dX7_lacks_25 : decode cX7_lacks 25 = .ok (.iconst 2, 1) := by decide +kernel
theorem dX7_lacks_26 : decode cX7_lacks 26 = .ok (.goto 4, 3) := by decide +kernel
theorem dX7_lacks_29 : decode cX7_lacks 29 = .ok (.iconst 0, 1) := by decide +kernel
theorem dX7_lacks_30 : decode cX7_lacks 30 = .ok (.putfield 23, 3) := by decide +kernel
theorem dX7_lacks_33 : decode cX7_lacks 33 = .ok (.aload_n 0, 1) := by decide +kernel
theorem dX7_lacks_34 : decode cX7_lacks 34 = .ok (.getfield 23, 3) := by decide +kernel
theorem dX7_lacks_37 : decode cX7_lacks 37 = .ok (.ifCond .le 7, 3) := by decide +kernel
theorem dX7_lacks_40 : decode cX7_lacks 40 = .ok (.iconst 1, 1) := by decide +kernel
theorem dX7_lacks_41 : decode cX7_lacks 41 = .ok (.goto 4, 3) := by decide +kernel
theorem dX7_lacks_44 : decode cX7_lacks 44 = .ok (.iconst 0, 1) := by decide +kernel
theorem dX7_lacks_45 : decode cX7_lacks 45 = .ok (.ireturn, 1) := by decide +kernel
set_option maxRecDepth 20000 in
theorem ggX7_owned_X7_inSnapshot : GoodIn wsX7_owned wsX7_inSnapshot := goodIn_r _ [5, 6, 15, 16, 17, 18, 19] (by first | rfl | decide +kernel) (by decide +kernel)
set_option maxRecDepth 20000 in
theorem gX7_owned_X7_inSnapshot : GoodIn wsX7_owned (wsV RX7 70 RX7 yX7_inSnapshot wsX7_inSnapshot) := goodIn_app (goodIn_of _ (by decide +kernel)) ggX7_owned_X7_inSnapshot
set_option maxRecDepth 20000 in
theorem ggX7_owned_X7_ofBlock : GoodIn wsX7_owned wsX7_ofBlock := goodIn_r _ [10, 6, 15, 16, 17, 18, 19] (by first | rfl | decide +kernel) (by decide +kernel)
set_option maxRecDepth 20000 in
theorem gX7_owned_X7_ofBlock : GoodIn wsX7_owned (wsV RX7 67 RX7 yX7_ofBlock wsX7_ofBlock) := goodIn_app (goodIn_of _ (by decide +kernel)) ggX7_owned_X7_ofBlock
set_option maxRecDepth 20000 in
theorem ggX7_owned_X7_snapshotsOf : GoodIn wsX7_owned wsX7_snapshotsOf := goodIn_r _ [14, 6, 7, 8, 9, 4, 10, 1, 2, 3, 5, 15, 16, 17, 18, 19] (by first | rfl | decide +kernel) (by decide +kernel)
set_option maxRecDepth 20000 in
theorem gX7_owned_X7_snapshotsOf : GoodIn wsX7_owned (wsV RX7 73 RX7 yX7_snapshotsOf wsX7_snapshotsOf) := goodIn_app (goodIn_of _ (by decide +kernel)) ggX7_owned_X7_snapshotsOf
theorem dX7_owned_0 : decode cX7_owned 0 = .ok (.iconst 0, 1) := by decide +kernel
theorem dX7_owned_1 : decode cX7_owned 1 = .ok (.istore_n 2, 1) := by decide +kernel
theorem dX7_owned_2 : decode cX7_owned 2 = .ok (.iconst 0, 1) := by decide +kernel
theorem dX7_owned_3 : decode cX7_owned 3 = .ok (.istore_n 3, 1) := by decide +kernel
theorem dX7_owned_4 : decode cX7_owned 4 = .ok (.iload_n 3, 1) := by decide +kernel
theorem dX7_owned_5 : decode cX7_owned 5 = .ok (.bipush 24, 2) := by decide +kernel
theorem dX7_owned_7 : decode cX7_owned 7 = .ok (.if_icmp .ge 54, 3) := by decide +kernel
theorem dX7_owned_10 : decode cX7_owned 10 = .ok (.aload_n 0, 1) := by decide +kernel
theorem dX7_owned_11 : decode cX7_owned 11 = .ok (.iload_n 1, 1) := by decide +kernel
theorem dX7_owned_12 : decode cX7_owned 12 = .ok (.iload_n 3, 1) := by decide +kernel
theorem dX7_owned_13 : decode cX7_owned 13 = .ok (.invokevirtual 70, 3) := by decide +kernel
theorem dX7_owned_16 : decode cX7_owned 16 = .ok (.istore 4, 2) := by decide +kernel
theorem dX7_owned_18 : decode cX7_owned 18 = .ok (.iload_n 2, 1) := by decide +kernel
theorem dX7_owned_19 : decode cX7_owned 19 = .ok (.iload 4, 2) := by decide +kernel
theorem dX7_owned_21 : decode cX7_owned 21 = .ok (.iconst (-1), 1) := by decide +kernel
theorem dX7_owned_22 : decode cX7_owned 22 = .ok (.if_icmp .eq 30, 3) := by decide +kernel
theorem dX7_owned_25 : decode cX7_owned 25 = .ok (.aload_n 0, 1) := by decide +kernel
theorem dX7_owned_26 : decode cX7_owned 26 = .ok (.iload 4, 2) := by decide +kernel
theorem dX7_owned_28 : decode cX7_owned 28 = .ok (.iconst 0, 1) := by decide +kernel
theorem dX7_owned_29 : decode cX7_owned 29 = .ok (.invokevirtual 67, 3) := by decide +kernel
theorem dX7_owned_32 : decode cX7_owned 32 = .ok (.iconst 2, 1) := by decide +kernel
theorem dX7_owned_33 : decode cX7_owned 33 = .ok (.if_icmp .ne 19, 3) := by decide +kernel
theorem dX7_owned_36 : decode cX7_owned 36 = .ok (.aload_n 0, 1) := by decide +kernel
theorem dX7_owned_37 : decode cX7_owned 37 = .ok (.iload 4, 2) := by decide +kernel
theorem dX7_owned_39 : decode cX7_owned 39 = .ok (.invokevirtual 73, 3) := by decide +kernel
theorem dX7_owned_42 : decode cX7_owned 42 = .ok (.iconst 1, 1) := by decide +kernel
theorem dX7_owned_43 : decode cX7_owned 43 = .ok (.iload_n 1, 1) := by decide +kernel
theorem dX7_owned_44 : decode cX7_owned 44 = .ok (.ishl, 1) := by decide +kernel
theorem dX7_owned_45 : decode cX7_owned 45 = .ok (.if_icmp .ne 7, 3) := by decide +kernel
theorem dX7_owned_48 : decode cX7_owned 48 = .ok (.iconst 1, 1) := by decide +kernel
theorem dX7_owned_49 : decode cX7_owned 49 = .ok (.goto 4, 3) := by decide +kernel
theorem dX7_owned_52 : decode cX7_owned 52 = .ok (.iconst 0, 1) := by decide +kernel
theorem dX7_owned_53 : decode cX7_owned 53 = .ok (.iadd, 1) := by decide +kernel
theorem dX7_owned_54 : decode cX7_owned 54 = .ok (.istore_n 2, 1) := by decide +kernel
theorem dX7_owned_55 : decode cX7_owned 55 = .ok (.iinc 3 1, 3) := by decide +kernel
theorem dX7_owned_58 : decode cX7_owned 58 = .ok (.goto (-54), 3) := by decide +kernel
theorem dX7_owned_61 : decode cX7_owned 61 = .ok (.iload_n 2, 1) := by decide +kernel
theorem dX7_owned_62 : decode cX7_owned 62 = .ok (.ireturn, 1) := by decide +kernel
set_option maxRecDepth 20000 in
theorem ggX7_dropSnapshot_X7_lacks : GoodIn wsX7_dropSnapshot wsX7_lacks := goodIn_r _ [6, 1, 7, 8, 9, 5, 10, 11, 12, 13, 14, 45, 46, 47, 48, 49] (by first | rfl | decide +kernel) (by decide +kernel)
set_option maxRecDepth 20000 in
theorem gX7_dropSnapshot_X7_lacks : GoodIn wsX7_dropSnapshot (wsV RX7 113 RX7 yX7_lacks wsX7_lacks) := goodIn_app (goodIn_of _ (by decide +kernel)) ggX7_dropSnapshot_X7_lacks
set_option maxRecDepth 20000 in
theorem ggX7_dropSnapshot_X7_keeps : GoodIn wsX7_dropSnapshot wsX7_keeps := goodIn_r _ [18, 19, 20, 1, 45, 46, 47, 48, 49] (by first | rfl | decide +kernel) (by decide +kernel)
set_option maxRecDepth 20000 in
theorem gX7_dropSnapshot_X7_keeps : GoodIn wsX7_dropSnapshot (wsV RX7 44 RX7 yX7_keeps wsX7_keeps) := goodIn_app (goodIn_of _ (by decide +kernel)) ggX7_dropSnapshot_X7_keeps
set_option maxRecDepth 20000 in
theorem ggX7_dropSnapshot_X7_owned : GoodIn wsX7_dropSnapshot wsX7_owned := goodIn_r _ [24, 25, 26, 27, 5, 28, 1, 29, 30, 31, 32, 33, 34, 35, 36, 45, 46, 47, 48, 49] (by first | rfl | decide +kernel) (by decide +kernel)
set_option maxRecDepth 20000 in
theorem gX7_dropSnapshot_X7_owned : GoodIn wsX7_dropSnapshot (wsV RX7 116 RX7 yX7_owned wsX7_owned) := goodIn_app (goodIn_of _ (by decide +kernel)) ggX7_dropSnapshot_X7_owned
set_option maxRecDepth 20000 in
theorem ggX7_dropSnapshot_X7_inSnapshot : GoodIn wsX7_dropSnapshot wsX7_inSnapshot := goodIn_r _ [28, 1, 45, 46, 47, 48, 49] (by first | rfl | decide +kernel) (by decide +kernel)
set_option maxRecDepth 20000 in
theorem gX7_dropSnapshot_X7_inSnapshot : GoodIn wsX7_dropSnapshot (wsV RX7 70 RX7 yX7_inSnapshot wsX7_inSnapshot) := goodIn_app (goodIn_of _ (by decide +kernel)) ggX7_dropSnapshot_X7_inSnapshot
set_option maxRecDepth 20000 in
theorem ggX7_dropSnapshot_X7_ofBlock : GoodIn wsX7_dropSnapshot wsX7_ofBlock := goodIn_r _ [32, 1, 45, 46, 47, 48, 49] (by first | rfl | decide +kernel) (by decide +kernel)
set_option maxRecDepth 20000 in
theorem gX7_dropSnapshot_X7_ofBlock : GoodIn wsX7_dropSnapshot (wsV RX7 67 RX7 yX7_ofBlock wsX7_ofBlock) := goodIn_app (goodIn_of _ (by decide +kernel)) ggX7_dropSnapshot_X7_ofBlock
set_option maxRecDepth 20000 in
theorem ggX7_dropSnapshot_X7_snapshotsOf : GoodIn wsX7_dropSnapshot wsX7_snapshotsOf := goodIn_r _ [36, 1, 29, 30, 31, 5, 32, 25, 26, 27, 28, 45, 46, 47, 48, 49] (by first | rfl | decide +kernel) (by decide +kernel)
set_option maxRecDepth 20000 in
theorem gX7_dropSnapshot_X7_snapshotsOf : GoodIn wsX7_dropSnapshot (wsV RX7 73 RX7 yX7_snapshotsOf wsX7_snapshotsOf) := goodIn_app (goodIn_of _ (by decide +kernel)) ggX7_dropSnapshot_X7_snapshotsOf
set_option maxRecDepth 20000 in
theorem ggX7_dropSnapshot_X7_waits : GoodIn wsX7_dropSnapshot wsX7_waits := goodIn_r _ [40, 1, 41, 42, 43, 5, 44, 45, 46, 47, 48, 49] (by first | rfl | decide +kernel) (by decide +kernel)
set_option maxRecDepth 20000 in
theorem gX7_dropSnapshot_X7_waits : GoodIn wsX7_dropSnapshot (wsV RX7 77 RX7 yX7_waits wsX7_waits) := goodIn_app (goodIn_of _ (by decide +kernel)) ggX7_dropSnapshot_X7_waits
theorem dX7_dropSnapshot_0 : decode cX7_dropSnapshot 0 = .ok (.aload_n 0, 1) := by decide +kernel
theorem dX7_dropSnapshot_1 : decode cX7_dropSnapshot 1 = .ok (.iload_n 1, 1) := by decide +kernel
theorem dX7_dropSnapshot_2 : decode cX7_dropSnapshot 2 = .ok (.invokevirtual 113, 3) := by decide +kernel
theorem dX7_dropSnapshot_5 : decode cX7_dropSnapshot 5 = .ok (.ifCond .eq 5, 3) := by decide +kernel
theorem dX7_dropSnapshot_8 : decode cX7_dropSnapshot 8 = .ok (.iconst 0, 1) := by decide +kernel
theorem dX7_dropSnapshot_9 : decode cX7_dropSnapshot 9 = .ok (.ireturn, 1) := by decide +kernel
theorem dX7_dropSnapshot_10 : decode cX7_dropSnapshot 10 = .ok (.aload_n 0, 1) := by decide +kernel
theorem dX7_dropSnapshot_11 : decode cX7_dropSnapshot 11 = .ok (.invokevirtual 44, 3) := by decide +kernel
theorem dX7_dropSnapshot_14 : decode cX7_dropSnapshot 14 = .ok (.aload_n 0, 1) := by decide +kernel
theorem dX7_dropSnapshot_15 : decode cX7_dropSnapshot 15 = .ok (.iload_n 1, 1) := by decide +kernel
theorem dX7_dropSnapshot_16 : decode cX7_dropSnapshot 16 = .ok (.invokevirtual 116, 3) := by decide +kernel
theorem dX7_dropSnapshot_19 : decode cX7_dropSnapshot 19 = .ok (.istore_n 2, 1) := by decide +kernel
theorem dX7_dropSnapshot_20 : decode cX7_dropSnapshot 20 = .ok (.aload_n 0, 1) := by decide +kernel
theorem dX7_dropSnapshot_21 : decode cX7_dropSnapshot 21 = .ok (.getfield 7, 3) := by decide +kernel
theorem dX7_dropSnapshot_24 : decode cX7_dropSnapshot 24 = .ok (.sipush 864, 3) := by decide +kernel
theorem dX7_dropSnapshot_27 : decode cX7_dropSnapshot 27 = .ok (.iload_n 1, 1) := by decide +kernel
theorem dX7_dropSnapshot_28 : decode cX7_dropSnapshot 28 = .ok (.iadd, 1) := by decide +kernel
theorem dX7_dropSnapshot_29 : decode cX7_dropSnapshot 29 = .ok (.iconst 0, 1) := by decide +kernel
theorem dX7_dropSnapshot_30 : decode cX7_dropSnapshot 30 = .ok (.iastore, 1) := by decide +kernel
theorem dX7_dropSnapshot_31 : decode cX7_dropSnapshot 31 = .ok (.iconst 0, 1) := by decide +kernel
theorem dX7_dropSnapshot_32 : decode cX7_dropSnapshot 32 = .ok (.istore_n 3, 1) := by decide +kernel
theorem dX7_dropSnapshot_33 : decode cX7_dropSnapshot 33 = .ok (.iload_n 3, 1) := by decide +kernel
theorem dX7_dropSnapshot_34 : decode cX7_dropSnapshot 34 = .ok (.bipush 24, 2) := by decide +kernel
theorem dX7_dropSnapshot_36 : decode cX7_dropSnapshot 36 = .ok (.if_icmp .ge 65, 3) := by decide +kernel
theorem dX7_dropSnapshot_39 : decode cX7_dropSnapshot 39 = .ok (.aload_n 0, 1) := by decide +kernel
theorem dX7_dropSnapshot_40 : decode cX7_dropSnapshot 40 = .ok (.iload_n 1, 1) := by decide +kernel
theorem dX7_dropSnapshot_41 : decode cX7_dropSnapshot 41 = .ok (.iload_n 3, 1) := by decide +kernel
theorem dX7_dropSnapshot_42 : decode cX7_dropSnapshot 42 = .ok (.invokevirtual 70, 3) := by decide +kernel
theorem dX7_dropSnapshot_45 : decode cX7_dropSnapshot 45 = .ok (.istore 4, 2) := by decide +kernel
theorem dX7_dropSnapshot_47 : decode cX7_dropSnapshot 47 = .ok (.iload 4, 2) := by decide +kernel
theorem dX7_dropSnapshot_49 : decode cX7_dropSnapshot 49 = .ok (.iconst (-1), 1) := by decide +kernel
theorem dX7_dropSnapshot_50 : decode cX7_dropSnapshot 50 = .ok (.if_icmp .eq 29, 3) := by decide +kernel
theorem dX7_dropSnapshot_53 : decode cX7_dropSnapshot 53 = .ok (.aload_n 0, 1) := by decide +kernel
theorem dX7_dropSnapshot_54 : decode cX7_dropSnapshot 54 = .ok (.iload 4, 2) := by decide +kernel
theorem dX7_dropSnapshot_56 : decode cX7_dropSnapshot 56 = .ok (.iconst 0, 1) := by decide +kernel
theorem dX7_dropSnapshot_57 : decode cX7_dropSnapshot 57 = .ok (.invokevirtual 67, 3) := by decide +kernel
theorem dX7_dropSnapshot_60 : decode cX7_dropSnapshot 60 = .ok (.iconst 2, 1) := by decide +kernel
theorem dX7_dropSnapshot_61 : decode cX7_dropSnapshot 61 = .ok (.if_icmp .ne 18, 3) := by decide +kernel
theorem dX7_dropSnapshot_64 : decode cX7_dropSnapshot 64 = .ok (.aload_n 0, 1) := by decide +kernel
theorem dX7_dropSnapshot_65 : decode cX7_dropSnapshot 65 = .ok (.iload 4, 2) := by decide +kernel
theorem dX7_dropSnapshot_67 : decode cX7_dropSnapshot 67 = .ok (.invokevirtual 73, 3) := by decide +kernel
theorem dX7_dropSnapshot_70 : decode cX7_dropSnapshot 70 = .ok (.ifCond .ne 9, 3) := by decide +kernel
theorem dX7_dropSnapshot_73 : decode cX7_dropSnapshot 73 = .ok (.aload_n 0, 1) := by decide +kernel
theorem dX7_dropSnapshot_74 : decode cX7_dropSnapshot 74 = .ok (.iload 4, 2) := by decide +kernel
theorem dX7_dropSnapshot_76 : decode cX7_dropSnapshot 76 = .ok (.invokevirtual 77, 3) := by decide +kernel
theorem dX7_dropSnapshot_79 : decode cX7_dropSnapshot 79 = .ok (.aload_n 0, 1) := by decide +kernel
theorem dX7_dropSnapshot_80 : decode cX7_dropSnapshot 80 = .ok (.getfield 7, 3) := by decide +kernel
theorem dX7_dropSnapshot_83 : decode cX7_dropSnapshot 83 = .ok (.sipush 868, 3) := by decide +kernel
theorem dX7_dropSnapshot_86 : decode cX7_dropSnapshot 86 = .ok (.bipush 24, 2) := by decide +kernel
theorem dX7_dropSnapshot_88 : decode cX7_dropSnapshot 88 = .ok (.iload_n 1, 1) := by decide +kernel
theorem dX7_dropSnapshot_89 : decode cX7_dropSnapshot 89 = .ok (.imul, 1) := by decide +kernel
theorem dX7_dropSnapshot_90 : decode cX7_dropSnapshot 90 = .ok (.iadd, 1) := by decide +kernel
theorem dX7_dropSnapshot_91 : decode cX7_dropSnapshot 91 = .ok (.iload_n 3, 1) := by decide +kernel
theorem dX7_dropSnapshot_92 : decode cX7_dropSnapshot 92 = .ok (.iadd, 1) := by decide +kernel
theorem dX7_dropSnapshot_93 : decode cX7_dropSnapshot 93 = .ok (.iconst (-1), 1) := by decide +kernel
theorem dX7_dropSnapshot_94 : decode cX7_dropSnapshot 94 = .ok (.iastore, 1) := by decide +kernel
theorem dX7_dropSnapshot_95 : decode cX7_dropSnapshot 95 = .ok (.iinc 3 1, 3) := by decide +kernel
theorem dX7_dropSnapshot_98 : decode cX7_dropSnapshot 98 = .ok (.goto (-65), 3) := by decide +kernel
theorem dX7_dropSnapshot_101 : decode cX7_dropSnapshot 101 = .ok (.iload_n 2, 1) := by decide +kernel
theorem dX7_dropSnapshot_102 : decode cX7_dropSnapshot 102 = .ok (.ireturn, 1) := by decide +kernel
set_option maxRecDepth 20000 in
theorem ggX7_getFrom_X7_isSnapshot : GoodIn wsX7_getFrom wsX7_isSnapshot := goodIn_r _ [6, 7, 8, 9, 5, 10] (by first | rfl | decide +kernel) (by decide +kernel)
set_option maxRecDepth 20000 in
theorem gX7_getFrom_X7_isSnapshot : GoodIn wsX7_getFrom (va_wsS RX7 110 yX7_isSnapshot wsX7_isSnapshot) := goodIn_app (goodIn_of _ (by decide +kernel)) ggX7_getFrom_X7_isSnapshot
set_option maxRecDepth 20000 in
theorem ggX7_getFrom_X7_isKey : GoodIn wsX7_getFrom wsX7_isKey := goodIn_r _ [13, 14, 8, 9, 5, 10] (by first | rfl | decide +kernel) (by decide +kernel)
set_option maxRecDepth 20000 in
theorem gX7_getFrom_X7_isKey : GoodIn wsX7_getFrom (va_wsS RX7 81 yX7_isKey wsX7_isKey) := goodIn_app (goodIn_of _ (by decide +kernel)) ggX7_getFrom_X7_isKey
set_option maxRecDepth 20000 in
theorem ggX7_getFrom_X7_inSnapshot : GoodIn wsX7_getFrom wsX7_inSnapshot := goodIn_r _ [18, 1, 23, 24, 25, 26, 27] (by first | rfl | decide +kernel) (by decide +kernel)
set_option maxRecDepth 20000 in
theorem gX7_getFrom_X7_inSnapshot : GoodIn wsX7_getFrom (wsV RX7 70 RX7 yX7_inSnapshot wsX7_inSnapshot) := goodIn_app (goodIn_of _ (by decide +kernel)) ggX7_getFrom_X7_inSnapshot
set_option maxRecDepth 20000 in
theorem ggX7_getFrom_X7_ofBlock : GoodIn wsX7_getFrom wsX7_ofBlock := goodIn_r _ [22, 1, 23, 24, 25, 26, 27] (by first | rfl | decide +kernel) (by decide +kernel)
set_option maxRecDepth 20000 in
theorem gX7_getFrom_X7_ofBlock : GoodIn wsX7_getFrom (wsV RX7 67 RX7 yX7_ofBlock wsX7_ofBlock) := goodIn_app (goodIn_of _ (by decide +kernel)) ggX7_getFrom_X7_ofBlock
theorem dX7_getFrom_0 : decode cX7_getFrom 0 = .ok (.aload_n 0, 1) := by decide +kernel
theorem dX7_getFrom_1 : decode cX7_getFrom 1 = .ok (.iload_n 1, 1) := by decide +kernel
theorem dX7_getFrom_2 : decode cX7_getFrom 2 = .ok (.invokestatic 110, 3) := by decide +kernel
theorem dX7_getFrom_5 : decode cX7_getFrom 5 = .ok (.ifCond .eq 10, 3) := by decide +kernel
theorem dX7_getFrom_8 : decode cX7_getFrom 8 = .ok (.iload_n 2, 1) := by decide +kernel
theorem dX7_getFrom_9 : decode cX7_getFrom 9 = .ok (.invokestatic 81, 3) := by decide +kernel
theorem dX7_getFrom_12 : decode cX7_getFrom 12 = .ok (.ifCond .ne 7, 3) := by decide +kernel
theorem dX7_getFrom_15 : decode cX7_getFrom 15 = .ok (.iconst 1, 1) := by decide +kernel
theorem dX7_getFrom_16 : decode cX7_getFrom 16 = .ok (.goto 35, 3) := by decide +kernel
theorem dX7_getFrom_19 : decode cX7_getFrom 19 = .ok (.aload_n 0, 1) := by decide +kernel
theorem dX7_getFrom_20 : decode cX7_getFrom 20 = .ok (.getfield 7, 3) := by decide +kernel
theorem dX7_getFrom_23 : decode cX7_getFrom 23 = .ok (.sipush 864, 3) := by decide +kernel
theorem dX7_getFrom_26 : decode cX7_getFrom 26 = .ok (.iload_n 1, 1) := by decide +kernel
theorem dX7_getFrom_27 : decode cX7_getFrom 27 = .ok (.iadd, 1) := by decide +kernel
theorem dX7_getFrom_28 : decode cX7_getFrom 28 = .ok (.iaload, 1) := by decide +kernel
theorem dX7_getFrom_29 : decode cX7_getFrom 29 = .ok (.ifCond .ne 7, 3) := by decide +kernel
theorem dX7_getFrom_32 : decode cX7_getFrom 32 = .ok (.iconst 2, 1) := by decide +kernel
theorem dX7_getFrom_33 : decode cX7_getFrom 33 = .ok (.goto 18, 3) := by decide +kernel
theorem dX7_getFrom_36 : decode cX7_getFrom 36 = .ok (.aload_n 0, 1) := by decide +kernel
theorem dX7_getFrom_37 : decode cX7_getFrom 37 = .ok (.iload_n 1, 1) := by decide +kernel
theorem dX7_getFrom_38 : decode cX7_getFrom 38 = .ok (.iload_n 2, 1) := by decide +kernel
theorem dX7_getFrom_39 : decode cX7_getFrom 39 = .ok (.invokevirtual 70, 3) := by decide +kernel
theorem dX7_getFrom_42 : decode cX7_getFrom 42 = .ok (.iconst (-1), 1) := by decide +kernel
theorem dX7_getFrom_43 : decode cX7_getFrom 43 = .ok (.if_icmp .ne 7, 3) := by decide +kernel
theorem dX7_getFrom_46 : decode cX7_getFrom 46 = .ok (.iconst 3, 1) := by decide +kernel
theorem dX7_getFrom_47 : decode cX7_getFrom 47 = .ok (.goto 4, 3) := by decide +kernel
theorem dX7_getFrom_50 : decode cX7_getFrom 50 = .ok (.iconst 0, 1) := by decide +kernel
theorem dX7_getFrom_51 : decode cX7_getFrom 51 = .ok (.putfield 23, 3) := by decide +kernel
theorem dX7_getFrom_54 : decode cX7_getFrom 54 = .ok (.aload_n 0, 1) := by decide +kernel
theorem dX7_getFrom_55 : decode cX7_getFrom 55 = .ok (.getfield 23, 3) := by decide +kernel
theorem dX7_getFrom_58 : decode cX7_getFrom 58 = .ok (.ifCond .le 7, 3) := by decide +kernel
theorem dX7_getFrom_61 : decode cX7_getFrom 61 = .ok (.iconst 0, 1) := by decide +kernel
theorem dX7_getFrom_62 : decode cX7_getFrom 62 = .ok (.goto 14, 3) := by decide +kernel
theorem dX7_getFrom_65 : decode cX7_getFrom 65 = .ok (.aload_n 0, 1) := by decide +kernel
theorem dX7_getFrom_66 : decode cX7_getFrom 66 = .ok (.aload_n 0, 1) := by decide +kernel
theorem dX7_getFrom_67 : decode cX7_getFrom 67 = .ok (.iload_n 1, 1) := by decide +kernel
theorem dX7_getFrom_68 : decode cX7_getFrom 68 = .ok (.iload_n 2, 1) := by decide +kernel
theorem dX7_getFrom_69 : decode cX7_getFrom 69 = .ok (.invokevirtual 70, 3) := by decide +kernel
theorem dX7_getFrom_72 : decode cX7_getFrom 72 = .ok (.iconst 2, 1) := by decide +kernel
theorem dX7_getFrom_73 : decode cX7_getFrom 73 = .ok (.invokevirtual 67, 3) := by decide +kernel
theorem dX7_getFrom_76 : decode cX7_getFrom 76 = .ok (.ireturn, 1) := by decide +kernel
set_option maxRecDepth 20000 in
theorem ggX7_changedSince_X7_lacks : GoodIn wsX7_changedSince wsX7_lacks := goodIn_r _ [6, 1, 7, 8, 9, 5, 10, 11, 12, 13, 14, 19, 20, 21, 22, 23] (by first | rfl | decide +kernel) (by decide +kernel)
set_option maxRecDepth 20000 in
theorem gX7_changedSince_X7_lacks : GoodIn wsX7_changedSince (wsV RX7 113 RX7 yX7_lacks wsX7_lacks) := goodIn_app (goodIn_of _ (by decide +kernel)) ggX7_changedSince_X7_lacks
set_option maxRecDepth 20000 in
theorem ggX7_changedSince_X7_inSnapshot : GoodIn wsX7_changedSince wsX7_inSnapshot := goodIn_r _ [18, 1, 19, 20, 21, 22, 23] (by first | rfl | decide +kernel) (by decide +kernel)
set_option maxRecDepth 20000 in
theorem gX7_changedSince_X7_inSnapshot : GoodIn wsX7_changedSince (wsV RX7 70 RX7 yX7_inSnapshot wsX7_inSnapshot) := goodIn_app (goodIn_of _ (by decide +kernel)) ggX7_changedSince_X7_inSnapshot
theorem dX7_changedSince_0 : decode cX7_changedSince 0 = .ok (.aload_n 0, 1) := by decide +kernel
theorem dX7_changedSince_1 : decode cX7_changedSince 1 = .ok (.iload_n 1, 1) := by decide +kernel
theorem dX7_changedSince_2 : decode cX7_changedSince 2 = .ok (.invokevirtual 113, 3) := by decide +kernel
theorem dX7_changedSince_5 : decode cX7_changedSince 5 = .ok (.ifCond .eq 5, 3) := by decide +kernel
theorem dX7_changedSince_8 : decode cX7_changedSince 8 = .ok (.iconst 0, 1) := by decide +kernel
theorem dX7_changedSince_9 : decode cX7_changedSince 9 = .ok (.ireturn, 1) := by decide +kernel
theorem dX7_changedSince_10 : decode cX7_changedSince 10 = .ok (.iconst 0, 1) := by decide +kernel
theorem dX7_changedSince_11 : decode cX7_changedSince 11 = .ok (.istore_n 2, 1) := by decide +kernel
theorem dX7_changedSince_12 : decode cX7_changedSince 12 = .ok (.iconst 0, 1) := by decide +kernel
theorem dX7_changedSince_13 : decode cX7_changedSince 13 = .ok (.istore_n 3, 1) := by decide +kernel
theorem dX7_changedSince_14 : decode cX7_changedSince 14 = .ok (.iload_n 3, 1) := by decide +kernel
theorem dX7_changedSince_15 : decode cX7_changedSince 15 = .ok (.bipush 24, 2) := by decide +kernel
theorem dX7_changedSince_17 : decode cX7_changedSince 17 = .ok (.if_icmp .ge 36, 3) := by decide +kernel
theorem dX7_changedSince_20 : decode cX7_changedSince 20 = .ok (.iload_n 2, 1) := by decide +kernel
theorem dX7_changedSince_21 : decode cX7_changedSince 21 = .ok (.aload_n 0, 1) := by decide +kernel
theorem dX7_changedSince_22 : decode cX7_changedSince 22 = .ok (.iload_n 1, 1) := by decide +kernel
theorem dX7_changedSince_23 : decode cX7_changedSince 23 = .ok (.iload_n 3, 1) := by decide +kernel
theorem dX7_changedSince_24 : decode cX7_changedSince 24 = .ok (.invokevirtual 70, 3) := by decide +kernel
theorem dX7_changedSince_27 : decode cX7_changedSince 27 = .ok (.aload_n 0, 1) := by decide +kernel
theorem dX7_changedSince_28 : decode cX7_changedSince 28 = .ok (.getfield 7, 3) := by decide +kernel
theorem dX7_changedSince_31 : decode cX7_changedSince 31 = .ok (.sipush 840, 3) := by decide +kernel
theorem dX7_changedSince_34 : decode cX7_changedSince 34 = .ok (.iload_n 3, 1) := by decide +kernel
theorem dX7_changedSince_35 : decode cX7_changedSince 35 = .ok (.iadd, 1) := by decide +kernel
theorem dX7_changedSince_36 : decode cX7_changedSince 36 = .ok (.iaload, 1) := by decide +kernel
theorem dX7_changedSince_37 : decode cX7_changedSince 37 = .ok (.if_icmp .ne 7, 3) := by decide +kernel
theorem dX7_changedSince_40 : decode cX7_changedSince 40 = .ok (.iconst 0, 1) := by decide +kernel
theorem dX7_changedSince_41 : decode cX7_changedSince 41 = .ok (.goto 4, 3) := by decide +kernel
theorem dX7_changedSince_44 : decode cX7_changedSince 44 = .ok (.iconst 1, 1) := by decide +kernel
theorem dX7_changedSince_45 : decode cX7_changedSince 45 = .ok (.iadd, 1) := by decide +kernel
theorem dX7_changedSince_46 : decode cX7_changedSince 46 = .ok (.istore_n 2, 1) := by decide +kernel
theorem dX7_changedSince_47 : decode cX7_changedSince 47 = .ok (.iinc 3 1, 3) := by decide +kernel
theorem dX7_changedSince_50 : decode cX7_changedSince 50 = .ok (.goto (-36), 3) := by decide +kernel
theorem dX7_changedSince_53 : decode cX7_changedSince 53 = .ok (.iload_n 2, 1) := by decide +kernel
theorem dX7_changedSince_54 : decode cX7_changedSince 54 = .ok (.ireturn, 1) := by decide +kernel
set_option maxRecDepth 20000 in
theorem ggX7_ownBlocks_X7_lacks : GoodIn wsX7_ownBlocks wsX7_lacks := goodIn_r _ [5, 6, 7, 8, 9, 4, 10, 11, 12, 13, 14, 31, 32, 33, 34, 35] (by first | rfl | decide +kernel) (by decide +kernel)
set_option maxRecDepth 20000 in
theorem gX7_ownBlocks_X7_lacks : GoodIn wsX7_ownBlocks (wsV RX7 113 RX7 yX7_lacks wsX7_lacks) := goodIn_app (goodIn_of _ (by decide +kernel)) ggX7_ownBlocks_X7_lacks
set_option maxRecDepth 20000 in
theorem ggX7_ownBlocks_X7_owned : GoodIn wsX7_ownBlocks wsX7_owned := goodIn_r _ [18, 19, 20, 21, 4, 22, 6, 23, 24, 25, 26, 27, 28, 29, 30, 31, 32, 33, 34, 35] (by first | rfl | decide +kernel) (by decide +kernel)
set_option maxRecDepth 20000 in
theorem gX7_ownBlocks_X7_owned : GoodIn wsX7_ownBlocks (wsV RX7 116 RX7 yX7_owned wsX7_owned) := goodIn_app (goodIn_of _ (by decide +kernel)) ggX7_ownBlocks_X7_owned
theorem dX7_ownBlocks_0 : decode cX7_ownBlocks 0 = .ok (.aload_n 0, 1) := by decide +kernel
theorem dX7_ownBlocks_1 : decode cX7_ownBlocks 1 = .ok (.iload_n 1, 1) := by decide +kernel
theorem dX7_ownBlocks_2 : decode cX7_ownBlocks 2 = .ok (.invokevirtual 113, 3) := by decide +kernel
theorem dX7_ownBlocks_5 : decode cX7_ownBlocks 5 = .ok (.ifCond .eq 7, 3) := by decide +kernel
theorem dX7_ownBlocks_8 : decode cX7_ownBlocks 8 = .ok (.iconst 0, 1) := by decide +kernel
theorem dX7_ownBlocks_9 : decode cX7_ownBlocks 9 = .ok (.goto 8, 3) := by decide +kernel
theorem dX7_ownBlocks_12 : decode cX7_ownBlocks 12 = .ok (.aload_n 0, 1) := by decide +kernel
theorem dX7_ownBlocks_13 : decode cX7_ownBlocks 13 = .ok (.iload_n 1, 1) := by decide +kernel
theorem dX7_ownBlocks_14 : decode cX7_ownBlocks 14 = .ok (.invokevirtual 116, 3) := by decide +kernel
theorem dX7_ownBlocks_17 : decode cX7_ownBlocks 17 = .ok (.ireturn, 1) := by decide +kernel
set_option maxRecDepth 20000 in
theorem ggX7_rollBack_X7_lacks : GoodIn wsX7_rollBack wsX7_lacks := goodIn_r _ [6, 1, 7, 8, 9, 5, 10, 11, 12, 13, 14, 45, 46, 47, 48, 49] (by first | rfl | decide +kernel) (by decide +kernel)
set_option maxRecDepth 20000 in
theorem gX7_rollBack_X7_lacks : GoodIn wsX7_rollBack (wsV RX7 113 RX7 yX7_lacks wsX7_lacks) := goodIn_app (goodIn_of _ (by decide +kernel)) ggX7_rollBack_X7_lacks
set_option maxRecDepth 20000 in
theorem ggX7_rollBack_X7_keeps : GoodIn wsX7_rollBack wsX7_keeps := goodIn_r _ [18, 19, 20, 1, 45, 46, 47, 48, 49] (by first | rfl | decide +kernel) (by decide +kernel)
set_option maxRecDepth 20000 in
theorem gX7_rollBack_X7_keeps : GoodIn wsX7_rollBack (wsV RX7 44 RX7 yX7_keeps wsX7_keeps) := goodIn_app (goodIn_of _ (by decide +kernel)) ggX7_rollBack_X7_keeps
set_option maxRecDepth 20000 in
theorem ggX7_rollBack_X7_inSnapshot : GoodIn wsX7_rollBack wsX7_inSnapshot := goodIn_r _ [24, 1, 45, 46, 47, 48, 49] (by first | rfl | decide +kernel) (by decide +kernel)
set_option maxRecDepth 20000 in
theorem gX7_rollBack_X7_inSnapshot : GoodIn wsX7_rollBack (wsV RX7 70 RX7 yX7_inSnapshot wsX7_inSnapshot) := goodIn_app (goodIn_of _ (by decide +kernel)) ggX7_rollBack_X7_inSnapshot
set_option maxRecDepth 20000 in
theorem ggX7_rollBack_X7_ends : GoodIn wsX7_rollBack wsX7_ends := goodIn_r _ [28, 1, 29, 30, 31, 5, 32, 33, 34, 35, 36, 21, 22, 23, 24, 37, 38, 39, 40, 41, 42, 43, 44, 45, 46, 47, 48, 49] (by first | rfl | decide +kernel) (by decide +kernel)
set_option maxRecDepth 20000 in
theorem gX7_rollBack_X7_ends : GoodIn wsX7_rollBack (wsV RX7 91 RX7 yX7_ends wsX7_ends) := goodIn_app (goodIn_of _ (by decide +kernel)) ggX7_rollBack_X7_ends
set_option maxRecDepth 20000 in
theorem ggX7_rollBack_X7_setBlock : GoodIn wsX7_rollBack wsX7_setBlock := goodIn_r _ [40, 1, 45, 46, 47, 48, 49] (by first | rfl | decide +kernel) (by decide +kernel)
set_option maxRecDepth 20000 in
theorem gX7_rollBack_X7_setBlock : GoodIn wsX7_rollBack (wsV RX7 64 RX7 yX7_setBlock wsX7_setBlock) := goodIn_app (goodIn_of _ (by decide +kernel)) ggX7_rollBack_X7_setBlock
theorem dX7_rollBack_0 : decode cX7_rollBack 0 = .ok (.aload_n 0, 1) := by decide +kernel
theorem dX7_rollBack_1 : decode cX7_rollBack 1 = .ok (.iload_n 1, 1) := by decide +kernel
theorem dX7_rollBack_2 : decode cX7_rollBack 2 = .ok (.invokevirtual 113, 3) := by decide +kernel
theorem dX7_rollBack_5 : decode cX7_rollBack 5 = .ok (.ifCond .eq 5, 3) := by decide +kernel
theorem dX7_rollBack_8 : decode cX7_rollBack 8 = .ok (.iconst 0, 1) := by decide +kernel
theorem dX7_rollBack_9 : decode cX7_rollBack 9 = .ok (.ireturn, 1) := by decide +kernel
theorem dX7_rollBack_10 : decode cX7_rollBack 10 = .ok (.aload_n 0, 1) := by decide +kernel
theorem dX7_rollBack_11 : decode cX7_rollBack 11 = .ok (.invokevirtual 44, 3) := by decide +kernel
theorem dX7_rollBack_14 : decode cX7_rollBack 14 = .ok (.iconst 0, 1) := by decide +kernel
theorem dX7_rollBack_15 : decode cX7_rollBack 15 = .ok (.istore_n 2, 1) := by decide +kernel
theorem dX7_rollBack_16 : decode cX7_rollBack 16 = .ok (.iconst 0, 1) := by decide +kernel
theorem dX7_rollBack_17 : decode cX7_rollBack 17 = .ok (.istore_n 3, 1) := by decide +kernel
theorem dX7_rollBack_18 : decode cX7_rollBack 18 = .ok (.iload_n 3, 1) := by decide +kernel
theorem dX7_rollBack_19 : decode cX7_rollBack 19 = .ok (.bipush 24, 2) := by decide +kernel
theorem dX7_rollBack_21 : decode cX7_rollBack 21 = .ok (.if_icmp .ge 69, 3) := by decide +kernel
theorem dX7_rollBack_24 : decode cX7_rollBack 24 = .ok (.aload_n 0, 1) := by decide +kernel
theorem dX7_rollBack_25 : decode cX7_rollBack 25 = .ok (.iload_n 1, 1) := by decide +kernel
theorem dX7_rollBack_26 : decode cX7_rollBack 26 = .ok (.iload_n 3, 1) := by decide +kernel
theorem dX7_rollBack_27 : decode cX7_rollBack 27 = .ok (.invokevirtual 70, 3) := by decide +kernel
theorem dX7_rollBack_30 : decode cX7_rollBack 30 = .ok (.istore 4, 2) := by decide +kernel
theorem dX7_rollBack_32 : decode cX7_rollBack 32 = .ok (.iload 4, 2) := by decide +kernel
theorem dX7_rollBack_34 : decode cX7_rollBack 34 = .ok (.aload_n 0, 1) := by decide +kernel
theorem dX7_rollBack_35 : decode cX7_rollBack 35 = .ok (.getfield 7, 3) := by decide +kernel
theorem dX7_rollBack_38 : decode cX7_rollBack 38 = .ok (.sipush 840, 3) := by decide +kernel
theorem dX7_rollBack_41 : decode cX7_rollBack 41 = .ok (.iload_n 3, 1) := by decide +kernel
theorem dX7_rollBack_42 : decode cX7_rollBack 42 = .ok (.iadd, 1) := by decide +kernel
theorem dX7_rollBack_43 : decode cX7_rollBack 43 = .ok (.iaload, 1) := by decide +kernel
theorem dX7_rollBack_44 : decode cX7_rollBack 44 = .ok (.if_icmp .ne 6, 3) := by decide +kernel
theorem dX7_rollBack_47 : decode cX7_rollBack 47 = .ok (.goto 37, 3) := by decide +kernel
theorem dX7_rollBack_50 : decode cX7_rollBack 50 = .ok (.aload_n 0, 1) := by decide +kernel
theorem dX7_rollBack_51 : decode cX7_rollBack 51 = .ok (.iload_n 3, 1) := by decide +kernel
theorem dX7_rollBack_52 : decode cX7_rollBack 52 = .ok (.invokevirtual 91, 3) := by decide +kernel
theorem dX7_rollBack_55 : decode cX7_rollBack 55 = .ok (.aload_n 0, 1) := by decide +kernel
theorem dX7_rollBack_56 : decode cX7_rollBack 56 = .ok (.getfield 7, 3) := by decide +kernel
theorem dX7_rollBack_59 : decode cX7_rollBack 59 = .ok (.sipush 840, 3) := by decide +kernel
theorem dX7_rollBack_62 : decode cX7_rollBack 62 = .ok (.iload_n 3, 1) := by decide +kernel
theorem dX7_rollBack_63 : decode cX7_rollBack 63 = .ok (.iadd, 1) := by decide +kernel
theorem dX7_rollBack_64 : decode cX7_rollBack 64 = .ok (.iload 4, 2) := by decide +kernel
theorem dX7_rollBack_66 : decode cX7_rollBack 66 = .ok (.iastore, 1) := by decide +kernel
theorem dX7_rollBack_67 : decode cX7_rollBack 67 = .ok (.iload 4, 2) := by decide +kernel
theorem dX7_rollBack_69 : decode cX7_rollBack 69 = .ok (.iconst (-1), 1) := by decide +kernel
theorem dX7_rollBack_70 : decode cX7_rollBack 70 = .ok (.if_icmp .eq 11, 3) := by decide +kernel
theorem dX7_rollBack_73 : decode cX7_rollBack 73 = .ok (.aload_n 0, 1) := by decide +kernel
theorem dX7_rollBack_74 : decode cX7_rollBack 74 = .ok (.iload 4, 2) := by decide +kernel
theorem dX7_rollBack_76 : decode cX7_rollBack 76 = .ok (.iconst 0, 1) := by decide +kernel
theorem dX7_rollBack_77 : decode cX7_rollBack 77 = .ok (.iconst 1, 1) := by decide +kernel
theorem dX7_rollBack_78 : decode cX7_rollBack 78 = .ok (.invokevirtual 64, 3) := by decide +kernel
theorem dX7_rollBack_81 : decode cX7_rollBack 81 = .ok (.iinc 2 1, 3) := by decide +kernel
theorem dX7_rollBack_84 : decode cX7_rollBack 84 = .ok (.iinc 3 1, 3) := by decide +kernel
theorem dX7_rollBack_87 : decode cX7_rollBack 87 = .ok (.goto (-69), 3) := by decide +kernel
theorem dX7_rollBack_90 : decode cX7_rollBack 90 = .ok (.iload_n 2, 1) := by decide +kernel
theorem dX7_rollBack_91 : decode cX7_rollBack 91 = .ok (.ireturn, 1) := by decide +kernel
set_option maxRecDepth 20000 in
theorem ggX7_difference_X7_isSnapshot : GoodIn wsX7_difference wsX7_isSnapshot := goodIn_r _ [6, 7, 8, 9, 5, 10] (by first | rfl | decide +kernel) (by decide +kernel)
set_option maxRecDepth 20000 in
theorem gX7_difference_X7_isSnapshot : GoodIn wsX7_difference (va_wsS RX7 110 yX7_isSnapshot wsX7_isSnapshot) := goodIn_app (goodIn_of _ (by decide +kernel)) ggX7_difference_X7_isSnapshot
set_option maxRecDepth 20000 in
theorem ggX7_difference_X7_inSnapshot : GoodIn wsX7_difference wsX7_inSnapshot := goodIn_r _ [14, 1, 15, 16, 17, 18, 19] (by first | rfl | decide +kernel) (by decide +kernel)
set_option maxRecDepth 20000 in
theorem gX7_difference_X7_inSnapshot : GoodIn wsX7_difference (wsV RX7 70 RX7 yX7_inSnapshot wsX7_inSnapshot) := goodIn_app (goodIn_of _ (by decide +kernel)) ggX7_difference_X7_inSnapshot
theorem dX7_difference_0 : decode cX7_difference 0 = .ok (.aload_n 0, 1) := by decide +kernel
theorem dX7_difference_1 : decode cX7_difference 1 = .ok (.iload_n 1, 1) := by decide +kernel
theorem dX7_difference_2 : decode cX7_difference 2 = .ok (.invokestatic 110, 3) := by decide +kernel
theorem dX7_difference_5 : decode cX7_difference 5 = .ok (.ifCond .eq 10, 3) := by decide +kernel
theorem dX7_difference_8 : decode cX7_difference 8 = .ok (.iload_n 2, 1) := by decide +kernel
theorem dX7_difference_9 : decode cX7_difference 9 = .ok (.invokestatic 110, 3) := by decide +kernel
theorem dX7_difference_12 : decode cX7_difference 12 = .ok (.ifCond .ne 7, 3) := by decide +kernel
theorem dX7_difference_15 : decode cX7_difference 15 = .ok (.iconst 1, 1) := by decide +kernel
theorem dX7_difference_16 : decode cX7_difference 16 = .ok (.goto 34, 3) := by decide +kernel
theorem dX7_difference_19 : decode cX7_difference 19 = .ok (.aload_n 0, 1) := by decide +kernel
theorem dX7_difference_20 : decode cX7_difference 20 = .ok (.getfield 7, 3) := by decide +kernel
theorem dX7_difference_23 : decode cX7_difference 23 = .ok (.sipush 864, 3) := by decide +kernel
theorem dX7_difference_26 : decode cX7_difference 26 = .ok (.iload_n 1, 1) := by decide +kernel
theorem dX7_difference_27 : decode cX7_difference 27 = .ok (.iadd, 1) := by decide +kernel
theorem dX7_difference_28 : decode cX7_difference 28 = .ok (.iaload, 1) := by decide +kernel
theorem dX7_difference_29 : decode cX7_difference 29 = .ok (.ifCond .eq 16, 3) := by decide +kernel
theorem dX7_difference_32 : decode cX7_difference 32 = .ok (.aload_n 0, 1) := by decide +kernel
theorem dX7_difference_33 : decode cX7_difference 33 = .ok (.getfield 7, 3) := by decide +kernel
theorem dX7_difference_36 : decode cX7_difference 36 = .ok (.sipush 864, 3) := by decide +kernel
theorem dX7_difference_39 : decode cX7_difference 39 = .ok (.iload_n 2, 1) := by decide +kernel
theorem dX7_difference_40 : decode cX7_difference 40 = .ok (.iadd, 1) := by decide +kernel
theorem dX7_difference_41 : decode cX7_difference 41 = .ok (.iaload, 1) := by decide +kernel
theorem dX7_difference_42 : decode cX7_difference 42 = .ok (.ifCond .ne 7, 3) := by decide +kernel
theorem dX7_difference_45 : decode cX7_difference 45 = .ok (.iconst 2, 1) := by decide +kernel
theorem dX7_difference_46 : decode cX7_difference 46 = .ok (.goto 4, 3) := by decide +kernel
theorem dX7_difference_49 : decode cX7_difference 49 = .ok (.iconst 0, 1) := by decide +kernel
theorem dX7_difference_50 : decode cX7_difference 50 = .ok (.putfield 23, 3) := by decide +kernel
theorem dX7_difference_53 : decode cX7_difference 53 = .ok (.aload_n 0, 1) := by decide +kernel
theorem dX7_difference_54 : decode cX7_difference 54 = .ok (.getfield 23, 3) := by decide +kernel
theorem dX7_difference_57 : decode cX7_difference 57 = .ok (.ifCond .le 5, 3) := by decide +kernel
theorem dX7_difference_60 : decode cX7_difference 60 = .ok (.iconst 0, 1) := by decide +kernel
theorem dX7_difference_61 : decode cX7_difference 61 = .ok (.ireturn, 1) := by decide +kernel
theorem dX7_difference_62 : decode cX7_difference 62 = .ok (.iconst 0, 1) := by decide +kernel
theorem dX7_difference_63 : decode cX7_difference 63 = .ok (.istore_n 3, 1) := by decide +kernel
theorem dX7_difference_64 : decode cX7_difference 64 = .ok (.iconst 0, 1) := by decide +kernel
theorem dX7_difference_65 : decode cX7_difference 65 = .ok (.istore 4, 2) := by decide +kernel
theorem dX7_difference_67 : decode cX7_difference 67 = .ok (.iload 4, 2) := by decide +kernel
theorem dX7_difference_69 : decode cX7_difference 69 = .ok (.bipush 24, 2) := by decide +kernel
theorem dX7_difference_71 : decode cX7_difference 71 = .ok (.if_icmp .ge 34, 3) := by decide +kernel
theorem dX7_difference_74 : decode cX7_difference 74 = .ok (.iload_n 3, 1) := by decide +kernel
theorem dX7_difference_75 : decode cX7_difference 75 = .ok (.aload_n 0, 1) := by decide +kernel
theorem dX7_difference_76 : decode cX7_difference 76 = .ok (.iload_n 1, 1) := by decide +kernel
theorem dX7_difference_77 : decode cX7_difference 77 = .ok (.iload 4, 2) := by decide +kernel
theorem dX7_difference_79 : decode cX7_difference 79 = .ok (.invokevirtual 70, 3) := by decide +kernel
theorem dX7_difference_82 : decode cX7_difference 82 = .ok (.aload_n 0, 1) := by decide +kernel
theorem dX7_difference_83 : decode cX7_difference 83 = .ok (.iload_n 2, 1) := by decide +kernel
theorem dX7_difference_84 : decode cX7_difference 84 = .ok (.iload 4, 2) := by decide +kernel
theorem dX7_difference_86 : decode cX7_difference 86 = .ok (.invokevirtual 70, 3) := by decide +kernel
theorem dX7_difference_89 : decode cX7_difference 89 = .ok (.if_icmp .ne 7, 3) := by decide +kernel
theorem dX7_difference_92 : decode cX7_difference 92 = .ok (.iconst 0, 1) := by decide +kernel
theorem dX7_difference_93 : decode cX7_difference 93 = .ok (.goto 4, 3) := by decide +kernel
theorem dX7_difference_96 : decode cX7_difference 96 = .ok (.iconst 1, 1) := by decide +kernel
theorem dX7_difference_97 : decode cX7_difference 97 = .ok (.iadd, 1) := by decide +kernel
theorem dX7_difference_98 : decode cX7_difference 98 = .ok (.istore_n 3, 1) := by decide +kernel
theorem dX7_difference_99 : decode cX7_difference 99 = .ok (.iinc 4 1, 3) := by decide +kernel
theorem dX7_difference_102 : decode cX7_difference 102 = .ok (.goto (-35), 3) := by decide +kernel
theorem dX7_difference_105 : decode cX7_difference 105 = .ok (.iload_n 3, 1) := by decide +kernel
theorem dX7_difference_106 : decode cX7_difference 106 = .ok (.ireturn, 1) := by decide +kernel
set_option maxRecDepth 20000 in
theorem ggX7_isReader_X7_isIn : GoodIn wsX7_isReader wsX7_isIn := goodIn_r _ [5] (by first | rfl | decide +kernel) (by decide +kernel)
set_option maxRecDepth 20000 in
theorem gX7_isReader_X7_isIn : GoodIn wsX7_isReader (va_wsS RX7 34 yX7_isIn wsX7_isIn) := goodIn_app (goodIn_of _ (by decide +kernel)) ggX7_isReader_X7_isIn
theorem dX7_isReader_0 : decode cX7_isReader 0 = .ok (.iload_n 0, 1) := by decide +kernel
theorem dX7_isReader_1 : decode cX7_isReader 1 = .ok (.i2l, 1) := by decide +kernel
theorem dX7_isReader_2 : decode cX7_isReader 2 = .ok (.lconst 0, 1) := by decide +kernel
theorem dX7_isReader_3 : decode cX7_isReader 3 = .ok (.ldc2_w 119, 3) := by decide +kernel
theorem dX7_isReader_6 : decode cX7_isReader 6 = .ok (.invokestatic 34, 3) := by decide +kernel
theorem dX7_isReader_9 : decode cX7_isReader 9 = .ok (.ireturn, 1) := by decide +kernel
theorem dX7_ofReader_0 : decode cX7_ofReader 0 = .ok (.aload_n 0, 1) := by decide +kernel
theorem dX7_ofReader_1 : decode cX7_ofReader 1 = .ok (.getfield 7, 3) := by decide +kernel
theorem dX7_ofReader_4 : decode cX7_ofReader 4 = .ok (.sipush 964, 3) := by decide +kernel
theorem dX7_ofReader_7 : decode cX7_ofReader 7 = .ok (.bipush 12, 2) := by decide +kernel
theorem dX7_ofReader_9 : decode cX7_ofReader 9 = .ok (.iload_n 1, 1) := by decide +kernel
theorem dX7_ofReader_10 : decode cX7_ofReader 10 = .ok (.imul, 1) := by decide +kernel
theorem dX7_ofReader_11 : decode cX7_ofReader 11 = .ok (.iadd, 1) := by decide +kernel
theorem dX7_ofReader_12 : decode cX7_ofReader 12 = .ok (.iload_n 2, 1) := by decide +kernel
theorem dX7_ofReader_13 : decode cX7_ofReader 13 = .ok (.iadd, 1) := by decide +kernel
theorem dX7_ofReader_14 : decode cX7_ofReader 14 = .ok (.iaload, 1) := by decide +kernel
theorem dX7_ofReader_15 : decode cX7_ofReader 15 = .ok (.ireturn, 1) := by decide +kernel
theorem dX7_setReader_0 : decode cX7_setReader 0 = .ok (.aload_n 0, 1) := by decide +kernel
theorem dX7_setReader_1 : decode cX7_setReader 1 = .ok (.getfield 7, 3) := by decide +kernel
theorem dX7_setReader_4 : decode cX7_setReader 4 = .ok (.sipush 964, 3) := by decide +kernel
theorem dX7_setReader_7 : decode cX7_setReader 7 = .ok (.bipush 12, 2) := by decide +kernel
theorem dX7_setReader_9 : decode cX7_setReader 9 = .ok (.iload_n 1, 1) := by decide +kernel
theorem dX7_setReader_10 : decode cX7_setReader 10 = .ok (.imul, 1) := by decide +kernel
theorem dX7_setReader_11 : decode cX7_setReader 11 = .ok (.iadd, 1) := by decide +kernel
theorem dX7_setReader_12 : decode cX7_setReader 12 = .ok (.iload_n 2, 1) := by decide +kernel
theorem dX7_setReader_13 : decode cX7_setReader 13 = .ok (.iadd, 1) := by decide +kernel
theorem dX7_setReader_14 : decode cX7_setReader 14 = .ok (.iload_n 3, 1) := by decide +kernel
theorem dX7_setReader_15 : decode cX7_setReader 15 = .ok (.iastore, 1) := by decide +kernel
theorem dX7_setReader_16 : decode cX7_setReader 16 = .ok (.return_, 1) := by decide +kernel
set_option maxRecDepth 20000 in
theorem ggX7_isInside_X7_ofReader : GoodIn wsX7_isInside wsX7_ofReader := goodIn_r _ [5, 6, 7, 8, 9, 10, 11] (by first | rfl | decide +kernel) (by decide +kernel)
set_option maxRecDepth 20000 in
theorem gX7_isInside_X7_ofReader : GoodIn wsX7_isInside (wsV RX7 121 RX7 yX7_ofReader wsX7_ofReader) := goodIn_app (goodIn_of _ (by decide +kernel)) ggX7_isInside_X7_ofReader
theorem dX7_isInside_0 : decode cX7_isInside 0 = .ok (.aload_n 0, 1) := by decide +kernel
theorem dX7_isInside_1 : decode cX7_isInside 1 = .ok (.iload_n 1, 1) := by decide +kernel
theorem dX7_isInside_2 : decode cX7_isInside 2 = .ok (.iconst 0, 1) := by decide +kernel
theorem dX7_isInside_3 : decode cX7_isInside 3 = .ok (.invokevirtual 121, 3) := by decide +kernel
theorem dX7_isInside_6 : decode cX7_isInside 6 = .ok (.iconst 1, 1) := by decide +kernel
theorem dX7_isInside_7 : decode cX7_isInside 7 = .ok (.if_icmp .ne 7, 3) := by decide +kernel
theorem dX7_isInside_10 : decode cX7_isInside 10 = .ok (.iconst 1, 1) := by decide +kernel
theorem dX7_isInside_11 : decode cX7_isInside 11 = .ok (.goto 4, 3) := by decide +kernel
theorem dX7_isInside_14 : decode cX7_isInside 14 = .ok (.iconst 0, 1) := by decide +kernel
theorem dX7_isInside_15 : decode cX7_isInside 15 = .ok (.ireturn, 1) := by decide +kernel
set_option maxRecDepth 20000 in
theorem ggX7_holds_X7_ofReader : GoodIn wsX7_holds wsX7_ofReader := goodIn_r _ [5, 6, 7, 8, 9, 10, 11] (by first | rfl | decide +kernel) (by decide +kernel)
set_option maxRecDepth 20000 in
theorem gX7_holds_X7_ofReader : GoodIn wsX7_holds (wsV RX7 121 RX7 yX7_ofReader wsX7_ofReader) := goodIn_app (goodIn_of _ (by decide +kernel)) ggX7_holds_X7_ofReader
theorem dX7_holds_0 : decode cX7_holds 0 = .ok (.aload_n 0, 1) := by decide +kernel
theorem dX7_holds_1 : decode cX7_holds 1 = .ok (.iload_n 1, 1) := by decide +kernel
theorem dX7_holds_2 : decode cX7_holds 2 = .ok (.iconst 2, 1) := by decide +kernel
theorem dX7_holds_3 : decode cX7_holds 3 = .ok (.iload_n 2, 1) := by decide +kernel
theorem dX7_holds_4 : decode cX7_holds 4 = .ok (.bipush 16, 2) := by decide +kernel
theorem dX7_holds_6 : decode cX7_holds 6 = .ok (.idiv, 1) := by decide +kernel
theorem dX7_holds_7 : decode cX7_holds 7 = .ok (.iadd, 1) := by decide +kernel
theorem dX7_holds_8 : decode cX7_holds 8 = .ok (.invokevirtual 121, 3) := by decide +kernel
theorem dX7_holds_11 : decode cX7_holds 11 = .ok (.iload_n 2, 1) := by decide +kernel
theorem dX7_holds_12 : decode cX7_holds 12 = .ok (.bipush 16, 2) := by decide +kernel
theorem dX7_holds_14 : decode cX7_holds 14 = .ok (.irem, 1) := by decide +kernel
theorem dX7_holds_15 : decode cX7_holds 15 = .ok (.ishr, 1) := by decide +kernel
theorem dX7_holds_16 : decode cX7_holds 16 = .ok (.iconst 1, 1) := by decide +kernel
theorem dX7_holds_17 : decode cX7_holds 17 = .ok (.iand, 1) := by decide +kernel
theorem dX7_holds_18 : decode cX7_holds 18 = .ok (.iconst 1, 1) := by decide +kernel
theorem dX7_holds_19 : decode cX7_holds 19 = .ok (.if_icmp .ne 7, 3) := by decide +kernel
theorem dX7_holds_22 : decode cX7_holds 22 = .ok (.iconst 1, 1) := by decide +kernel
theorem dX7_holds_23 : decode cX7_holds 23 = .ok (.goto 4, 3) := by decide +kernel
theorem dX7_holds_26 : decode cX7_holds 26 = .ok (.iconst 0, 1) := by decide +kernel
theorem dX7_holds_27 : decode cX7_holds 27 = .ok (.ireturn, 1) := by decide +kernel
set_option maxRecDepth 20000 in
theorem ggX7_heldBy_X7_ofReader : GoodIn wsX7_heldBy wsX7_ofReader := goodIn_r _ [5, 6, 14, 15, 16, 17, 18] (by first | rfl | decide +kernel) (by decide +kernel)
set_option maxRecDepth 20000 in
theorem gX7_heldBy_X7_ofReader : GoodIn wsX7_heldBy (wsV RX7 121 RX7 yX7_ofReader wsX7_ofReader) := goodIn_app (goodIn_of _ (by decide +kernel)) ggX7_heldBy_X7_ofReader
set_option maxRecDepth 20000 in
theorem ggX7_heldBy_J6_bitCount_0f7a4 : GoodIn wsX7_heldBy wsJ6_bitCount_0f7a4 := goodIn_r _ [10, 11, 12, 13] (by first | rfl | decide +kernel) (by decide +kernel)
set_option maxRecDepth 20000 in
theorem gX7_heldBy_J6_bitCount_0f7a4 : GoodIn wsX7_heldBy (va_wsS RX7 124 yJ6_bitCount_0f7a4 wsJ6_bitCount_0f7a4) := goodIn_app (goodIn_of _ (by decide +kernel)) ggX7_heldBy_J6_bitCount_0f7a4
theorem dX7_heldBy_0 : decode cX7_heldBy 0 = .ok (.iconst 0, 1) := by decide +kernel
theorem dX7_heldBy_1 : decode cX7_heldBy 1 = .ok (.istore_n 2, 1) := by decide +kernel
theorem dX7_heldBy_2 : decode cX7_heldBy 2 = .ok (.iconst 0, 1) := by decide +kernel
theorem dX7_heldBy_3 : decode cX7_heldBy 3 = .ok (.istore_n 3, 1) := by decide +kernel
theorem dX7_heldBy_4 : decode cX7_heldBy 4 = .ok (.iload_n 3, 1) := by decide +kernel
theorem dX7_heldBy_5 : decode cX7_heldBy 5 = .ok (.bipush 10, 2) := by decide +kernel
theorem dX7_heldBy_7 : decode cX7_heldBy 7 = .ok (.if_icmp .ge 23, 3) := by decide +kernel
theorem dX7_heldBy_10 : decode cX7_heldBy 10 = .ok (.iload_n 2, 1) := by decide +kernel
theorem dX7_heldBy_11 : decode cX7_heldBy 11 = .ok (.aload_n 0, 1) := by decide +kernel
theorem dX7_heldBy_12 : decode cX7_heldBy 12 = .ok (.iload_n 1, 1) := by decide +kernel
theorem dX7_heldBy_13 : decode cX7_heldBy 13 = .ok (.iconst 2, 1) := by decide +kernel
theorem dX7_heldBy_14 : decode cX7_heldBy 14 = .ok (.iload_n 3, 1) := by decide +kernel
theorem dX7_heldBy_15 : decode cX7_heldBy 15 = .ok (.iadd, 1) := by decide +kernel
theorem dX7_heldBy_16 : decode cX7_heldBy 16 = .ok (.invokevirtual 121, 3) := by decide +kernel
theorem dX7_heldBy_19 : decode cX7_heldBy 19 = .ok (.invokestatic 124, 3) := by decide +kernel
theorem dX7_heldBy_22 : decode cX7_heldBy 22 = .ok (.iadd, 1) := by decide +kernel
theorem dX7_heldBy_23 : decode cX7_heldBy 23 = .ok (.istore_n 2, 1) := by decide +kernel
theorem dX7_heldBy_24 : decode cX7_heldBy 24 = .ok (.iinc 3 1, 3) := by decide +kernel
theorem dX7_heldBy_27 : decode cX7_heldBy 27 = .ok (.goto (-23), 3) := by decide +kernel
theorem dX7_heldBy_30 : decode cX7_heldBy 30 = .ok (.iload_n 2, 1) := by decide +kernel
theorem dX7_heldBy_31 : decode cX7_heldBy 31 = .ok (.ireturn, 1) := by decide +kernel
set_option maxRecDepth 20000 in
theorem ggX7_lets_X7_heldBy : GoodIn wsX7_lets wsX7_heldBy := goodIn_r _ [6, 7, 8, 9, 5, 10, 1, 11, 12, 13, 14, 15, 16, 17, 22, 23, 24, 25, 26] (by first | rfl | decide +kernel) (by decide +kernel)
set_option maxRecDepth 20000 in
theorem gX7_lets_X7_heldBy : GoodIn wsX7_lets (wsV RX7 129 RX7 yX7_heldBy wsX7_heldBy) := goodIn_app (goodIn_of _ (by decide +kernel)) ggX7_lets_X7_heldBy
set_option maxRecDepth 20000 in
theorem ggX7_lets_X7_setReader : GoodIn wsX7_lets wsX7_setReader := goodIn_r _ [21, 1, 22, 23, 24, 25, 26] (by first | rfl | decide +kernel) (by decide +kernel)
set_option maxRecDepth 20000 in
theorem gX7_lets_X7_setReader : GoodIn wsX7_lets (wsV RX7 132 RX7 yX7_setReader wsX7_setReader) := goodIn_app (goodIn_of _ (by decide +kernel)) ggX7_lets_X7_setReader
theorem dX7_lets_0 : decode cX7_lets 0 = .ok (.aload_n 0, 1) := by decide +kernel
theorem dX7_lets_1 : decode cX7_lets 1 = .ok (.iload_n 1, 1) := by decide +kernel
theorem dX7_lets_2 : decode cX7_lets 2 = .ok (.invokevirtual 129, 3) := by decide +kernel
theorem dX7_lets_5 : decode cX7_lets 5 = .ok (.istore_n 3, 1) := by decide +kernel
theorem dX7_lets_6 : decode cX7_lets 6 = .ok (.iconst 0, 1) := by decide +kernel
theorem dX7_lets_7 : decode cX7_lets 7 = .ok (.istore 4, 2) := by decide +kernel
theorem dX7_lets_9 : decode cX7_lets 9 = .ok (.iload 4, 2) := by decide +kernel
theorem dX7_lets_11 : decode cX7_lets 11 = .ok (.bipush 10, 2) := by decide +kernel
theorem dX7_lets_13 : decode cX7_lets 13 = .ok (.if_icmp .ge 19, 3) := by decide +kernel
theorem dX7_lets_16 : decode cX7_lets 16 = .ok (.aload_n 0, 1) := by decide +kernel
theorem dX7_lets_17 : decode cX7_lets 17 = .ok (.iload_n 1, 1) := by decide +kernel
theorem dX7_lets_18 : decode cX7_lets 18 = .ok (.iconst 2, 1) := by decide +kernel
theorem dX7_lets_19 : decode cX7_lets 19 = .ok (.iload 4, 2) := by decide +kernel
theorem dX7_lets_21 : decode cX7_lets 21 = .ok (.iadd, 1) := by decide +kernel
theorem dX7_lets_22 : decode cX7_lets 22 = .ok (.iconst 0, 1) := by decide +kernel
theorem dX7_lets_23 : decode cX7_lets 23 = .ok (.invokevirtual 132, 3) := by decide +kernel
theorem dX7_lets_26 : decode cX7_lets 26 = .ok (.iinc 4 1, 3) := by decide +kernel
theorem dX7_lets_29 : decode cX7_lets 29 = .ok (.goto (-20), 3) := by decide +kernel
theorem dX7_lets_32 : decode cX7_lets 32 = .ok (.aload_n 0, 1) := by decide +kernel
theorem dX7_lets_33 : decode cX7_lets 33 = .ok (.iload_n 1, 1) := by decide +kernel
theorem dX7_lets_34 : decode cX7_lets 34 = .ok (.iconst 0, 1) := by decide +kernel
theorem dX7_lets_35 : decode cX7_lets 35 = .ok (.iload_n 2, 1) := by decide +kernel
theorem dX7_lets_36 : decode cX7_lets 36 = .ok (.invokevirtual 132, 3) := by decide +kernel
theorem dX7_lets_39 : decode cX7_lets 39 = .ok (.aload_n 0, 1) := by decide +kernel
theorem dX7_lets_40 : decode cX7_lets 40 = .ok (.iload_n 1, 1) := by decide +kernel
theorem dX7_lets_41 : decode cX7_lets 41 = .ok (.iconst 1, 1) := by decide +kernel
theorem dX7_lets_42 : decode cX7_lets 42 = .ok (.aload_n 0, 1) := by decide +kernel
theorem dX7_lets_43 : decode cX7_lets 43 = .ok (.getfield 7, 3) := by decide +kernel
theorem dX7_lets_46 : decode cX7_lets 46 = .ok (.iconst 3, 1) := by decide +kernel
theorem dX7_lets_47 : decode cX7_lets 47 = .ok (.iaload, 1) := by decide +kernel
theorem dX7_lets_48 : decode cX7_lets 48 = .ok (.invokevirtual 132, 3) := by decide +kernel
theorem dX7_lets_51 : decode cX7_lets 51 = .ok (.iload_n 3, 1) := by decide +kernel
theorem dX7_lets_52 : decode cX7_lets 52 = .ok (.ireturn, 1) := by decide +kernel
set_option maxRecDepth 20000 in
theorem ggX7_enter_X7_isReader : GoodIn wsX7_enter wsX7_isReader := goodIn_r _ [6, 7, 8, 9, 5, 10] (by first | rfl | decide +kernel) (by decide +kernel)
set_option maxRecDepth 20000 in
theorem gX7_enter_X7_isReader : GoodIn wsX7_enter (va_wsS RX7 135 yX7_isReader wsX7_isReader) := goodIn_app (goodIn_of _ (by decide +kernel)) ggX7_enter_X7_isReader
set_option maxRecDepth 20000 in
theorem ggX7_enter_X7_isInside : GoodIn wsX7_enter wsX7_isInside := goodIn_r _ [14, 15, 16, 17, 5, 18, 2, 44, 45, 46, 47, 48] (by first | rfl | decide +kernel) (by decide +kernel)
set_option maxRecDepth 20000 in
theorem gX7_enter_X7_isInside : GoodIn wsX7_enter (wsV RX7 138 RX7 yX7_isInside wsX7_isInside) := goodIn_app (goodIn_of _ (by decide +kernel)) ggX7_enter_X7_isInside
set_option maxRecDepth 20000 in
theorem ggX7_enter_X7_keeps : GoodIn wsX7_enter wsX7_keeps := goodIn_r _ [22, 23, 24, 2, 44, 45, 46, 47, 48] (by first | rfl | decide +kernel) (by decide +kernel)
set_option maxRecDepth 20000 in
theorem gX7_enter_X7_keeps : GoodIn wsX7_enter (wsV RX7 44 RX7 yX7_keeps wsX7_keeps) := goodIn_app (goodIn_of _ (by decide +kernel)) ggX7_enter_X7_keeps
set_option maxRecDepth 20000 in
theorem ggX7_enter_X7_lets : GoodIn wsX7_enter wsX7_lets := goodIn_r _ [28, 2, 29, 30, 31, 5, 32, 15, 16, 17, 18, 33, 34, 35, 36, 37, 38, 39, 40, 41, 42, 43, 44, 45, 46, 47, 48] (by first | rfl | decide +kernel) (by decide +kernel)
set_option maxRecDepth 20000 in
theorem gX7_enter_X7_lets : GoodIn wsX7_enter (wsV RX7 141 RX7 yX7_lets wsX7_lets) := goodIn_app (goodIn_of _ (by decide +kernel)) ggX7_enter_X7_lets
theorem dX7_enter_0 : decode cX7_enter 0 = .ok (.aload_n 0, 1) := by decide +kernel
theorem dX7_enter_1 : decode cX7_enter 1 = .ok (.iload_n 1, 1) := by decide +kernel
theorem dX7_enter_2 : decode cX7_enter 2 = .ok (.invokestatic 135, 3) := by decide +kernel
theorem dX7_enter_5 : decode cX7_enter 5 = .ok (.ifCond .ne 7, 3) := by decide +kernel
theorem dX7_enter_8 : decode cX7_enter 8 = .ok (.iconst 1, 1) := by decide +kernel
theorem dX7_enter_9 : decode cX7_enter 9 = .ok (.goto 16, 3) := by decide +kernel
theorem dX7_enter_12 : decode cX7_enter 12 = .ok (.aload_n 0, 1) := by decide +kernel
theorem dX7_enter_13 : decode cX7_enter 13 = .ok (.iload_n 1, 1) := by decide +kernel
theorem dX7_enter_14 : decode cX7_enter 14 = .ok (.invokevirtual 138, 3) := by decide +kernel
theorem dX7_enter_17 : decode cX7_enter 17 = .ok (.ifCond .eq 7, 3) := by decide +kernel
theorem dX7_enter_20 : decode cX7_enter 20 = .ok (.iconst 2, 1) := by decide +kernel
theorem dX7_enter_21 : decode cX7_enter 21 = .ok (.goto 4, 3) := by decide +kernel
theorem dX7_enter_24 : decode cX7_enter 24 = .ok (.iconst 0, 1) := by decide +kernel
theorem dX7_enter_25 : decode cX7_enter 25 = .ok (.putfield 23, 3) := by decide +kernel
theorem dX7_enter_28 : decode cX7_enter 28 = .ok (.aload_n 0, 1) := by decide +kernel
theorem dX7_enter_29 : decode cX7_enter 29 = .ok (.getfield 23, 3) := by decide +kernel
theorem dX7_enter_32 : decode cX7_enter 32 = .ok (.ifCond .le 5, 3) := by decide +kernel
theorem dX7_enter_35 : decode cX7_enter 35 = .ok (.iconst 0, 1) := by decide +kernel
theorem dX7_enter_36 : decode cX7_enter 36 = .ok (.ireturn, 1) := by decide +kernel
theorem dX7_enter_37 : decode cX7_enter 37 = .ok (.aload_n 0, 1) := by decide +kernel
theorem dX7_enter_38 : decode cX7_enter 38 = .ok (.invokevirtual 44, 3) := by decide +kernel
theorem dX7_enter_41 : decode cX7_enter 41 = .ok (.aload_n 0, 1) := by decide +kernel
theorem dX7_enter_42 : decode cX7_enter 42 = .ok (.iload_n 1, 1) := by decide +kernel
theorem dX7_enter_43 : decode cX7_enter 43 = .ok (.iconst 1, 1) := by decide +kernel
theorem dX7_enter_44 : decode cX7_enter 44 = .ok (.invokevirtual 141, 3) := by decide +kernel
theorem dX7_enter_47 : decode cX7_enter 47 = .ok (.istore_n 2, 1) := by decide +kernel
theorem dX7_enter_48 : decode cX7_enter 48 = .ok (.aload_n 0, 1) := by decide +kernel
theorem dX7_enter_49 : decode cX7_enter 49 = .ok (.getfield 7, 3) := by decide +kernel
theorem dX7_enter_52 : decode cX7_enter 52 = .ok (.iconst 3, 1) := by decide +kernel
theorem dX7_enter_53 : decode cX7_enter 53 = .ok (.iaload, 1) := by decide +kernel
theorem dX7_enter_54 : decode cX7_enter 54 = .ok (.ireturn, 1) := by decide +kernel
set_option maxRecDepth 20000 in
theorem ggX7_leave_X7_isReader : GoodIn wsX7_leave wsX7_isReader := goodIn_r _ [5, 6, 7, 8, 4, 9] (by first | rfl | decide +kernel) (by decide +kernel)
set_option maxRecDepth 20000 in
theorem gX7_leave_X7_isReader : GoodIn wsX7_leave (va_wsS RX7 135 yX7_isReader wsX7_isReader) := goodIn_app (goodIn_of _ (by decide +kernel)) ggX7_leave_X7_isReader
set_option maxRecDepth 20000 in
theorem ggX7_leave_X7_ofReader : GoodIn wsX7_leave wsX7_ofReader := goodIn_r _ [13, 14, 40, 41, 42, 43, 44] (by first | rfl | decide +kernel) (by decide +kernel)
set_option maxRecDepth 20000 in
theorem gX7_leave_X7_ofReader : GoodIn wsX7_leave (wsV RX7 121 RX7 yX7_ofReader wsX7_ofReader) := goodIn_app (goodIn_of _ (by decide +kernel)) ggX7_leave_X7_ofReader
set_option maxRecDepth 20000 in
theorem ggX7_leave_X7_keeps : GoodIn wsX7_leave wsX7_keeps := goodIn_r _ [18, 19, 20, 14, 40, 41, 42, 43, 44] (by first | rfl | decide +kernel) (by decide +kernel)
set_option maxRecDepth 20000 in
theorem gX7_leave_X7_keeps : GoodIn wsX7_leave (wsV RX7 44 RX7 yX7_keeps wsX7_keeps) := goodIn_app (goodIn_of _ (by decide +kernel)) ggX7_leave_X7_keeps
set_option maxRecDepth 20000 in
theorem ggX7_leave_X7_lets : GoodIn wsX7_leave wsX7_lets := goodIn_r _ [24, 14, 25, 26, 27, 4, 28, 10, 11, 12, 13, 29, 30, 31, 32, 33, 34, 35, 36, 37, 38, 39, 40, 41, 42, 43, 44] (by first | rfl | decide +kernel) (by decide +kernel)
set_option maxRecDepth 20000 in
theorem gX7_leave_X7_lets : GoodIn wsX7_leave (wsV RX7 141 RX7 yX7_lets wsX7_lets) := goodIn_app (goodIn_of _ (by decide +kernel)) ggX7_leave_X7_lets
theorem dX7_leave_0 : decode cX7_leave 0 = .ok (.aload_n 0, 1) := by decide +kernel
theorem dX7_leave_1 : decode cX7_leave 1 = .ok (.iload_n 1, 1) := by decide +kernel
theorem dX7_leave_2 : decode cX7_leave 2 = .ok (.invokestatic 135, 3) := by decide +kernel
theorem dX7_leave_5 : decode cX7_leave 5 = .ok (.ifCond .ne 7, 3) := by decide +kernel
theorem dX7_leave_8 : decode cX7_leave 8 = .ok (.iconst 1, 1) := by decide +kernel
theorem dX7_leave_9 : decode cX7_leave 9 = .ok (.goto 17, 3) := by decide +kernel
theorem dX7_leave_12 : decode cX7_leave 12 = .ok (.aload_n 0, 1) := by decide +kernel
theorem dX7_leave_13 : decode cX7_leave 13 = .ok (.iload_n 1, 1) := by decide +kernel
theorem dX7_leave_14 : decode cX7_leave 14 = .ok (.iconst 0, 1) := by decide +kernel
theorem dX7_leave_15 : decode cX7_leave 15 = .ok (.invokevirtual 121, 3) := by decide +kernel
theorem dX7_leave_18 : decode cX7_leave 18 = .ok (.ifCond .ne 7, 3) := by decide +kernel
theorem dX7_leave_21 : decode cX7_leave 21 = .ok (.iconst 2, 1) := by decide +kernel
theorem dX7_leave_22 : decode cX7_leave 22 = .ok (.goto 4, 3) := by decide +kernel
theorem dX7_leave_25 : decode cX7_leave 25 = .ok (.iconst 0, 1) := by decide +kernel
theorem dX7_leave_26 : decode cX7_leave 26 = .ok (.putfield 23, 3) := by decide +kernel
theorem dX7_leave_29 : decode cX7_leave 29 = .ok (.aload_n 0, 1) := by decide +kernel
theorem dX7_leave_30 : decode cX7_leave 30 = .ok (.getfield 23, 3) := by decide +kernel
theorem dX7_leave_33 : decode cX7_leave 33 = .ok (.ifCond .le 5, 3) := by decide +kernel
theorem dX7_leave_36 : decode cX7_leave 36 = .ok (.iconst 0, 1) := by decide +kernel
theorem dX7_leave_37 : decode cX7_leave 37 = .ok (.ireturn, 1) := by decide +kernel
theorem dX7_leave_38 : decode cX7_leave 38 = .ok (.aload_n 0, 1) := by decide +kernel
theorem dX7_leave_39 : decode cX7_leave 39 = .ok (.invokevirtual 44, 3) := by decide +kernel
theorem dX7_leave_42 : decode cX7_leave 42 = .ok (.aload_n 0, 1) := by decide +kernel
theorem dX7_leave_43 : decode cX7_leave 43 = .ok (.iload_n 1, 1) := by decide +kernel
theorem dX7_leave_44 : decode cX7_leave 44 = .ok (.iconst 0, 1) := by decide +kernel
theorem dX7_leave_45 : decode cX7_leave 45 = .ok (.invokevirtual 141, 3) := by decide +kernel
theorem dX7_leave_48 : decode cX7_leave 48 = .ok (.ireturn, 1) := by decide +kernel
set_option maxRecDepth 20000 in
theorem ggX7_announce_X7_isReader : GoodIn wsX7_announce wsX7_isReader := goodIn_r _ [5, 6, 7, 8, 4, 9] (by first | rfl | decide +kernel) (by decide +kernel)
set_option maxRecDepth 20000 in
theorem gX7_announce_X7_isReader : GoodIn wsX7_announce (va_wsS RX7 135 yX7_isReader wsX7_isReader) := goodIn_app (goodIn_of _ (by decide +kernel)) ggX7_announce_X7_isReader
set_option maxRecDepth 20000 in
theorem ggX7_announce_X7_isInside : GoodIn wsX7_announce wsX7_isInside := goodIn_r _ [13, 14, 15, 16, 4, 17, 18, 44, 45, 46, 47, 48] (by first | rfl | decide +kernel) (by decide +kernel)
set_option maxRecDepth 20000 in
theorem gX7_announce_X7_isInside : GoodIn wsX7_announce (wsV RX7 138 RX7 yX7_isInside wsX7_isInside) := goodIn_app (goodIn_of _ (by decide +kernel)) ggX7_announce_X7_isInside
set_option maxRecDepth 20000 in
theorem ggX7_announce_X7_keeps : GoodIn wsX7_announce wsX7_keeps := goodIn_r _ [22, 23, 24, 18, 44, 45, 46, 47, 48] (by first | rfl | decide +kernel) (by decide +kernel)
set_option maxRecDepth 20000 in
theorem gX7_announce_X7_keeps : GoodIn wsX7_announce (wsV RX7 44 RX7 yX7_keeps wsX7_keeps) := goodIn_app (goodIn_of _ (by decide +kernel)) ggX7_announce_X7_keeps
set_option maxRecDepth 20000 in
theorem ggX7_announce_X7_lets : GoodIn wsX7_announce wsX7_lets := goodIn_r _ [28, 18, 29, 30, 31, 4, 32, 14, 15, 16, 17, 33, 34, 35, 36, 37, 38, 39, 40, 41, 42, 43, 44, 45, 46, 47, 48] (by first | rfl | decide +kernel) (by decide +kernel)
set_option maxRecDepth 20000 in
theorem gX7_announce_X7_lets : GoodIn wsX7_announce (wsV RX7 141 RX7 yX7_lets wsX7_lets) := goodIn_app (goodIn_of _ (by decide +kernel)) ggX7_announce_X7_lets
theorem dX7_announce_0 : decode cX7_announce 0 = .ok (.aload_n 0, 1) := by decide +kernel
theorem dX7_announce_1 : decode cX7_announce 1 = .ok (.iload_n 1, 1) := by decide +kernel
theorem dX7_announce_2 : decode cX7_announce 2 = .ok (.invokestatic 135, 3) := by decide +kernel
theorem dX7_announce_5 : decode cX7_announce 5 = .ok (.ifCond .ne 7, 3) := by decide +kernel
theorem dX7_announce_8 : decode cX7_announce 8 = .ok (.iconst 1, 1) := by decide +kernel
theorem dX7_announce_9 : decode cX7_announce 9 = .ok (.goto 16, 3) := by decide +kernel
theorem dX7_announce_12 : decode cX7_announce 12 = .ok (.aload_n 0, 1) := by decide +kernel
theorem dX7_announce_13 : decode cX7_announce 13 = .ok (.iload_n 1, 1) := by decide +kernel
theorem dX7_announce_14 : decode cX7_announce 14 = .ok (.invokevirtual 138, 3) := by decide +kernel
theorem dX7_announce_17 : decode cX7_announce 17 = .ok (.ifCond .ne 7, 3) := by decide +kernel
theorem dX7_announce_20 : decode cX7_announce 20 = .ok (.iconst 2, 1) := by decide +kernel
theorem dX7_announce_21 : decode cX7_announce 21 = .ok (.goto 4, 3) := by decide +kernel
theorem dX7_announce_24 : decode cX7_announce 24 = .ok (.iconst 0, 1) := by decide +kernel
theorem dX7_announce_25 : decode cX7_announce 25 = .ok (.putfield 23, 3) := by decide +kernel
theorem dX7_announce_28 : decode cX7_announce 28 = .ok (.aload_n 0, 1) := by decide +kernel
theorem dX7_announce_29 : decode cX7_announce 29 = .ok (.getfield 23, 3) := by decide +kernel
theorem dX7_announce_32 : decode cX7_announce 32 = .ok (.ifCond .le 5, 3) := by decide +kernel
theorem dX7_announce_35 : decode cX7_announce 35 = .ok (.iconst 0, 1) := by decide +kernel
theorem dX7_announce_36 : decode cX7_announce 36 = .ok (.ireturn, 1) := by decide +kernel
theorem dX7_announce_37 : decode cX7_announce 37 = .ok (.aload_n 0, 1) := by decide +kernel
theorem dX7_announce_38 : decode cX7_announce 38 = .ok (.invokevirtual 44, 3) := by decide +kernel
theorem dX7_announce_41 : decode cX7_announce 41 = .ok (.aload_n 0, 1) := by decide +kernel
theorem dX7_announce_42 : decode cX7_announce 42 = .ok (.iload_n 1, 1) := by decide +kernel
theorem dX7_announce_43 : decode cX7_announce 43 = .ok (.iconst 1, 1) := by decide +kernel
theorem dX7_announce_44 : decode cX7_announce 44 = .ok (.invokevirtual 141, 3) := by decide +kernel
theorem dX7_announce_47 : decode cX7_announce 47 = .ok (.ireturn, 1) := by decide +kernel
set_option maxRecDepth 20000 in
theorem ggX7_hold_X7_isReader : GoodIn wsX7_hold wsX7_isReader := goodIn_r _ [6, 7, 8, 9, 5, 10] (by first | rfl | decide +kernel) (by decide +kernel)
set_option maxRecDepth 20000 in
theorem gX7_hold_X7_isReader : GoodIn wsX7_hold (va_wsS RX7 135 yX7_isReader wsX7_isReader) := goodIn_app (goodIn_of _ (by decide +kernel)) ggX7_hold_X7_isReader
set_option maxRecDepth 20000 in
theorem ggX7_hold_X7_isKey : GoodIn wsX7_hold wsX7_isKey := goodIn_r _ [13, 14, 8, 9, 5, 10] (by first | rfl | decide +kernel) (by decide +kernel)
set_option maxRecDepth 20000 in
theorem gX7_hold_X7_isKey : GoodIn wsX7_hold (va_wsS RX7 81 yX7_isKey wsX7_isKey) := goodIn_app (goodIn_of _ (by decide +kernel)) ggX7_hold_X7_isKey
set_option maxRecDepth 20000 in
theorem ggX7_hold_X7_isInside : GoodIn wsX7_hold wsX7_isInside := goodIn_r _ [18, 19, 20, 21, 5, 22, 1, 33, 34, 35, 36, 37] (by first | rfl | decide +kernel) (by decide +kernel)
set_option maxRecDepth 20000 in
theorem gX7_hold_X7_isInside : GoodIn wsX7_hold (wsV RX7 138 RX7 yX7_isInside wsX7_isInside) := goodIn_app (goodIn_of _ (by decide +kernel)) ggX7_hold_X7_isInside
set_option maxRecDepth 20000 in
theorem ggX7_hold_X7_keeps : GoodIn wsX7_hold wsX7_keeps := goodIn_r _ [26, 27, 28, 1, 33, 34, 35, 36, 37] (by first | rfl | decide +kernel) (by decide +kernel)
set_option maxRecDepth 20000 in
theorem gX7_hold_X7_keeps : GoodIn wsX7_hold (wsV RX7 44 RX7 yX7_keeps wsX7_keeps) := goodIn_app (goodIn_of _ (by decide +kernel)) ggX7_hold_X7_keeps
set_option maxRecDepth 20000 in
theorem ggX7_hold_X7_ofReader : GoodIn wsX7_hold wsX7_ofReader := goodIn_r _ [22, 1, 33, 34, 35, 36, 37] (by first | rfl | decide +kernel) (by decide +kernel)
set_option maxRecDepth 20000 in
theorem gX7_hold_X7_ofReader : GoodIn wsX7_hold (wsV RX7 121 RX7 yX7_ofReader wsX7_ofReader) := goodIn_app (goodIn_of _ (by decide +kernel)) ggX7_hold_X7_ofReader
set_option maxRecDepth 20000 in
theorem ggX7_hold_X7_setReader : GoodIn wsX7_hold wsX7_setReader := goodIn_r _ [32, 1, 33, 34, 35, 36, 37] (by first | rfl | decide +kernel) (by decide +kernel)
set_option maxRecDepth 20000 in
theorem gX7_hold_X7_setReader : GoodIn wsX7_hold (wsV RX7 132 RX7 yX7_setReader wsX7_setReader) := goodIn_app (goodIn_of _ (by decide +kernel)) ggX7_hold_X7_setReader
theorem dX7_hold_0 : decode cX7_hold 0 = .ok (.aload_n 0, 1) := by decide +kernel
theorem dX7_hold_1 : decode cX7_hold 1 = .ok (.iload_n 1, 1) := by decide +kernel
theorem dX7_hold_2 : decode cX7_hold 2 = .ok (.invokestatic 135, 3) := by decide +kernel
theorem dX7_hold_5 : decode cX7_hold 5 = .ok (.ifCond .eq 10, 3) := by decide +kernel
theorem dX7_hold_8 : decode cX7_hold 8 = .ok (.iload_n 2, 1) := by decide +kernel
theorem dX7_hold_9 : decode cX7_hold 9 = .ok (.invokestatic 81, 3) := by decide +kernel
theorem dX7_hold_12 : decode cX7_hold 12 = .ok (.ifCond .ne 7, 3) := by decide +kernel
theorem dX7_hold_15 : decode cX7_hold 15 = .ok (.iconst 1, 1) := by decide +kernel
theorem dX7_hold_16 : decode cX7_hold 16 = .ok (.goto 34, 3) := by decide +kernel
theorem dX7_hold_19 : decode cX7_hold 19 = .ok (.aload_n 0, 1) := by decide +kernel
theorem dX7_hold_20 : decode cX7_hold 20 = .ok (.iload_n 1, 1) := by decide +kernel
theorem dX7_hold_21 : decode cX7_hold 21 = .ok (.invokevirtual 138, 3) := by decide +kernel
theorem dX7_hold_24 : decode cX7_hold 24 = .ok (.ifCond .ne 7, 3) := by decide +kernel
theorem dX7_hold_27 : decode cX7_hold 27 = .ok (.iconst 2, 1) := by decide +kernel
theorem dX7_hold_28 : decode cX7_hold 28 = .ok (.goto 22, 3) := by decide +kernel
theorem dX7_hold_31 : decode cX7_hold 31 = .ok (.aload_n 0, 1) := by decide +kernel
theorem dX7_hold_32 : decode cX7_hold 32 = .ok (.getfield 7, 3) := by decide +kernel
theorem dX7_hold_35 : decode cX7_hold 35 = .ok (.sipush 840, 3) := by decide +kernel
theorem dX7_hold_38 : decode cX7_hold 38 = .ok (.iload_n 2, 1) := by decide +kernel
theorem dX7_hold_39 : decode cX7_hold 39 = .ok (.iadd, 1) := by decide +kernel
theorem dX7_hold_40 : decode cX7_hold 40 = .ok (.iaload, 1) := by decide +kernel
theorem dX7_hold_41 : decode cX7_hold 41 = .ok (.iconst (-1), 1) := by decide +kernel
theorem dX7_hold_42 : decode cX7_hold 42 = .ok (.if_icmp .ne 7, 3) := by decide +kernel
theorem dX7_hold_45 : decode cX7_hold 45 = .ok (.iconst 3, 1) := by decide +kernel
theorem dX7_hold_46 : decode cX7_hold 46 = .ok (.goto 4, 3) := by decide +kernel
theorem dX7_hold_49 : decode cX7_hold 49 = .ok (.iconst 0, 1) := by decide +kernel
theorem dX7_hold_50 : decode cX7_hold 50 = .ok (.putfield 23, 3) := by decide +kernel
theorem dX7_hold_53 : decode cX7_hold 53 = .ok (.aload_n 0, 1) := by decide +kernel
theorem dX7_hold_54 : decode cX7_hold 54 = .ok (.getfield 23, 3) := by decide +kernel
theorem dX7_hold_57 : decode cX7_hold 57 = .ok (.ifCond .le 5, 3) := by decide +kernel
theorem dX7_hold_60 : decode cX7_hold 60 = .ok (.iconst 0, 1) := by decide +kernel
theorem dX7_hold_61 : decode cX7_hold 61 = .ok (.ireturn, 1) := by decide +kernel
theorem dX7_hold_62 : decode cX7_hold 62 = .ok (.aload_n 0, 1) := by decide +kernel
theorem dX7_hold_63 : decode cX7_hold 63 = .ok (.invokevirtual 44, 3) := by decide +kernel
theorem dX7_hold_66 : decode cX7_hold 66 = .ok (.aload_n 0, 1) := by decide +kernel
theorem dX7_hold_67 : decode cX7_hold 67 = .ok (.getfield 7, 3) := by decide +kernel
theorem dX7_hold_70 : decode cX7_hold 70 = .ok (.sipush 840, 3) := by decide +kernel
theorem dX7_hold_73 : decode cX7_hold 73 = .ok (.iload_n 2, 1) := by decide +kernel
theorem dX7_hold_74 : decode cX7_hold 74 = .ok (.iadd, 1) := by decide +kernel
theorem dX7_hold_75 : decode cX7_hold 75 = .ok (.iaload, 1) := by decide +kernel
theorem dX7_hold_76 : decode cX7_hold 76 = .ok (.istore_n 3, 1) := by decide +kernel
theorem dX7_hold_77 : decode cX7_hold 77 = .ok (.aload_n 0, 1) := by decide +kernel
theorem dX7_hold_78 : decode cX7_hold 78 = .ok (.iload_n 1, 1) := by decide +kernel
theorem dX7_hold_79 : decode cX7_hold 79 = .ok (.iconst 2, 1) := by decide +kernel
theorem dX7_hold_80 : decode cX7_hold 80 = .ok (.iload_n 3, 1) := by decide +kernel
theorem dX7_hold_81 : decode cX7_hold 81 = .ok (.bipush 16, 2) := by decide +kernel
theorem dX7_hold_83 : decode cX7_hold 83 = .ok (.idiv, 1) := by decide +kernel
theorem dX7_hold_84 : decode cX7_hold 84 = .ok (.iadd, 1) := by decide +kernel
theorem dX7_hold_85 : decode cX7_hold 85 = .ok (.aload_n 0, 1) := by decide +kernel
theorem dX7_hold_86 : decode cX7_hold 86 = .ok (.iload_n 1, 1) := by decide +kernel
theorem dX7_hold_87 : decode cX7_hold 87 = .ok (.iconst 2, 1) := by decide +kernel
theorem dX7_hold_88 : decode cX7_hold 88 = .ok (.iload_n 3, 1) := by decide +kernel
theorem dX7_hold_89 : decode cX7_hold 89 = .ok (.bipush 16, 2) := by decide +kernel
theorem dX7_hold_91 : decode cX7_hold 91 = .ok (.idiv, 1) := by decide +kernel
theorem dX7_hold_92 : decode cX7_hold 92 = .ok (.iadd, 1) := by decide +kernel
theorem dX7_hold_93 : decode cX7_hold 93 = .ok (.invokevirtual 121, 3) := by decide +kernel
theorem dX7_hold_96 : decode cX7_hold 96 = .ok (.iconst 1, 1) := by decide +kernel
theorem dX7_hold_97 : decode cX7_hold 97 = .ok (.iload_n 3, 1) := by decide +kernel
theorem dX7_hold_98 : decode cX7_hold 98 = .ok (.bipush 16, 2) := by decide +kernel
theorem dX7_hold_100 : decode cX7_hold 100 = .ok (.irem, 1) := by decide +kernel
theorem dX7_hold_101 : decode cX7_hold 101 = .ok (.ishl, 1) := by decide +kernel
theorem dX7_hold_102 : decode cX7_hold 102 = .ok (.ior, 1) := by decide +kernel
theorem dX7_hold_103 : decode cX7_hold 103 = .ok (.invokevirtual 132, 3) := by decide +kernel
theorem dX7_hold_106 : decode cX7_hold 106 = .ok (.iload_n 3, 1) := by decide +kernel
theorem dX7_hold_107 : decode cX7_hold 107 = .ok (.ireturn, 1) := by decide +kernel
set_option maxRecDepth 20000 in
theorem ggX7_holdRefusal_X7_isReader : GoodIn wsX7_holdRefusal wsX7_isReader := goodIn_r _ [4, 5, 6, 7, 3, 8] (by first | rfl | decide +kernel) (by decide +kernel)
set_option maxRecDepth 20000 in
theorem gX7_holdRefusal_X7_isReader : GoodIn wsX7_holdRefusal (va_wsS RX7 135 yX7_isReader wsX7_isReader) := goodIn_app (goodIn_of _ (by decide +kernel)) ggX7_holdRefusal_X7_isReader
set_option maxRecDepth 20000 in
theorem ggX7_holdRefusal_X7_isBlock : GoodIn wsX7_holdRefusal wsX7_isBlock := goodIn_r _ [12, 13, 14, 15, 16, 3, 17, 6, 7, 8, 26, 27, 28, 29, 30] (by first | rfl | decide +kernel) (by decide +kernel)
set_option maxRecDepth 20000 in
theorem gX7_holdRefusal_X7_isBlock : GoodIn wsX7_holdRefusal (wsV RX7 100 RX7 yX7_isBlock wsX7_isBlock) := goodIn_app (goodIn_of _ (by decide +kernel)) ggX7_holdRefusal_X7_isBlock
set_option maxRecDepth 20000 in
theorem ggX7_holdRefusal_X7_holds : GoodIn wsX7_holdRefusal wsX7_holds := goodIn_r _ [21, 22, 23, 24, 3, 25, 13, 26, 27, 28, 29, 30] (by first | rfl | decide +kernel) (by decide +kernel)
set_option maxRecDepth 20000 in
theorem gX7_holdRefusal_X7_holds : GoodIn wsX7_holdRefusal (wsV RX7 144 RX7 yX7_holds wsX7_holds) := goodIn_app (goodIn_of _ (by decide +kernel)) ggX7_holdRefusal_X7_holds
theorem dX7_holdRefusal_0 : decode cX7_holdRefusal 0 = .ok (.iload_n 1, 1) := by decide +kernel
theorem dX7_holdRefusal_1 : decode cX7_holdRefusal 1 = .ok (.invokestatic 135, 3) := by decide +kernel
theorem dX7_holdRefusal_4 : decode cX7_holdRefusal 4 = .ok (.ifCond .eq 11, 3) := by decide +kernel
theorem dX7_holdRefusal_7 : decode cX7_holdRefusal 7 = .ok (.aload_n 0, 1) := by decide +kernel
theorem dX7_holdRefusal_8 : decode cX7_holdRefusal 8 = .ok (.iload_n 2, 1) := by decide +kernel
theorem dX7_holdRefusal_9 : decode cX7_holdRefusal 9 = .ok (.invokevirtual 100, 3) := by decide +kernel
theorem dX7_holdRefusal_12 : decode cX7_holdRefusal 12 = .ok (.ifCond .ne 7, 3) := by decide +kernel
theorem dX7_holdRefusal_15 : decode cX7_holdRefusal 15 = .ok (.iconst 1, 1) := by decide +kernel
theorem dX7_holdRefusal_16 : decode cX7_holdRefusal 16 = .ok (.goto 17, 3) := by decide +kernel
theorem dX7_holdRefusal_19 : decode cX7_holdRefusal 19 = .ok (.aload_n 0, 1) := by decide +kernel
theorem dX7_holdRefusal_20 : decode cX7_holdRefusal 20 = .ok (.iload_n 1, 1) := by decide +kernel
theorem dX7_holdRefusal_21 : decode cX7_holdRefusal 21 = .ok (.iload_n 2, 1) := by decide +kernel
theorem dX7_holdRefusal_22 : decode cX7_holdRefusal 22 = .ok (.invokevirtual 144, 3) := by decide +kernel
theorem dX7_holdRefusal_25 : decode cX7_holdRefusal 25 = .ok (.ifCond .ne 7, 3) := by decide +kernel
theorem dX7_holdRefusal_28 : decode cX7_holdRefusal 28 = .ok (.iconst 2, 1) := by decide +kernel
theorem dX7_holdRefusal_29 : decode cX7_holdRefusal 29 = .ok (.goto 4, 3) := by decide +kernel
theorem dX7_holdRefusal_32 : decode cX7_holdRefusal 32 = .ok (.iconst 0, 1) := by decide +kernel
theorem dX7_holdRefusal_33 : decode cX7_holdRefusal 33 = .ok (.ireturn, 1) := by decide +kernel
set_option maxRecDepth 20000 in
theorem ggX7_release_X7_holdRefusal : GoodIn wsX7_release wsX7_holdRefusal := goodIn_r _ [6, 7, 8, 5, 9, 10, 11, 12, 13, 14, 15, 16, 17, 18, 19, 20, 21, 22, 23, 24, 25, 26, 27, 28, 29, 30, 52, 53, 54, 55, 56] (by first | rfl | decide +kernel) (by decide +kernel)
set_option maxRecDepth 20000 in
theorem gX7_release_X7_holdRefusal : GoodIn wsX7_release (wsV RX7 147 RX7 yX7_holdRefusal wsX7_holdRefusal) := goodIn_app (goodIn_of _ (by decide +kernel)) ggX7_release_X7_holdRefusal
set_option maxRecDepth 20000 in
theorem ggX7_release_X7_keeps : GoodIn wsX7_release wsX7_keeps := goodIn_r _ [34, 35, 36, 18, 52, 53, 54, 55, 56] (by first | rfl | decide +kernel) (by decide +kernel)
set_option maxRecDepth 20000 in
theorem gX7_release_X7_keeps : GoodIn wsX7_release (wsV RX7 44 RX7 yX7_keeps wsX7_keeps) := goodIn_app (goodIn_of _ (by decide +kernel)) ggX7_release_X7_keeps
set_option maxRecDepth 20000 in
theorem ggX7_release_X7_ofReader : GoodIn wsX7_release wsX7_ofReader := goodIn_r _ [30, 18, 52, 53, 54, 55, 56] (by first | rfl | decide +kernel) (by decide +kernel)
set_option maxRecDepth 20000 in
theorem gX7_release_X7_ofReader : GoodIn wsX7_release (wsV RX7 121 RX7 yX7_ofReader wsX7_ofReader) := goodIn_app (goodIn_of _ (by decide +kernel)) ggX7_release_X7_ofReader
set_option maxRecDepth 20000 in
theorem ggX7_release_X7_setReader : GoodIn wsX7_release wsX7_setReader := goodIn_r _ [40, 18, 52, 53, 54, 55, 56] (by first | rfl | decide +kernel) (by decide +kernel)
set_option maxRecDepth 20000 in
theorem gX7_release_X7_setReader : GoodIn wsX7_release (wsV RX7 132 RX7 yX7_setReader wsX7_setReader) := goodIn_app (goodIn_of _ (by decide +kernel)) ggX7_release_X7_setReader
set_option maxRecDepth 20000 in
theorem ggX7_release_X7_heldBy : GoodIn wsX7_release wsX7_heldBy := goodIn_r _ [44, 27, 28, 29, 5, 30, 18, 45, 46, 47, 48, 49, 50, 51, 52, 53, 54, 55, 56] (by first | rfl | decide +kernel) (by decide +kernel)
set_option maxRecDepth 20000 in
theorem gX7_release_X7_heldBy : GoodIn wsX7_release (wsV RX7 129 RX7 yX7_heldBy wsX7_heldBy) := goodIn_app (goodIn_of _ (by decide +kernel)) ggX7_release_X7_heldBy
theorem dX7_release_0 : decode cX7_release 0 = .ok (.aload_n 0, 1) := by decide +kernel
theorem dX7_release_1 : decode cX7_release 1 = .ok (.aload_n 0, 1) := by decide +kernel
theorem dX7_release_2 : decode cX7_release 2 = .ok (.iload_n 1, 1) := by decide +kernel
theorem dX7_release_3 : decode cX7_release 3 = .ok (.iload_n 2, 1) := by decide +kernel
theorem dX7_release_4 : decode cX7_release 4 = .ok (.invokevirtual 147, 3) := by decide +kernel
theorem dX7_release_7 : decode cX7_release 7 = .ok (.putfield 23, 3) := by decide +kernel
theorem dX7_release_10 : decode cX7_release 10 = .ok (.aload_n 0, 1) := by decide +kernel
theorem dX7_release_11 : decode cX7_release 11 = .ok (.getfield 23, 3) := by decide +kernel
theorem dX7_release_14 : decode cX7_release 14 = .ok (.ifCond .le 5, 3) := by decide +kernel
theorem dX7_release_17 : decode cX7_release 17 = .ok (.iconst 0, 1) := by decide +kernel
theorem dX7_release_18 : decode cX7_release 18 = .ok (.ireturn, 1) := by decide +kernel
theorem dX7_release_19 : decode cX7_release 19 = .ok (.aload_n 0, 1) := by decide +kernel
theorem dX7_release_20 : decode cX7_release 20 = .ok (.invokevirtual 44, 3) := by decide +kernel
theorem dX7_release_23 : decode cX7_release 23 = .ok (.aload_n 0, 1) := by decide +kernel
theorem dX7_release_24 : decode cX7_release 24 = .ok (.iload_n 1, 1) := by decide +kernel
theorem dX7_release_25 : decode cX7_release 25 = .ok (.iconst 2, 1) := by decide +kernel
theorem dX7_release_26 : decode cX7_release 26 = .ok (.iload_n 2, 1) := by decide +kernel
theorem dX7_release_27 : decode cX7_release 27 = .ok (.bipush 16, 2) := by decide +kernel
theorem dX7_release_29 : decode cX7_release 29 = .ok (.idiv, 1) := by decide +kernel
theorem dX7_release_30 : decode cX7_release 30 = .ok (.iadd, 1) := by decide +kernel
theorem dX7_release_31 : decode cX7_release 31 = .ok (.aload_n 0, 1) := by decide +kernel
theorem dX7_release_32 : decode cX7_release 32 = .ok (.iload_n 1, 1) := by decide +kernel
theorem dX7_release_33 : decode cX7_release 33 = .ok (.iconst 2, 1) := by decide +kernel
theorem dX7_release_34 : decode cX7_release 34 = .ok (.iload_n 2, 1) := by decide +kernel
theorem dX7_release_35 : decode cX7_release 35 = .ok (.bipush 16, 2) := by decide +kernel
theorem dX7_release_37 : decode cX7_release 37 = .ok (.idiv, 1) := by decide +kernel
theorem dX7_release_38 : decode cX7_release 38 = .ok (.iadd, 1) := by decide +kernel
theorem dX7_release_39 : decode cX7_release 39 = .ok (.invokevirtual 121, 3) := by decide +kernel
theorem dX7_release_42 : decode cX7_release 42 = .ok (.iconst 1, 1) := by decide +kernel
theorem dX7_release_43 : decode cX7_release 43 = .ok (.iload_n 2, 1) := by decide +kernel
theorem dX7_release_44 : decode cX7_release 44 = .ok (.bipush 16, 2) := by decide +kernel
theorem dX7_release_46 : decode cX7_release 46 = .ok (.irem, 1) := by decide +kernel
theorem dX7_release_47 : decode cX7_release 47 = .ok (.ishl, 1) := by decide +kernel
theorem dX7_release_48 : decode cX7_release 48 = .ok (.ixor, 1) := by decide +kernel
theorem dX7_release_49 : decode cX7_release 49 = .ok (.invokevirtual 132, 3) := by decide +kernel
theorem dX7_release_52 : decode cX7_release 52 = .ok (.aload_n 0, 1) := by decide +kernel
theorem dX7_release_53 : decode cX7_release 53 = .ok (.iload_n 1, 1) := by decide +kernel
theorem dX7_release_54 : decode cX7_release 54 = .ok (.invokevirtual 129, 3) := by decide +kernel
theorem dX7_release_57 : decode cX7_release 57 = .ok (.ireturn, 1) := by decide +kernel
set_option maxRecDepth 20000 in
theorem ggX7_read_X7_holdRefusal : GoodIn wsX7_read wsX7_holdRefusal := goodIn_r _ [6, 7, 8, 5, 9, 10, 11, 12, 13, 14, 15, 16, 17, 18, 19, 20, 21, 22, 23, 24, 25, 26, 27, 28, 29, 30, 35, 36, 37, 38, 39] (by first | rfl | decide +kernel) (by decide +kernel)
set_option maxRecDepth 20000 in
theorem gX7_read_X7_holdRefusal : GoodIn wsX7_read (wsV RX7 147 RX7 yX7_holdRefusal wsX7_holdRefusal) := goodIn_app (goodIn_of _ (by decide +kernel)) ggX7_read_X7_holdRefusal
set_option maxRecDepth 20000 in
theorem ggX7_read_X7_ofBlock : GoodIn wsX7_read wsX7_ofBlock := goodIn_r _ [34, 18, 35, 36, 37, 38, 39] (by first | rfl | decide +kernel) (by decide +kernel)
set_option maxRecDepth 20000 in
theorem gX7_read_X7_ofBlock : GoodIn wsX7_read (wsV RX7 67 RX7 yX7_ofBlock wsX7_ofBlock) := goodIn_app (goodIn_of _ (by decide +kernel)) ggX7_read_X7_ofBlock
theorem dX7_read_0 : decode cX7_read 0 = .ok (.aload_n 0, 1) := by decide +kernel
theorem dX7_read_1 : decode cX7_read 1 = .ok (.aload_n 0, 1) := by decide +kernel
theorem dX7_read_2 : decode cX7_read 2 = .ok (.iload_n 1, 1) := by decide +kernel
theorem dX7_read_3 : decode cX7_read 3 = .ok (.iload_n 2, 1) := by decide +kernel
theorem dX7_read_4 : decode cX7_read 4 = .ok (.invokevirtual 147, 3) := by decide +kernel
theorem dX7_read_7 : decode cX7_read 7 = .ok (.putfield 23, 3) := by decide +kernel
theorem dX7_read_10 : decode cX7_read 10 = .ok (.aload_n 0, 1) := by decide +kernel
theorem dX7_read_11 : decode cX7_read 11 = .ok (.getfield 23, 3) := by decide +kernel
theorem dX7_read_14 : decode cX7_read 14 = .ok (.ifCond .le 7, 3) := by decide +kernel
theorem dX7_read_17 : decode cX7_read 17 = .ok (.iconst 0, 1) := by decide +kernel
theorem dX7_read_18 : decode cX7_read 18 = .ok (.goto 9, 3) := by decide +kernel
theorem dX7_read_21 : decode cX7_read 21 = .ok (.aload_n 0, 1) := by decide +kernel
theorem dX7_read_22 : decode cX7_read 22 = .ok (.iload_n 2, 1) := by decide +kernel
theorem dX7_read_23 : decode cX7_read 23 = .ok (.iconst 2, 1) := by decide +kernel
theorem dX7_read_24 : decode cX7_read 24 = .ok (.invokevirtual 67, 3) := by decide +kernel
theorem dX7_read_27 : decode cX7_read 27 = .ok (.ireturn, 1) := by decide +kernel
set_option maxRecDepth 20000 in
theorem ggX7_isStalled_X7_isInside : GoodIn wsX7_isStalled wsX7_isInside := goodIn_r _ [6, 7, 8, 9, 5, 10, 1, 11, 12, 13, 14, 15] (by first | rfl | decide +kernel) (by decide +kernel)
set_option maxRecDepth 20000 in
theorem gX7_isStalled_X7_isInside : GoodIn wsX7_isStalled (wsV RX7 138 RX7 yX7_isInside wsX7_isInside) := goodIn_app (goodIn_of _ (by decide +kernel)) ggX7_isStalled_X7_isInside
set_option maxRecDepth 20000 in
theorem ggX7_isStalled_X7_ofReader : GoodIn wsX7_isStalled wsX7_ofReader := goodIn_r _ [10, 1, 11, 12, 13, 14, 15] (by first | rfl | decide +kernel) (by decide +kernel)
set_option maxRecDepth 20000 in
theorem gX7_isStalled_X7_ofReader : GoodIn wsX7_isStalled (wsV RX7 121 RX7 yX7_ofReader wsX7_ofReader) := goodIn_app (goodIn_of _ (by decide +kernel)) ggX7_isStalled_X7_ofReader
theorem dX7_isStalled_0 : decode cX7_isStalled 0 = .ok (.aload_n 0, 1) := by decide +kernel
theorem dX7_isStalled_1 : decode cX7_isStalled 1 = .ok (.iload_n 1, 1) := by decide +kernel
theorem dX7_isStalled_2 : decode cX7_isStalled 2 = .ok (.invokevirtual 138, 3) := by decide +kernel
theorem dX7_isStalled_5 : decode cX7_isStalled 5 = .ok (.ifCond .eq 22, 3) := by decide +kernel
theorem dX7_isStalled_8 : decode cX7_isStalled 8 = .ok (.aload_n 0, 1) := by decide +kernel
theorem dX7_isStalled_9 : decode cX7_isStalled 9 = .ok (.iload_n 1, 1) := by decide +kernel
theorem dX7_isStalled_10 : decode cX7_isStalled 10 = .ok (.iconst 1, 1) := by decide +kernel
theorem dX7_isStalled_11 : decode cX7_isStalled 11 = .ok (.invokevirtual 121, 3) := by decide +kernel
theorem dX7_isStalled_14 : decode cX7_isStalled 14 = .ok (.aload_n 0, 1) := by decide +kernel
theorem dX7_isStalled_15 : decode cX7_isStalled 15 = .ok (.getfield 7, 3) := by decide +kernel
theorem dX7_isStalled_18 : decode cX7_isStalled 18 = .ok (.iconst 3, 1) := by decide +kernel
theorem dX7_isStalled_19 : decode cX7_isStalled 19 = .ok (.iaload, 1) := by decide +kernel
theorem dX7_isStalled_20 : decode cX7_isStalled 20 = .ok (.if_icmp .eq 7, 3) := by decide +kernel
theorem dX7_isStalled_23 : decode cX7_isStalled 23 = .ok (.iconst 1, 1) := by decide +kernel
theorem dX7_isStalled_24 : decode cX7_isStalled 24 = .ok (.goto 4, 3) := by decide +kernel
theorem dX7_isStalled_27 : decode cX7_isStalled 27 = .ok (.iconst 0, 1) := by decide +kernel
theorem dX7_isStalled_28 : decode cX7_isStalled 28 = .ok (.ireturn, 1) := by decide +kernel
set_option maxRecDepth 20000 in
theorem ggX7_stallOf_X7_isStalled : GoodIn wsX7_stallOf wsX7_isStalled := goodIn_r _ [6, 1, 7, 8, 9, 5, 10, 11, 12, 13, 14, 15, 16, 17, 18, 19] (by first | rfl | decide +kernel) (by decide +kernel)
set_option maxRecDepth 20000 in
theorem gX7_stallOf_X7_isStalled : GoodIn wsX7_stallOf (wsV RX7 150 RX7 yX7_isStalled wsX7_isStalled) := goodIn_app (goodIn_of _ (by decide +kernel)) ggX7_stallOf_X7_isStalled
theorem dX7_stallOf_0 : decode cX7_stallOf 0 = .ok (.aload_n 0, 1) := by decide +kernel
theorem dX7_stallOf_1 : decode cX7_stallOf 1 = .ok (.iload_n 1, 1) := by decide +kernel
theorem dX7_stallOf_2 : decode cX7_stallOf 2 = .ok (.invokevirtual 150, 3) := by decide +kernel
theorem dX7_stallOf_5 : decode cX7_stallOf 5 = .ok (.ifCond .eq 19, 3) := by decide +kernel
theorem dX7_stallOf_8 : decode cX7_stallOf 8 = .ok (.aload_n 0, 1) := by decide +kernel
theorem dX7_stallOf_9 : decode cX7_stallOf 9 = .ok (.getfield 7, 3) := by decide +kernel
theorem dX7_stallOf_12 : decode cX7_stallOf 12 = .ok (.iconst 4, 1) := by decide +kernel
theorem dX7_stallOf_13 : decode cX7_stallOf 13 = .ok (.iaload, 1) := by decide +kernel
theorem dX7_stallOf_14 : decode cX7_stallOf 14 = .ok (.aload_n 0, 1) := by decide +kernel
theorem dX7_stallOf_15 : decode cX7_stallOf 15 = .ok (.getfield 7, 3) := by decide +kernel
theorem dX7_stallOf_18 : decode cX7_stallOf 18 = .ok (.iconst 5, 1) := by decide +kernel
theorem dX7_stallOf_19 : decode cX7_stallOf 19 = .ok (.iaload, 1) := by decide +kernel
theorem dX7_stallOf_20 : decode cX7_stallOf 20 = .ok (.isub, 1) := by decide +kernel
theorem dX7_stallOf_21 : decode cX7_stallOf 21 = .ok (.goto 4, 3) := by decide +kernel
theorem dX7_stallOf_24 : decode cX7_stallOf 24 = .ok (.iconst 0, 1) := by decide +kernel
theorem dX7_stallOf_25 : decode cX7_stallOf 25 = .ok (.ireturn, 1) := by decide +kernel
set_option maxRecDepth 20000 in
theorem ggX7_waitingHeldBy_X7_isBlock : GoodIn wsX7_waitingHeldBy wsX7_isBlock := goodIn_r _ [6, 1, 7, 8, 9, 5, 10, 11, 12, 13, 26, 27, 28, 29, 30] (by first | rfl | decide +kernel) (by decide +kernel)
set_option maxRecDepth 20000 in
theorem gX7_waitingHeldBy_X7_isBlock : GoodIn wsX7_waitingHeldBy (wsV RX7 100 RX7 yX7_isBlock wsX7_isBlock) := goodIn_app (goodIn_of _ (by decide +kernel)) ggX7_waitingHeldBy_X7_isBlock
set_option maxRecDepth 20000 in
theorem ggX7_waitingHeldBy_X7_holds : GoodIn wsX7_waitingHeldBy wsX7_holds := goodIn_r _ [17, 18, 19, 20, 5, 21, 1, 26, 27, 28, 29, 30] (by first | rfl | decide +kernel) (by decide +kernel)
set_option maxRecDepth 20000 in
theorem gX7_waitingHeldBy_X7_holds : GoodIn wsX7_waitingHeldBy (wsV RX7 144 RX7 yX7_holds wsX7_holds) := goodIn_app (goodIn_of _ (by decide +kernel)) ggX7_waitingHeldBy_X7_holds
set_option maxRecDepth 20000 in
theorem ggX7_waitingHeldBy_X7_ofBlock : GoodIn wsX7_waitingHeldBy wsX7_ofBlock := goodIn_r _ [25, 1, 26, 27, 28, 29, 30] (by first | rfl | decide +kernel) (by decide +kernel)
set_option maxRecDepth 20000 in
theorem gX7_waitingHeldBy_X7_ofBlock : GoodIn wsX7_waitingHeldBy (wsV RX7 67 RX7 yX7_ofBlock wsX7_ofBlock) := goodIn_app (goodIn_of _ (by decide +kernel)) ggX7_waitingHeldBy_X7_ofBlock
theorem dX7_waitingHeldBy_0 : decode cX7_waitingHeldBy 0 = .ok (.iconst 0, 1) := by decide +kernel
theorem dX7_waitingHeldBy_1 : decode cX7_waitingHeldBy 1 = .ok (.istore_n 2, 1) := by decide +kernel
theorem dX7_waitingHeldBy_2 : decode cX7_waitingHeldBy 2 = .ok (.iconst 0, 1) := by decide +kernel
theorem dX7_waitingHeldBy_3 : decode cX7_waitingHeldBy 3 = .ok (.istore_n 3, 1) := by decide +kernel
theorem dX7_waitingHeldBy_4 : decode cX7_waitingHeldBy 4 = .ok (.iload_n 3, 1) := by decide +kernel
theorem dX7_waitingHeldBy_5 : decode cX7_waitingHeldBy 5 = .ok (.bipush 16, 2) := by decide +kernel
theorem dX7_waitingHeldBy_7 : decode cX7_waitingHeldBy 7 = .ok (.aload_n 0, 1) := by decide +kernel
theorem dX7_waitingHeldBy_8 : decode cX7_waitingHeldBy 8 = .ok (.getfield 7, 3) := by decide +kernel
theorem dX7_waitingHeldBy_11 : decode cX7_waitingHeldBy 11 = .ok (.iconst 0, 1) := by decide +kernel
theorem dX7_waitingHeldBy_12 : decode cX7_waitingHeldBy 12 = .ok (.iaload, 1) := by decide +kernel
theorem dX7_waitingHeldBy_13 : decode cX7_waitingHeldBy 13 = .ok (.imul, 1) := by decide +kernel
theorem dX7_waitingHeldBy_14 : decode cX7_waitingHeldBy 14 = .ok (.if_icmp .ge 44, 3) := by decide +kernel
theorem dX7_waitingHeldBy_17 : decode cX7_waitingHeldBy 17 = .ok (.iload_n 2, 1) := by decide +kernel
theorem dX7_waitingHeldBy_18 : decode cX7_waitingHeldBy 18 = .ok (.aload_n 0, 1) := by decide +kernel
theorem dX7_waitingHeldBy_19 : decode cX7_waitingHeldBy 19 = .ok (.iload_n 3, 1) := by decide +kernel
theorem dX7_waitingHeldBy_20 : decode cX7_waitingHeldBy 20 = .ok (.invokevirtual 100, 3) := by decide +kernel
theorem dX7_waitingHeldBy_23 : decode cX7_waitingHeldBy 23 = .ok (.ifCond .eq 26, 3) := by decide +kernel
theorem dX7_waitingHeldBy_26 : decode cX7_waitingHeldBy 26 = .ok (.aload_n 0, 1) := by decide +kernel
theorem dX7_waitingHeldBy_27 : decode cX7_waitingHeldBy 27 = .ok (.iload_n 1, 1) := by decide +kernel
theorem dX7_waitingHeldBy_28 : decode cX7_waitingHeldBy 28 = .ok (.iload_n 3, 1) := by decide +kernel
theorem dX7_waitingHeldBy_29 : decode cX7_waitingHeldBy 29 = .ok (.invokevirtual 144, 3) := by decide +kernel
theorem dX7_waitingHeldBy_32 : decode cX7_waitingHeldBy 32 = .ok (.ifCond .eq 17, 3) := by decide +kernel
theorem dX7_waitingHeldBy_35 : decode cX7_waitingHeldBy 35 = .ok (.aload_n 0, 1) := by decide +kernel
theorem dX7_waitingHeldBy_36 : decode cX7_waitingHeldBy 36 = .ok (.iload_n 3, 1) := by decide +kernel
theorem dX7_waitingHeldBy_37 : decode cX7_waitingHeldBy 37 = .ok (.iconst 0, 1) := by decide +kernel
theorem dX7_waitingHeldBy_38 : decode cX7_waitingHeldBy 38 = .ok (.invokevirtual 67, 3) := by decide +kernel
theorem dX7_waitingHeldBy_41 : decode cX7_waitingHeldBy 41 = .ok (.iconst 3, 1) := by decide +kernel
theorem dX7_waitingHeldBy_42 : decode cX7_waitingHeldBy 42 = .ok (.if_icmp .ne 7, 3) := by decide +kernel
theorem dX7_waitingHeldBy_45 : decode cX7_waitingHeldBy 45 = .ok (.iconst 1, 1) := by decide +kernel
theorem dX7_waitingHeldBy_46 : decode cX7_waitingHeldBy 46 = .ok (.goto 4, 3) := by decide +kernel
theorem dX7_waitingHeldBy_49 : decode cX7_waitingHeldBy 49 = .ok (.iconst 0, 1) := by decide +kernel
theorem dX7_waitingHeldBy_50 : decode cX7_waitingHeldBy 50 = .ok (.iadd, 1) := by decide +kernel
theorem dX7_waitingHeldBy_51 : decode cX7_waitingHeldBy 51 = .ok (.istore_n 2, 1) := by decide +kernel
theorem dX7_waitingHeldBy_52 : decode cX7_waitingHeldBy 52 = .ok (.iinc 3 1, 3) := by decide +kernel
theorem dX7_waitingHeldBy_55 : decode cX7_waitingHeldBy 55 = .ok (.goto (-51), 3) := by decide +kernel
theorem dX7_waitingHeldBy_58 : decode cX7_waitingHeldBy 58 = .ok (.iload_n 2, 1) := by decide +kernel
theorem dX7_waitingHeldBy_59 : decode cX7_waitingHeldBy 59 = .ok (.ireturn, 1) := by decide +kernel
