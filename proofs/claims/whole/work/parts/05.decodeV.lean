theorem dX0_init_0 : decode cX0_init 0 = .ok (.aload_n 0, 1) := by decide +kernel
theorem dX0_init_1 : decode cX0_init 1 = .ok (.invokespecial 3, 3) := by decide +kernel
theorem dX0_init_4 : decode cX0_init 4 = .ok (.aload_n 0, 1) := by decide +kernel
theorem dX0_init_5 : decode cX0_init 5 = .ok (.sipush 160, 3) := by decide +kernel
theorem dX0_init_8 : decode cX0_init 8 = .ok (.newarray .int, 2) := by decide +kernel
theorem dX0_init_10 : decode cX0_init 10 = .ok (.putfield 9, 3) := by decide +kernel
theorem dX0_init_13 : decode cX0_init 13 = .ok (.aload_n 0, 1) := by decide +kernel
theorem dX0_init_14 : decode cX0_init 14 = .ok (.sipush 160, 3) := by decide +kernel
theorem dX0_init_17 : decode cX0_init 17 = .ok (.newarray .int, 2) := by decide +kernel
theorem dX0_init_19 : decode cX0_init 19 = .ok (.putfield 15, 3) := by decide +kernel
theorem dX0_init_22 : decode cX0_init 22 = .ok (.aload_n 0, 1) := by decide +kernel
theorem dX0_init_23 : decode cX0_init 23 = .ok (.sipush 160, 3) := by decide +kernel
theorem dX0_init_26 : decode cX0_init 26 = .ok (.newarray .int, 2) := by decide +kernel
theorem dX0_init_28 : decode cX0_init 28 = .ok (.putfield 18, 3) := by decide +kernel
theorem dX0_init_31 : decode cX0_init 31 = .ok (.aload_n 0, 1) := by decide +kernel
theorem dX0_init_32 : decode cX0_init 32 = .ok (.sipush 160, 3) := by decide +kernel
theorem dX0_init_35 : decode cX0_init 35 = .ok (.newarray .int, 2) := by decide +kernel
theorem dX0_init_37 : decode cX0_init 37 = .ok (.putfield 21, 3) := by decide +kernel
theorem dX0_init_40 : decode cX0_init 40 = .ok (.aload_n 0, 1) := by decide +kernel
theorem dX0_init_41 : decode cX0_init 41 = .ok (.sipush 160, 3) := by decide +kernel
theorem dX0_init_44 : decode cX0_init 44 = .ok (.newarray .int, 2) := by decide +kernel
theorem dX0_init_46 : decode cX0_init 46 = .ok (.putfield 24, 3) := by decide +kernel
theorem dX0_init_49 : decode cX0_init 49 = .ok (.aload_n 0, 1) := by decide +kernel
theorem dX0_init_50 : decode cX0_init 50 = .ok (.sipush 160, 3) := by decide +kernel
theorem dX0_init_53 : decode cX0_init 53 = .ok (.newarray .int, 2) := by decide +kernel
theorem dX0_init_55 : decode cX0_init 55 = .ok (.putfield 27, 3) := by decide +kernel
theorem dX0_init_58 : decode cX0_init 58 = .ok (.return_, 1) := by decide +kernel
set_option maxRecDepth 20000 in
theorem ggX0_begin_X0_erase : GoodIn wsX0_begin wsX0_erase := goodIn_r _ [5, 6, 7, 8, 9, 10, 11, 4, 12, 13, 14, 15, 16, 17, 18, 19, 20, 21] (by first | rfl | decide +kernel) (by decide +kernel)
set_option maxRecDepth 20000 in
theorem gX0_begin_X0_erase : GoodIn wsX0_begin (wsV RX0 30 RX0 yX0_erase wsX0_erase) := goodIn_app (goodIn_of _ (by decide +kernel)) ggX0_begin_X0_erase
theorem dX0_begin_0 : decode cX0_begin 0 = .ok (.aload_n 0, 1) := by decide +kernel
theorem dX0_begin_1 : decode cX0_begin 1 = .ok (.iconst 0, 1) := by decide +kernel
theorem dX0_begin_2 : decode cX0_begin 2 = .ok (.sipush 160, 3) := by decide +kernel
theorem dX0_begin_5 : decode cX0_begin 5 = .ok (.invokevirtual 30, 3) := by decide +kernel
theorem dX0_begin_8 : decode cX0_begin 8 = .ok (.return_, 1) := by decide +kernel
theorem dX0_copyFrom_0 : decode cX0_copyFrom 0 = .ok (.aload_n 1, 1) := by decide +kernel
theorem dX0_copyFrom_1 : decode cX0_copyFrom 1 = .ok (.getfield 9, 3) := by decide +kernel
theorem dX0_copyFrom_4 : decode cX0_copyFrom 4 = .ok (.iconst 0, 1) := by decide +kernel
theorem dX0_copyFrom_5 : decode cX0_copyFrom 5 = .ok (.aload_n 0, 1) := by decide +kernel
theorem dX0_copyFrom_6 : decode cX0_copyFrom 6 = .ok (.getfield 9, 3) := by decide +kernel
theorem dX0_copyFrom_9 : decode cX0_copyFrom 9 = .ok (.iconst 0, 1) := by decide +kernel
theorem dX0_copyFrom_10 : decode cX0_copyFrom 10 = .ok (.sipush 160, 3) := by decide +kernel
theorem dX0_copyFrom_13 : decode cX0_copyFrom 13 = .ok (.invokestatic 34, 3) := by decide +kernel
theorem dX0_copyFrom_16 : decode cX0_copyFrom 16 = .ok (.aload_n 1, 1) := by decide +kernel
theorem dX0_copyFrom_17 : decode cX0_copyFrom 17 = .ok (.getfield 15, 3) := by decide +kernel
theorem dX0_copyFrom_20 : decode cX0_copyFrom 20 = .ok (.iconst 0, 1) := by decide +kernel
theorem dX0_copyFrom_21 : decode cX0_copyFrom 21 = .ok (.aload_n 0, 1) := by decide +kernel
theorem dX0_copyFrom_22 : decode cX0_copyFrom 22 = .ok (.getfield 15, 3) := by decide +kernel
theorem dX0_copyFrom_25 : decode cX0_copyFrom 25 = .ok (.iconst 0, 1) := by decide +kernel
theorem dX0_copyFrom_26 : decode cX0_copyFrom 26 = .ok (.sipush 160, 3) := by decide +kernel
theorem dX0_copyFrom_29 : decode cX0_copyFrom 29 = .ok (.invokestatic 34, 3) := by decide +kernel
theorem dX0_copyFrom_32 : decode cX0_copyFrom 32 = .ok (.aload_n 1, 1) := by decide +kernel
theorem dX0_copyFrom_33 : decode cX0_copyFrom 33 = .ok (.getfield 18, 3) := by decide +kernel
theorem dX0_copyFrom_36 : decode cX0_copyFrom 36 = .ok (.iconst 0, 1) := by decide +kernel
theorem dX0_copyFrom_37 : decode cX0_copyFrom 37 = .ok (.aload_n 0, 1) := by decide +kernel
theorem dX0_copyFrom_38 : decode cX0_copyFrom 38 = .ok (.getfield 18, 3) := by decide +kernel
theorem dX0_copyFrom_41 : decode cX0_copyFrom 41 = .ok (.iconst 0, 1) := by decide +kernel
theorem dX0_copyFrom_42 : decode cX0_copyFrom 42 = .ok (.sipush 160, 3) := by decide +kernel
theorem dX0_copyFrom_45 : decode cX0_copyFrom 45 = .ok (.invokestatic 34, 3) := by decide +kernel
theorem dX0_copyFrom_48 : decode cX0_copyFrom 48 = .ok (.aload_n 1, 1) := by decide +kernel
theorem dX0_copyFrom_49 : decode cX0_copyFrom 49 = .ok (.getfield 21, 3) := by decide +kernel
theorem dX0_copyFrom_52 : decode cX0_copyFrom 52 = .ok (.iconst 0, 1) := by decide +kernel
theorem dX0_copyFrom_53 : decode cX0_copyFrom 53 = .ok (.aload_n 0, 1) := by decide +kernel
theorem dX0_copyFrom_54 : decode cX0_copyFrom 54 = .ok (.getfield 21, 3) := by decide +kernel
theorem dX0_copyFrom_57 : decode cX0_copyFrom 57 = .ok (.iconst 0, 1) := by decide +kernel
theorem dX0_copyFrom_58 : decode cX0_copyFrom 58 = .ok (.sipush 160, 3) := by decide +kernel
theorem dX0_copyFrom_61 : decode cX0_copyFrom 61 = .ok (.invokestatic 34, 3) := by decide +kernel
theorem dX0_copyFrom_64 : decode cX0_copyFrom 64 = .ok (.aload_n 1, 1) := by decide +kernel
theorem dX0_copyFrom_65 : decode cX0_copyFrom 65 = .ok (.getfield 24, 3) := by decide +kernel
theorem dX0_copyFrom_68 : decode cX0_copyFrom 68 = .ok (.iconst 0, 1) := by decide +kernel
theorem dX0_copyFrom_69 : decode cX0_copyFrom 69 = .ok (.aload_n 0, 1) := by decide +kernel
theorem dX0_copyFrom_70 : decode cX0_copyFrom 70 = .ok (.getfield 24, 3) := by decide +kernel
theorem dX0_copyFrom_73 : decode cX0_copyFrom 73 = .ok (.iconst 0, 1) := by decide +kernel
theorem dX0_copyFrom_74 : decode cX0_copyFrom 74 = .ok (.sipush 160, 3) := by decide +kernel
theorem dX0_copyFrom_77 : decode cX0_copyFrom 77 = .ok (.invokestatic 34, 3) := by decide +kernel
theorem dX0_copyFrom_80 : decode cX0_copyFrom 80 = .ok (.aload_n 1, 1) := by decide +kernel
theorem dX0_copyFrom_81 : decode cX0_copyFrom 81 = .ok (.getfield 27, 3) := by decide +kernel
theorem dX0_copyFrom_84 : decode cX0_copyFrom 84 = .ok (.iconst 0, 1) := by decide +kernel
theorem dX0_copyFrom_85 : decode cX0_copyFrom 85 = .ok (.aload_n 0, 1) := by decide +kernel
theorem dX0_copyFrom_86 : decode cX0_copyFrom 86 = .ok (.getfield 27, 3) := by decide +kernel
theorem dX0_copyFrom_89 : decode cX0_copyFrom 89 = .ok (.iconst 0, 1) := by decide +kernel
theorem dX0_copyFrom_90 : decode cX0_copyFrom 90 = .ok (.sipush 160, 3) := by decide +kernel
theorem dX0_copyFrom_93 : decode cX0_copyFrom 93 = .ok (.invokestatic 34, 3) := by decide +kernel
theorem dX0_copyFrom_96 : decode cX0_copyFrom 96 = .ok (.return_, 1) := by decide +kernel
set_option maxRecDepth 20000 in
theorem ggX0_erase_X0_fill : GoodIn wsX0_erase wsX0_fill := goodIn_r _ [8, 9, 10, 11, 12, 13, 14, 15, 16, 17] (by first | rfl | decide +kernel) (by decide +kernel)
set_option maxRecDepth 20000 in
theorem gX0_erase_X0_fill : GoodIn wsX0_erase (wsV RX0 40 RX0 yX0_fill wsX0_fill) := goodIn_app (goodIn_of _ (by decide +kernel)) ggX0_erase_X0_fill
theorem dX0_erase_0 : decode cX0_erase 0 = .ok (.iload_n 1, 1) := by decide +kernel
theorem dX0_erase_1 : decode cX0_erase 1 = .ok (.istore_n 3, 1) := by decide +kernel
theorem dX0_erase_2 : decode cX0_erase 2 = .ok (.iload_n 3, 1) := by decide +kernel
theorem dX0_erase_3 : decode cX0_erase 3 = .ok (.iload_n 2, 1) := by decide +kernel
theorem dX0_erase_4 : decode cX0_erase 4 = .ok (.if_icmp .ge 38, 3) := by decide +kernel
theorem dX0_erase_7 : decode cX0_erase 7 = .ok (.aload_n 0, 1) := by decide +kernel
theorem dX0_erase_8 : decode cX0_erase 8 = .ok (.getfield 9, 3) := by decide +kernel
theorem dX0_erase_11 : decode cX0_erase 11 = .ok (.iload_n 3, 1) := by decide +kernel
theorem dX0_erase_12 : decode cX0_erase 12 = .ok (.iconst 0, 1) := by decide +kernel
theorem dX0_erase_13 : decode cX0_erase 13 = .ok (.iastore, 1) := by decide +kernel
theorem dX0_erase_14 : decode cX0_erase 14 = .ok (.aload_n 0, 1) := by decide +kernel
theorem dX0_erase_15 : decode cX0_erase 15 = .ok (.iload_n 3, 1) := by decide +kernel
theorem dX0_erase_16 : decode cX0_erase 16 = .ok (.iconst (-1), 1) := by decide +kernel
theorem dX0_erase_17 : decode cX0_erase 17 = .ok (.iconst (-1), 1) := by decide +kernel
theorem dX0_erase_18 : decode cX0_erase 18 = .ok (.iconst (-1), 1) := by decide +kernel
theorem dX0_erase_19 : decode cX0_erase 19 = .ok (.invokevirtual 40, 3) := by decide +kernel
theorem dX0_erase_22 : decode cX0_erase 22 = .ok (.aload_n 0, 1) := by decide +kernel
theorem dX0_erase_23 : decode cX0_erase 23 = .ok (.getfield 24, 3) := by decide +kernel
theorem dX0_erase_26 : decode cX0_erase 26 = .ok (.iload_n 3, 1) := by decide +kernel
theorem dX0_erase_27 : decode cX0_erase 27 = .ok (.iconst (-1), 1) := by decide +kernel
theorem dX0_erase_28 : decode cX0_erase 28 = .ok (.iastore, 1) := by decide +kernel
theorem dX0_erase_29 : decode cX0_erase 29 = .ok (.aload_n 0, 1) := by decide +kernel
theorem dX0_erase_30 : decode cX0_erase 30 = .ok (.getfield 27, 3) := by decide +kernel
theorem dX0_erase_33 : decode cX0_erase 33 = .ok (.iload_n 3, 1) := by decide +kernel
theorem dX0_erase_34 : decode cX0_erase 34 = .ok (.iconst 0, 1) := by decide +kernel
theorem dX0_erase_35 : decode cX0_erase 35 = .ok (.iastore, 1) := by decide +kernel
theorem dX0_erase_36 : decode cX0_erase 36 = .ok (.iinc 3 1, 3) := by decide +kernel
theorem dX0_erase_39 : decode cX0_erase 39 = .ok (.goto (-37), 3) := by decide +kernel
theorem dX0_erase_42 : decode cX0_erase 42 = .ok (.return_, 1) := by decide +kernel
theorem dX0_fill_0 : decode cX0_fill 0 = .ok (.aload_n 0, 1) := by decide +kernel
theorem dX0_fill_1 : decode cX0_fill 1 = .ok (.getfield 15, 3) := by decide +kernel
theorem dX0_fill_4 : decode cX0_fill 4 = .ok (.iload_n 1, 1) := by decide +kernel
theorem dX0_fill_5 : decode cX0_fill 5 = .ok (.iload_n 2, 1) := by decide +kernel
theorem dX0_fill_6 : decode cX0_fill 6 = .ok (.iastore, 1) := by decide +kernel
theorem dX0_fill_7 : decode cX0_fill 7 = .ok (.aload_n 0, 1) := by decide +kernel
theorem dX0_fill_8 : decode cX0_fill 8 = .ok (.getfield 18, 3) := by decide +kernel
theorem dX0_fill_11 : decode cX0_fill 11 = .ok (.iload_n 1, 1) := by decide +kernel
theorem dX0_fill_12 : decode cX0_fill 12 = .ok (.iload_n 3, 1) := by decide +kernel
theorem dX0_fill_13 : decode cX0_fill 13 = .ok (.iastore, 1) := by decide +kernel
theorem dX0_fill_14 : decode cX0_fill 14 = .ok (.aload_n 0, 1) := by decide +kernel
theorem dX0_fill_15 : decode cX0_fill 15 = .ok (.getfield 21, 3) := by decide +kernel
theorem dX0_fill_18 : decode cX0_fill 18 = .ok (.iload_n 1, 1) := by decide +kernel
theorem dX0_fill_19 : decode cX0_fill 19 = .ok (.iload 4, 2) := by decide +kernel
theorem dX0_fill_21 : decode cX0_fill 21 = .ok (.iastore, 1) := by decide +kernel
theorem dX0_fill_22 : decode cX0_fill 22 = .ok (.return_, 1) := by decide +kernel
theorem dX0_isNeeded_0 : decode cX0_isNeeded 0 = .ok (.aload_n 0, 1) := by decide +kernel
theorem dX0_isNeeded_1 : decode cX0_isNeeded 1 = .ok (.getfield 9, 3) := by decide +kernel
theorem dX0_isNeeded_4 : decode cX0_isNeeded 4 = .ok (.iload_n 1, 1) := by decide +kernel
theorem dX0_isNeeded_5 : decode cX0_isNeeded 5 = .ok (.iaload, 1) := by decide +kernel
theorem dX0_isNeeded_6 : decode cX0_isNeeded 6 = .ok (.iconst 1, 1) := by decide +kernel
theorem dX0_isNeeded_7 : decode cX0_isNeeded 7 = .ok (.if_icmp .eq 13, 3) := by decide +kernel
theorem dX0_isNeeded_10 : decode cX0_isNeeded 10 = .ok (.aload_n 0, 1) := by decide +kernel
theorem dX0_isNeeded_11 : decode cX0_isNeeded 11 = .ok (.getfield 9, 3) := by decide +kernel
theorem dX0_isNeeded_14 : decode cX0_isNeeded 14 = .ok (.iload_n 1, 1) := by decide +kernel
theorem dX0_isNeeded_15 : decode cX0_isNeeded 15 = .ok (.iaload, 1) := by decide +kernel
theorem dX0_isNeeded_16 : decode cX0_isNeeded 16 = .ok (.iconst 2, 1) := by decide +kernel
theorem dX0_isNeeded_17 : decode cX0_isNeeded 17 = .ok (.if_icmp .ne 7, 3) := by decide +kernel
theorem dX0_isNeeded_20 : decode cX0_isNeeded 20 = .ok (.iconst 1, 1) := by decide +kernel
theorem dX0_isNeeded_21 : decode cX0_isNeeded 21 = .ok (.goto 4, 3) := by decide +kernel
theorem dX0_isNeeded_24 : decode cX0_isNeeded 24 = .ok (.iconst 0, 1) := by decide +kernel
theorem dX0_isNeeded_25 : decode cX0_isNeeded 25 = .ok (.ireturn, 1) := by decide +kernel
theorem dX0_inState_0 : decode cX0_inState 0 = .ok (.iconst 0, 1) := by decide +kernel
theorem dX0_inState_1 : decode cX0_inState 1 = .ok (.istore 4, 2) := by decide +kernel
theorem dX0_inState_3 : decode cX0_inState 3 = .ok (.iload_n 1, 1) := by decide +kernel
theorem dX0_inState_4 : decode cX0_inState 4 = .ok (.istore 5, 2) := by decide +kernel
theorem dX0_inState_6 : decode cX0_inState 6 = .ok (.iload 5, 2) := by decide +kernel
theorem dX0_inState_8 : decode cX0_inState 8 = .ok (.iload_n 2, 1) := by decide +kernel
theorem dX0_inState_9 : decode cX0_inState 9 = .ok (.if_icmp .ge 23, 3) := by decide +kernel
theorem dX0_inState_12 : decode cX0_inState 12 = .ok (.aload_n 0, 1) := by decide +kernel
theorem dX0_inState_13 : decode cX0_inState 13 = .ok (.getfield 9, 3) := by decide +kernel
theorem dX0_inState_16 : decode cX0_inState 16 = .ok (.iload 5, 2) := by decide +kernel
theorem dX0_inState_18 : decode cX0_inState 18 = .ok (.iaload, 1) := by decide +kernel
theorem dX0_inState_19 : decode cX0_inState 19 = .ok (.iload_n 3, 1) := by decide +kernel
theorem dX0_inState_20 : decode cX0_inState 20 = .ok (.if_icmp .ne 6, 3) := by decide +kernel
theorem dX0_inState_23 : decode cX0_inState 23 = .ok (.iinc 4 1, 3) := by decide +kernel
theorem dX0_inState_26 : decode cX0_inState 26 = .ok (.iinc 5 1, 3) := by decide +kernel
theorem dX0_inState_29 : decode cX0_inState 29 = .ok (.goto (-23), 3) := by decide +kernel
theorem dX0_inState_32 : decode cX0_inState 32 = .ok (.iload 4, 2) := by decide +kernel
theorem dX0_inState_34 : decode cX0_inState 34 = .ok (.ireturn, 1) := by decide +kernel
theorem dX0_latestTick_0 : decode cX0_latestTick 0 = .ok (.iconst (-1), 1) := by decide +kernel
theorem dX0_latestTick_1 : decode cX0_latestTick 1 = .ok (.istore_n 3, 1) := by decide +kernel
theorem dX0_latestTick_2 : decode cX0_latestTick 2 = .ok (.iload_n 1, 1) := by decide +kernel
theorem dX0_latestTick_3 : decode cX0_latestTick 3 = .ok (.istore 4, 2) := by decide +kernel
theorem dX0_latestTick_5 : decode cX0_latestTick 5 = .ok (.iload 4, 2) := by decide +kernel
theorem dX0_latestTick_7 : decode cX0_latestTick 7 = .ok (.iload_n 2, 1) := by decide +kernel
theorem dX0_latestTick_8 : decode cX0_latestTick 8 = .ok (.if_icmp .ge 21, 3) := by decide +kernel
theorem dX0_latestTick_11 : decode cX0_latestTick 11 = .ok (.iload_n 3, 1) := by decide +kernel
theorem dX0_latestTick_12 : decode cX0_latestTick 12 = .ok (.aload_n 0, 1) := by decide +kernel
theorem dX0_latestTick_13 : decode cX0_latestTick 13 = .ok (.getfield 21, 3) := by decide +kernel
theorem dX0_latestTick_16 : decode cX0_latestTick 16 = .ok (.iload 4, 2) := by decide +kernel
theorem dX0_latestTick_18 : decode cX0_latestTick 18 = .ok (.iaload, 1) := by decide +kernel
theorem dX0_latestTick_19 : decode cX0_latestTick 19 = .ok (.invokestatic 44, 3) := by decide +kernel
theorem dX0_latestTick_22 : decode cX0_latestTick 22 = .ok (.istore_n 3, 1) := by decide +kernel
theorem dX0_latestTick_23 : decode cX0_latestTick 23 = .ok (.iinc 4 1, 3) := by decide +kernel
theorem dX0_latestTick_26 : decode cX0_latestTick 26 = .ok (.goto (-21), 3) := by decide +kernel
theorem dX0_latestTick_29 : decode cX0_latestTick 29 = .ok (.iload_n 3, 1) := by decide +kernel
theorem dX0_latestTick_30 : decode cX0_latestTick 30 = .ok (.ireturn, 1) := by decide +kernel
set_option maxRecDepth 20000 in
theorem ggX0_versionsOf_X0_isVersion : GoodIn wsX0_versionsOf wsX0_isVersion := goodIn_r _ [5, 6, 7, 8, 9, 10, 4, 11, 12, 13, 14, 15, 16, 17] (by first | rfl | decide +kernel) (by decide +kernel)
set_option maxRecDepth 20000 in
theorem gX0_versionsOf_X0_isVersion : GoodIn wsX0_versionsOf (wsV RX0 50 RX0 yX0_isVersion wsX0_isVersion) := goodIn_app (goodIn_of _ (by decide +kernel)) ggX0_versionsOf_X0_isVersion
theorem dX0_versionsOf_0 : decode cX0_versionsOf 0 = .ok (.iconst 0, 1) := by decide +kernel
theorem dX0_versionsOf_1 : decode cX0_versionsOf 1 = .ok (.istore_n 2, 1) := by decide +kernel
theorem dX0_versionsOf_2 : decode cX0_versionsOf 2 = .ok (.iconst 0, 1) := by decide +kernel
theorem dX0_versionsOf_3 : decode cX0_versionsOf 3 = .ok (.istore_n 3, 1) := by decide +kernel
theorem dX0_versionsOf_4 : decode cX0_versionsOf 4 = .ok (.iload_n 3, 1) := by decide +kernel
theorem dX0_versionsOf_5 : decode cX0_versionsOf 5 = .ok (.sipush 160, 3) := by decide +kernel
theorem dX0_versionsOf_8 : decode cX0_versionsOf 8 = .ok (.if_icmp .ge 21, 3) := by decide +kernel
theorem dX0_versionsOf_11 : decode cX0_versionsOf 11 = .ok (.aload_n 0, 1) := by decide +kernel
theorem dX0_versionsOf_12 : decode cX0_versionsOf 12 = .ok (.iload_n 3, 1) := by decide +kernel
theorem dX0_versionsOf_13 : decode cX0_versionsOf 13 = .ok (.iload_n 1, 1) := by decide +kernel
theorem dX0_versionsOf_14 : decode cX0_versionsOf 14 = .ok (.invokevirtual 50, 3) := by decide +kernel
theorem dX0_versionsOf_17 : decode cX0_versionsOf 17 = .ok (.ifCond .eq 6, 3) := by decide +kernel
theorem dX0_versionsOf_20 : decode cX0_versionsOf 20 = .ok (.iinc 2 1, 3) := by decide +kernel
theorem dX0_versionsOf_23 : decode cX0_versionsOf 23 = .ok (.iinc 3 1, 3) := by decide +kernel
theorem dX0_versionsOf_26 : decode cX0_versionsOf 26 = .ok (.goto (-22), 3) := by decide +kernel
theorem dX0_versionsOf_29 : decode cX0_versionsOf 29 = .ok (.iload_n 2, 1) := by decide +kernel
theorem dX0_versionsOf_30 : decode cX0_versionsOf 30 = .ok (.ireturn, 1) := by decide +kernel
set_option maxRecDepth 20000 in
theorem ggX0_versionAt_X0_isVersion : GoodIn wsX0_versionAt wsX0_isVersion := goodIn_r _ [5, 6, 7, 8, 9, 10, 4, 11, 12, 13, 14, 15, 16, 17] (by first | rfl | decide +kernel) (by decide +kernel)
set_option maxRecDepth 20000 in
theorem gX0_versionAt_X0_isVersion : GoodIn wsX0_versionAt (wsV RX0 50 RX0 yX0_isVersion wsX0_isVersion) := goodIn_app (goodIn_of _ (by decide +kernel)) ggX0_versionAt_X0_isVersion
theorem dX0_versionAt_0 : decode cX0_versionAt 0 = .ok (.iconst 0, 1) := by decide +kernel
theorem dX0_versionAt_1 : decode cX0_versionAt 1 = .ok (.istore_n 3, 1) := by decide +kernel
theorem dX0_versionAt_2 : decode cX0_versionAt 2 = .ok (.iconst 0, 1) := by decide +kernel
theorem dX0_versionAt_3 : decode cX0_versionAt 3 = .ok (.istore 4, 2) := by decide +kernel
theorem dX0_versionAt_5 : decode cX0_versionAt 5 = .ok (.iload 4, 2) := by decide +kernel
theorem dX0_versionAt_7 : decode cX0_versionAt 7 = .ok (.sipush 160, 3) := by decide +kernel
theorem dX0_versionAt_10 : decode cX0_versionAt 10 = .ok (.if_icmp .ge 30, 3) := by decide +kernel
theorem dX0_versionAt_13 : decode cX0_versionAt 13 = .ok (.aload_n 0, 1) := by decide +kernel
theorem dX0_versionAt_14 : decode cX0_versionAt 14 = .ok (.iload 4, 2) := by decide +kernel
theorem dX0_versionAt_16 : decode cX0_versionAt 16 = .ok (.iload_n 1, 1) := by decide +kernel
theorem dX0_versionAt_17 : decode cX0_versionAt 17 = .ok (.invokevirtual 50, 3) := by decide +kernel
theorem dX0_versionAt_20 : decode cX0_versionAt 20 = .ok (.ifCond .eq 14, 3) := by decide +kernel
theorem dX0_versionAt_23 : decode cX0_versionAt 23 = .ok (.iload_n 3, 1) := by decide +kernel
theorem dX0_versionAt_24 : decode cX0_versionAt 24 = .ok (.iload_n 2, 1) := by decide +kernel
theorem dX0_versionAt_25 : decode cX0_versionAt 25 = .ok (.if_icmp .ne 6, 3) := by decide +kernel
theorem dX0_versionAt_28 : decode cX0_versionAt 28 = .ok (.iload 4, 2) := by decide +kernel
theorem dX0_versionAt_30 : decode cX0_versionAt 30 = .ok (.ireturn, 1) := by decide +kernel
theorem dX0_versionAt_31 : decode cX0_versionAt 31 = .ok (.iinc 3 1, 3) := by decide +kernel
theorem dX0_versionAt_34 : decode cX0_versionAt 34 = .ok (.iinc 4 1, 3) := by decide +kernel
theorem dX0_versionAt_37 : decode cX0_versionAt 37 = .ok (.goto (-32), 3) := by decide +kernel
theorem dX0_versionAt_40 : decode cX0_versionAt 40 = .ok (.iconst (-1), 1) := by decide +kernel
theorem dX0_versionAt_41 : decode cX0_versionAt 41 = .ok (.ireturn, 1) := by decide +kernel
set_option maxRecDepth 20000 in
theorem ggX0_isVersion_X0_isNeeded : GoodIn wsX0_isVersion wsX0_isNeeded := goodIn_r _ [7, 2, 8, 9, 10, 11, 12, 13] (by first | rfl | decide +kernel) (by decide +kernel)
set_option maxRecDepth 20000 in
theorem gX0_isVersion_X0_isNeeded : GoodIn wsX0_isVersion (wsV RX0 54 RX0 yX0_isNeeded wsX0_isNeeded) := goodIn_app (goodIn_of _ (by decide +kernel)) ggX0_isVersion_X0_isNeeded
theorem dX0_isVersion_0 : decode cX0_isVersion 0 = .ok (.aload_n 0, 1) := by decide +kernel
theorem dX0_isVersion_1 : decode cX0_isVersion 1 = .ok (.getfield 15, 3) := by decide +kernel
theorem dX0_isVersion_4 : decode cX0_isVersion 4 = .ok (.iload_n 1, 1) := by decide +kernel
theorem dX0_isVersion_5 : decode cX0_isVersion 5 = .ok (.iaload, 1) := by decide +kernel
theorem dX0_isVersion_6 : decode cX0_isVersion 6 = .ok (.iload_n 2, 1) := by decide +kernel
theorem dX0_isVersion_7 : decode cX0_isVersion 7 = .ok (.if_icmp .ne 25, 3) := by decide +kernel
theorem dX0_isVersion_10 : decode cX0_isVersion 10 = .ok (.aload_n 0, 1) := by decide +kernel
theorem dX0_isVersion_11 : decode cX0_isVersion 11 = .ok (.iload_n 1, 1) := by decide +kernel
theorem dX0_isVersion_12 : decode cX0_isVersion 12 = .ok (.invokevirtual 54, 3) := by decide +kernel
theorem dX0_isVersion_15 : decode cX0_isVersion 15 = .ok (.ifCond .ne 13, 3) := by decide +kernel
theorem dX0_isVersion_18 : decode cX0_isVersion 18 = .ok (.aload_n 0, 1) := by decide +kernel
theorem dX0_isVersion_19 : decode cX0_isVersion 19 = .ok (.getfield 9, 3) := by decide +kernel
theorem dX0_isVersion_22 : decode cX0_isVersion 22 = .ok (.iload_n 1, 1) := by decide +kernel
theorem dX0_isVersion_23 : decode cX0_isVersion 23 = .ok (.iaload, 1) := by decide +kernel
theorem dX0_isVersion_24 : decode cX0_isVersion 24 = .ok (.iconst 3, 1) := by decide +kernel
theorem dX0_isVersion_25 : decode cX0_isVersion 25 = .ok (.if_icmp .ne 7, 3) := by decide +kernel
theorem dX0_isVersion_28 : decode cX0_isVersion 28 = .ok (.iconst 1, 1) := by decide +kernel
theorem dX0_isVersion_29 : decode cX0_isVersion 29 = .ok (.goto 4, 3) := by decide +kernel
theorem dX0_isVersion_32 : decode cX0_isVersion 32 = .ok (.iconst 0, 1) := by decide +kernel
theorem dX0_isVersion_33 : decode cX0_isVersion 33 = .ok (.ireturn, 1) := by decide +kernel
theorem dX0_beginToWait_0 : decode cX0_beginToWait 0 = .ok (.aload_n 0, 1) := by decide +kernel
theorem dX0_beginToWait_1 : decode cX0_beginToWait 1 = .ok (.getfield 9, 3) := by decide +kernel
theorem dX0_beginToWait_4 : decode cX0_beginToWait 4 = .ok (.iload_n 1, 1) := by decide +kernel
theorem dX0_beginToWait_5 : decode cX0_beginToWait 5 = .ok (.iconst 3, 1) := by decide +kernel
theorem dX0_beginToWait_6 : decode cX0_beginToWait 6 = .ok (.iastore, 1) := by decide +kernel
theorem dX0_beginToWait_7 : decode cX0_beginToWait 7 = .ok (.aload_n 0, 1) := by decide +kernel
theorem dX0_beginToWait_8 : decode cX0_beginToWait 8 = .ok (.getfield 24, 3) := by decide +kernel
theorem dX0_beginToWait_11 : decode cX0_beginToWait 11 = .ok (.iload_n 1, 1) := by decide +kernel
theorem dX0_beginToWait_12 : decode cX0_beginToWait 12 = .ok (.iload_n 2, 1) := by decide +kernel
theorem dX0_beginToWait_13 : decode cX0_beginToWait 13 = .ok (.iastore, 1) := by decide +kernel
theorem dX0_beginToWait_14 : decode cX0_beginToWait 14 = .ok (.return_, 1) := by decide +kernel
theorem dX0_waitingUpTo_0 : decode cX0_waitingUpTo 0 = .ok (.iconst 0, 1) := by decide +kernel
theorem dX0_waitingUpTo_1 : decode cX0_waitingUpTo 1 = .ok (.istore_n 2, 1) := by decide +kernel
theorem dX0_waitingUpTo_2 : decode cX0_waitingUpTo 2 = .ok (.iconst 0, 1) := by decide +kernel
theorem dX0_waitingUpTo_3 : decode cX0_waitingUpTo 3 = .ok (.istore_n 3, 1) := by decide +kernel
theorem dX0_waitingUpTo_4 : decode cX0_waitingUpTo 4 = .ok (.iload_n 3, 1) := by decide +kernel
theorem dX0_waitingUpTo_5 : decode cX0_waitingUpTo 5 = .ok (.sipush 160, 3) := by decide +kernel
theorem dX0_waitingUpTo_8 : decode cX0_waitingUpTo 8 = .ok (.if_icmp .ge 32, 3) := by decide +kernel
theorem dX0_waitingUpTo_11 : decode cX0_waitingUpTo 11 = .ok (.aload_n 0, 1) := by decide +kernel
theorem dX0_waitingUpTo_12 : decode cX0_waitingUpTo 12 = .ok (.getfield 9, 3) := by decide +kernel
theorem dX0_waitingUpTo_15 : decode cX0_waitingUpTo 15 = .ok (.iload_n 3, 1) := by decide +kernel
theorem dX0_waitingUpTo_16 : decode cX0_waitingUpTo 16 = .ok (.iaload, 1) := by decide +kernel
theorem dX0_waitingUpTo_17 : decode cX0_waitingUpTo 17 = .ok (.iconst 3, 1) := by decide +kernel
theorem dX0_waitingUpTo_18 : decode cX0_waitingUpTo 18 = .ok (.if_icmp .ne 16, 3) := by decide +kernel
theorem dX0_waitingUpTo_21 : decode cX0_waitingUpTo 21 = .ok (.aload_n 0, 1) := by decide +kernel
theorem dX0_waitingUpTo_22 : decode cX0_waitingUpTo 22 = .ok (.getfield 24, 3) := by decide +kernel
theorem dX0_waitingUpTo_25 : decode cX0_waitingUpTo 25 = .ok (.iload_n 3, 1) := by decide +kernel
theorem dX0_waitingUpTo_26 : decode cX0_waitingUpTo 26 = .ok (.iaload, 1) := by decide +kernel
theorem dX0_waitingUpTo_27 : decode cX0_waitingUpTo 27 = .ok (.iload_n 1, 1) := by decide +kernel
theorem dX0_waitingUpTo_28 : decode cX0_waitingUpTo 28 = .ok (.if_icmp .gt 6, 3) := by decide +kernel
theorem dX0_waitingUpTo_31 : decode cX0_waitingUpTo 31 = .ok (.iinc 2 1, 3) := by decide +kernel
theorem dX0_waitingUpTo_34 : decode cX0_waitingUpTo 34 = .ok (.iinc 3 1, 3) := by decide +kernel
theorem dX0_waitingUpTo_37 : decode cX0_waitingUpTo 37 = .ok (.goto (-33), 3) := by decide +kernel
theorem dX0_waitingUpTo_40 : decode cX0_waitingUpTo 40 = .ok (.iload_n 2, 1) := by decide +kernel
theorem dX0_waitingUpTo_41 : decode cX0_waitingUpTo 41 = .ok (.ireturn, 1) := by decide +kernel
theorem dX0_latestWaitingEpoch_0 : decode cX0_latestWaitingEpoch 0 = .ok (.iconst (-1), 1) := by decide +kernel
theorem dX0_latestWaitingEpoch_1 : decode cX0_latestWaitingEpoch 1 = .ok (.istore_n 3, 1) := by decide +kernel
theorem dX0_latestWaitingEpoch_2 : decode cX0_latestWaitingEpoch 2 = .ok (.iload_n 1, 1) := by decide +kernel
theorem dX0_latestWaitingEpoch_3 : decode cX0_latestWaitingEpoch 3 = .ok (.istore 4, 2) := by decide +kernel
theorem dX0_latestWaitingEpoch_5 : decode cX0_latestWaitingEpoch 5 = .ok (.iload 4, 2) := by decide +kernel
theorem dX0_latestWaitingEpoch_7 : decode cX0_latestWaitingEpoch 7 = .ok (.iload_n 2, 1) := by decide +kernel
theorem dX0_latestWaitingEpoch_8 : decode cX0_latestWaitingEpoch 8 = .ok (.if_icmp .ge 21, 3) := by decide +kernel
theorem dX0_latestWaitingEpoch_11 : decode cX0_latestWaitingEpoch 11 = .ok (.iload_n 3, 1) := by decide +kernel
theorem dX0_latestWaitingEpoch_12 : decode cX0_latestWaitingEpoch 12 = .ok (.aload_n 0, 1) := by decide +kernel
theorem dX0_latestWaitingEpoch_13 : decode cX0_latestWaitingEpoch 13 = .ok (.getfield 24, 3) := by decide +kernel
theorem dX0_latestWaitingEpoch_16 : decode cX0_latestWaitingEpoch 16 = .ok (.iload 4, 2) := by decide +kernel
theorem dX0_latestWaitingEpoch_18 : decode cX0_latestWaitingEpoch 18 = .ok (.iaload, 1) := by decide +kernel
theorem dX0_latestWaitingEpoch_19 : decode cX0_latestWaitingEpoch 19 = .ok (.invokestatic 44, 3) := by decide +kernel
theorem dX0_latestWaitingEpoch_22 : decode cX0_latestWaitingEpoch 22 = .ok (.istore_n 3, 1) := by decide +kernel
theorem dX0_latestWaitingEpoch_23 : decode cX0_latestWaitingEpoch 23 = .ok (.iinc 4 1, 3) := by decide +kernel
theorem dX0_latestWaitingEpoch_26 : decode cX0_latestWaitingEpoch 26 = .ok (.goto (-21), 3) := by decide +kernel
theorem dX0_latestWaitingEpoch_29 : decode cX0_latestWaitingEpoch 29 = .ok (.iload_n 3, 1) := by decide +kernel
theorem dX0_latestWaitingEpoch_30 : decode cX0_latestWaitingEpoch 30 = .ok (.ireturn, 1) := by decide +kernel
theorem dX0_letDie_0 : decode cX0_letDie 0 = .ok (.iconst 0, 1) := by decide +kernel
theorem dX0_letDie_1 : decode cX0_letDie 1 = .ok (.istore_n 2, 1) := by decide +kernel
theorem dX0_letDie_2 : decode cX0_letDie 2 = .ok (.iconst 0, 1) := by decide +kernel
theorem dX0_letDie_3 : decode cX0_letDie 3 = .ok (.istore_n 3, 1) := by decide +kernel
theorem dX0_letDie_4 : decode cX0_letDie 4 = .ok (.iload_n 3, 1) := by decide +kernel
theorem dX0_letDie_5 : decode cX0_letDie 5 = .ok (.sipush 160, 3) := by decide +kernel
theorem dX0_letDie_8 : decode cX0_letDie 8 = .ok (.if_icmp .ge 46, 3) := by decide +kernel
theorem dX0_letDie_11 : decode cX0_letDie 11 = .ok (.aload_n 0, 1) := by decide +kernel
theorem dX0_letDie_12 : decode cX0_letDie 12 = .ok (.getfield 9, 3) := by decide +kernel
theorem dX0_letDie_15 : decode cX0_letDie 15 = .ok (.iload_n 3, 1) := by decide +kernel
theorem dX0_letDie_16 : decode cX0_letDie 16 = .ok (.iaload, 1) := by decide +kernel
theorem dX0_letDie_17 : decode cX0_letDie 17 = .ok (.iconst 3, 1) := by decide +kernel
theorem dX0_letDie_18 : decode cX0_letDie 18 = .ok (.if_icmp .ne 30, 3) := by decide +kernel
theorem dX0_letDie_21 : decode cX0_letDie 21 = .ok (.aload_n 0, 1) := by decide +kernel
theorem dX0_letDie_22 : decode cX0_letDie 22 = .ok (.getfield 24, 3) := by decide +kernel
theorem dX0_letDie_25 : decode cX0_letDie 25 = .ok (.iload_n 3, 1) := by decide +kernel
theorem dX0_letDie_26 : decode cX0_letDie 26 = .ok (.iaload, 1) := by decide +kernel
theorem dX0_letDie_27 : decode cX0_letDie 27 = .ok (.iload_n 1, 1) := by decide +kernel
theorem dX0_letDie_28 : decode cX0_letDie 28 = .ok (.if_icmp .gt 20, 3) := by decide +kernel
theorem dX0_letDie_31 : decode cX0_letDie 31 = .ok (.aload_n 0, 1) := by decide +kernel
theorem dX0_letDie_32 : decode cX0_letDie 32 = .ok (.getfield 9, 3) := by decide +kernel
theorem dX0_letDie_35 : decode cX0_letDie 35 = .ok (.iload_n 3, 1) := by decide +kernel
theorem dX0_letDie_36 : decode cX0_letDie 36 = .ok (.iconst 4, 1) := by decide +kernel
theorem dX0_letDie_37 : decode cX0_letDie 37 = .ok (.iastore, 1) := by decide +kernel
theorem dX0_letDie_38 : decode cX0_letDie 38 = .ok (.aload_n 0, 1) := by decide +kernel
theorem dX0_letDie_39 : decode cX0_letDie 39 = .ok (.getfield 24, 3) := by decide +kernel
theorem dX0_letDie_42 : decode cX0_letDie 42 = .ok (.iload_n 3, 1) := by decide +kernel
theorem dX0_letDie_43 : decode cX0_letDie 43 = .ok (.iconst (-1), 1) := by decide +kernel
theorem dX0_letDie_44 : decode cX0_letDie 44 = .ok (.iastore, 1) := by decide +kernel
theorem dX0_letDie_45 : decode cX0_letDie 45 = .ok (.iinc 2 1, 3) := by decide +kernel
theorem dX0_letDie_48 : decode cX0_letDie 48 = .ok (.iinc 3 1, 3) := by decide +kernel
theorem dX0_letDie_51 : decode cX0_letDie 51 = .ok (.goto (-47), 3) := by decide +kernel
theorem dX0_letDie_54 : decode cX0_letDie 54 = .ok (.iload_n 2, 1) := by decide +kernel
theorem dX0_letDie_55 : decode cX0_letDie 55 = .ok (.ireturn, 1) := by decide +kernel
theorem dX0_isHeldBy_0 : decode cX0_isHeldBy 0 = .ok (.aload_n 0, 1) := by decide +kernel
theorem dX0_isHeldBy_1 : decode cX0_isHeldBy 1 = .ok (.getfield 27, 3) := by decide +kernel
theorem dX0_isHeldBy_4 : decode cX0_isHeldBy 4 = .ok (.iload_n 1, 1) := by decide +kernel
theorem dX0_isHeldBy_5 : decode cX0_isHeldBy 5 = .ok (.iaload, 1) := by decide +kernel
theorem dX0_isHeldBy_6 : decode cX0_isHeldBy 6 = .ok (.iconst 1, 1) := by decide +kernel
theorem dX0_isHeldBy_7 : decode cX0_isHeldBy 7 = .ok (.iload_n 2, 1) := by decide +kernel
theorem dX0_isHeldBy_8 : decode cX0_isHeldBy 8 = .ok (.ishl, 1) := by decide +kernel
theorem dX0_isHeldBy_9 : decode cX0_isHeldBy 9 = .ok (.iand, 1) := by decide +kernel
theorem dX0_isHeldBy_10 : decode cX0_isHeldBy 10 = .ok (.ifCond .eq 7, 3) := by decide +kernel
theorem dX0_isHeldBy_13 : decode cX0_isHeldBy 13 = .ok (.iconst 1, 1) := by decide +kernel
theorem dX0_isHeldBy_14 : decode cX0_isHeldBy 14 = .ok (.goto 4, 3) := by decide +kernel
theorem dX0_isHeldBy_17 : decode cX0_isHeldBy 17 = .ok (.iconst 0, 1) := by decide +kernel
theorem dX0_isHeldBy_18 : decode cX0_isHeldBy 18 = .ok (.ireturn, 1) := by decide +kernel
theorem dX0_addHolder_0 : decode cX0_addHolder 0 = .ok (.aload_n 0, 1) := by decide +kernel
theorem dX0_addHolder_1 : decode cX0_addHolder 1 = .ok (.getfield 27, 3) := by decide +kernel
theorem dX0_addHolder_4 : decode cX0_addHolder 4 = .ok (.iload_n 1, 1) := by decide +kernel
theorem dX0_addHolder_5 : decode cX0_addHolder 5 = .ok (.dup2, 1) := by decide +kernel
theorem dX0_addHolder_6 : decode cX0_addHolder 6 = .ok (.iaload, 1) := by decide +kernel
theorem dX0_addHolder_7 : decode cX0_addHolder 7 = .ok (.iconst 1, 1) := by decide +kernel
theorem dX0_addHolder_8 : decode cX0_addHolder 8 = .ok (.iload_n 2, 1) := by decide +kernel
theorem dX0_addHolder_9 : decode cX0_addHolder 9 = .ok (.ishl, 1) := by decide +kernel
theorem dX0_addHolder_10 : decode cX0_addHolder 10 = .ok (.ior, 1) := by decide +kernel
theorem dX0_addHolder_11 : decode cX0_addHolder 11 = .ok (.iastore, 1) := by decide +kernel
theorem dX0_addHolder_12 : decode cX0_addHolder 12 = .ok (.return_, 1) := by decide +kernel
theorem dX0_removeHolder_0 : decode cX0_removeHolder 0 = .ok (.aload_n 0, 1) := by decide +kernel
theorem dX0_removeHolder_1 : decode cX0_removeHolder 1 = .ok (.getfield 27, 3) := by decide +kernel
theorem dX0_removeHolder_4 : decode cX0_removeHolder 4 = .ok (.iload_n 1, 1) := by decide +kernel
theorem dX0_removeHolder_5 : decode cX0_removeHolder 5 = .ok (.dup2, 1) := by decide +kernel
theorem dX0_removeHolder_6 : decode cX0_removeHolder 6 = .ok (.iaload, 1) := by decide +kernel
theorem dX0_removeHolder_7 : decode cX0_removeHolder 7 = .ok (.iconst 1, 1) := by decide +kernel
theorem dX0_removeHolder_8 : decode cX0_removeHolder 8 = .ok (.iload_n 2, 1) := by decide +kernel
theorem dX0_removeHolder_9 : decode cX0_removeHolder 9 = .ok (.ishl, 1) := by decide +kernel
theorem dX0_removeHolder_10 : decode cX0_removeHolder 10 = .ok (.iconst (-1), 1) := by decide +kernel
theorem dX0_removeHolder_11 : decode cX0_removeHolder 11 = .ok (.ixor, 1) := by decide +kernel
theorem dX0_removeHolder_12 : decode cX0_removeHolder 12 = .ok (.iand, 1) := by decide +kernel
theorem dX0_removeHolder_13 : decode cX0_removeHolder 13 = .ok (.iastore, 1) := by decide +kernel
theorem dX0_removeHolder_14 : decode cX0_removeHolder 14 = .ok (.return_, 1) := by decide +kernel
set_option maxRecDepth 20000 in
theorem ggX0_heldBy_X0_isHeldBy : GoodIn wsX0_heldBy wsX0_isHeldBy := goodIn_r _ [5, 6, 7, 8, 9, 10, 11, 12] (by first | rfl | decide +kernel) (by decide +kernel)
set_option maxRecDepth 20000 in
theorem gX0_heldBy_X0_isHeldBy : GoodIn wsX0_heldBy (wsV RX0 58 RX0 yX0_isHeldBy wsX0_isHeldBy) := goodIn_app (goodIn_of _ (by decide +kernel)) ggX0_heldBy_X0_isHeldBy
theorem dX0_heldBy_0 : decode cX0_heldBy 0 = .ok (.iconst 0, 1) := by decide +kernel
theorem dX0_heldBy_1 : decode cX0_heldBy 1 = .ok (.istore_n 2, 1) := by decide +kernel
theorem dX0_heldBy_2 : decode cX0_heldBy 2 = .ok (.iconst 0, 1) := by decide +kernel
theorem dX0_heldBy_3 : decode cX0_heldBy 3 = .ok (.istore_n 3, 1) := by decide +kernel
theorem dX0_heldBy_4 : decode cX0_heldBy 4 = .ok (.iload_n 3, 1) := by decide +kernel
theorem dX0_heldBy_5 : decode cX0_heldBy 5 = .ok (.sipush 160, 3) := by decide +kernel
theorem dX0_heldBy_8 : decode cX0_heldBy 8 = .ok (.if_icmp .ge 21, 3) := by decide +kernel
theorem dX0_heldBy_11 : decode cX0_heldBy 11 = .ok (.aload_n 0, 1) := by decide +kernel
theorem dX0_heldBy_12 : decode cX0_heldBy 12 = .ok (.iload_n 3, 1) := by decide +kernel
theorem dX0_heldBy_13 : decode cX0_heldBy 13 = .ok (.iload_n 1, 1) := by decide +kernel
theorem dX0_heldBy_14 : decode cX0_heldBy 14 = .ok (.invokevirtual 58, 3) := by decide +kernel
theorem dX0_heldBy_17 : decode cX0_heldBy 17 = .ok (.ifCond .eq 6, 3) := by decide +kernel
theorem dX0_heldBy_20 : decode cX0_heldBy 20 = .ok (.iinc 2 1, 3) := by decide +kernel
theorem dX0_heldBy_23 : decode cX0_heldBy 23 = .ok (.iinc 3 1, 3) := by decide +kernel
theorem dX0_heldBy_26 : decode cX0_heldBy 26 = .ok (.goto (-22), 3) := by decide +kernel
theorem dX0_heldBy_29 : decode cX0_heldBy 29 = .ok (.iload_n 2, 1) := by decide +kernel
theorem dX0_heldBy_30 : decode cX0_heldBy 30 = .ok (.ireturn, 1) := by decide +kernel
set_option maxRecDepth 20000 in
theorem ggX0_waitingHeldBy_X0_isHeldBy : GoodIn wsX0_waitingHeldBy wsX0_isHeldBy := goodIn_r _ [6, 7, 8, 9, 10, 11, 12, 13] (by first | rfl | decide +kernel) (by decide +kernel)
set_option maxRecDepth 20000 in
theorem gX0_waitingHeldBy_X0_isHeldBy : GoodIn wsX0_waitingHeldBy (wsV RX0 58 RX0 yX0_isHeldBy wsX0_isHeldBy) := goodIn_app (goodIn_of _ (by decide +kernel)) ggX0_waitingHeldBy_X0_isHeldBy
theorem dX0_waitingHeldBy_0 : decode cX0_waitingHeldBy 0 = .ok (.iconst 0, 1) := by decide +kernel
theorem dX0_waitingHeldBy_1 : decode cX0_waitingHeldBy 1 = .ok (.istore_n 2, 1) := by decide +kernel
theorem dX0_waitingHeldBy_2 : decode cX0_waitingHeldBy 2 = .ok (.iconst 0, 1) := by decide +kernel
theorem dX0_waitingHeldBy_3 : decode cX0_waitingHeldBy 3 = .ok (.istore_n 3, 1) := by decide +kernel
theorem dX0_waitingHeldBy_4 : decode cX0_waitingHeldBy 4 = .ok (.iload_n 3, 1) := by decide +kernel
theorem dX0_waitingHeldBy_5 : decode cX0_waitingHeldBy 5 = .ok (.sipush 160, 3) := by decide +kernel
theorem dX0_waitingHeldBy_8 : decode cX0_waitingHeldBy 8 = .ok (.if_icmp .ge 31, 3) := by decide +kernel
theorem dX0_waitingHeldBy_11 : decode cX0_waitingHeldBy 11 = .ok (.aload_n 0, 1) := by decide +kernel
theorem dX0_waitingHeldBy_12 : decode cX0_waitingHeldBy 12 = .ok (.getfield 9, 3) := by decide +kernel
theorem dX0_waitingHeldBy_15 : decode cX0_waitingHeldBy 15 = .ok (.iload_n 3, 1) := by decide +kernel
theorem dX0_waitingHeldBy_16 : decode cX0_waitingHeldBy 16 = .ok (.iaload, 1) := by decide +kernel
theorem dX0_waitingHeldBy_17 : decode cX0_waitingHeldBy 17 = .ok (.iconst 3, 1) := by decide +kernel
theorem dX0_waitingHeldBy_18 : decode cX0_waitingHeldBy 18 = .ok (.if_icmp .ne 15, 3) := by decide +kernel
theorem dX0_waitingHeldBy_21 : decode cX0_waitingHeldBy 21 = .ok (.aload_n 0, 1) := by decide +kernel
theorem dX0_waitingHeldBy_22 : decode cX0_waitingHeldBy 22 = .ok (.iload_n 3, 1) := by decide +kernel
theorem dX0_waitingHeldBy_23 : decode cX0_waitingHeldBy 23 = .ok (.iload_n 1, 1) := by decide +kernel
theorem dX0_waitingHeldBy_24 : decode cX0_waitingHeldBy 24 = .ok (.invokevirtual 58, 3) := by decide +kernel
theorem dX0_waitingHeldBy_27 : decode cX0_waitingHeldBy 27 = .ok (.ifCond .eq 6, 3) := by decide +kernel
theorem dX0_waitingHeldBy_30 : decode cX0_waitingHeldBy 30 = .ok (.iinc 2 1, 3) := by decide +kernel
theorem dX0_waitingHeldBy_33 : decode cX0_waitingHeldBy 33 = .ok (.iinc 3 1, 3) := by decide +kernel
theorem dX0_waitingHeldBy_36 : decode cX0_waitingHeldBy 36 = .ok (.goto (-32), 3) := by decide +kernel
theorem dX0_waitingHeldBy_39 : decode cX0_waitingHeldBy 39 = .ok (.iload_n 2, 1) := by decide +kernel
theorem dX0_waitingHeldBy_40 : decode cX0_waitingHeldBy 40 = .ok (.ireturn, 1) := by decide +kernel
set_option maxRecDepth 20000 in
theorem ggX0_releaseAll_X0_heldBy : GoodIn wsX0_releaseAll wsX0_heldBy := goodIn_r _ [5, 6, 7, 8, 4, 9, 10, 15, 16, 17, 18, 19, 20] (by first | rfl | decide +kernel) (by decide +kernel)
set_option maxRecDepth 20000 in
theorem gX0_releaseAll_X0_heldBy : GoodIn wsX0_releaseAll (wsV RX0 61 RX0 yX0_heldBy wsX0_heldBy) := goodIn_app (goodIn_of _ (by decide +kernel)) ggX0_releaseAll_X0_heldBy
set_option maxRecDepth 20000 in
theorem ggX0_releaseAll_X0_removeHolder : GoodIn wsX0_releaseAll wsX0_removeHolder := goodIn_r _ [14, 10, 15, 16, 17, 18, 19, 20] (by first | rfl | decide +kernel) (by decide +kernel)
set_option maxRecDepth 20000 in
theorem gX0_releaseAll_X0_removeHolder : GoodIn wsX0_releaseAll (wsV RX0 65 RX0 yX0_removeHolder wsX0_removeHolder) := goodIn_app (goodIn_of _ (by decide +kernel)) ggX0_releaseAll_X0_removeHolder
theorem dX0_releaseAll_0 : decode cX0_releaseAll 0 = .ok (.aload_n 0, 1) := by decide +kernel
theorem dX0_releaseAll_1 : decode cX0_releaseAll 1 = .ok (.iload_n 1, 1) := by decide +kernel
theorem dX0_releaseAll_2 : decode cX0_releaseAll 2 = .ok (.invokevirtual 61, 3) := by decide +kernel
theorem dX0_releaseAll_5 : decode cX0_releaseAll 5 = .ok (.istore_n 2, 1) := by decide +kernel
theorem dX0_releaseAll_6 : decode cX0_releaseAll 6 = .ok (.iconst 0, 1) := by decide +kernel
theorem dX0_releaseAll_7 : decode cX0_releaseAll 7 = .ok (.istore_n 3, 1) := by decide +kernel
theorem dX0_releaseAll_8 : decode cX0_releaseAll 8 = .ok (.iload_n 3, 1) := by decide +kernel
theorem dX0_releaseAll_9 : decode cX0_releaseAll 9 = .ok (.sipush 160, 3) := by decide +kernel
theorem dX0_releaseAll_12 : decode cX0_releaseAll 12 = .ok (.if_icmp .ge 15, 3) := by decide +kernel
theorem dX0_releaseAll_15 : decode cX0_releaseAll 15 = .ok (.aload_n 0, 1) := by decide +kernel
theorem dX0_releaseAll_16 : decode cX0_releaseAll 16 = .ok (.iload_n 3, 1) := by decide +kernel
theorem dX0_releaseAll_17 : decode cX0_releaseAll 17 = .ok (.iload_n 1, 1) := by decide +kernel
theorem dX0_releaseAll_18 : decode cX0_releaseAll 18 = .ok (.invokevirtual 65, 3) := by decide +kernel
theorem dX0_releaseAll_21 : decode cX0_releaseAll 21 = .ok (.iinc 3 1, 3) := by decide +kernel
theorem dX0_releaseAll_24 : decode cX0_releaseAll 24 = .ok (.goto (-16), 3) := by decide +kernel
theorem dX0_releaseAll_27 : decode cX0_releaseAll 27 = .ok (.iload_n 2, 1) := by decide +kernel
theorem dX0_releaseAll_28 : decode cX0_releaseAll 28 = .ok (.ireturn, 1) := by decide +kernel
set_option maxRecDepth 20000 in
theorem ggX1_init_X5_init : GoodIn wsX1_init wsX5_init := goodIn_r _ [9, 10, 2, 3, 11, 12, 13, 14, 15, 16, 17, 18, 19, 20, 21, 22, 23, 24, 25, 26, 27, 28, 29, 30, 31, 32, 33, 34, 35, 36, 37, 38, 39, 40, 41, 42, 43, 44, 45, 46, 47, 48, 49, 50, 51, 52, 53, 54, 55, 70, 71, 72, 73, 74, 75, 59, 60, 61, 62, 63, 64, 65, 66, 67, 68, 69, 76, 77, 78, 79, 80, 81, 82, 83, 84, 85] (by first | rfl | decide +kernel) (by decide +kernel)
set_option maxRecDepth 20000 in
theorem gX1_init_X5_init_n17 : GoodIn wsX1_init (wsX5_init) := ggX1_init_X5_init
theorem dX1_init_0 : decode cX1_init 0 = .ok (.aload_n 0, 1) := by decide +kernel
theorem dX1_init_1 : decode cX1_init 1 = .ok (.invokespecial 3, 3) := by decide +kernel
theorem dX1_init_4 : decode cX1_init 4 = .ok (.aload_n 0, 1) := by decide +kernel
theorem dX1_init_5 : decode cX1_init 5 = .ok (.bipush 8, 2) := by decide +kernel
theorem dX1_init_7 : decode cX1_init 7 = .ok (.anewarray 9, 3) := by decide +kernel
theorem dX1_init_10 : decode cX1_init 10 = .ok (.putfield 11, 3) := by decide +kernel
theorem dX1_init_13 : decode cX1_init 13 = .ok (.iconst 0, 1) := by decide +kernel
theorem dX1_init_14 : decode cX1_init 14 = .ok (.istore_n 1, 1) := by decide +kernel
theorem dX1_init_15 : decode cX1_init 15 = .ok (.iload_n 1, 1) := by decide +kernel
theorem dX1_init_16 : decode cX1_init 16 = .ok (.bipush 8, 2) := by decide +kernel
theorem dX1_init_18 : decode cX1_init 18 = .ok (.if_icmp .ge 22, 3) := by decide +kernel
theorem dX1_init_21 : decode cX1_init 21 = .ok (.aload_n 0, 1) := by decide +kernel
theorem dX1_init_22 : decode cX1_init 22 = .ok (.getfield 11, 3) := by decide +kernel
theorem dX1_init_25 : decode cX1_init 25 = .ok (.iload_n 1, 1) := by decide +kernel
theorem dX1_init_26 : decode cX1_init 26 = .ok (.new 9, 3) := by decide +kernel
theorem dX1_init_29 : decode cX1_init 29 = .ok (.dup, 1) := by decide +kernel
theorem dX1_init_30 : decode cX1_init 30 = .ok (.invokespecial 17, 3) := by decide +kernel
theorem dX1_init_33 : decode cX1_init 33 = .ok (.aastore, 1) := by decide +kernel
theorem dX1_init_34 : decode cX1_init 34 = .ok (.iinc 1 1, 3) := by decide +kernel
theorem dX1_init_37 : decode cX1_init 37 = .ok (.goto (-22), 3) := by decide +kernel
theorem dX1_init_40 : decode cX1_init 40 = .ok (.return_, 1) := by decide +kernel
set_option maxRecDepth 20000 in
theorem ggX1_save_X5_copyFrom : GoodIn wsX1_save wsX5_copyFrom := goodIn_r _ [12, 13, 14, 15, 16, 17, 18, 19, 20, 21, 22, 23, 24, 25, 26, 27, 28, 29, 30, 31, 32, 33, 34, 35, 36, 37, 38, 39, 40, 41, 42, 43, 44, 45, 46, 47, 48, 49, 50, 51, 52, 53, 54, 55, 56, 57, 58, 59, 60, 61, 62, 63, 64, 65, 66, 67, 71, 72, 73, 74, 75, 76, 77, 78, 79, 80, 81, 82, 83, 84, 85, 86, 87, 88, 89, 90, 91, 92, 93, 94, 95, 96, 97] (by first | rfl | decide +kernel) (by decide +kernel)
set_option maxRecDepth 20000 in
theorem gX1_save_X5_copyFrom : GoodIn wsX1_save (wsV RX1 22 RX5 yX5_copyFrom wsX5_copyFrom) := goodIn_app (goodIn_of _ (by decide +kernel)) ggX1_save_X5_copyFrom
theorem dX1_save_0 : decode cX1_save 0 = .ok (.aload_n 0, 1) := by decide +kernel
theorem dX1_save_1 : decode cX1_save 1 = .ok (.getfield 11, 3) := by decide +kernel
theorem dX1_save_4 : decode cX1_save 4 = .ok (.aload_n 0, 1) := by decide +kernel
theorem dX1_save_5 : decode cX1_save 5 = .ok (.getfield 18, 3) := by decide +kernel
theorem dX1_save_8 : decode cX1_save 8 = .ok (.aaload, 1) := by decide +kernel
theorem dX1_save_9 : decode cX1_save 9 = .ok (.aload_n 1, 1) := by decide +kernel
theorem dX1_save_10 : decode cX1_save 10 = .ok (.invokevirtual 22, 3) := by decide +kernel
theorem dX1_save_13 : decode cX1_save 13 = .ok (.aload_n 0, 1) := by decide +kernel
theorem dX1_save_14 : decode cX1_save 14 = .ok (.aload_n 0, 1) := by decide +kernel
theorem dX1_save_15 : decode cX1_save 15 = .ok (.getfield 18, 3) := by decide +kernel
theorem dX1_save_18 : decode cX1_save 18 = .ok (.iconst 1, 1) := by decide +kernel
theorem dX1_save_19 : decode cX1_save 19 = .ok (.iadd, 1) := by decide +kernel
theorem dX1_save_20 : decode cX1_save 20 = .ok (.bipush 8, 2) := by decide +kernel
theorem dX1_save_22 : decode cX1_save 22 = .ok (.irem, 1) := by decide +kernel
theorem dX1_save_23 : decode cX1_save 23 = .ok (.putfield 18, 3) := by decide +kernel
theorem dX1_save_26 : decode cX1_save 26 = .ok (.aload_n 0, 1) := by decide +kernel
theorem dX1_save_27 : decode cX1_save 27 = .ok (.aload_n 0, 1) := by decide +kernel
theorem dX1_save_28 : decode cX1_save 28 = .ok (.getfield 26, 3) := by decide +kernel
theorem dX1_save_31 : decode cX1_save 31 = .ok (.iconst 1, 1) := by decide +kernel
theorem dX1_save_32 : decode cX1_save 32 = .ok (.iadd, 1) := by decide +kernel
theorem dX1_save_33 : decode cX1_save 33 = .ok (.bipush 8, 2) := by decide +kernel
theorem dX1_save_35 : decode cX1_save 35 = .ok (.invokestatic 29, 3) := by decide +kernel
theorem dX1_save_38 : decode cX1_save 38 = .ok (.putfield 26, 3) := by decide +kernel
theorem dX1_save_41 : decode cX1_save 41 = .ok (.return_, 1) := by decide +kernel
set_option maxRecDepth 20000 in
theorem ggX1_restore_X5_copyFrom : GoodIn wsX1_restore wsX5_copyFrom := goodIn_r _ [8, 9, 10, 11, 12, 13, 14, 15, 16, 17, 18, 19, 20, 21, 22, 23, 24, 25, 26, 27, 28, 29, 30, 31, 32, 33, 34, 35, 36, 37, 38, 39, 40, 41, 42, 43, 44, 45, 46, 47, 48, 49, 50, 51, 52, 53, 54, 55, 56, 57, 58, 59, 60, 61, 62, 63, 67, 68, 69, 70, 71, 72, 73, 74, 75, 76, 77, 78, 79, 80, 81, 82, 83, 84, 85, 86, 87, 88, 89, 90, 91, 92, 93] (by first | rfl | decide +kernel) (by decide +kernel)
set_option maxRecDepth 20000 in
theorem gX1_restore_X5_copyFrom : GoodIn wsX1_restore (wsV RX1 22 RX5 yX5_copyFrom wsX5_copyFrom) := goodIn_app (goodIn_of _ (by decide +kernel)) ggX1_restore_X5_copyFrom
theorem dX1_restore_0 : decode cX1_restore 0 = .ok (.aload_n 0, 1) := by decide +kernel
theorem dX1_restore_1 : decode cX1_restore 1 = .ok (.aload_n 0, 1) := by decide +kernel
theorem dX1_restore_2 : decode cX1_restore 2 = .ok (.getfield 18, 3) := by decide +kernel
theorem dX1_restore_5 : decode cX1_restore 5 = .ok (.bipush 8, 2) := by decide +kernel
theorem dX1_restore_7 : decode cX1_restore 7 = .ok (.iadd, 1) := by decide +kernel
theorem dX1_restore_8 : decode cX1_restore 8 = .ok (.iconst 1, 1) := by decide +kernel
theorem dX1_restore_9 : decode cX1_restore 9 = .ok (.isub, 1) := by decide +kernel
theorem dX1_restore_10 : decode cX1_restore 10 = .ok (.bipush 8, 2) := by decide +kernel
theorem dX1_restore_12 : decode cX1_restore 12 = .ok (.irem, 1) := by decide +kernel
theorem dX1_restore_13 : decode cX1_restore 13 = .ok (.putfield 18, 3) := by decide +kernel
theorem dX1_restore_16 : decode cX1_restore 16 = .ok (.aload_n 0, 1) := by decide +kernel
theorem dX1_restore_17 : decode cX1_restore 17 = .ok (.aload_n 0, 1) := by decide +kernel
theorem dX1_restore_18 : decode cX1_restore 18 = .ok (.getfield 26, 3) := by decide +kernel
theorem dX1_restore_21 : decode cX1_restore 21 = .ok (.iconst 1, 1) := by decide +kernel
theorem dX1_restore_22 : decode cX1_restore 22 = .ok (.isub, 1) := by decide +kernel
theorem dX1_restore_23 : decode cX1_restore 23 = .ok (.putfield 26, 3) := by decide +kernel
theorem dX1_restore_26 : decode cX1_restore 26 = .ok (.aload_n 1, 1) := by decide +kernel
theorem dX1_restore_27 : decode cX1_restore 27 = .ok (.aload_n 0, 1) := by decide +kernel
theorem dX1_restore_28 : decode cX1_restore 28 = .ok (.getfield 11, 3) := by decide +kernel
theorem dX1_restore_31 : decode cX1_restore 31 = .ok (.aload_n 0, 1) := by decide +kernel
theorem dX1_restore_32 : decode cX1_restore 32 = .ok (.getfield 18, 3) := by decide +kernel
theorem dX1_restore_35 : decode cX1_restore 35 = .ok (.aaload, 1) := by decide +kernel
theorem dX1_restore_36 : decode cX1_restore 36 = .ok (.invokevirtual 22, 3) := by decide +kernel
theorem dX1_restore_39 : decode cX1_restore 39 = .ok (.return_, 1) := by decide +kernel
theorem dX2_init_0 : decode cX2_init 0 = .ok (.aload_n 0, 1) := by decide +kernel
theorem dX2_init_1 : decode cX2_init 1 = .ok (.invokespecial 3, 3) := by decide +kernel
theorem dX2_init_4 : decode cX2_init 4 = .ok (.aload_n 0, 1) := by decide +kernel
theorem dX2_init_5 : decode cX2_init 5 = .ok (.bipush 6, 2) := by decide +kernel
theorem dX2_init_7 : decode cX2_init 7 = .ok (.newarray .int, 2) := by decide +kernel
theorem dX2_init_9 : decode cX2_init 9 = .ok (.putfield 9, 3) := by decide +kernel
theorem dX2_init_12 : decode cX2_init 12 = .ok (.aload_n 0, 1) := by decide +kernel
theorem dX2_init_13 : decode cX2_init 13 = .ok (.bipush 6, 2) := by decide +kernel
theorem dX2_init_15 : decode cX2_init 15 = .ok (.newarray .int, 2) := by decide +kernel
theorem dX2_init_17 : decode cX2_init 17 = .ok (.putfield 15, 3) := by decide +kernel
theorem dX2_init_20 : decode cX2_init 20 = .ok (.return_, 1) := by decide +kernel
set_option maxRecDepth 20000 in
theorem ggX2_begin_J7_fill_53178 : GoodIn wsX2_begin wsJ7_fill_53178 := goodIn_r _ [6] (by first | rfl | decide +kernel) (by decide +kernel)
set_option maxRecDepth 20000 in
theorem gX2_begin_J7_fill_53178 : GoodIn wsX2_begin (va_wsS RX2 18 yJ7_fill_53178 wsJ7_fill_53178) := goodIn_app (goodIn_of _ (by decide +kernel)) ggX2_begin_J7_fill_53178
theorem dX2_begin_0 : decode cX2_begin 0 = .ok (.aload_n 0, 1) := by decide +kernel
theorem dX2_begin_1 : decode cX2_begin 1 = .ok (.getfield 9, 3) := by decide +kernel
theorem dX2_begin_4 : decode cX2_begin 4 = .ok (.iconst 0, 1) := by decide +kernel
theorem dX2_begin_5 : decode cX2_begin 5 = .ok (.invokestatic 18, 3) := by decide +kernel
theorem dX2_begin_8 : decode cX2_begin 8 = .ok (.aload_n 0, 1) := by decide +kernel
theorem dX2_begin_9 : decode cX2_begin 9 = .ok (.getfield 15, 3) := by decide +kernel
theorem dX2_begin_12 : decode cX2_begin 12 = .ok (.iconst (-1), 1) := by decide +kernel
theorem dX2_begin_13 : decode cX2_begin 13 = .ok (.invokestatic 18, 3) := by decide +kernel
theorem dX2_begin_16 : decode cX2_begin 16 = .ok (.return_, 1) := by decide +kernel
theorem dX2_copyFrom_0 : decode cX2_copyFrom 0 = .ok (.aload_n 1, 1) := by decide +kernel
theorem dX2_copyFrom_1 : decode cX2_copyFrom 1 = .ok (.getfield 9, 3) := by decide +kernel
theorem dX2_copyFrom_4 : decode cX2_copyFrom 4 = .ok (.iconst 0, 1) := by decide +kernel
theorem dX2_copyFrom_5 : decode cX2_copyFrom 5 = .ok (.aload_n 0, 1) := by decide +kernel
theorem dX2_copyFrom_6 : decode cX2_copyFrom 6 = .ok (.getfield 9, 3) := by decide +kernel
theorem dX2_copyFrom_9 : decode cX2_copyFrom 9 = .ok (.iconst 0, 1) := by decide +kernel
theorem dX2_copyFrom_10 : decode cX2_copyFrom 10 = .ok (.bipush 6, 2) := by decide +kernel
theorem dX2_copyFrom_12 : decode cX2_copyFrom 12 = .ok (.invokestatic 24, 3) := by decide +kernel
theorem dX2_copyFrom_15 : decode cX2_copyFrom 15 = .ok (.aload_n 1, 1) := by decide +kernel
theorem dX2_copyFrom_16 : decode cX2_copyFrom 16 = .ok (.getfield 15, 3) := by decide +kernel
theorem dX2_copyFrom_19 : decode cX2_copyFrom 19 = .ok (.iconst 0, 1) := by decide +kernel
theorem dX2_copyFrom_20 : decode cX2_copyFrom 20 = .ok (.aload_n 0, 1) := by decide +kernel
theorem dX2_copyFrom_21 : decode cX2_copyFrom 21 = .ok (.getfield 15, 3) := by decide +kernel
theorem dX2_copyFrom_24 : decode cX2_copyFrom 24 = .ok (.iconst 0, 1) := by decide +kernel
theorem dX2_copyFrom_25 : decode cX2_copyFrom 25 = .ok (.bipush 6, 2) := by decide +kernel
theorem dX2_copyFrom_27 : decode cX2_copyFrom 27 = .ok (.invokestatic 24, 3) := by decide +kernel
theorem dX2_copyFrom_30 : decode cX2_copyFrom 30 = .ok (.return_, 1) := by decide +kernel
theorem dX2_letIn_0 : decode cX2_letIn 0 = .ok (.aload_n 0, 1) := by decide +kernel
theorem dX2_letIn_1 : decode cX2_letIn 1 = .ok (.getfield 9, 3) := by decide +kernel
theorem dX2_letIn_4 : decode cX2_letIn 4 = .ok (.iload_n 1, 1) := by decide +kernel
theorem dX2_letIn_5 : decode cX2_letIn 5 = .ok (.iconst 1, 1) := by decide +kernel
theorem dX2_letIn_6 : decode cX2_letIn 6 = .ok (.iastore, 1) := by decide +kernel
theorem dX2_letIn_7 : decode cX2_letIn 7 = .ok (.aload_n 0, 1) := by decide +kernel
theorem dX2_letIn_8 : decode cX2_letIn 8 = .ok (.getfield 15, 3) := by decide +kernel
theorem dX2_letIn_11 : decode cX2_letIn 11 = .ok (.iload_n 1, 1) := by decide +kernel
theorem dX2_letIn_12 : decode cX2_letIn 12 = .ok (.iload_n 2, 1) := by decide +kernel
theorem dX2_letIn_13 : decode cX2_letIn 13 = .ok (.iastore, 1) := by decide +kernel
theorem dX2_letIn_14 : decode cX2_letIn 14 = .ok (.return_, 1) := by decide +kernel
theorem dX2_sendOut_0 : decode cX2_sendOut 0 = .ok (.aload_n 0, 1) := by decide +kernel
theorem dX2_sendOut_1 : decode cX2_sendOut 1 = .ok (.getfield 9, 3) := by decide +kernel
theorem dX2_sendOut_4 : decode cX2_sendOut 4 = .ok (.iload_n 1, 1) := by decide +kernel
theorem dX2_sendOut_5 : decode cX2_sendOut 5 = .ok (.iload_n 2, 1) := by decide +kernel
theorem dX2_sendOut_6 : decode cX2_sendOut 6 = .ok (.iastore, 1) := by decide +kernel
theorem dX2_sendOut_7 : decode cX2_sendOut 7 = .ok (.aload_n 0, 1) := by decide +kernel
theorem dX2_sendOut_8 : decode cX2_sendOut 8 = .ok (.getfield 15, 3) := by decide +kernel
theorem dX2_sendOut_11 : decode cX2_sendOut 11 = .ok (.iload_n 1, 1) := by decide +kernel
theorem dX2_sendOut_12 : decode cX2_sendOut 12 = .ok (.iconst (-1), 1) := by decide +kernel
theorem dX2_sendOut_13 : decode cX2_sendOut 13 = .ok (.iastore, 1) := by decide +kernel
theorem dX2_sendOut_14 : decode cX2_sendOut 14 = .ok (.return_, 1) := by decide +kernel
theorem dX2_isInside_0 : decode cX2_isInside 0 = .ok (.aload_n 0, 1) := by decide +kernel
theorem dX2_isInside_1 : decode cX2_isInside 1 = .ok (.getfield 9, 3) := by decide +kernel
theorem dX2_isInside_4 : decode cX2_isInside 4 = .ok (.iload_n 1, 1) := by decide +kernel
theorem dX2_isInside_5 : decode cX2_isInside 5 = .ok (.iaload, 1) := by decide +kernel
theorem dX2_isInside_6 : decode cX2_isInside 6 = .ok (.iconst 1, 1) := by decide +kernel
theorem dX2_isInside_7 : decode cX2_isInside 7 = .ok (.if_icmp .ne 7, 3) := by decide +kernel
theorem dX2_isInside_10 : decode cX2_isInside 10 = .ok (.iconst 1, 1) := by decide +kernel
theorem dX2_isInside_11 : decode cX2_isInside 11 = .ok (.goto 4, 3) := by decide +kernel
theorem dX2_isInside_14 : decode cX2_isInside 14 = .ok (.iconst 0, 1) := by decide +kernel
theorem dX2_isInside_15 : decode cX2_isInside 15 = .ok (.ireturn, 1) := by decide +kernel
set_option maxRecDepth 20000 in
theorem ggX2_isStalled_X2_isInside : GoodIn wsX2_isStalled wsX2_isInside := goodIn_r _ [6, 7, 8, 9] (by first | rfl | decide +kernel) (by decide +kernel)
set_option maxRecDepth 20000 in
theorem gX2_isStalled_X2_isInside : GoodIn wsX2_isStalled (wsV RX2 30 RX2 yX2_isInside wsX2_isInside) := goodIn_app (goodIn_of _ (by decide +kernel)) ggX2_isStalled_X2_isInside
theorem dX2_isStalled_0 : decode cX2_isStalled 0 = .ok (.aload_n 0, 1) := by decide +kernel
theorem dX2_isStalled_1 : decode cX2_isStalled 1 = .ok (.iload_n 1, 1) := by decide +kernel
theorem dX2_isStalled_2 : decode cX2_isStalled 2 = .ok (.invokevirtual 30, 3) := by decide +kernel
theorem dX2_isStalled_5 : decode cX2_isStalled 5 = .ok (.ifCond .eq 17, 3) := by decide +kernel
theorem dX2_isStalled_8 : decode cX2_isStalled 8 = .ok (.aload_n 0, 1) := by decide +kernel
theorem dX2_isStalled_9 : decode cX2_isStalled 9 = .ok (.getfield 15, 3) := by decide +kernel
theorem dX2_isStalled_12 : decode cX2_isStalled 12 = .ok (.iload_n 1, 1) := by decide +kernel
theorem dX2_isStalled_13 : decode cX2_isStalled 13 = .ok (.iaload, 1) := by decide +kernel
theorem dX2_isStalled_14 : decode cX2_isStalled 14 = .ok (.iload_n 2, 1) := by decide +kernel
theorem dX2_isStalled_15 : decode cX2_isStalled 15 = .ok (.if_icmp .eq 7, 3) := by decide +kernel
theorem dX2_isStalled_18 : decode cX2_isStalled 18 = .ok (.iconst 1, 1) := by decide +kernel
theorem dX2_isStalled_19 : decode cX2_isStalled 19 = .ok (.goto 4, 3) := by decide +kernel
theorem dX2_isStalled_22 : decode cX2_isStalled 22 = .ok (.iconst 0, 1) := by decide +kernel
theorem dX2_isStalled_23 : decode cX2_isStalled 23 = .ok (.ireturn, 1) := by decide +kernel
set_option maxRecDepth 20000 in
theorem ggX2_stalledMask_X2_isStalled : GoodIn wsX2_stalledMask wsX2_isStalled := goodIn_r _ [5, 6, 7, 8, 9, 4, 10, 11, 12, 13] (by first | rfl | decide +kernel) (by decide +kernel)
set_option maxRecDepth 20000 in
theorem gX2_stalledMask_X2_isStalled : GoodIn wsX2_stalledMask (wsV RX2 34 RX2 yX2_isStalled wsX2_isStalled) := goodIn_app (goodIn_of _ (by decide +kernel)) ggX2_stalledMask_X2_isStalled
theorem dX2_stalledMask_0 : decode cX2_stalledMask 0 = .ok (.iconst 0, 1) := by decide +kernel
theorem dX2_stalledMask_1 : decode cX2_stalledMask 1 = .ok (.istore_n 2, 1) := by decide +kernel
theorem dX2_stalledMask_2 : decode cX2_stalledMask 2 = .ok (.iconst 0, 1) := by decide +kernel
theorem dX2_stalledMask_3 : decode cX2_stalledMask 3 = .ok (.istore_n 3, 1) := by decide +kernel
theorem dX2_stalledMask_4 : decode cX2_stalledMask 4 = .ok (.iload_n 3, 1) := by decide +kernel
theorem dX2_stalledMask_5 : decode cX2_stalledMask 5 = .ok (.bipush 6, 2) := by decide +kernel
theorem dX2_stalledMask_7 : decode cX2_stalledMask 7 = .ok (.if_icmp .ge 24, 3) := by decide +kernel
theorem dX2_stalledMask_10 : decode cX2_stalledMask 10 = .ok (.aload_n 0, 1) := by decide +kernel
theorem dX2_stalledMask_11 : decode cX2_stalledMask 11 = .ok (.iload_n 3, 1) := by decide +kernel
theorem dX2_stalledMask_12 : decode cX2_stalledMask 12 = .ok (.iload_n 1, 1) := by decide +kernel
theorem dX2_stalledMask_13 : decode cX2_stalledMask 13 = .ok (.invokevirtual 34, 3) := by decide +kernel
theorem dX2_stalledMask_16 : decode cX2_stalledMask 16 = .ok (.ifCond .eq 9, 3) := by decide +kernel
theorem dX2_stalledMask_19 : decode cX2_stalledMask 19 = .ok (.iload_n 2, 1) := by decide +kernel
theorem dX2_stalledMask_20 : decode cX2_stalledMask 20 = .ok (.iconst 1, 1) := by decide +kernel
theorem dX2_stalledMask_21 : decode cX2_stalledMask 21 = .ok (.iload_n 3, 1) := by decide +kernel
theorem dX2_stalledMask_22 : decode cX2_stalledMask 22 = .ok (.ishl, 1) := by decide +kernel
theorem dX2_stalledMask_23 : decode cX2_stalledMask 23 = .ok (.ior, 1) := by decide +kernel
theorem dX2_stalledMask_24 : decode cX2_stalledMask 24 = .ok (.istore_n 2, 1) := by decide +kernel
theorem dX2_stalledMask_25 : decode cX2_stalledMask 25 = .ok (.iinc 3 1, 3) := by decide +kernel
theorem dX2_stalledMask_28 : decode cX2_stalledMask 28 = .ok (.goto (-24), 3) := by decide +kernel
theorem dX2_stalledMask_31 : decode cX2_stalledMask 31 = .ok (.iload_n 2, 1) := by decide +kernel
theorem dX2_stalledMask_32 : decode cX2_stalledMask 32 = .ok (.ireturn, 1) := by decide +kernel
set_option maxRecDepth 20000 in
theorem ggX2_advancesWithout_X2_isInside : GoodIn wsX2_advancesWithout wsX2_isInside := goodIn_r _ [9, 10, 16, 17] (by first | rfl | decide +kernel) (by decide +kernel)
set_option maxRecDepth 20000 in
theorem gX2_advancesWithout_X2_isInside : GoodIn wsX2_advancesWithout (wsV RX2 30 RX2 yX2_isInside wsX2_isInside) := goodIn_app (goodIn_of _ (by decide +kernel)) ggX2_advancesWithout_X2_isInside
set_option maxRecDepth 20000 in
theorem ggX2_advancesWithout_X2_isStalled : GoodIn wsX2_advancesWithout wsX2_isStalled := goodIn_r _ [14, 15, 5, 6, 7, 8, 9, 10, 16, 17] (by first | rfl | decide +kernel) (by decide +kernel)
set_option maxRecDepth 20000 in
theorem gX2_advancesWithout_X2_isStalled : GoodIn wsX2_advancesWithout (wsV RX2 34 RX2 yX2_isStalled wsX2_isStalled) := goodIn_app (goodIn_of _ (by decide +kernel)) ggX2_advancesWithout_X2_isStalled
theorem dX2_advancesWithout_0 : decode cX2_advancesWithout 0 = .ok (.iconst 2, 1) := by decide +kernel
theorem dX2_advancesWithout_1 : decode cX2_advancesWithout 1 = .ok (.istore_n 3, 1) := by decide +kernel
theorem dX2_advancesWithout_2 : decode cX2_advancesWithout 2 = .ok (.iconst 0, 1) := by decide +kernel
theorem dX2_advancesWithout_3 : decode cX2_advancesWithout 3 = .ok (.istore 4, 2) := by decide +kernel
theorem dX2_advancesWithout_5 : decode cX2_advancesWithout 5 = .ok (.iload 4, 2) := by decide +kernel
theorem dX2_advancesWithout_7 : decode cX2_advancesWithout 7 = .ok (.bipush 6, 2) := by decide +kernel
theorem dX2_advancesWithout_9 : decode cX2_advancesWithout 9 = .ok (.if_icmp .ge 44, 3) := by decide +kernel
theorem dX2_advancesWithout_12 : decode cX2_advancesWithout 12 = .ok (.iload 4, 2) := by decide +kernel
theorem dX2_advancesWithout_14 : decode cX2_advancesWithout 14 = .ok (.iload_n 1, 1) := by decide +kernel
theorem dX2_advancesWithout_15 : decode cX2_advancesWithout 15 = .ok (.if_icmp .eq 32, 3) := by decide +kernel
theorem dX2_advancesWithout_18 : decode cX2_advancesWithout 18 = .ok (.aload_n 0, 1) := by decide +kernel
theorem dX2_advancesWithout_19 : decode cX2_advancesWithout 19 = .ok (.iload 4, 2) := by decide +kernel
theorem dX2_advancesWithout_21 : decode cX2_advancesWithout 21 = .ok (.invokevirtual 30, 3) := by decide +kernel
theorem dX2_advancesWithout_24 : decode cX2_advancesWithout 24 = .ok (.ifCond .eq 23, 3) := by decide +kernel
theorem dX2_advancesWithout_27 : decode cX2_advancesWithout 27 = .ok (.iload_n 3, 1) := by decide +kernel
theorem dX2_advancesWithout_28 : decode cX2_advancesWithout 28 = .ok (.aload_n 0, 1) := by decide +kernel
theorem dX2_advancesWithout_29 : decode cX2_advancesWithout 29 = .ok (.iload 4, 2) := by decide +kernel
theorem dX2_advancesWithout_31 : decode cX2_advancesWithout 31 = .ok (.iload_n 2, 1) := by decide +kernel
theorem dX2_advancesWithout_32 : decode cX2_advancesWithout 32 = .ok (.invokevirtual 34, 3) := by decide +kernel
theorem dX2_advancesWithout_35 : decode cX2_advancesWithout 35 = .ok (.ifCond .eq 7, 3) := by decide +kernel
theorem dX2_advancesWithout_38 : decode cX2_advancesWithout 38 = .ok (.iconst 0, 1) := by decide +kernel
theorem dX2_advancesWithout_39 : decode cX2_advancesWithout 39 = .ok (.goto 4, 3) := by decide +kernel
theorem dX2_advancesWithout_42 : decode cX2_advancesWithout 42 = .ok (.iconst 1, 1) := by decide +kernel
theorem dX2_advancesWithout_43 : decode cX2_advancesWithout 43 = .ok (.invokestatic 38, 3) := by decide +kernel
theorem dX2_advancesWithout_46 : decode cX2_advancesWithout 46 = .ok (.istore_n 3, 1) := by decide +kernel
theorem dX2_advancesWithout_47 : decode cX2_advancesWithout 47 = .ok (.iinc 4 1, 3) := by decide +kernel
theorem dX2_advancesWithout_50 : decode cX2_advancesWithout 50 = .ok (.goto (-45), 3) := by decide +kernel
theorem dX2_advancesWithout_53 : decode cX2_advancesWithout 53 = .ok (.iload_n 3, 1) := by decide +kernel
theorem dX2_advancesWithout_54 : decode cX2_advancesWithout 54 = .ok (.ireturn, 1) := by decide +kernel
theorem dX3_init_0 : decode cX3_init 0 = .ok (.aload_n 0, 1) := by decide +kernel
theorem dX3_init_1 : decode cX3_init 1 = .ok (.invokespecial 3, 3) := by decide +kernel
theorem dX3_init_4 : decode cX3_init 4 = .ok (.aload_n 0, 1) := by decide +kernel
theorem dX3_init_5 : decode cX3_init 5 = .ok (.bipush 10, 2) := by decide +kernel
theorem dX3_init_7 : decode cX3_init 7 = .ok (.newarray .int, 2) := by decide +kernel
theorem dX3_init_9 : decode cX3_init 9 = .ok (.putfield 9, 3) := by decide +kernel
theorem dX3_init_12 : decode cX3_init 12 = .ok (.aload_n 0, 1) := by decide +kernel
theorem dX3_init_13 : decode cX3_init 13 = .ok (.bipush 10, 2) := by decide +kernel
theorem dX3_init_15 : decode cX3_init 15 = .ok (.newarray .int, 2) := by decide +kernel
theorem dX3_init_17 : decode cX3_init 17 = .ok (.putfield 15, 3) := by decide +kernel
theorem dX3_init_20 : decode cX3_init 20 = .ok (.aload_n 0, 1) := by decide +kernel
theorem dX3_init_21 : decode cX3_init 21 = .ok (.bipush 10, 2) := by decide +kernel
theorem dX3_init_23 : decode cX3_init 23 = .ok (.newarray .int, 2) := by decide +kernel
theorem dX3_init_25 : decode cX3_init 25 = .ok (.putfield 18, 3) := by decide +kernel
theorem dX3_init_28 : decode cX3_init 28 = .ok (.aload_n 0, 1) := by decide +kernel
theorem dX3_init_29 : decode cX3_init 29 = .ok (.iconst 2, 1) := by decide +kernel
theorem dX3_init_30 : decode cX3_init 30 = .ok (.newarray .int, 2) := by decide +kernel
theorem dX3_init_32 : decode cX3_init 32 = .ok (.putfield 21, 3) := by decide +kernel
theorem dX3_init_35 : decode cX3_init 35 = .ok (.return_, 1) := by decide +kernel
set_option maxRecDepth 20000 in
theorem ggX3_begin_J7_fill_53178 : GoodIn wsX3_begin wsJ7_fill_53178 := goodIn_r _ [10] (by first | rfl | decide +kernel) (by decide +kernel)
set_option maxRecDepth 20000 in
theorem gX3_begin_J7_fill_53178 : GoodIn wsX3_begin (va_wsS RX3 24 yJ7_fill_53178 wsJ7_fill_53178) := goodIn_app (goodIn_of _ (by decide +kernel)) ggX3_begin_J7_fill_53178
theorem dX3_begin_0 : decode cX3_begin 0 = .ok (.aload_n 0, 1) := by decide +kernel
theorem dX3_begin_1 : decode cX3_begin 1 = .ok (.getfield 9, 3) := by decide +kernel
theorem dX3_begin_4 : decode cX3_begin 4 = .ok (.iconst 0, 1) := by decide +kernel
theorem dX3_begin_5 : decode cX3_begin 5 = .ok (.invokestatic 24, 3) := by decide +kernel
theorem dX3_begin_8 : decode cX3_begin 8 = .ok (.aload_n 0, 1) := by decide +kernel
theorem dX3_begin_9 : decode cX3_begin 9 = .ok (.getfield 15, 3) := by decide +kernel
theorem dX3_begin_12 : decode cX3_begin 12 = .ok (.iconst 0, 1) := by decide +kernel
theorem dX3_begin_13 : decode cX3_begin 13 = .ok (.invokestatic 24, 3) := by decide +kernel
theorem dX3_begin_16 : decode cX3_begin 16 = .ok (.aload_n 0, 1) := by decide +kernel
theorem dX3_begin_17 : decode cX3_begin 17 = .ok (.getfield 18, 3) := by decide +kernel
theorem dX3_begin_20 : decode cX3_begin 20 = .ok (.iconst 0, 1) := by decide +kernel
theorem dX3_begin_21 : decode cX3_begin 21 = .ok (.invokestatic 24, 3) := by decide +kernel
theorem dX3_begin_24 : decode cX3_begin 24 = .ok (.aload_n 0, 1) := by decide +kernel
theorem dX3_begin_25 : decode cX3_begin 25 = .ok (.getfield 21, 3) := by decide +kernel
theorem dX3_begin_28 : decode cX3_begin 28 = .ok (.iconst (-1), 1) := by decide +kernel
theorem dX3_begin_29 : decode cX3_begin 29 = .ok (.invokestatic 24, 3) := by decide +kernel
theorem dX3_begin_32 : decode cX3_begin 32 = .ok (.aload_n 0, 1) := by decide +kernel
theorem dX3_begin_33 : decode cX3_begin 33 = .ok (.iload_n 1, 1) := by decide +kernel
theorem dX3_begin_34 : decode cX3_begin 34 = .ok (.putfield 30, 3) := by decide +kernel
theorem dX3_begin_37 : decode cX3_begin 37 = .ok (.aload_n 0, 1) := by decide +kernel
theorem dX3_begin_38 : decode cX3_begin 38 = .ok (.iload_n 2, 1) := by decide +kernel
theorem dX3_begin_39 : decode cX3_begin 39 = .ok (.putfield 34, 3) := by decide +kernel
theorem dX3_begin_42 : decode cX3_begin 42 = .ok (.return_, 1) := by decide +kernel
theorem dX3_copyFrom_0 : decode cX3_copyFrom 0 = .ok (.aload_n 1, 1) := by decide +kernel
theorem dX3_copyFrom_1 : decode cX3_copyFrom 1 = .ok (.getfield 9, 3) := by decide +kernel
theorem dX3_copyFrom_4 : decode cX3_copyFrom 4 = .ok (.iconst 0, 1) := by decide +kernel
theorem dX3_copyFrom_5 : decode cX3_copyFrom 5 = .ok (.aload_n 0, 1) := by decide +kernel
theorem dX3_copyFrom_6 : decode cX3_copyFrom 6 = .ok (.getfield 9, 3) := by decide +kernel
theorem dX3_copyFrom_9 : decode cX3_copyFrom 9 = .ok (.iconst 0, 1) := by decide +kernel
theorem dX3_copyFrom_10 : decode cX3_copyFrom 10 = .ok (.bipush 10, 2) := by decide +kernel
theorem dX3_copyFrom_12 : decode cX3_copyFrom 12 = .ok (.invokestatic 37, 3) := by decide +kernel
theorem dX3_copyFrom_15 : decode cX3_copyFrom 15 = .ok (.aload_n 1, 1) := by decide +kernel
theorem dX3_copyFrom_16 : decode cX3_copyFrom 16 = .ok (.getfield 15, 3) := by decide +kernel
theorem dX3_copyFrom_19 : decode cX3_copyFrom 19 = .ok (.iconst 0, 1) := by decide +kernel
theorem dX3_copyFrom_20 : decode cX3_copyFrom 20 = .ok (.aload_n 0, 1) := by decide +kernel
theorem dX3_copyFrom_21 : decode cX3_copyFrom 21 = .ok (.getfield 15, 3) := by decide +kernel
theorem dX3_copyFrom_24 : decode cX3_copyFrom 24 = .ok (.iconst 0, 1) := by decide +kernel
theorem dX3_copyFrom_25 : decode cX3_copyFrom 25 = .ok (.bipush 10, 2) := by decide +kernel
theorem dX3_copyFrom_27 : decode cX3_copyFrom 27 = .ok (.invokestatic 37, 3) := by decide +kernel
theorem dX3_copyFrom_30 : decode cX3_copyFrom 30 = .ok (.aload_n 1, 1) := by decide +kernel
theorem dX3_copyFrom_31 : decode cX3_copyFrom 31 = .ok (.getfield 18, 3) := by decide +kernel
theorem dX3_copyFrom_34 : decode cX3_copyFrom 34 = .ok (.iconst 0, 1) := by decide +kernel
theorem dX3_copyFrom_35 : decode cX3_copyFrom 35 = .ok (.aload_n 0, 1) := by decide +kernel
theorem dX3_copyFrom_36 : decode cX3_copyFrom 36 = .ok (.getfield 18, 3) := by decide +kernel
theorem dX3_copyFrom_39 : decode cX3_copyFrom 39 = .ok (.iconst 0, 1) := by decide +kernel
theorem dX3_copyFrom_40 : decode cX3_copyFrom 40 = .ok (.bipush 10, 2) := by decide +kernel
theorem dX3_copyFrom_42 : decode cX3_copyFrom 42 = .ok (.invokestatic 37, 3) := by decide +kernel
theorem dX3_copyFrom_45 : decode cX3_copyFrom 45 = .ok (.aload_n 1, 1) := by decide +kernel
theorem dX3_copyFrom_46 : decode cX3_copyFrom 46 = .ok (.getfield 21, 3) := by decide +kernel
theorem dX3_copyFrom_49 : decode cX3_copyFrom 49 = .ok (.iconst 0, 1) := by decide +kernel
theorem dX3_copyFrom_50 : decode cX3_copyFrom 50 = .ok (.aload_n 0, 1) := by decide +kernel
theorem dX3_copyFrom_51 : decode cX3_copyFrom 51 = .ok (.getfield 21, 3) := by decide +kernel
theorem dX3_copyFrom_54 : decode cX3_copyFrom 54 = .ok (.iconst 0, 1) := by decide +kernel
theorem dX3_copyFrom_55 : decode cX3_copyFrom 55 = .ok (.iconst 2, 1) := by decide +kernel
theorem dX3_copyFrom_56 : decode cX3_copyFrom 56 = .ok (.invokestatic 37, 3) := by decide +kernel
theorem dX3_copyFrom_59 : decode cX3_copyFrom 59 = .ok (.aload_n 0, 1) := by decide +kernel
theorem dX3_copyFrom_60 : decode cX3_copyFrom 60 = .ok (.aload_n 1, 1) := by decide +kernel
theorem dX3_copyFrom_61 : decode cX3_copyFrom 61 = .ok (.getfield 30, 3) := by decide +kernel
theorem dX3_copyFrom_64 : decode cX3_copyFrom 64 = .ok (.putfield 30, 3) := by decide +kernel
theorem dX3_copyFrom_67 : decode cX3_copyFrom 67 = .ok (.aload_n 0, 1) := by decide +kernel
theorem dX3_copyFrom_68 : decode cX3_copyFrom 68 = .ok (.aload_n 1, 1) := by decide +kernel
theorem dX3_copyFrom_69 : decode cX3_copyFrom 69 = .ok (.getfield 34, 3) := by decide +kernel
theorem dX3_copyFrom_72 : decode cX3_copyFrom 72 = .ok (.putfield 34, 3) := by decide +kernel
theorem dX3_copyFrom_75 : decode cX3_copyFrom 75 = .ok (.return_, 1) := by decide +kernel
theorem dX3_freeSegments_0 : decode cX3_freeSegments 0 = .ok (.iconst 0, 1) := by decide +kernel
theorem dX3_freeSegments_1 : decode cX3_freeSegments 1 = .ok (.istore_n 1, 1) := by decide +kernel
theorem dX3_freeSegments_2 : decode cX3_freeSegments 2 = .ok (.iconst 0, 1) := by decide +kernel
theorem dX3_freeSegments_3 : decode cX3_freeSegments 3 = .ok (.istore_n 2, 1) := by decide +kernel
theorem dX3_freeSegments_4 : decode cX3_freeSegments 4 = .ok (.iload_n 2, 1) := by decide +kernel
theorem dX3_freeSegments_5 : decode cX3_freeSegments 5 = .ok (.aload_n 0, 1) := by decide +kernel
theorem dX3_freeSegments_6 : decode cX3_freeSegments 6 = .ok (.getfield 30, 3) := by decide +kernel
theorem dX3_freeSegments_9 : decode cX3_freeSegments 9 = .ok (.if_icmp .ge 21, 3) := by decide +kernel
theorem dX3_freeSegments_12 : decode cX3_freeSegments 12 = .ok (.aload_n 0, 1) := by decide +kernel
theorem dX3_freeSegments_13 : decode cX3_freeSegments 13 = .ok (.getfield 9, 3) := by decide +kernel
theorem dX3_freeSegments_16 : decode cX3_freeSegments 16 = .ok (.iload_n 2, 1) := by decide +kernel
theorem dX3_freeSegments_17 : decode cX3_freeSegments 17 = .ok (.iaload, 1) := by decide +kernel
theorem dX3_freeSegments_18 : decode cX3_freeSegments 18 = .ok (.ifCond .ne 6, 3) := by decide +kernel
theorem dX3_freeSegments_21 : decode cX3_freeSegments 21 = .ok (.iinc 1 1, 3) := by decide +kernel
theorem dX3_freeSegments_24 : decode cX3_freeSegments 24 = .ok (.iinc 2 1, 3) := by decide +kernel
theorem dX3_freeSegments_27 : decode cX3_freeSegments 27 = .ok (.goto (-23), 3) := by decide +kernel
theorem dX3_freeSegments_30 : decode cX3_freeSegments 30 = .ok (.iload_n 1, 1) := by decide +kernel
theorem dX3_freeSegments_31 : decode cX3_freeSegments 31 = .ok (.ireturn, 1) := by decide +kernel
theorem dX3_unusedAt_0 : decode cX3_unusedAt 0 = .ok (.aload_n 0, 1) := by decide +kernel
theorem dX3_unusedAt_1 : decode cX3_unusedAt 1 = .ok (.getfield 21, 3) := by decide +kernel
theorem dX3_unusedAt_4 : decode cX3_unusedAt 4 = .ok (.iload_n 1, 1) := by decide +kernel
theorem dX3_unusedAt_5 : decode cX3_unusedAt 5 = .ok (.iaload, 1) := by decide +kernel
theorem dX3_unusedAt_6 : decode cX3_unusedAt 6 = .ok (.istore_n 2, 1) := by decide +kernel
theorem dX3_unusedAt_7 : decode cX3_unusedAt 7 = .ok (.iload_n 2, 1) := by decide +kernel
theorem dX3_unusedAt_8 : decode cX3_unusedAt 8 = .ok (.iconst (-1), 1) := by decide +kernel
theorem dX3_unusedAt_9 : decode cX3_unusedAt 9 = .ok (.if_icmp .ne 7, 3) := by decide +kernel
theorem dX3_unusedAt_12 : decode cX3_unusedAt 12 = .ok (.iconst 0, 1) := by decide +kernel
theorem dX3_unusedAt_13 : decode cX3_unusedAt 13 = .ok (.goto 14, 3) := by decide +kernel
theorem dX3_unusedAt_16 : decode cX3_unusedAt 16 = .ok (.aload_n 0, 1) := by decide +kernel
theorem dX3_unusedAt_17 : decode cX3_unusedAt 17 = .ok (.getfield 34, 3) := by decide +kernel
theorem dX3_unusedAt_20 : decode cX3_unusedAt 20 = .ok (.aload_n 0, 1) := by decide +kernel
theorem dX3_unusedAt_21 : decode cX3_unusedAt 21 = .ok (.getfield 18, 3) := by decide +kernel
theorem dX3_unusedAt_24 : decode cX3_unusedAt 24 = .ok (.iload_n 2, 1) := by decide +kernel
theorem dX3_unusedAt_25 : decode cX3_unusedAt 25 = .ok (.iaload, 1) := by decide +kernel
theorem dX3_unusedAt_26 : decode cX3_unusedAt 26 = .ok (.isub, 1) := by decide +kernel
theorem dX3_unusedAt_27 : decode cX3_unusedAt 27 = .ok (.ireturn, 1) := by decide +kernel
set_option maxRecDepth 20000 in
theorem ggX3_appendAt_X3_leastErasedFree : GoodIn wsX3_appendAt wsX3_leastErasedFree := goodIn_r _ [9, 10, 4, 11, 12, 13, 14, 15, 16, 17] (by first | rfl | decide +kernel) (by decide +kernel)
set_option maxRecDepth 20000 in
theorem gX3_appendAt_X3_leastErasedFree : GoodIn wsX3_appendAt (wsV RX3 43 RX3 yX3_leastErasedFree wsX3_leastErasedFree) := goodIn_app (goodIn_of _ (by decide +kernel)) ggX3_appendAt_X3_leastErasedFree
theorem dX3_appendAt_0 : decode cX3_appendAt 0 = .ok (.aload_n 0, 1) := by decide +kernel
theorem dX3_appendAt_1 : decode cX3_appendAt 1 = .ok (.getfield 21, 3) := by decide +kernel
theorem dX3_appendAt_4 : decode cX3_appendAt 4 = .ok (.iload_n 1, 1) := by decide +kernel
theorem dX3_appendAt_5 : decode cX3_appendAt 5 = .ok (.iaload, 1) := by decide +kernel
theorem dX3_appendAt_6 : decode cX3_appendAt 6 = .ok (.istore_n 2, 1) := by decide +kernel
theorem dX3_appendAt_7 : decode cX3_appendAt 7 = .ok (.iload_n 2, 1) := by decide +kernel
theorem dX3_appendAt_8 : decode cX3_appendAt 8 = .ok (.iconst (-1), 1) := by decide +kernel
theorem dX3_appendAt_9 : decode cX3_appendAt 9 = .ok (.if_icmp .ne 8, 3) := by decide +kernel
theorem dX3_appendAt_12 : decode cX3_appendAt 12 = .ok (.aload_n 0, 1) := by decide +kernel
theorem dX3_appendAt_13 : decode cX3_appendAt 13 = .ok (.invokevirtual 43, 3) := by decide +kernel
theorem dX3_appendAt_16 : decode cX3_appendAt 16 = .ok (.istore_n 2, 1) := by decide +kernel
theorem dX3_appendAt_17 : decode cX3_appendAt 17 = .ok (.iload_n 2, 1) := by decide +kernel
theorem dX3_appendAt_18 : decode cX3_appendAt 18 = .ok (.iconst (-1), 1) := by decide +kernel
theorem dX3_appendAt_19 : decode cX3_appendAt 19 = .ok (.if_icmp .ne 5, 3) := by decide +kernel
theorem dX3_appendAt_22 : decode cX3_appendAt 22 = .ok (.iconst (-1), 1) := by decide +kernel
theorem dX3_appendAt_23 : decode cX3_appendAt 23 = .ok (.ireturn, 1) := by decide +kernel
theorem dX3_appendAt_24 : decode cX3_appendAt 24 = .ok (.iload_n 2, 1) := by decide +kernel
theorem dX3_appendAt_25 : decode cX3_appendAt 25 = .ok (.bipush 16, 2) := by decide +kernel
theorem dX3_appendAt_27 : decode cX3_appendAt 27 = .ok (.imul, 1) := by decide +kernel
theorem dX3_appendAt_28 : decode cX3_appendAt 28 = .ok (.aload_n 0, 1) := by decide +kernel
theorem dX3_appendAt_29 : decode cX3_appendAt 29 = .ok (.getfield 18, 3) := by decide +kernel
theorem dX3_appendAt_32 : decode cX3_appendAt 32 = .ok (.iload_n 2, 1) := by decide +kernel
theorem dX3_appendAt_33 : decode cX3_appendAt 33 = .ok (.iaload, 1) := by decide +kernel
theorem dX3_appendAt_34 : decode cX3_appendAt 34 = .ok (.iadd, 1) := by decide +kernel
theorem dX3_appendAt_35 : decode cX3_appendAt 35 = .ok (.istore_n 3, 1) := by decide +kernel
theorem dX3_appendAt_36 : decode cX3_appendAt 36 = .ok (.aload_n 0, 1) := by decide +kernel
theorem dX3_appendAt_37 : decode cX3_appendAt 37 = .ok (.getfield 18, 3) := by decide +kernel
theorem dX3_appendAt_40 : decode cX3_appendAt 40 = .ok (.iload_n 2, 1) := by decide +kernel
theorem dX3_appendAt_41 : decode cX3_appendAt 41 = .ok (.dup2, 1) := by decide +kernel
theorem dX3_appendAt_42 : decode cX3_appendAt 42 = .ok (.iaload, 1) := by decide +kernel
theorem dX3_appendAt_43 : decode cX3_appendAt 43 = .ok (.iconst 1, 1) := by decide +kernel
theorem dX3_appendAt_44 : decode cX3_appendAt 44 = .ok (.iadd, 1) := by decide +kernel
theorem dX3_appendAt_45 : decode cX3_appendAt 45 = .ok (.iastore, 1) := by decide +kernel
theorem dX3_appendAt_46 : decode cX3_appendAt 46 = .ok (.aload_n 0, 1) := by decide +kernel
theorem dX3_appendAt_47 : decode cX3_appendAt 47 = .ok (.getfield 18, 3) := by decide +kernel
theorem dX3_appendAt_50 : decode cX3_appendAt 50 = .ok (.iload_n 2, 1) := by decide +kernel
theorem dX3_appendAt_51 : decode cX3_appendAt 51 = .ok (.iaload, 1) := by decide +kernel
theorem dX3_appendAt_52 : decode cX3_appendAt 52 = .ok (.aload_n 0, 1) := by decide +kernel
theorem dX3_appendAt_53 : decode cX3_appendAt 53 = .ok (.getfield 34, 3) := by decide +kernel
theorem dX3_appendAt_56 : decode cX3_appendAt 56 = .ok (.if_icmp .lt 7, 3) := by decide +kernel
theorem dX3_appendAt_59 : decode cX3_appendAt 59 = .ok (.iconst 1, 1) := by decide +kernel
theorem dX3_appendAt_60 : decode cX3_appendAt 60 = .ok (.goto 4, 3) := by decide +kernel
theorem dX3_appendAt_63 : decode cX3_appendAt 63 = .ok (.iconst 0, 1) := by decide +kernel
theorem dX3_appendAt_64 : decode cX3_appendAt 64 = .ok (.istore 4, 2) := by decide +kernel
theorem dX3_appendAt_66 : decode cX3_appendAt 66 = .ok (.aload_n 0, 1) := by decide +kernel
theorem dX3_appendAt_67 : decode cX3_appendAt 67 = .ok (.getfield 9, 3) := by decide +kernel
theorem dX3_appendAt_70 : decode cX3_appendAt 70 = .ok (.iload_n 2, 1) := by decide +kernel
theorem dX3_appendAt_71 : decode cX3_appendAt 71 = .ok (.iload 4, 2) := by decide +kernel
theorem dX3_appendAt_73 : decode cX3_appendAt 73 = .ok (.ifCond .eq 7, 3) := by decide +kernel
theorem dX3_appendAt_76 : decode cX3_appendAt 76 = .ok (.iconst 2, 1) := by decide +kernel
theorem dX3_appendAt_77 : decode cX3_appendAt 77 = .ok (.goto 4, 3) := by decide +kernel
theorem dX3_appendAt_80 : decode cX3_appendAt 80 = .ok (.iconst 1, 1) := by decide +kernel
theorem dX3_appendAt_81 : decode cX3_appendAt 81 = .ok (.iastore, 1) := by decide +kernel
theorem dX3_appendAt_82 : decode cX3_appendAt 82 = .ok (.aload_n 0, 1) := by decide +kernel
theorem dX3_appendAt_83 : decode cX3_appendAt 83 = .ok (.getfield 21, 3) := by decide +kernel
theorem dX3_appendAt_86 : decode cX3_appendAt 86 = .ok (.iload_n 1, 1) := by decide +kernel
theorem dX3_appendAt_87 : decode cX3_appendAt 87 = .ok (.iload 4, 2) := by decide +kernel
theorem dX3_appendAt_89 : decode cX3_appendAt 89 = .ok (.ifCond .eq 7, 3) := by decide +kernel
theorem dX3_appendAt_92 : decode cX3_appendAt 92 = .ok (.iconst (-1), 1) := by decide +kernel
theorem dX3_appendAt_93 : decode cX3_appendAt 93 = .ok (.goto 4, 3) := by decide +kernel
theorem dX3_appendAt_96 : decode cX3_appendAt 96 = .ok (.iload_n 2, 1) := by decide +kernel
theorem dX3_appendAt_97 : decode cX3_appendAt 97 = .ok (.iastore, 1) := by decide +kernel
theorem dX3_appendAt_98 : decode cX3_appendAt 98 = .ok (.iload_n 3, 1) := by decide +kernel
theorem dX3_appendAt_99 : decode cX3_appendAt 99 = .ok (.ireturn, 1) := by decide +kernel
theorem dX3_leastErasedFree_0 : decode cX3_leastErasedFree 0 = .ok (.iconst (-1), 1) := by decide +kernel
theorem dX3_leastErasedFree_1 : decode cX3_leastErasedFree 1 = .ok (.istore_n 1, 1) := by decide +kernel
theorem dX3_leastErasedFree_2 : decode cX3_leastErasedFree 2 = .ok (.iconst 0, 1) := by decide +kernel
theorem dX3_leastErasedFree_3 : decode cX3_leastErasedFree 3 = .ok (.istore_n 2, 1) := by decide +kernel
theorem dX3_leastErasedFree_4 : decode cX3_leastErasedFree 4 = .ok (.iload_n 2, 1) := by decide +kernel
theorem dX3_leastErasedFree_5 : decode cX3_leastErasedFree 5 = .ok (.aload_n 0, 1) := by decide +kernel
theorem dX3_leastErasedFree_6 : decode cX3_leastErasedFree 6 = .ok (.getfield 30, 3) := by decide +kernel
theorem dX3_leastErasedFree_9 : decode cX3_leastErasedFree 9 = .ok (.if_icmp .ge 40, 3) := by decide +kernel
theorem dX3_leastErasedFree_12 : decode cX3_leastErasedFree 12 = .ok (.aload_n 0, 1) := by decide +kernel
theorem dX3_leastErasedFree_13 : decode cX3_leastErasedFree 13 = .ok (.getfield 9, 3) := by decide +kernel
theorem dX3_leastErasedFree_16 : decode cX3_leastErasedFree 16 = .ok (.iload_n 2, 1) := by decide +kernel
theorem dX3_leastErasedFree_17 : decode cX3_leastErasedFree 17 = .ok (.iaload, 1) := by decide +kernel
theorem dX3_leastErasedFree_18 : decode cX3_leastErasedFree 18 = .ok (.ifCond .ne 25, 3) := by decide +kernel
theorem dX3_leastErasedFree_21 : decode cX3_leastErasedFree 21 = .ok (.iload_n 1, 1) := by decide +kernel
theorem dX3_leastErasedFree_22 : decode cX3_leastErasedFree 22 = .ok (.iconst (-1), 1) := by decide +kernel
theorem dX3_leastErasedFree_23 : decode cX3_leastErasedFree 23 = .ok (.if_icmp .eq 18, 3) := by decide +kernel
theorem dX3_leastErasedFree_26 : decode cX3_leastErasedFree 26 = .ok (.aload_n 0, 1) := by decide +kernel
theorem dX3_leastErasedFree_27 : decode cX3_leastErasedFree 27 = .ok (.getfield 15, 3) := by decide +kernel
theorem dX3_leastErasedFree_30 : decode cX3_leastErasedFree 30 = .ok (.iload_n 2, 1) := by decide +kernel
theorem dX3_leastErasedFree_31 : decode cX3_leastErasedFree 31 = .ok (.iaload, 1) := by decide +kernel
theorem dX3_leastErasedFree_32 : decode cX3_leastErasedFree 32 = .ok (.aload_n 0, 1) := by decide +kernel
theorem dX3_leastErasedFree_33 : decode cX3_leastErasedFree 33 = .ok (.getfield 15, 3) := by decide +kernel
theorem dX3_leastErasedFree_36 : decode cX3_leastErasedFree 36 = .ok (.iload_n 1, 1) := by decide +kernel
theorem dX3_leastErasedFree_37 : decode cX3_leastErasedFree 37 = .ok (.iaload, 1) := by decide +kernel
theorem dX3_leastErasedFree_38 : decode cX3_leastErasedFree 38 = .ok (.if_icmp .ge 5, 3) := by decide +kernel
theorem dX3_leastErasedFree_41 : decode cX3_leastErasedFree 41 = .ok (.iload_n 2, 1) := by decide +kernel
theorem dX3_leastErasedFree_42 : decode cX3_leastErasedFree 42 = .ok (.istore_n 1, 1) := by decide +kernel
theorem dX3_leastErasedFree_43 : decode cX3_leastErasedFree 43 = .ok (.iinc 2 1, 3) := by decide +kernel
theorem dX3_leastErasedFree_46 : decode cX3_leastErasedFree 46 = .ok (.goto (-42), 3) := by decide +kernel
theorem dX3_leastErasedFree_49 : decode cX3_leastErasedFree 49 = .ok (.iload_n 1, 1) := by decide +kernel
theorem dX3_leastErasedFree_50 : decode cX3_leastErasedFree 50 = .ok (.ireturn, 1) := by decide +kernel
theorem dX3_erase_0 : decode cX3_erase 0 = .ok (.aload_n 0, 1) := by decide +kernel
theorem dX3_erase_1 : decode cX3_erase 1 = .ok (.getfield 9, 3) := by decide +kernel
theorem dX3_erase_4 : decode cX3_erase 4 = .ok (.iload_n 1, 1) := by decide +kernel
theorem dX3_erase_5 : decode cX3_erase 5 = .ok (.iconst 0, 1) := by decide +kernel
theorem dX3_erase_6 : decode cX3_erase 6 = .ok (.iastore, 1) := by decide +kernel
theorem dX3_erase_7 : decode cX3_erase 7 = .ok (.aload_n 0, 1) := by decide +kernel
theorem dX3_erase_8 : decode cX3_erase 8 = .ok (.getfield 18, 3) := by decide +kernel
theorem dX3_erase_11 : decode cX3_erase 11 = .ok (.iload_n 1, 1) := by decide +kernel
theorem dX3_erase_12 : decode cX3_erase 12 = .ok (.iconst 0, 1) := by decide +kernel
theorem dX3_erase_13 : decode cX3_erase 13 = .ok (.iastore, 1) := by decide +kernel
theorem dX3_erase_14 : decode cX3_erase 14 = .ok (.aload_n 0, 1) := by decide +kernel
theorem dX3_erase_15 : decode cX3_erase 15 = .ok (.getfield 15, 3) := by decide +kernel
theorem dX3_erase_18 : decode cX3_erase 18 = .ok (.iload_n 1, 1) := by decide +kernel
theorem dX3_erase_19 : decode cX3_erase 19 = .ok (.dup2, 1) := by decide +kernel
theorem dX3_erase_20 : decode cX3_erase 20 = .ok (.iaload, 1) := by decide +kernel
theorem dX3_erase_21 : decode cX3_erase 21 = .ok (.iconst 1, 1) := by decide +kernel
theorem dX3_erase_22 : decode cX3_erase 22 = .ok (.iadd, 1) := by decide +kernel
theorem dX3_erase_23 : decode cX3_erase 23 = .ok (.iastore, 1) := by decide +kernel
theorem dX3_erase_24 : decode cX3_erase 24 = .ok (.return_, 1) := by decide +kernel
theorem dX4_init_0 : decode cX4_init 0 = .ok (.aload_n 0, 1) := by decide +kernel
theorem dX4_init_1 : decode cX4_init 1 = .ok (.invokespecial 3, 3) := by decide +kernel
theorem dX4_init_4 : decode cX4_init 4 = .ok (.aload_n 0, 1) := by decide +kernel
theorem dX4_init_5 : decode cX4_init 5 = .ok (.iconst 4, 1) := by decide +kernel
theorem dX4_init_6 : decode cX4_init 6 = .ok (.newarray .boolean, 2) := by decide +kernel
theorem dX4_init_8 : decode cX4_init 8 = .ok (.putfield 9, 3) := by decide +kernel
theorem dX4_init_11 : decode cX4_init 11 = .ok (.aload_n 0, 1) := by decide +kernel
theorem dX4_init_12 : decode cX4_init 12 = .ok (.bipush 96, 2) := by decide +kernel
theorem dX4_init_14 : decode cX4_init 14 = .ok (.newarray .int, 2) := by decide +kernel
theorem dX4_init_16 : decode cX4_init 16 = .ok (.putfield 15, 3) := by decide +kernel
theorem dX4_init_19 : decode cX4_init 19 = .ok (.return_, 1) := by decide +kernel
set_option maxRecDepth 20000 in
theorem ggX4_begin_X4_forget : GoodIn wsX4_begin wsX4_forget := goodIn_r _ [5, 6, 7, 8, 9] (by first | rfl | decide +kernel) (by decide +kernel)
set_option maxRecDepth 20000 in
theorem gX4_begin_X4_forget : GoodIn wsX4_begin (wsV RX4 19 RX4 yX4_forget wsX4_forget) := goodIn_app (goodIn_of _ (by decide +kernel)) ggX4_begin_X4_forget
theorem dX4_begin_0 : decode cX4_begin 0 = .ok (.iconst 0, 1) := by decide +kernel
theorem dX4_begin_1 : decode cX4_begin 1 = .ok (.istore_n 1, 1) := by decide +kernel
theorem dX4_begin_2 : decode cX4_begin 2 = .ok (.iload_n 1, 1) := by decide +kernel
theorem dX4_begin_3 : decode cX4_begin 3 = .ok (.iconst 4, 1) := by decide +kernel
theorem dX4_begin_4 : decode cX4_begin 4 = .ok (.if_icmp .ge 14, 3) := by decide +kernel
theorem dX4_begin_7 : decode cX4_begin 7 = .ok (.aload_n 0, 1) := by decide +kernel
theorem dX4_begin_8 : decode cX4_begin 8 = .ok (.iload_n 1, 1) := by decide +kernel
theorem dX4_begin_9 : decode cX4_begin 9 = .ok (.invokevirtual 19, 3) := by decide +kernel
theorem dX4_begin_12 : decode cX4_begin 12 = .ok (.iinc 1 1, 3) := by decide +kernel
theorem dX4_begin_15 : decode cX4_begin 15 = .ok (.goto (-13), 3) := by decide +kernel
theorem dX4_begin_18 : decode cX4_begin 18 = .ok (.return_, 1) := by decide +kernel
theorem dX4_copyFrom_0 : decode cX4_copyFrom 0 = .ok (.iconst 0, 1) := by decide +kernel
theorem dX4_copyFrom_1 : decode cX4_copyFrom 1 = .ok (.istore_n 2, 1) := by decide +kernel
theorem dX4_copyFrom_2 : decode cX4_copyFrom 2 = .ok (.iload_n 2, 1) := by decide +kernel
theorem dX4_copyFrom_3 : decode cX4_copyFrom 3 = .ok (.iconst 4, 1) := by decide +kernel
theorem dX4_copyFrom_4 : decode cX4_copyFrom 4 = .ok (.if_icmp .ge 21, 3) := by decide +kernel
theorem dX4_copyFrom_7 : decode cX4_copyFrom 7 = .ok (.aload_n 0, 1) := by decide +kernel
theorem dX4_copyFrom_8 : decode cX4_copyFrom 8 = .ok (.getfield 9, 3) := by decide +kernel
theorem dX4_copyFrom_11 : decode cX4_copyFrom 11 = .ok (.iload_n 2, 1) := by decide +kernel
theorem dX4_copyFrom_12 : decode cX4_copyFrom 12 = .ok (.aload_n 1, 1) := by decide +kernel
theorem dX4_copyFrom_13 : decode cX4_copyFrom 13 = .ok (.getfield 9, 3) := by decide +kernel
theorem dX4_copyFrom_16 : decode cX4_copyFrom 16 = .ok (.iload_n 2, 1) := by decide +kernel
theorem dX4_copyFrom_17 : decode cX4_copyFrom 17 = .ok (.baload, 1) := by decide +kernel
theorem dX4_copyFrom_18 : decode cX4_copyFrom 18 = .ok (.bastore, 1) := by decide +kernel
theorem dX4_copyFrom_19 : decode cX4_copyFrom 19 = .ok (.iinc 2 1, 3) := by decide +kernel
theorem dX4_copyFrom_22 : decode cX4_copyFrom 22 = .ok (.goto (-20), 3) := by decide +kernel
theorem dX4_copyFrom_25 : decode cX4_copyFrom 25 = .ok (.aload_n 1, 1) := by decide +kernel
theorem dX4_copyFrom_26 : decode cX4_copyFrom 26 = .ok (.getfield 15, 3) := by decide +kernel
theorem dX4_copyFrom_29 : decode cX4_copyFrom 29 = .ok (.iconst 0, 1) := by decide +kernel
theorem dX4_copyFrom_30 : decode cX4_copyFrom 30 = .ok (.aload_n 0, 1) := by decide +kernel
theorem dX4_copyFrom_31 : decode cX4_copyFrom 31 = .ok (.getfield 15, 3) := by decide +kernel
theorem dX4_copyFrom_34 : decode cX4_copyFrom 34 = .ok (.iconst 0, 1) := by decide +kernel
theorem dX4_copyFrom_35 : decode cX4_copyFrom 35 = .ok (.bipush 96, 2) := by decide +kernel
theorem dX4_copyFrom_37 : decode cX4_copyFrom 37 = .ok (.invokestatic 23, 3) := by decide +kernel
theorem dX4_copyFrom_40 : decode cX4_copyFrom 40 = .ok (.return_, 1) := by decide +kernel
theorem dX4_take_0 : decode cX4_take 0 = .ok (.iconst 0, 1) := by decide +kernel
theorem dX4_take_1 : decode cX4_take 1 = .ok (.istore_n 3, 1) := by decide +kernel
theorem dX4_take_2 : decode cX4_take 2 = .ok (.aload_n 0, 1) := by decide +kernel
theorem dX4_take_3 : decode cX4_take 3 = .ok (.getfield 9, 3) := by decide +kernel
theorem dX4_take_6 : decode cX4_take 6 = .ok (.iload_n 1, 1) := by decide +kernel
theorem dX4_take_7 : decode cX4_take 7 = .ok (.iconst 1, 1) := by decide +kernel
theorem dX4_take_8 : decode cX4_take 8 = .ok (.bastore, 1) := by decide +kernel
theorem dX4_take_9 : decode cX4_take 9 = .ok (.iconst 0, 1) := by decide +kernel
theorem dX4_take_10 : decode cX4_take 10 = .ok (.istore 4, 2) := by decide +kernel
theorem dX4_take_12 : decode cX4_take 12 = .ok (.iload 4, 2) := by decide +kernel
theorem dX4_take_14 : decode cX4_take 14 = .ok (.bipush 24, 2) := by decide +kernel
theorem dX4_take_16 : decode cX4_take 16 = .ok (.if_icmp .ge 36, 3) := by decide +kernel
theorem dX4_take_19 : decode cX4_take 19 = .ok (.aload_n 0, 1) := by decide +kernel
theorem dX4_take_20 : decode cX4_take 20 = .ok (.getfield 15, 3) := by decide +kernel
theorem dX4_take_23 : decode cX4_take 23 = .ok (.iload_n 1, 1) := by decide +kernel
theorem dX4_take_24 : decode cX4_take 24 = .ok (.bipush 24, 2) := by decide +kernel
theorem dX4_take_26 : decode cX4_take 26 = .ok (.imul, 1) := by decide +kernel
theorem dX4_take_27 : decode cX4_take 27 = .ok (.iload 4, 2) := by decide +kernel
theorem dX4_take_29 : decode cX4_take 29 = .ok (.iadd, 1) := by decide +kernel
theorem dX4_take_30 : decode cX4_take 30 = .ok (.aload_n 2, 1) := by decide +kernel
theorem dX4_take_31 : decode cX4_take 31 = .ok (.iload 4, 2) := by decide +kernel
theorem dX4_take_33 : decode cX4_take 33 = .ok (.iaload, 1) := by decide +kernel
theorem dX4_take_34 : decode cX4_take 34 = .ok (.iastore, 1) := by decide +kernel
theorem dX4_take_35 : decode cX4_take 35 = .ok (.aload_n 2, 1) := by decide +kernel
theorem dX4_take_36 : decode cX4_take 36 = .ok (.iload 4, 2) := by decide +kernel
theorem dX4_take_38 : decode cX4_take 38 = .ok (.iaload, 1) := by decide +kernel
theorem dX4_take_39 : decode cX4_take 39 = .ok (.iconst (-1), 1) := by decide +kernel
theorem dX4_take_40 : decode cX4_take 40 = .ok (.if_icmp .eq 6, 3) := by decide +kernel
theorem dX4_take_43 : decode cX4_take 43 = .ok (.iinc 3 1, 3) := by decide +kernel
theorem dX4_take_46 : decode cX4_take 46 = .ok (.iinc 4 1, 3) := by decide +kernel
theorem dX4_take_49 : decode cX4_take 49 = .ok (.goto (-37), 3) := by decide +kernel
theorem dX4_take_52 : decode cX4_take 52 = .ok (.iload_n 3, 1) := by decide +kernel
theorem dX4_take_53 : decode cX4_take 53 = .ok (.ireturn, 1) := by decide +kernel
theorem dX4_forget_0 : decode cX4_forget 0 = .ok (.aload_n 0, 1) := by decide +kernel
theorem dX4_forget_1 : decode cX4_forget 1 = .ok (.getfield 9, 3) := by decide +kernel
theorem dX4_forget_4 : decode cX4_forget 4 = .ok (.iload_n 1, 1) := by decide +kernel
theorem dX4_forget_5 : decode cX4_forget 5 = .ok (.iconst 0, 1) := by decide +kernel
theorem dX4_forget_6 : decode cX4_forget 6 = .ok (.bastore, 1) := by decide +kernel
theorem dX4_forget_7 : decode cX4_forget 7 = .ok (.iconst 0, 1) := by decide +kernel
theorem dX4_forget_8 : decode cX4_forget 8 = .ok (.istore_n 2, 1) := by decide +kernel
theorem dX4_forget_9 : decode cX4_forget 9 = .ok (.iload_n 2, 1) := by decide +kernel
theorem dX4_forget_10 : decode cX4_forget 10 = .ok (.bipush 24, 2) := by decide +kernel
theorem dX4_forget_12 : decode cX4_forget 12 = .ok (.if_icmp .ge 21, 3) := by decide +kernel
theorem dX4_forget_15 : decode cX4_forget 15 = .ok (.aload_n 0, 1) := by decide +kernel
theorem dX4_forget_16 : decode cX4_forget 16 = .ok (.getfield 15, 3) := by decide +kernel
theorem dX4_forget_19 : decode cX4_forget 19 = .ok (.iload_n 1, 1) := by decide +kernel
theorem dX4_forget_20 : decode cX4_forget 20 = .ok (.bipush 24, 2) := by decide +kernel
theorem dX4_forget_22 : decode cX4_forget 22 = .ok (.imul, 1) := by decide +kernel
theorem dX4_forget_23 : decode cX4_forget 23 = .ok (.iload_n 2, 1) := by decide +kernel
theorem dX4_forget_24 : decode cX4_forget 24 = .ok (.iadd, 1) := by decide +kernel
theorem dX4_forget_25 : decode cX4_forget 25 = .ok (.iconst (-1), 1) := by decide +kernel
theorem dX4_forget_26 : decode cX4_forget 26 = .ok (.iastore, 1) := by decide +kernel
theorem dX4_forget_27 : decode cX4_forget 27 = .ok (.iinc 2 1, 3) := by decide +kernel
theorem dX4_forget_30 : decode cX4_forget 30 = .ok (.goto (-21), 3) := by decide +kernel
theorem dX4_forget_33 : decode cX4_forget 33 = .ok (.return_, 1) := by decide +kernel
theorem dX4_blockOf_0 : decode cX4_blockOf 0 = .ok (.aload_n 0, 1) := by decide +kernel
theorem dX4_blockOf_1 : decode cX4_blockOf 1 = .ok (.getfield 15, 3) := by decide +kernel
theorem dX4_blockOf_4 : decode cX4_blockOf 4 = .ok (.iload_n 1, 1) := by decide +kernel
theorem dX4_blockOf_5 : decode cX4_blockOf 5 = .ok (.bipush 24, 2) := by decide +kernel
theorem dX4_blockOf_7 : decode cX4_blockOf 7 = .ok (.imul, 1) := by decide +kernel
theorem dX4_blockOf_8 : decode cX4_blockOf 8 = .ok (.iload_n 2, 1) := by decide +kernel
theorem dX4_blockOf_9 : decode cX4_blockOf 9 = .ok (.iadd, 1) := by decide +kernel
theorem dX4_blockOf_10 : decode cX4_blockOf 10 = .ok (.iaload, 1) := by decide +kernel
theorem dX4_blockOf_11 : decode cX4_blockOf 11 = .ok (.ireturn, 1) := by decide +kernel
set_option maxRecDepth 20000 in
theorem ggX4_has_X4_blockOf : GoodIn wsX4_has wsX4_blockOf := goodIn_r _ [5, 6, 7, 8] (by first | rfl | decide +kernel) (by decide +kernel)
set_option maxRecDepth 20000 in
theorem gX4_has_X4_blockOf : GoodIn wsX4_has (wsV RX4 29 RX4 yX4_blockOf wsX4_blockOf) := goodIn_app (goodIn_of _ (by decide +kernel)) ggX4_has_X4_blockOf
theorem dX4_has_0 : decode cX4_has 0 = .ok (.iload_n 2, 1) := by decide +kernel
theorem dX4_has_1 : decode cX4_has 1 = .ok (.iconst (-1), 1) := by decide +kernel
theorem dX4_has_2 : decode cX4_has 2 = .ok (.if_icmp .eq 17, 3) := by decide +kernel
theorem dX4_has_5 : decode cX4_has 5 = .ok (.aload_n 0, 1) := by decide +kernel
theorem dX4_has_6 : decode cX4_has 6 = .ok (.iload_n 1, 1) := by decide +kernel
theorem dX4_has_7 : decode cX4_has 7 = .ok (.iload_n 2, 1) := by decide +kernel
theorem dX4_has_8 : decode cX4_has 8 = .ok (.invokevirtual 29, 3) := by decide +kernel
theorem dX4_has_11 : decode cX4_has 11 = .ok (.iload_n 3, 1) := by decide +kernel
theorem dX4_has_12 : decode cX4_has 12 = .ok (.if_icmp .ne 7, 3) := by decide +kernel
theorem dX4_has_15 : decode cX4_has 15 = .ok (.iconst 1, 1) := by decide +kernel
theorem dX4_has_16 : decode cX4_has 16 = .ok (.goto 4, 3) := by decide +kernel
theorem dX4_has_19 : decode cX4_has 19 = .ok (.iconst 0, 1) := by decide +kernel
theorem dX4_has_20 : decode cX4_has 20 = .ok (.ireturn, 1) := by decide +kernel
set_option maxRecDepth 20000 in
theorem ggX4_havers_X4_has : GoodIn wsX4_havers wsX4_has := goodIn_r _ [5, 6, 7, 8, 4, 9, 10, 11, 12] (by first | rfl | decide +kernel) (by decide +kernel)
set_option maxRecDepth 20000 in
theorem gX4_havers_X4_has : GoodIn wsX4_havers (wsV RX4 33 RX4 yX4_has wsX4_has) := goodIn_app (goodIn_of _ (by decide +kernel)) ggX4_havers_X4_has
theorem dX4_havers_0 : decode cX4_havers 0 = .ok (.iconst 0, 1) := by decide +kernel
theorem dX4_havers_1 : decode cX4_havers 1 = .ok (.istore_n 3, 1) := by decide +kernel
theorem dX4_havers_2 : decode cX4_havers 2 = .ok (.iconst 0, 1) := by decide +kernel
theorem dX4_havers_3 : decode cX4_havers 3 = .ok (.istore 4, 2) := by decide +kernel
theorem dX4_havers_5 : decode cX4_havers 5 = .ok (.iload 4, 2) := by decide +kernel
theorem dX4_havers_7 : decode cX4_havers 7 = .ok (.iconst 4, 1) := by decide +kernel
theorem dX4_havers_8 : decode cX4_havers 8 = .ok (.if_icmp .ge 23, 3) := by decide +kernel
theorem dX4_havers_11 : decode cX4_havers 11 = .ok (.aload_n 0, 1) := by decide +kernel
theorem dX4_havers_12 : decode cX4_havers 12 = .ok (.iload 4, 2) := by decide +kernel
theorem dX4_havers_14 : decode cX4_havers 14 = .ok (.iload_n 1, 1) := by decide +kernel
theorem dX4_havers_15 : decode cX4_havers 15 = .ok (.iload_n 2, 1) := by decide +kernel
theorem dX4_havers_16 : decode cX4_havers 16 = .ok (.invokevirtual 33, 3) := by decide +kernel
theorem dX4_havers_19 : decode cX4_havers 19 = .ok (.ifCond .eq 6, 3) := by decide +kernel
theorem dX4_havers_22 : decode cX4_havers 22 = .ok (.iinc 3 1, 3) := by decide +kernel
theorem dX4_havers_25 : decode cX4_havers 25 = .ok (.iinc 4 1, 3) := by decide +kernel
theorem dX4_havers_28 : decode cX4_havers 28 = .ok (.goto (-23), 3) := by decide +kernel
theorem dX4_havers_31 : decode cX4_havers 31 = .ok (.iload_n 3, 1) := by decide +kernel
theorem dX4_havers_32 : decode cX4_havers 32 = .ok (.ireturn, 1) := by decide +kernel
set_option maxRecDepth 20000 in
theorem ggX4_anyHas_X4_havers : GoodIn wsX4_anyHas wsX4_havers := goodIn_r _ [5, 6, 7, 8, 4, 9, 10, 11, 12, 13, 14, 15, 16] (by first | rfl | decide +kernel) (by decide +kernel)
set_option maxRecDepth 20000 in
theorem gX4_anyHas_X4_havers : GoodIn wsX4_anyHas (wsV RX4 37 RX4 yX4_havers wsX4_havers) := goodIn_app (goodIn_of _ (by decide +kernel)) ggX4_anyHas_X4_havers
theorem dX4_anyHas_0 : decode cX4_anyHas 0 = .ok (.aload_n 0, 1) := by decide +kernel
theorem dX4_anyHas_1 : decode cX4_anyHas 1 = .ok (.iload_n 1, 1) := by decide +kernel
theorem dX4_anyHas_2 : decode cX4_anyHas 2 = .ok (.iload_n 2, 1) := by decide +kernel
theorem dX4_anyHas_3 : decode cX4_anyHas 3 = .ok (.invokevirtual 37, 3) := by decide +kernel
theorem dX4_anyHas_6 : decode cX4_anyHas 6 = .ok (.ifCond .le 7, 3) := by decide +kernel
theorem dX4_anyHas_9 : decode cX4_anyHas 9 = .ok (.iconst 1, 1) := by decide +kernel
theorem dX4_anyHas_10 : decode cX4_anyHas 10 = .ok (.goto 4, 3) := by decide +kernel
theorem dX4_anyHas_13 : decode cX4_anyHas 13 = .ok (.iconst 0, 1) := by decide +kernel
theorem dX4_anyHas_14 : decode cX4_anyHas 14 = .ok (.ireturn, 1) := by decide +kernel
set_option maxRecDepth 20000 in
theorem ggX4_exchange_X4_has : GoodIn wsX4_exchange wsX4_has := goodIn_r _ [6, 7, 8, 9, 5, 10, 1, 11, 12] (by first | rfl | decide +kernel) (by decide +kernel)
set_option maxRecDepth 20000 in
theorem gX4_exchange_X4_has : GoodIn wsX4_exchange (wsV RX4 33 RX4 yX4_has wsX4_has) := goodIn_app (goodIn_of _ (by decide +kernel)) ggX4_exchange_X4_has
theorem dX4_exchange_0 : decode cX4_exchange 0 = .ok (.iconst 0, 1) := by decide +kernel
theorem dX4_exchange_1 : decode cX4_exchange 1 = .ok (.istore 4, 2) := by decide +kernel
theorem dX4_exchange_3 : decode cX4_exchange 3 = .ok (.iload 4, 2) := by decide +kernel
theorem dX4_exchange_5 : decode cX4_exchange 5 = .ok (.iconst 4, 1) := by decide +kernel
theorem dX4_exchange_6 : decode cX4_exchange 6 = .ok (.if_icmp .ge 33, 3) := by decide +kernel
theorem dX4_exchange_9 : decode cX4_exchange 9 = .ok (.aload_n 0, 1) := by decide +kernel
theorem dX4_exchange_10 : decode cX4_exchange 10 = .ok (.iload 4, 2) := by decide +kernel
theorem dX4_exchange_12 : decode cX4_exchange 12 = .ok (.iload_n 1, 1) := by decide +kernel
theorem dX4_exchange_13 : decode cX4_exchange 13 = .ok (.iload_n 2, 1) := by decide +kernel
theorem dX4_exchange_14 : decode cX4_exchange 14 = .ok (.invokevirtual 33, 3) := by decide +kernel
theorem dX4_exchange_17 : decode cX4_exchange 17 = .ok (.ifCond .eq 16, 3) := by decide +kernel
theorem dX4_exchange_20 : decode cX4_exchange 20 = .ok (.aload_n 0, 1) := by decide +kernel
theorem dX4_exchange_21 : decode cX4_exchange 21 = .ok (.getfield 15, 3) := by decide +kernel
theorem dX4_exchange_24 : decode cX4_exchange 24 = .ok (.iload 4, 2) := by decide +kernel
theorem dX4_exchange_26 : decode cX4_exchange 26 = .ok (.bipush 24, 2) := by decide +kernel
theorem dX4_exchange_28 : decode cX4_exchange 28 = .ok (.imul, 1) := by decide +kernel
theorem dX4_exchange_29 : decode cX4_exchange 29 = .ok (.iload_n 1, 1) := by decide +kernel
theorem dX4_exchange_30 : decode cX4_exchange 30 = .ok (.iadd, 1) := by decide +kernel
theorem dX4_exchange_31 : decode cX4_exchange 31 = .ok (.iload_n 3, 1) := by decide +kernel
theorem dX4_exchange_32 : decode cX4_exchange 32 = .ok (.iastore, 1) := by decide +kernel
theorem dX4_exchange_33 : decode cX4_exchange 33 = .ok (.iinc 4 1, 3) := by decide +kernel
theorem dX4_exchange_36 : decode cX4_exchange 36 = .ok (.goto (-33), 3) := by decide +kernel
theorem dX4_exchange_39 : decode cX4_exchange 39 = .ok (.return_, 1) := by decide +kernel
set_option maxRecDepth 20000 in
theorem ggX5_init_X3_init : GoodIn wsX5_init wsX3_init := goodIn_r _ [23, 24, 2, 3, 20, 25, 26, 27, 28, 49, 50, 51, 52, 53, 54] (by first | rfl | decide +kernel) (by decide +kernel)
set_option maxRecDepth 20000 in
theorem gX5_init_X3_init_n11 : GoodIn wsX5_init (wsX3_init) := ggX5_init_X3_init
set_option maxRecDepth 20000 in
theorem ggX5_init_X0_init : GoodIn wsX5_init wsX0_init := goodIn_r _ [30, 31, 2, 3, 20, 32, 33, 34, 35, 36, 37, 66, 67, 68, 69, 70, 71] (by first | rfl | decide +kernel) (by decide +kernel)
set_option maxRecDepth 20000 in
theorem gX5_init_X0_init_n20 : GoodIn wsX5_init (wsX0_init) := ggX5_init_X0_init
set_option maxRecDepth 20000 in
theorem ggX5_init_X2_init : GoodIn wsX5_init wsX2_init := goodIn_r _ [39, 40, 2, 3, 20, 41, 42, 72, 73] (by first | rfl | decide +kernel) (by decide +kernel)
set_option maxRecDepth 20000 in
theorem gX5_init_X2_init_n27 : GoodIn wsX5_init (wsX2_init) := ggX5_init_X2_init
set_option maxRecDepth 20000 in
theorem ggX5_init_X4_init : GoodIn wsX5_init wsX4_init := goodIn_r _ [44, 45, 2, 3, 46, 47, 20, 48, 74, 75] (by first | rfl | decide +kernel) (by decide +kernel)
set_option maxRecDepth 20000 in
theorem gX5_init_X4_init_n34 : GoodIn wsX5_init (wsX4_init) := ggX5_init_X4_init
theorem dX5_init_0 : decode cX5_init 0 = .ok (.aload_n 0, 1) := by decide +kernel
theorem dX5_init_1 : decode cX5_init 1 = .ok (.invokespecial 3, 3) := by decide +kernel
theorem dX5_init_4 : decode cX5_init 4 = .ok (.aload_n 0, 1) := by decide +kernel
theorem dX5_init_5 : decode cX5_init 5 = .ok (.new 9, 3) := by decide +kernel
theorem dX5_init_8 : decode cX5_init 8 = .ok (.dup, 1) := by decide +kernel
theorem dX5_init_9 : decode cX5_init 9 = .ok (.invokespecial 11, 3) := by decide +kernel
theorem dX5_init_12 : decode cX5_init 12 = .ok (.putfield 12, 3) := by decide +kernel
theorem dX5_init_15 : decode cX5_init 15 = .ok (.aload_n 0, 1) := by decide +kernel
theorem dX5_init_16 : decode cX5_init 16 = .ok (.new 18, 3) := by decide +kernel
theorem dX5_init_19 : decode cX5_init 19 = .ok (.dup, 1) := by decide +kernel
theorem dX5_init_20 : decode cX5_init 20 = .ok (.invokespecial 20, 3) := by decide +kernel
theorem dX5_init_23 : decode cX5_init 23 = .ok (.putfield 21, 3) := by decide +kernel
theorem dX5_init_26 : decode cX5_init 26 = .ok (.aload_n 0, 1) := by decide +kernel
theorem dX5_init_27 : decode cX5_init 27 = .ok (.new 25, 3) := by decide +kernel
theorem dX5_init_30 : decode cX5_init 30 = .ok (.dup, 1) := by decide +kernel
theorem dX5_init_31 : decode cX5_init 31 = .ok (.invokespecial 27, 3) := by decide +kernel
theorem dX5_init_34 : decode cX5_init 34 = .ok (.putfield 28, 3) := by decide +kernel
theorem dX5_init_37 : decode cX5_init 37 = .ok (.aload_n 0, 1) := by decide +kernel
theorem dX5_init_38 : decode cX5_init 38 = .ok (.new 32, 3) := by decide +kernel
theorem dX5_init_41 : decode cX5_init 41 = .ok (.dup, 1) := by decide +kernel
theorem dX5_init_42 : decode cX5_init 42 = .ok (.invokespecial 34, 3) := by decide +kernel
theorem dX5_init_45 : decode cX5_init 45 = .ok (.putfield 35, 3) := by decide +kernel
theorem dX5_init_48 : decode cX5_init 48 = .ok (.aload_n 0, 1) := by decide +kernel
theorem dX5_init_49 : decode cX5_init 49 = .ok (.bipush 24, 2) := by decide +kernel
theorem dX5_init_51 : decode cX5_init 51 = .ok (.newarray .int, 2) := by decide +kernel
theorem dX5_init_53 : decode cX5_init 53 = .ok (.putfield 39, 3) := by decide +kernel
theorem dX5_init_56 : decode cX5_init 56 = .ok (.return_, 1) := by decide +kernel
set_option maxRecDepth 20000 in
theorem ggX5_begin_X3_begin : GoodIn wsX5_begin wsX3_begin := goodIn_r _ [16, 17, 18, 19, 20, 21, 22, 23, 24, 25, 26, 77, 78, 79, 80, 81, 82] (by first | rfl | decide +kernel) (by decide +kernel)
set_option maxRecDepth 20000 in
theorem gX5_begin_X3_begin : GoodIn wsX5_begin (wsV RX5 43 RX3 yX3_begin wsX3_begin) := goodIn_app (goodIn_of _ (by decide +kernel)) ggX5_begin_X3_begin
set_option maxRecDepth 20000 in
theorem ggX5_begin_X0_begin : GoodIn wsX5_begin wsX0_begin := goodIn_r _ [31, 32, 33, 34, 30, 35, 36, 37, 38, 39, 40, 41, 42, 43, 44, 45, 83, 84, 85, 86, 87, 88] (by first | rfl | decide +kernel) (by decide +kernel)
set_option maxRecDepth 20000 in
theorem gX5_begin_X0_begin : GoodIn wsX5_begin (wsV RX5 47 RX0 yX0_begin wsX0_begin) := goodIn_app (goodIn_of _ (by decide +kernel)) ggX5_begin_X0_begin
set_option maxRecDepth 20000 in
theorem ggX5_begin_X2_begin : GoodIn wsX5_begin wsX2_begin := goodIn_r _ [50, 51, 52, 53, 24, 25, 26, 89, 90] (by first | rfl | decide +kernel) (by decide +kernel)
set_option maxRecDepth 20000 in
theorem gX5_begin_X2_begin : GoodIn wsX5_begin (wsV RX5 49 RX2 yX2_begin wsX2_begin) := goodIn_app (goodIn_of _ (by decide +kernel)) ggX5_begin_X2_begin
set_option maxRecDepth 20000 in
theorem ggX5_begin_X4_begin : GoodIn wsX5_begin wsX4_begin := goodIn_r _ [58, 59, 60, 61, 57, 62, 63, 64, 91, 92] (by first | rfl | decide +kernel) (by decide +kernel)
set_option maxRecDepth 20000 in
theorem gX5_begin_X4_begin : GoodIn wsX5_begin (wsV RX5 50 RX4 yX4_begin wsX4_begin) := goodIn_app (goodIn_of _ (by decide +kernel)) ggX5_begin_X4_begin
set_option maxRecDepth 20000 in
theorem ggX5_begin_J7_fill_53178 : GoodIn wsX5_begin wsJ7_fill_53178 := goodIn_r _ [26] (by first | rfl | decide +kernel) (by decide +kernel)
set_option maxRecDepth 20000 in
theorem gX5_begin_J7_fill_53178 : GoodIn wsX5_begin (va_wsS RX5 51 yJ7_fill_53178 wsJ7_fill_53178) := goodIn_app (goodIn_of _ (by decide +kernel)) ggX5_begin_J7_fill_53178
theorem dX5_begin_0 : decode cX5_begin 0 = .ok (.aload_n 0, 1) := by decide +kernel
theorem dX5_begin_1 : decode cX5_begin 1 = .ok (.getfield 12, 3) := by decide +kernel
theorem dX5_begin_4 : decode cX5_begin 4 = .ok (.iload_n 1, 1) := by decide +kernel
theorem dX5_begin_5 : decode cX5_begin 5 = .ok (.iload_n 2, 1) := by decide +kernel
theorem dX5_begin_6 : decode cX5_begin 6 = .ok (.invokevirtual 43, 3) := by decide +kernel
theorem dX5_begin_9 : decode cX5_begin 9 = .ok (.aload_n 0, 1) := by decide +kernel
theorem dX5_begin_10 : decode cX5_begin 10 = .ok (.getfield 21, 3) := by decide +kernel
theorem dX5_begin_13 : decode cX5_begin 13 = .ok (.invokevirtual 47, 3) := by decide +kernel
theorem dX5_begin_16 : decode cX5_begin 16 = .ok (.aload_n 0, 1) := by decide +kernel
theorem dX5_begin_17 : decode cX5_begin 17 = .ok (.getfield 28, 3) := by decide +kernel
theorem dX5_begin_20 : decode cX5_begin 20 = .ok (.invokevirtual 49, 3) := by decide +kernel
theorem dX5_begin_23 : decode cX5_begin 23 = .ok (.aload_n 0, 1) := by decide +kernel
theorem dX5_begin_24 : decode cX5_begin 24 = .ok (.getfield 35, 3) := by decide +kernel
theorem dX5_begin_27 : decode cX5_begin 27 = .ok (.invokevirtual 50, 3) := by decide +kernel
theorem dX5_begin_30 : decode cX5_begin 30 = .ok (.aload_n 0, 1) := by decide +kernel
theorem dX5_begin_31 : decode cX5_begin 31 = .ok (.getfield 39, 3) := by decide +kernel
theorem dX5_begin_34 : decode cX5_begin 34 = .ok (.iconst (-1), 1) := by decide +kernel
theorem dX5_begin_35 : decode cX5_begin 35 = .ok (.invokestatic 51, 3) := by decide +kernel
theorem dX5_begin_38 : decode cX5_begin 38 = .ok (.aload_n 0, 1) := by decide +kernel
theorem dX5_begin_39 : decode cX5_begin 39 = .ok (.iload_n 3, 1) := by decide +kernel
theorem dX5_begin_40 : decode cX5_begin 40 = .ok (.putfield 57, 3) := by decide +kernel
theorem dX5_begin_43 : decode cX5_begin 43 = .ok (.aload_n 0, 1) := by decide +kernel
theorem dX5_begin_44 : decode cX5_begin 44 = .ok (.iconst 0, 1) := by decide +kernel
theorem dX5_begin_45 : decode cX5_begin 45 = .ok (.putfield 61, 3) := by decide +kernel
theorem dX5_begin_48 : decode cX5_begin 48 = .ok (.aload_n 0, 1) := by decide +kernel
theorem dX5_begin_49 : decode cX5_begin 49 = .ok (.iconst 0, 1) := by decide +kernel
theorem dX5_begin_50 : decode cX5_begin 50 = .ok (.putfield 64, 3) := by decide +kernel
theorem dX5_begin_53 : decode cX5_begin 53 = .ok (.aload_n 0, 1) := by decide +kernel
theorem dX5_begin_54 : decode cX5_begin 54 = .ok (.iconst 0, 1) := by decide +kernel
theorem dX5_begin_55 : decode cX5_begin 55 = .ok (.putfield 67, 3) := by decide +kernel
theorem dX5_begin_58 : decode cX5_begin 58 = .ok (.aload_n 0, 1) := by decide +kernel
theorem dX5_begin_59 : decode cX5_begin 59 = .ok (.iconst 0, 1) := by decide +kernel
theorem dX5_begin_60 : decode cX5_begin 60 = .ok (.putfield 70, 3) := by decide +kernel
theorem dX5_begin_63 : decode cX5_begin 63 = .ok (.aload_n 0, 1) := by decide +kernel
theorem dX5_begin_64 : decode cX5_begin 64 = .ok (.iconst 0, 1) := by decide +kernel
theorem dX5_begin_65 : decode cX5_begin 65 = .ok (.putfield 73, 3) := by decide +kernel
theorem dX5_begin_68 : decode cX5_begin 68 = .ok (.return_, 1) := by decide +kernel
set_option maxRecDepth 20000 in
theorem ggX5_copyFrom_X3_copyFrom : GoodIn wsX5_copyFrom wsX3_copyFrom := goodIn_r _ [20, 21, 22, 7, 8, 9, 23, 24, 25, 26, 27, 67, 68, 69, 70, 71, 72] (by first | rfl | decide +kernel) (by decide +kernel)
set_option maxRecDepth 20000 in
theorem gX5_copyFrom_X3_copyFrom : GoodIn wsX5_copyFrom (wsV RX5 76 RX3 yX3_copyFrom wsX3_copyFrom) := goodIn_app (goodIn_of _ (by decide +kernel)) ggX5_copyFrom_X3_copyFrom
set_option maxRecDepth 20000 in
theorem ggX5_copyFrom_X0_copyFrom : GoodIn wsX5_copyFrom wsX0_copyFrom := goodIn_r _ [32, 33, 34, 7, 8, 9, 35, 36, 37, 38, 39, 73, 74, 75, 76, 77, 78] (by first | rfl | decide +kernel) (by decide +kernel)
set_option maxRecDepth 20000 in
theorem gX5_copyFrom_X0_copyFrom : GoodIn wsX5_copyFrom (wsV RX5 80 RX0 yX0_copyFrom wsX0_copyFrom) := goodIn_app (goodIn_of _ (by decide +kernel)) ggX5_copyFrom_X0_copyFrom
set_option maxRecDepth 20000 in
theorem ggX5_copyFrom_X2_copyFrom : GoodIn wsX5_copyFrom wsX2_copyFrom := goodIn_r _ [44, 45, 46, 7, 8, 9, 47, 79, 80] (by first | rfl | decide +kernel) (by decide +kernel)
set_option maxRecDepth 20000 in
theorem gX5_copyFrom_X2_copyFrom : GoodIn wsX5_copyFrom (wsV RX5 83 RX2 yX2_copyFrom wsX2_copyFrom) := goodIn_app (goodIn_of _ (by decide +kernel)) ggX5_copyFrom_X2_copyFrom
set_option maxRecDepth 20000 in
theorem ggX5_copyFrom_X4_copyFrom : GoodIn wsX5_copyFrom wsX4_copyFrom := goodIn_r _ [52, 53, 54, 55, 7, 8, 9, 81, 82] (by first | rfl | decide +kernel) (by decide +kernel)
set_option maxRecDepth 20000 in
theorem gX5_copyFrom_X4_copyFrom : GoodIn wsX5_copyFrom (wsV RX5 86 RX4 yX4_copyFrom wsX4_copyFrom) := goodIn_app (goodIn_of _ (by decide +kernel)) ggX5_copyFrom_X4_copyFrom
theorem dX5_copyFrom_0 : decode cX5_copyFrom 0 = .ok (.aload_n 0, 1) := by decide +kernel
theorem dX5_copyFrom_1 : decode cX5_copyFrom 1 = .ok (.getfield 12, 3) := by decide +kernel
theorem dX5_copyFrom_4 : decode cX5_copyFrom 4 = .ok (.aload_n 1, 1) := by decide +kernel
theorem dX5_copyFrom_5 : decode cX5_copyFrom 5 = .ok (.getfield 12, 3) := by decide +kernel
theorem dX5_copyFrom_8 : decode cX5_copyFrom 8 = .ok (.invokevirtual 76, 3) := by decide +kernel
theorem dX5_copyFrom_11 : decode cX5_copyFrom 11 = .ok (.aload_n 0, 1) := by decide +kernel
theorem dX5_copyFrom_12 : decode cX5_copyFrom 12 = .ok (.getfield 21, 3) := by decide +kernel
theorem dX5_copyFrom_15 : decode cX5_copyFrom 15 = .ok (.aload_n 1, 1) := by decide +kernel
theorem dX5_copyFrom_16 : decode cX5_copyFrom 16 = .ok (.getfield 21, 3) := by decide +kernel
theorem dX5_copyFrom_19 : decode cX5_copyFrom 19 = .ok (.invokevirtual 80, 3) := by decide +kernel
theorem dX5_copyFrom_22 : decode cX5_copyFrom 22 = .ok (.aload_n 0, 1) := by decide +kernel
theorem dX5_copyFrom_23 : decode cX5_copyFrom 23 = .ok (.getfield 28, 3) := by decide +kernel
theorem dX5_copyFrom_26 : decode cX5_copyFrom 26 = .ok (.aload_n 1, 1) := by decide +kernel
theorem dX5_copyFrom_27 : decode cX5_copyFrom 27 = .ok (.getfield 28, 3) := by decide +kernel
theorem dX5_copyFrom_30 : decode cX5_copyFrom 30 = .ok (.invokevirtual 83, 3) := by decide +kernel
theorem dX5_copyFrom_33 : decode cX5_copyFrom 33 = .ok (.aload_n 0, 1) := by decide +kernel
theorem dX5_copyFrom_34 : decode cX5_copyFrom 34 = .ok (.getfield 35, 3) := by decide +kernel
theorem dX5_copyFrom_37 : decode cX5_copyFrom 37 = .ok (.aload_n 1, 1) := by decide +kernel
theorem dX5_copyFrom_38 : decode cX5_copyFrom 38 = .ok (.getfield 35, 3) := by decide +kernel
theorem dX5_copyFrom_41 : decode cX5_copyFrom 41 = .ok (.invokevirtual 86, 3) := by decide +kernel
theorem dX5_copyFrom_44 : decode cX5_copyFrom 44 = .ok (.aload_n 1, 1) := by decide +kernel
theorem dX5_copyFrom_45 : decode cX5_copyFrom 45 = .ok (.getfield 39, 3) := by decide +kernel
theorem dX5_copyFrom_48 : decode cX5_copyFrom 48 = .ok (.iconst 0, 1) := by decide +kernel
theorem dX5_copyFrom_49 : decode cX5_copyFrom 49 = .ok (.aload_n 0, 1) := by decide +kernel
theorem dX5_copyFrom_50 : decode cX5_copyFrom 50 = .ok (.getfield 39, 3) := by decide +kernel
theorem dX5_copyFrom_53 : decode cX5_copyFrom 53 = .ok (.iconst 0, 1) := by decide +kernel
theorem dX5_copyFrom_54 : decode cX5_copyFrom 54 = .ok (.bipush 24, 2) := by decide +kernel
theorem dX5_copyFrom_56 : decode cX5_copyFrom 56 = .ok (.invokestatic 89, 3) := by decide +kernel
theorem dX5_copyFrom_59 : decode cX5_copyFrom 59 = .ok (.aload_n 0, 1) := by decide +kernel
theorem dX5_copyFrom_60 : decode cX5_copyFrom 60 = .ok (.aload_n 1, 1) := by decide +kernel
theorem dX5_copyFrom_61 : decode cX5_copyFrom 61 = .ok (.getfield 57, 3) := by decide +kernel
theorem dX5_copyFrom_64 : decode cX5_copyFrom 64 = .ok (.putfield 57, 3) := by decide +kernel
theorem dX5_copyFrom_67 : decode cX5_copyFrom 67 = .ok (.aload_n 0, 1) := by decide +kernel
theorem dX5_copyFrom_68 : decode cX5_copyFrom 68 = .ok (.aload_n 1, 1) := by decide +kernel
theorem dX5_copyFrom_69 : decode cX5_copyFrom 69 = .ok (.getfield 61, 3) := by decide +kernel
theorem dX5_copyFrom_72 : decode cX5_copyFrom 72 = .ok (.putfield 61, 3) := by decide +kernel
theorem dX5_copyFrom_75 : decode cX5_copyFrom 75 = .ok (.aload_n 0, 1) := by decide +kernel
theorem dX5_copyFrom_76 : decode cX5_copyFrom 76 = .ok (.aload_n 1, 1) := by decide +kernel
theorem dX5_copyFrom_77 : decode cX5_copyFrom 77 = .ok (.getfield 64, 3) := by decide +kernel
theorem dX5_copyFrom_80 : decode cX5_copyFrom 80 = .ok (.putfield 64, 3) := by decide +kernel
theorem dX5_copyFrom_83 : decode cX5_copyFrom 83 = .ok (.aload_n 0, 1) := by decide +kernel
theorem dX5_copyFrom_84 : decode cX5_copyFrom 84 = .ok (.aload_n 1, 1) := by decide +kernel
theorem dX5_copyFrom_85 : decode cX5_copyFrom 85 = .ok (.getfield 67, 3) := by decide +kernel
theorem dX5_copyFrom_88 : decode cX5_copyFrom 88 = .ok (.putfield 67, 3) := by decide +kernel
theorem dX5_copyFrom_91 : decode cX5_copyFrom 91 = .ok (.aload_n 0, 1) := by decide +kernel
theorem dX5_copyFrom_92 : decode cX5_copyFrom 92 = .ok (.aload_n 1, 1) := by decide +kernel
theorem dX5_copyFrom_93 : decode cX5_copyFrom 93 = .ok (.getfield 70, 3) := by decide +kernel
theorem dX5_copyFrom_96 : decode cX5_copyFrom 96 = .ok (.putfield 70, 3) := by decide +kernel
theorem dX5_copyFrom_99 : decode cX5_copyFrom 99 = .ok (.aload_n 0, 1) := by decide +kernel
theorem dX5_copyFrom_100 : decode cX5_copyFrom 100 = .ok (.aload_n 1, 1) := by decide +kernel
theorem dX5_copyFrom_101 : decode cX5_copyFrom 101 = .ok (.getfield 73, 3) := by decide +kernel
theorem dX5_copyFrom_104 : decode cX5_copyFrom 104 = .ok (.putfield 73, 3) := by decide +kernel
theorem dX5_copyFrom_107 : decode cX5_copyFrom 107 = .ok (.return_, 1) := by decide +kernel
set_option maxRecDepth 20000 in
theorem ggX5_roomForWrites_X3_freeSegments : GoodIn wsX5_roomForWrites wsX3_freeSegments := goodIn_r _ [11, 12, 13, 32, 33, 34, 35, 36, 37] (by first | rfl | decide +kernel) (by decide +kernel)
set_option maxRecDepth 20000 in
theorem gX5_roomForWrites_X3_freeSegments : GoodIn wsX5_roomForWrites (wsV RX5 95 RX3 yX3_freeSegments wsX3_freeSegments) := goodIn_app (goodIn_of _ (by decide +kernel)) ggX5_roomForWrites_X3_freeSegments
set_option maxRecDepth 20000 in
theorem ggX5_roomForWrites_X3_unusedAt : GoodIn wsX5_roomForWrites wsX3_unusedAt := goodIn_r _ [17, 18, 19, 20, 32, 33, 34, 35, 36, 37] (by first | rfl | decide +kernel) (by decide +kernel)
set_option maxRecDepth 20000 in
theorem gX5_roomForWrites_X3_unusedAt : GoodIn wsX5_roomForWrites (wsV RX5 105 RX3 yX3_unusedAt wsX3_unusedAt) := goodIn_app (goodIn_of _ (by decide +kernel)) ggX5_roomForWrites_X3_unusedAt
theorem dX5_roomForWrites_0 : decode cX5_roomForWrites 0 = .ok (.iconst 0, 1) := by decide +kernel
theorem dX5_roomForWrites_1 : decode cX5_roomForWrites 1 = .ok (.aload_n 0, 1) := by decide +kernel
theorem dX5_roomForWrites_2 : decode cX5_roomForWrites 2 = .ok (.getfield 12, 3) := by decide +kernel
theorem dX5_roomForWrites_5 : decode cX5_roomForWrites 5 = .ok (.invokevirtual 95, 3) := by decide +kernel
theorem dX5_roomForWrites_8 : decode cX5_roomForWrites 8 = .ok (.iconst 1, 1) := by decide +kernel
theorem dX5_roomForWrites_9 : decode cX5_roomForWrites 9 = .ok (.isub, 1) := by decide +kernel
theorem dX5_roomForWrites_10 : decode cX5_roomForWrites 10 = .ok (.invokestatic 99, 3) := by decide +kernel
theorem dX5_roomForWrites_13 : decode cX5_roomForWrites 13 = .ok (.istore_n 1, 1) := by decide +kernel
theorem dX5_roomForWrites_14 : decode cX5_roomForWrites 14 = .ok (.aload_n 0, 1) := by decide +kernel
theorem dX5_roomForWrites_15 : decode cX5_roomForWrites 15 = .ok (.getfield 12, 3) := by decide +kernel
theorem dX5_roomForWrites_18 : decode cX5_roomForWrites 18 = .ok (.iconst 0, 1) := by decide +kernel
theorem dX5_roomForWrites_19 : decode cX5_roomForWrites 19 = .ok (.invokevirtual 105, 3) := by decide +kernel
theorem dX5_roomForWrites_22 : decode cX5_roomForWrites 22 = .ok (.iload_n 1, 1) := by decide +kernel
theorem dX5_roomForWrites_23 : decode cX5_roomForWrites 23 = .ok (.aload_n 0, 1) := by decide +kernel
theorem dX5_roomForWrites_24 : decode cX5_roomForWrites 24 = .ok (.getfield 12, 3) := by decide +kernel
theorem dX5_roomForWrites_27 : decode cX5_roomForWrites 27 = .ok (.getfield 109, 3) := by decide +kernel
theorem dX5_roomForWrites_30 : decode cX5_roomForWrites 30 = .ok (.imul, 1) := by decide +kernel
theorem dX5_roomForWrites_31 : decode cX5_roomForWrites 31 = .ok (.iadd, 1) := by decide +kernel
theorem dX5_roomForWrites_32 : decode cX5_roomForWrites 32 = .ok (.ireturn, 1) := by decide +kernel
set_option maxRecDepth 20000 in
theorem ggX5_roomForRelocation_X3_unusedAt : GoodIn wsX5_roomForRelocation wsX3_unusedAt := goodIn_r _ [7, 8, 9, 10, 28, 29, 30, 31, 32, 33] (by first | rfl | decide +kernel) (by decide +kernel)
set_option maxRecDepth 20000 in
theorem gX5_roomForRelocation_X3_unusedAt : GoodIn wsX5_roomForRelocation (wsV RX5 105 RX3 yX3_unusedAt wsX3_unusedAt) := goodIn_app (goodIn_of _ (by decide +kernel)) ggX5_roomForRelocation_X3_unusedAt
set_option maxRecDepth 20000 in
theorem ggX5_roomForRelocation_X3_freeSegments : GoodIn wsX5_roomForRelocation wsX3_freeSegments := goodIn_r _ [14, 15, 16, 28, 29, 30, 31, 32, 33] (by first | rfl | decide +kernel) (by decide +kernel)
set_option maxRecDepth 20000 in
theorem gX5_roomForRelocation_X3_freeSegments : GoodIn wsX5_roomForRelocation (wsV RX5 95 RX3 yX3_freeSegments wsX3_freeSegments) := goodIn_app (goodIn_of _ (by decide +kernel)) ggX5_roomForRelocation_X3_freeSegments
theorem dX5_roomForRelocation_0 : decode cX5_roomForRelocation 0 = .ok (.aload_n 0, 1) := by decide +kernel
theorem dX5_roomForRelocation_1 : decode cX5_roomForRelocation 1 = .ok (.getfield 12, 3) := by decide +kernel
theorem dX5_roomForRelocation_4 : decode cX5_roomForRelocation 4 = .ok (.iconst 1, 1) := by decide +kernel
theorem dX5_roomForRelocation_5 : decode cX5_roomForRelocation 5 = .ok (.invokevirtual 105, 3) := by decide +kernel
theorem dX5_roomForRelocation_8 : decode cX5_roomForRelocation 8 = .ok (.aload_n 0, 1) := by decide +kernel
theorem dX5_roomForRelocation_9 : decode cX5_roomForRelocation 9 = .ok (.getfield 12, 3) := by decide +kernel
theorem dX5_roomForRelocation_12 : decode cX5_roomForRelocation 12 = .ok (.invokevirtual 95, 3) := by decide +kernel
theorem dX5_roomForRelocation_15 : decode cX5_roomForRelocation 15 = .ok (.aload_n 0, 1) := by decide +kernel
theorem dX5_roomForRelocation_16 : decode cX5_roomForRelocation 16 = .ok (.getfield 12, 3) := by decide +kernel
theorem dX5_roomForRelocation_19 : decode cX5_roomForRelocation 19 = .ok (.getfield 109, 3) := by decide +kernel
theorem dX5_roomForRelocation_22 : decode cX5_roomForRelocation 22 = .ok (.imul, 1) := by decide +kernel
theorem dX5_roomForRelocation_23 : decode cX5_roomForRelocation 23 = .ok (.iadd, 1) := by decide +kernel
theorem dX5_roomForRelocation_24 : decode cX5_roomForRelocation 24 = .ok (.ireturn, 1) := by decide +kernel
set_option maxRecDepth 20000 in
theorem ggX5_appendVersion_X3_appendAt : GoodIn wsX5_appendVersion wsX3_appendAt := goodIn_r _ [11, 12, 13, 14, 15, 16, 17, 18, 10, 19, 20, 21, 78, 79, 80, 81, 82, 83] (by first | rfl | decide +kernel) (by decide +kernel)
set_option maxRecDepth 20000 in
theorem gX5_appendVersion_X3_appendAt : GoodIn wsX5_appendVersion (wsV RX5 112 RX3 yX3_appendAt wsX3_appendAt) := goodIn_app (goodIn_of _ (by decide +kernel)) ggX5_appendVersion_X3_appendAt
set_option maxRecDepth 20000 in
theorem ggX5_appendVersion_X5_dropLive : GoodIn wsX5_appendVersion wsX5_dropLive := goodIn_r _ [26, 5, 27, 2, 4, 28, 29, 30, 31, 32, 33, 34, 35, 36, 37, 38, 39, 40, 41, 42, 43, 44, 45, 46, 47, 48, 49, 50, 51, 52, 53, 61, 62, 63, 64, 65, 66, 67, 68, 69, 70, 71, 72, 73, 74, 75, 76, 77, 84, 85] (by first | rfl | decide +kernel) (by decide +kernel)
set_option maxRecDepth 20000 in
theorem gX5_appendVersion_X5_dropLive : GoodIn wsX5_appendVersion (wsV RX5 115 RX5 yX5_dropLive wsX5_dropLive) := goodIn_app (goodIn_of _ (by decide +kernel)) ggX5_appendVersion_X5_dropLive
set_option maxRecDepth 20000 in
theorem ggX5_appendVersion_X0_fill : GoodIn wsX5_appendVersion wsX0_fill := goodIn_r _ [57, 58, 59, 60, 72, 73, 74, 75, 76, 77] (by first | rfl | decide +kernel) (by decide +kernel)
set_option maxRecDepth 20000 in
theorem gX5_appendVersion_X0_fill : GoodIn wsX5_appendVersion (wsV RX5 118 RX0 yX0_fill wsX0_fill) := goodIn_app (goodIn_of _ (by decide +kernel)) ggX5_appendVersion_X0_fill
theorem dX5_appendVersion_0 : decode cX5_appendVersion 0 = .ok (.aload_n 0, 1) := by decide +kernel
theorem dX5_appendVersion_1 : decode cX5_appendVersion 1 = .ok (.getfield 12, 3) := by decide +kernel
theorem dX5_appendVersion_4 : decode cX5_appendVersion 4 = .ok (.iconst 0, 1) := by decide +kernel
theorem dX5_appendVersion_5 : decode cX5_appendVersion 5 = .ok (.invokevirtual 112, 3) := by decide +kernel
theorem dX5_appendVersion_8 : decode cX5_appendVersion 8 = .ok (.istore_n 3, 1) := by decide +kernel
theorem dX5_appendVersion_9 : decode cX5_appendVersion 9 = .ok (.iload_n 3, 1) := by decide +kernel
theorem dX5_appendVersion_10 : decode cX5_appendVersion 10 = .ok (.iconst (-1), 1) := by decide +kernel
theorem dX5_appendVersion_11 : decode cX5_appendVersion 11 = .ok (.if_icmp .eq 50, 3) := by decide +kernel
theorem dX5_appendVersion_14 : decode cX5_appendVersion 14 = .ok (.aload_n 0, 1) := by decide +kernel
theorem dX5_appendVersion_15 : decode cX5_appendVersion 15 = .ok (.iload_n 1, 1) := by decide +kernel
theorem dX5_appendVersion_16 : decode cX5_appendVersion 16 = .ok (.invokevirtual 115, 3) := by decide +kernel
theorem dX5_appendVersion_19 : decode cX5_appendVersion 19 = .ok (.pop, 1) := by decide +kernel
theorem dX5_appendVersion_20 : decode cX5_appendVersion 20 = .ok (.aload_n 0, 1) := by decide +kernel
theorem dX5_appendVersion_21 : decode cX5_appendVersion 21 = .ok (.getfield 21, 3) := by decide +kernel
theorem dX5_appendVersion_24 : decode cX5_appendVersion 24 = .ok (.iload_n 3, 1) := by decide +kernel
theorem dX5_appendVersion_25 : decode cX5_appendVersion 25 = .ok (.iload_n 1, 1) := by decide +kernel
theorem dX5_appendVersion_26 : decode cX5_appendVersion 26 = .ok (.iload_n 2, 1) := by decide +kernel
theorem dX5_appendVersion_27 : decode cX5_appendVersion 27 = .ok (.aload_n 0, 1) := by decide +kernel
theorem dX5_appendVersion_28 : decode cX5_appendVersion 28 = .ok (.getfield 67, 3) := by decide +kernel
theorem dX5_appendVersion_31 : decode cX5_appendVersion 31 = .ok (.invokevirtual 118, 3) := by decide +kernel
theorem dX5_appendVersion_34 : decode cX5_appendVersion 34 = .ok (.aload_n 0, 1) := by decide +kernel
theorem dX5_appendVersion_35 : decode cX5_appendVersion 35 = .ok (.getfield 21, 3) := by decide +kernel
theorem dX5_appendVersion_38 : decode cX5_appendVersion 38 = .ok (.getfield 121, 3) := by decide +kernel
theorem dX5_appendVersion_41 : decode cX5_appendVersion 41 = .ok (.iload_n 3, 1) := by decide +kernel
theorem dX5_appendVersion_42 : decode cX5_appendVersion 42 = .ok (.iconst 1, 1) := by decide +kernel
theorem dX5_appendVersion_43 : decode cX5_appendVersion 43 = .ok (.iastore, 1) := by decide +kernel
theorem dX5_appendVersion_44 : decode cX5_appendVersion 44 = .ok (.aload_n 0, 1) := by decide +kernel
theorem dX5_appendVersion_45 : decode cX5_appendVersion 45 = .ok (.getfield 39, 3) := by decide +kernel
theorem dX5_appendVersion_48 : decode cX5_appendVersion 48 = .ok (.iload_n 1, 1) := by decide +kernel
theorem dX5_appendVersion_49 : decode cX5_appendVersion 49 = .ok (.iload_n 3, 1) := by decide +kernel
theorem dX5_appendVersion_50 : decode cX5_appendVersion 50 = .ok (.iastore, 1) := by decide +kernel
theorem dX5_appendVersion_51 : decode cX5_appendVersion 51 = .ok (.aload_n 0, 1) := by decide +kernel
theorem dX5_appendVersion_52 : decode cX5_appendVersion 52 = .ok (.dup, 1) := by decide +kernel
theorem dX5_appendVersion_53 : decode cX5_appendVersion 53 = .ok (.getfield 70, 3) := by decide +kernel
theorem dX5_appendVersion_56 : decode cX5_appendVersion 56 = .ok (.iconst 1, 1) := by decide +kernel
theorem dX5_appendVersion_57 : decode cX5_appendVersion 57 = .ok (.iadd, 1) := by decide +kernel
theorem dX5_appendVersion_58 : decode cX5_appendVersion 58 = .ok (.putfield 70, 3) := by decide +kernel
theorem dX5_appendVersion_61 : decode cX5_appendVersion 61 = .ok (.iload_n 3, 1) := by decide +kernel
theorem dX5_appendVersion_62 : decode cX5_appendVersion 62 = .ok (.ireturn, 1) := by decide +kernel
set_option maxRecDepth 20000 in
theorem ggX5_dropLive_X4_anyHas : GoodIn wsX5_dropLive wsX4_anyHas := goodIn_r _ [10, 11, 12, 13, 9, 14, 15, 16, 17, 18, 19, 20, 21, 22, 23, 48, 49] (by first | rfl | decide +kernel) (by decide +kernel)
set_option maxRecDepth 20000 in
theorem gX5_dropLive_X4_anyHas : GoodIn wsX5_dropLive (wsV RX5 124 RX4 yX4_anyHas wsX4_anyHas) := goodIn_app (goodIn_of _ (by decide +kernel)) ggX5_dropLive_X4_anyHas
set_option maxRecDepth 20000 in
theorem ggX5_dropLive_X0_beginToWait : GoodIn wsX5_dropLive wsX0_beginToWait := goodIn_r _ [28, 29, 30, 42, 43, 44, 45, 46, 47] (by first | rfl | decide +kernel) (by decide +kernel)
set_option maxRecDepth 20000 in
theorem gX5_dropLive_X0_beginToWait : GoodIn wsX5_dropLive (wsV RX5 128 RX0 yX0_beginToWait wsX0_beginToWait) := goodIn_app (goodIn_of _ (by decide +kernel)) ggX5_dropLive_X0_beginToWait
theorem dX5_dropLive_0 : decode cX5_dropLive 0 = .ok (.aload_n 0, 1) := by decide +kernel
theorem dX5_dropLive_1 : decode cX5_dropLive 1 = .ok (.getfield 39, 3) := by decide +kernel
theorem dX5_dropLive_4 : decode cX5_dropLive 4 = .ok (.iload_n 1, 1) := by decide +kernel
theorem dX5_dropLive_5 : decode cX5_dropLive 5 = .ok (.iaload, 1) := by decide +kernel
theorem dX5_dropLive_6 : decode cX5_dropLive 6 = .ok (.istore_n 2, 1) := by decide +kernel
theorem dX5_dropLive_7 : decode cX5_dropLive 7 = .ok (.aload_n 0, 1) := by decide +kernel
theorem dX5_dropLive_8 : decode cX5_dropLive 8 = .ok (.getfield 39, 3) := by decide +kernel
theorem dX5_dropLive_11 : decode cX5_dropLive 11 = .ok (.iload_n 1, 1) := by decide +kernel
theorem dX5_dropLive_12 : decode cX5_dropLive 12 = .ok (.iconst (-1), 1) := by decide +kernel
theorem dX5_dropLive_13 : decode cX5_dropLive 13 = .ok (.iastore, 1) := by decide +kernel
theorem dX5_dropLive_14 : decode cX5_dropLive 14 = .ok (.iload_n 2, 1) := by decide +kernel
theorem dX5_dropLive_15 : decode cX5_dropLive 15 = .ok (.iconst (-1), 1) := by decide +kernel
theorem dX5_dropLive_16 : decode cX5_dropLive 16 = .ok (.if_icmp .eq 40, 3) := by decide +kernel
theorem dX5_dropLive_19 : decode cX5_dropLive 19 = .ok (.aload_n 0, 1) := by decide +kernel
theorem dX5_dropLive_20 : decode cX5_dropLive 20 = .ok (.getfield 35, 3) := by decide +kernel
theorem dX5_dropLive_23 : decode cX5_dropLive 23 = .ok (.iload_n 1, 1) := by decide +kernel
theorem dX5_dropLive_24 : decode cX5_dropLive 24 = .ok (.iload_n 2, 1) := by decide +kernel
theorem dX5_dropLive_25 : decode cX5_dropLive 25 = .ok (.invokevirtual 124, 3) := by decide +kernel
theorem dX5_dropLive_28 : decode cX5_dropLive 28 = .ok (.ifCond .eq 16, 3) := by decide +kernel
theorem dX5_dropLive_31 : decode cX5_dropLive 31 = .ok (.aload_n 0, 1) := by decide +kernel
theorem dX5_dropLive_32 : decode cX5_dropLive 32 = .ok (.getfield 21, 3) := by decide +kernel
theorem dX5_dropLive_35 : decode cX5_dropLive 35 = .ok (.getfield 121, 3) := by decide +kernel
theorem dX5_dropLive_38 : decode cX5_dropLive 38 = .ok (.iload_n 2, 1) := by decide +kernel
theorem dX5_dropLive_39 : decode cX5_dropLive 39 = .ok (.iconst 2, 1) := by decide +kernel
theorem dX5_dropLive_40 : decode cX5_dropLive 40 = .ok (.iastore, 1) := by decide +kernel
theorem dX5_dropLive_41 : decode cX5_dropLive 41 = .ok (.goto 15, 3) := by decide +kernel
theorem dX5_dropLive_44 : decode cX5_dropLive 44 = .ok (.aload_n 0, 1) := by decide +kernel
theorem dX5_dropLive_45 : decode cX5_dropLive 45 = .ok (.getfield 21, 3) := by decide +kernel
theorem dX5_dropLive_48 : decode cX5_dropLive 48 = .ok (.iload_n 2, 1) := by decide +kernel
theorem dX5_dropLive_49 : decode cX5_dropLive 49 = .ok (.aload_n 0, 1) := by decide +kernel
theorem dX5_dropLive_50 : decode cX5_dropLive 50 = .ok (.getfield 61, 3) := by decide +kernel
theorem dX5_dropLive_53 : decode cX5_dropLive 53 = .ok (.invokevirtual 128, 3) := by decide +kernel
theorem dX5_dropLive_56 : decode cX5_dropLive 56 = .ok (.iload_n 2, 1) := by decide +kernel
theorem dX5_dropLive_57 : decode cX5_dropLive 57 = .ok (.ireturn, 1) := by decide +kernel
set_option maxRecDepth 20000 in
theorem ggX5_forgetSnapshot_X5_isOwn : GoodIn wsX5_forgetSnapshot wsX5_isOwn := goodIn_r _ [8, 2, 1, 9, 10, 11, 12, 13, 14, 15, 16, 17, 18, 19, 20, 21, 22, 23, 24, 37, 38, 39, 40, 41, 42, 43, 44, 45, 46, 47, 48, 49, 50, 51, 52, 53, 54, 55] (by first | rfl | decide +kernel) (by decide +kernel)
set_option maxRecDepth 20000 in
theorem gX5_forgetSnapshot_X5_isOwn : GoodIn wsX5_forgetSnapshot (wsV RX5 131 RX5 yX5_isOwn wsX5_isOwn) := goodIn_app (goodIn_of _ (by decide +kernel)) ggX5_forgetSnapshot_X5_isOwn
set_option maxRecDepth 20000 in
theorem ggX5_forgetSnapshot_X4_blockOf : GoodIn wsX5_forgetSnapshot wsX4_blockOf := goodIn_r _ [14, 15, 54, 55] (by first | rfl | decide +kernel) (by decide +kernel)
set_option maxRecDepth 20000 in
theorem gX5_forgetSnapshot_X4_blockOf : GoodIn wsX5_forgetSnapshot (wsV RX5 134 RX4 yX4_blockOf wsX4_blockOf) := goodIn_app (goodIn_of _ (by decide +kernel)) ggX5_forgetSnapshot_X4_blockOf
set_option maxRecDepth 20000 in
theorem ggX5_forgetSnapshot_X0_beginToWait : GoodIn wsX5_forgetSnapshot wsX0_beginToWait := goodIn_r _ [29, 30, 31, 48, 49, 50, 51, 52, 53] (by first | rfl | decide +kernel) (by decide +kernel)
set_option maxRecDepth 20000 in
theorem gX5_forgetSnapshot_X0_beginToWait : GoodIn wsX5_forgetSnapshot (wsV RX5 128 RX0 yX0_beginToWait wsX0_beginToWait) := goodIn_app (goodIn_of _ (by decide +kernel)) ggX5_forgetSnapshot_X0_beginToWait
set_option maxRecDepth 20000 in
theorem ggX5_forgetSnapshot_X4_forget : GoodIn wsX5_forgetSnapshot wsX4_forget := goodIn_r _ [35, 36, 15, 54, 55] (by first | rfl | decide +kernel) (by decide +kernel)
set_option maxRecDepth 20000 in
theorem gX5_forgetSnapshot_X4_forget : GoodIn wsX5_forgetSnapshot (wsV RX5 137 RX4 yX4_forget wsX4_forget) := goodIn_app (goodIn_of _ (by decide +kernel)) ggX5_forgetSnapshot_X4_forget
theorem dX5_forgetSnapshot_0 : decode cX5_forgetSnapshot 0 = .ok (.iconst 0, 1) := by decide +kernel
theorem dX5_forgetSnapshot_1 : decode cX5_forgetSnapshot 1 = .ok (.istore_n 2, 1) := by decide +kernel
theorem dX5_forgetSnapshot_2 : decode cX5_forgetSnapshot 2 = .ok (.iconst 0, 1) := by decide +kernel
theorem dX5_forgetSnapshot_3 : decode cX5_forgetSnapshot 3 = .ok (.istore_n 3, 1) := by decide +kernel
theorem dX5_forgetSnapshot_4 : decode cX5_forgetSnapshot 4 = .ok (.iload_n 3, 1) := by decide +kernel
theorem dX5_forgetSnapshot_5 : decode cX5_forgetSnapshot 5 = .ok (.bipush 24, 2) := by decide +kernel
theorem dX5_forgetSnapshot_7 : decode cX5_forgetSnapshot 7 = .ok (.if_icmp .ge 41, 3) := by decide +kernel
theorem dX5_forgetSnapshot_10 : decode cX5_forgetSnapshot 10 = .ok (.aload_n 0, 1) := by decide +kernel
theorem dX5_forgetSnapshot_11 : decode cX5_forgetSnapshot 11 = .ok (.iload_n 1, 1) := by decide +kernel
theorem dX5_forgetSnapshot_12 : decode cX5_forgetSnapshot 12 = .ok (.iload_n 3, 1) := by decide +kernel
theorem dX5_forgetSnapshot_13 : decode cX5_forgetSnapshot 13 = .ok (.invokevirtual 131, 3) := by decide +kernel
theorem dX5_forgetSnapshot_16 : decode cX5_forgetSnapshot 16 = .ok (.ifCond .eq 26, 3) := by decide +kernel
theorem dX5_forgetSnapshot_19 : decode cX5_forgetSnapshot 19 = .ok (.aload_n 0, 1) := by decide +kernel
theorem dX5_forgetSnapshot_20 : decode cX5_forgetSnapshot 20 = .ok (.getfield 21, 3) := by decide +kernel
theorem dX5_forgetSnapshot_23 : decode cX5_forgetSnapshot 23 = .ok (.aload_n 0, 1) := by decide +kernel
theorem dX5_forgetSnapshot_24 : decode cX5_forgetSnapshot 24 = .ok (.getfield 35, 3) := by decide +kernel
theorem dX5_forgetSnapshot_27 : decode cX5_forgetSnapshot 27 = .ok (.iload_n 1, 1) := by decide +kernel
theorem dX5_forgetSnapshot_28 : decode cX5_forgetSnapshot 28 = .ok (.iload_n 3, 1) := by decide +kernel
theorem dX5_forgetSnapshot_29 : decode cX5_forgetSnapshot 29 = .ok (.invokevirtual 134, 3) := by decide +kernel
theorem dX5_forgetSnapshot_32 : decode cX5_forgetSnapshot 32 = .ok (.aload_n 0, 1) := by decide +kernel
theorem dX5_forgetSnapshot_33 : decode cX5_forgetSnapshot 33 = .ok (.getfield 61, 3) := by decide +kernel
theorem dX5_forgetSnapshot_36 : decode cX5_forgetSnapshot 36 = .ok (.invokevirtual 128, 3) := by decide +kernel
theorem dX5_forgetSnapshot_39 : decode cX5_forgetSnapshot 39 = .ok (.iinc 2 1, 3) := by decide +kernel
theorem dX5_forgetSnapshot_42 : decode cX5_forgetSnapshot 42 = .ok (.iinc 3 1, 3) := by decide +kernel
theorem dX5_forgetSnapshot_45 : decode cX5_forgetSnapshot 45 = .ok (.goto (-41), 3) := by decide +kernel
theorem dX5_forgetSnapshot_48 : decode cX5_forgetSnapshot 48 = .ok (.aload_n 0, 1) := by decide +kernel
theorem dX5_forgetSnapshot_49 : decode cX5_forgetSnapshot 49 = .ok (.getfield 35, 3) := by decide +kernel
theorem dX5_forgetSnapshot_52 : decode cX5_forgetSnapshot 52 = .ok (.iload_n 1, 1) := by decide +kernel
theorem dX5_forgetSnapshot_53 : decode cX5_forgetSnapshot 53 = .ok (.invokevirtual 137, 3) := by decide +kernel
theorem dX5_forgetSnapshot_56 : decode cX5_forgetSnapshot 56 = .ok (.iload_n 2, 1) := by decide +kernel
theorem dX5_forgetSnapshot_57 : decode cX5_forgetSnapshot 57 = .ok (.ireturn, 1) := by decide +kernel
set_option maxRecDepth 20000 in
theorem ggX5_returnTo_X4_blockOf : GoodIn wsX5_returnTo wsX4_blockOf := goodIn_r _ [9, 10, 54, 55] (by first | rfl | decide +kernel) (by decide +kernel)
set_option maxRecDepth 20000 in
theorem gX5_returnTo_X4_blockOf : GoodIn wsX5_returnTo (wsV RX5 134 RX4 yX4_blockOf wsX4_blockOf) := goodIn_app (goodIn_of _ (by decide +kernel)) ggX5_returnTo_X4_blockOf
set_option maxRecDepth 20000 in
theorem ggX5_returnTo_X5_dropLive : GoodIn wsX5_returnTo wsX5_dropLive := goodIn_r _ [15, 2, 1, 3, 4, 16, 17, 18, 19, 8, 20, 21, 22, 23, 24, 25, 26, 27, 28, 29, 6, 7, 9, 10, 30, 31, 32, 33, 34, 35, 36, 37, 38, 39, 40, 41, 42, 43, 44, 45, 46, 47, 48, 49, 50, 51, 52, 53, 54, 55] (by first | rfl | decide +kernel) (by decide +kernel)
set_option maxRecDepth 20000 in
theorem gX5_returnTo_X5_dropLive : GoodIn wsX5_returnTo (wsV RX5 115 RX5 yX5_dropLive wsX5_dropLive) := goodIn_app (goodIn_of _ (by decide +kernel)) ggX5_returnTo_X5_dropLive
theorem dX5_returnTo_0 : decode cX5_returnTo 0 = .ok (.iconst 0, 1) := by decide +kernel
theorem dX5_returnTo_1 : decode cX5_returnTo 1 = .ok (.istore_n 2, 1) := by decide +kernel
theorem dX5_returnTo_2 : decode cX5_returnTo 2 = .ok (.iconst 0, 1) := by decide +kernel
theorem dX5_returnTo_3 : decode cX5_returnTo 3 = .ok (.istore_n 3, 1) := by decide +kernel
theorem dX5_returnTo_4 : decode cX5_returnTo 4 = .ok (.iload_n 3, 1) := by decide +kernel
theorem dX5_returnTo_5 : decode cX5_returnTo 5 = .ok (.bipush 24, 2) := by decide +kernel
theorem dX5_returnTo_7 : decode cX5_returnTo 7 = .ok (.if_icmp .ge 65, 3) := by decide +kernel
theorem dX5_returnTo_10 : decode cX5_returnTo 10 = .ok (.aload_n 0, 1) := by decide +kernel
theorem dX5_returnTo_11 : decode cX5_returnTo 11 = .ok (.getfield 35, 3) := by decide +kernel
theorem dX5_returnTo_14 : decode cX5_returnTo 14 = .ok (.iload_n 1, 1) := by decide +kernel
theorem dX5_returnTo_15 : decode cX5_returnTo 15 = .ok (.iload_n 3, 1) := by decide +kernel
theorem dX5_returnTo_16 : decode cX5_returnTo 16 = .ok (.invokevirtual 134, 3) := by decide +kernel
theorem dX5_returnTo_19 : decode cX5_returnTo 19 = .ok (.istore 4, 2) := by decide +kernel
theorem dX5_returnTo_21 : decode cX5_returnTo 21 = .ok (.iload 4, 2) := by decide +kernel
theorem dX5_returnTo_23 : decode cX5_returnTo 23 = .ok (.aload_n 0, 1) := by decide +kernel
theorem dX5_returnTo_24 : decode cX5_returnTo 24 = .ok (.getfield 39, 3) := by decide +kernel
theorem dX5_returnTo_27 : decode cX5_returnTo 27 = .ok (.iload_n 3, 1) := by decide +kernel
theorem dX5_returnTo_28 : decode cX5_returnTo 28 = .ok (.iaload, 1) := by decide +kernel
theorem dX5_returnTo_29 : decode cX5_returnTo 29 = .ok (.if_icmp .eq 37, 3) := by decide +kernel
theorem dX5_returnTo_32 : decode cX5_returnTo 32 = .ok (.aload_n 0, 1) := by decide +kernel
theorem dX5_returnTo_33 : decode cX5_returnTo 33 = .ok (.iload_n 3, 1) := by decide +kernel
theorem dX5_returnTo_34 : decode cX5_returnTo 34 = .ok (.invokevirtual 115, 3) := by decide +kernel
theorem dX5_returnTo_37 : decode cX5_returnTo 37 = .ok (.pop, 1) := by decide +kernel
theorem dX5_returnTo_38 : decode cX5_returnTo 38 = .ok (.aload_n 0, 1) := by decide +kernel
theorem dX5_returnTo_39 : decode cX5_returnTo 39 = .ok (.getfield 39, 3) := by decide +kernel
theorem dX5_returnTo_42 : decode cX5_returnTo 42 = .ok (.iload_n 3, 1) := by decide +kernel
theorem dX5_returnTo_43 : decode cX5_returnTo 43 = .ok (.iload 4, 2) := by decide +kernel
theorem dX5_returnTo_45 : decode cX5_returnTo 45 = .ok (.iastore, 1) := by decide +kernel
theorem dX5_returnTo_46 : decode cX5_returnTo 46 = .ok (.iload 4, 2) := by decide +kernel
theorem dX5_returnTo_48 : decode cX5_returnTo 48 = .ok (.iconst (-1), 1) := by decide +kernel
theorem dX5_returnTo_49 : decode cX5_returnTo 49 = .ok (.if_icmp .eq 14, 3) := by decide +kernel
theorem dX5_returnTo_52 : decode cX5_returnTo 52 = .ok (.aload_n 0, 1) := by decide +kernel
theorem dX5_returnTo_53 : decode cX5_returnTo 53 = .ok (.getfield 21, 3) := by decide +kernel
theorem dX5_returnTo_56 : decode cX5_returnTo 56 = .ok (.getfield 121, 3) := by decide +kernel
theorem dX5_returnTo_59 : decode cX5_returnTo 59 = .ok (.iload 4, 2) := by decide +kernel
theorem dX5_returnTo_61 : decode cX5_returnTo 61 = .ok (.iconst 1, 1) := by decide +kernel
theorem dX5_returnTo_62 : decode cX5_returnTo 62 = .ok (.iastore, 1) := by decide +kernel
theorem dX5_returnTo_63 : decode cX5_returnTo 63 = .ok (.iinc 2 1, 3) := by decide +kernel
theorem dX5_returnTo_66 : decode cX5_returnTo 66 = .ok (.iinc 3 1, 3) := by decide +kernel
theorem dX5_returnTo_69 : decode cX5_returnTo 69 = .ok (.goto (-65), 3) := by decide +kernel
theorem dX5_returnTo_72 : decode cX5_returnTo 72 = .ok (.iload_n 2, 1) := by decide +kernel
theorem dX5_returnTo_73 : decode cX5_returnTo 73 = .ok (.ireturn, 1) := by decide +kernel
set_option maxRecDepth 20000 in
theorem ggX5_isOwn_X4_blockOf : GoodIn wsX5_isOwn wsX4_blockOf := goodIn_r _ [8, 9, 36, 37] (by first | rfl | decide +kernel) (by decide +kernel)
set_option maxRecDepth 20000 in
theorem gX5_isOwn_X4_blockOf : GoodIn wsX5_isOwn (wsV RX5 134 RX4 yX4_blockOf wsX4_blockOf) := goodIn_app (goodIn_of _ (by decide +kernel)) ggX5_isOwn_X4_blockOf
set_option maxRecDepth 20000 in
theorem ggX5_isOwn_X4_havers : GoodIn wsX5_isOwn wsX4_havers := goodIn_r _ [13, 14, 15, 16, 7, 17, 18, 5, 6, 8, 9, 36, 37] (by first | rfl | decide +kernel) (by decide +kernel)
set_option maxRecDepth 20000 in
theorem gX5_isOwn_X4_havers : GoodIn wsX5_isOwn (wsV RX5 141 RX4 yX4_havers wsX4_havers) := goodIn_app (goodIn_of _ (by decide +kernel)) ggX5_isOwn_X4_havers
theorem dX5_isOwn_0 : decode cX5_isOwn 0 = .ok (.aload_n 0, 1) := by decide +kernel
theorem dX5_isOwn_1 : decode cX5_isOwn 1 = .ok (.getfield 35, 3) := by decide +kernel
theorem dX5_isOwn_4 : decode cX5_isOwn 4 = .ok (.iload_n 1, 1) := by decide +kernel
theorem dX5_isOwn_5 : decode cX5_isOwn 5 = .ok (.iload_n 2, 1) := by decide +kernel
theorem dX5_isOwn_6 : decode cX5_isOwn 6 = .ok (.invokevirtual 134, 3) := by decide +kernel
theorem dX5_isOwn_9 : decode cX5_isOwn 9 = .ok (.istore_n 3, 1) := by decide +kernel
theorem dX5_isOwn_10 : decode cX5_isOwn 10 = .ok (.iload_n 3, 1) := by decide +kernel
theorem dX5_isOwn_11 : decode cX5_isOwn 11 = .ok (.iconst (-1), 1) := by decide +kernel
theorem dX5_isOwn_12 : decode cX5_isOwn 12 = .ok (.if_icmp .eq 33, 3) := by decide +kernel
theorem dX5_isOwn_15 : decode cX5_isOwn 15 = .ok (.aload_n 0, 1) := by decide +kernel
theorem dX5_isOwn_16 : decode cX5_isOwn 16 = .ok (.getfield 21, 3) := by decide +kernel
theorem dX5_isOwn_19 : decode cX5_isOwn 19 = .ok (.getfield 121, 3) := by decide +kernel
theorem dX5_isOwn_22 : decode cX5_isOwn 22 = .ok (.iload_n 3, 1) := by decide +kernel
theorem dX5_isOwn_23 : decode cX5_isOwn 23 = .ok (.iaload, 1) := by decide +kernel
theorem dX5_isOwn_24 : decode cX5_isOwn 24 = .ok (.iconst 2, 1) := by decide +kernel
theorem dX5_isOwn_25 : decode cX5_isOwn 25 = .ok (.if_icmp .ne 20, 3) := by decide +kernel
theorem dX5_isOwn_28 : decode cX5_isOwn 28 = .ok (.aload_n 0, 1) := by decide +kernel
theorem dX5_isOwn_29 : decode cX5_isOwn 29 = .ok (.getfield 35, 3) := by decide +kernel
theorem dX5_isOwn_32 : decode cX5_isOwn 32 = .ok (.iload_n 2, 1) := by decide +kernel
theorem dX5_isOwn_33 : decode cX5_isOwn 33 = .ok (.iload_n 3, 1) := by decide +kernel
theorem dX5_isOwn_34 : decode cX5_isOwn 34 = .ok (.invokevirtual 141, 3) := by decide +kernel
theorem dX5_isOwn_37 : decode cX5_isOwn 37 = .ok (.iconst 1, 1) := by decide +kernel
theorem dX5_isOwn_38 : decode cX5_isOwn 38 = .ok (.if_icmp .ne 7, 3) := by decide +kernel
theorem dX5_isOwn_41 : decode cX5_isOwn 41 = .ok (.iconst 1, 1) := by decide +kernel
theorem dX5_isOwn_42 : decode cX5_isOwn 42 = .ok (.goto 4, 3) := by decide +kernel
theorem dX5_isOwn_45 : decode cX5_isOwn 45 = .ok (.iconst 0, 1) := by decide +kernel
theorem dX5_isOwn_46 : decode cX5_isOwn 46 = .ok (.ireturn, 1) := by decide +kernel
set_option maxRecDepth 20000 in
theorem ggX5_stallOf_X2_isStalled : GoodIn wsX5_stallOf wsX2_isStalled := goodIn_r _ [9, 10, 11, 12, 13, 8, 14, 15, 27, 28] (by first | rfl | decide +kernel) (by decide +kernel)
set_option maxRecDepth 20000 in
theorem gX5_stallOf_X2_isStalled : GoodIn wsX5_stallOf (wsV RX5 144 RX2 yX2_isStalled wsX2_isStalled) := goodIn_app (goodIn_of _ (by decide +kernel)) ggX5_stallOf_X2_isStalled
theorem dX5_stallOf_0 : decode cX5_stallOf 0 = .ok (.aload_n 0, 1) := by decide +kernel
theorem dX5_stallOf_1 : decode cX5_stallOf 1 = .ok (.getfield 28, 3) := by decide +kernel
theorem dX5_stallOf_4 : decode cX5_stallOf 4 = .ok (.iload_n 1, 1) := by decide +kernel
theorem dX5_stallOf_5 : decode cX5_stallOf 5 = .ok (.aload_n 0, 1) := by decide +kernel
theorem dX5_stallOf_6 : decode cX5_stallOf 6 = .ok (.getfield 61, 3) := by decide +kernel
theorem dX5_stallOf_9 : decode cX5_stallOf 9 = .ok (.invokevirtual 144, 3) := by decide +kernel
theorem dX5_stallOf_12 : decode cX5_stallOf 12 = .ok (.ifCond .eq 15, 3) := by decide +kernel
theorem dX5_stallOf_15 : decode cX5_stallOf 15 = .ok (.aload_n 0, 1) := by decide +kernel
theorem dX5_stallOf_16 : decode cX5_stallOf 16 = .ok (.getfield 67, 3) := by decide +kernel
theorem dX5_stallOf_19 : decode cX5_stallOf 19 = .ok (.aload_n 0, 1) := by decide +kernel
theorem dX5_stallOf_20 : decode cX5_stallOf 20 = .ok (.getfield 64, 3) := by decide +kernel
theorem dX5_stallOf_23 : decode cX5_stallOf 23 = .ok (.isub, 1) := by decide +kernel
theorem dX5_stallOf_24 : decode cX5_stallOf 24 = .ok (.goto 4, 3) := by decide +kernel
theorem dX5_stallOf_27 : decode cX5_stallOf 27 = .ok (.iconst 0, 1) := by decide +kernel
theorem dX5_stallOf_28 : decode cX5_stallOf 28 = .ok (.ireturn, 1) := by decide +kernel
set_option maxRecDepth 20000 in
theorem ggX5_reclaimableIfGone_X2_advancesWithout : GoodIn wsX5_reclaimableIfGone wsX2_advancesWithout := goodIn_r _ [7, 8, 9, 10, 11, 12, 13, 14, 6, 15, 16, 17, 18, 19, 20, 21, 46, 47] (by first | rfl | decide +kernel) (by decide +kernel)
set_option maxRecDepth 20000 in
theorem gX5_reclaimableIfGone_X2_advancesWithout : GoodIn wsX5_reclaimableIfGone (wsV RX5 147 RX2 yX2_advancesWithout wsX2_advancesWithout) := goodIn_app (goodIn_of _ (by decide +kernel)) ggX5_reclaimableIfGone_X2_advancesWithout
set_option maxRecDepth 20000 in
theorem ggX5_reclaimableIfGone_X5_reclaimableAfter : GoodIn wsX5_reclaimableIfGone wsX5_reclaimableAfter := goodIn_r _ [26, 27, 2, 28, 29, 30, 31, 32, 33, 34, 35, 36, 37, 38, 39, 40, 41, 42, 43, 44, 45, 48, 49, 50, 51, 52, 53] (by first | rfl | decide +kernel) (by decide +kernel)
set_option maxRecDepth 20000 in
theorem gX5_reclaimableIfGone_X5_reclaimableAfter : GoodIn wsX5_reclaimableIfGone (wsV RX5 150 RX5 yX5_reclaimableAfter wsX5_reclaimableAfter) := goodIn_app (goodIn_of _ (by decide +kernel)) ggX5_reclaimableIfGone_X5_reclaimableAfter
theorem dX5_reclaimableIfGone_0 : decode cX5_reclaimableIfGone 0 = .ok (.aload_n 0, 1) := by decide +kernel
theorem dX5_reclaimableIfGone_1 : decode cX5_reclaimableIfGone 1 = .ok (.aload_n 0, 1) := by decide +kernel
theorem dX5_reclaimableIfGone_2 : decode cX5_reclaimableIfGone 2 = .ok (.getfield 28, 3) := by decide +kernel
theorem dX5_reclaimableIfGone_5 : decode cX5_reclaimableIfGone 5 = .ok (.iload_n 1, 1) := by decide +kernel
theorem dX5_reclaimableIfGone_6 : decode cX5_reclaimableIfGone 6 = .ok (.aload_n 0, 1) := by decide +kernel
theorem dX5_reclaimableIfGone_7 : decode cX5_reclaimableIfGone 7 = .ok (.getfield 61, 3) := by decide +kernel
theorem dX5_reclaimableIfGone_10 : decode cX5_reclaimableIfGone 10 = .ok (.invokevirtual 147, 3) := by decide +kernel
theorem dX5_reclaimableIfGone_13 : decode cX5_reclaimableIfGone 13 = .ok (.invokevirtual 150, 3) := by decide +kernel
theorem dX5_reclaimableIfGone_16 : decode cX5_reclaimableIfGone 16 = .ok (.ireturn, 1) := by decide +kernel
set_option maxRecDepth 20000 in
theorem ggX5_reclaimableAfter_X0_waitingUpTo : GoodIn wsX5_reclaimableAfter wsX0_waitingUpTo := goodIn_r _ [7, 8, 9, 21, 22, 23, 24, 25, 26] (by first | rfl | decide +kernel) (by decide +kernel)
set_option maxRecDepth 20000 in
theorem gX5_reclaimableAfter_X0_waitingUpTo : GoodIn wsX5_reclaimableAfter (wsV RX5 153 RX0 yX0_waitingUpTo wsX0_waitingUpTo) := goodIn_app (goodIn_of _ (by decide +kernel)) ggX5_reclaimableAfter_X0_waitingUpTo
theorem dX5_reclaimableAfter_0 : decode cX5_reclaimableAfter 0 = .ok (.aload_n 0, 1) := by decide +kernel
theorem dX5_reclaimableAfter_1 : decode cX5_reclaimableAfter 1 = .ok (.getfield 21, 3) := by decide +kernel
theorem dX5_reclaimableAfter_4 : decode cX5_reclaimableAfter 4 = .ok (.aload_n 0, 1) := by decide +kernel
theorem dX5_reclaimableAfter_5 : decode cX5_reclaimableAfter 5 = .ok (.getfield 61, 3) := by decide +kernel
theorem dX5_reclaimableAfter_8 : decode cX5_reclaimableAfter 8 = .ok (.iload_n 1, 1) := by decide +kernel
theorem dX5_reclaimableAfter_9 : decode cX5_reclaimableAfter 9 = .ok (.iadd, 1) := by decide +kernel
theorem dX5_reclaimableAfter_10 : decode cX5_reclaimableAfter 10 = .ok (.iconst 2, 1) := by decide +kernel
theorem dX5_reclaimableAfter_11 : decode cX5_reclaimableAfter 11 = .ok (.isub, 1) := by decide +kernel
theorem dX5_reclaimableAfter_12 : decode cX5_reclaimableAfter 12 = .ok (.invokevirtual 153, 3) := by decide +kernel
theorem dX5_reclaimableAfter_15 : decode cX5_reclaimableAfter 15 = .ok (.ireturn, 1) := by decide +kernel
set_option maxRecDepth 20000 in
theorem ggX5_blocksIn_X0_inState : GoodIn wsX5_blocksIn wsX0_inState := goodIn_r _ [8, 9, 27, 28, 29, 30, 31, 32] (by first | rfl | decide +kernel) (by decide +kernel)
set_option maxRecDepth 20000 in
theorem gX5_blocksIn_X0_inState : GoodIn wsX5_blocksIn (wsV RX5 156 RX0 yX0_inState wsX0_inState) := goodIn_app (goodIn_of _ (by decide +kernel)) ggX5_blocksIn_X0_inState
theorem dX5_blocksIn_0 : decode cX5_blocksIn 0 = .ok (.iload_n 1, 1) := by decide +kernel
theorem dX5_blocksIn_1 : decode cX5_blocksIn 1 = .ok (.bipush 16, 2) := by decide +kernel
theorem dX5_blocksIn_3 : decode cX5_blocksIn 3 = .ok (.imul, 1) := by decide +kernel
theorem dX5_blocksIn_4 : decode cX5_blocksIn 4 = .ok (.istore_n 3, 1) := by decide +kernel
theorem dX5_blocksIn_5 : decode cX5_blocksIn 5 = .ok (.aload_n 0, 1) := by decide +kernel
theorem dX5_blocksIn_6 : decode cX5_blocksIn 6 = .ok (.getfield 21, 3) := by decide +kernel
theorem dX5_blocksIn_9 : decode cX5_blocksIn 9 = .ok (.iload_n 3, 1) := by decide +kernel
theorem dX5_blocksIn_10 : decode cX5_blocksIn 10 = .ok (.iload_n 3, 1) := by decide +kernel
theorem dX5_blocksIn_11 : decode cX5_blocksIn 11 = .ok (.aload_n 0, 1) := by decide +kernel
theorem dX5_blocksIn_12 : decode cX5_blocksIn 12 = .ok (.getfield 12, 3) := by decide +kernel
theorem dX5_blocksIn_15 : decode cX5_blocksIn 15 = .ok (.getfield 109, 3) := by decide +kernel
theorem dX5_blocksIn_18 : decode cX5_blocksIn 18 = .ok (.iadd, 1) := by decide +kernel
theorem dX5_blocksIn_19 : decode cX5_blocksIn 19 = .ok (.iload_n 2, 1) := by decide +kernel
theorem dX5_blocksIn_20 : decode cX5_blocksIn 20 = .ok (.invokevirtual 156, 3) := by decide +kernel
theorem dX5_blocksIn_23 : decode cX5_blocksIn 23 = .ok (.ireturn, 1) := by decide +kernel
set_option maxRecDepth 20000 in
theorem ggX5_useOf_X5_blocksIn : GoodIn wsX5_useOf wsX5_blocksIn := goodIn_r _ [5, 6, 7, 8, 9, 10, 11, 12, 13, 14, 15, 16, 17, 18, 19, 20, 21, 22, 23, 24, 25, 26, 27, 28, 29, 30, 31, 32, 33, 34, 35, 36, 37] (by first | rfl | decide +kernel) (by decide +kernel)
set_option maxRecDepth 20000 in
theorem gX5_useOf_X5_blocksIn : GoodIn wsX5_useOf (wsV RX5 160 RX5 yX5_blocksIn wsX5_blocksIn) := goodIn_app (goodIn_of _ (by decide +kernel)) ggX5_useOf_X5_blocksIn
theorem dX5_useOf_0 : decode cX5_useOf 0 = .ok (.aload_n 0, 1) := by decide +kernel
theorem dX5_useOf_1 : decode cX5_useOf 1 = .ok (.iload_n 1, 1) := by decide +kernel
theorem dX5_useOf_2 : decode cX5_useOf 2 = .ok (.iconst 1, 1) := by decide +kernel
theorem dX5_useOf_3 : decode cX5_useOf 3 = .ok (.invokevirtual 160, 3) := by decide +kernel
theorem dX5_useOf_6 : decode cX5_useOf 6 = .ok (.aload_n 0, 1) := by decide +kernel
theorem dX5_useOf_7 : decode cX5_useOf 7 = .ok (.iload_n 1, 1) := by decide +kernel
theorem dX5_useOf_8 : decode cX5_useOf 8 = .ok (.iconst 2, 1) := by decide +kernel
theorem dX5_useOf_9 : decode cX5_useOf 9 = .ok (.invokevirtual 160, 3) := by decide +kernel
theorem dX5_useOf_12 : decode cX5_useOf 12 = .ok (.iadd, 1) := by decide +kernel
theorem dX5_useOf_13 : decode cX5_useOf 13 = .ok (.ireturn, 1) := by decide +kernel
set_option maxRecDepth 20000 in
theorem ggX5_ageOf_X0_latestTick : GoodIn wsX5_ageOf wsX0_latestTick := goodIn_r _ [9, 10, 11, 12, 13, 14, 32, 33, 34, 35, 36, 37] (by first | rfl | decide +kernel) (by decide +kernel)
set_option maxRecDepth 20000 in
theorem gX5_ageOf_X0_latestTick : GoodIn wsX5_ageOf (wsV RX5 163 RX0 yX0_latestTick wsX0_latestTick) := goodIn_app (goodIn_of _ (by decide +kernel)) ggX5_ageOf_X0_latestTick
theorem dX5_ageOf_0 : decode cX5_ageOf 0 = .ok (.iload_n 1, 1) := by decide +kernel
theorem dX5_ageOf_1 : decode cX5_ageOf 1 = .ok (.bipush 16, 2) := by decide +kernel
theorem dX5_ageOf_3 : decode cX5_ageOf 3 = .ok (.imul, 1) := by decide +kernel
theorem dX5_ageOf_4 : decode cX5_ageOf 4 = .ok (.istore_n 2, 1) := by decide +kernel
theorem dX5_ageOf_5 : decode cX5_ageOf 5 = .ok (.aload_n 0, 1) := by decide +kernel
theorem dX5_ageOf_6 : decode cX5_ageOf 6 = .ok (.getfield 21, 3) := by decide +kernel
theorem dX5_ageOf_9 : decode cX5_ageOf 9 = .ok (.iload_n 2, 1) := by decide +kernel
theorem dX5_ageOf_10 : decode cX5_ageOf 10 = .ok (.iload_n 2, 1) := by decide +kernel
theorem dX5_ageOf_11 : decode cX5_ageOf 11 = .ok (.aload_n 0, 1) := by decide +kernel
theorem dX5_ageOf_12 : decode cX5_ageOf 12 = .ok (.getfield 12, 3) := by decide +kernel
theorem dX5_ageOf_15 : decode cX5_ageOf 15 = .ok (.getfield 109, 3) := by decide +kernel
theorem dX5_ageOf_18 : decode cX5_ageOf 18 = .ok (.iadd, 1) := by decide +kernel
theorem dX5_ageOf_19 : decode cX5_ageOf 19 = .ok (.invokevirtual 163, 3) := by decide +kernel
theorem dX5_ageOf_22 : decode cX5_ageOf 22 = .ok (.istore_n 3, 1) := by decide +kernel
theorem dX5_ageOf_23 : decode cX5_ageOf 23 = .ok (.iload_n 3, 1) := by decide +kernel
theorem dX5_ageOf_24 : decode cX5_ageOf 24 = .ok (.iconst (-1), 1) := by decide +kernel
theorem dX5_ageOf_25 : decode cX5_ageOf 25 = .ok (.if_icmp .ne 7, 3) := by decide +kernel
theorem dX5_ageOf_28 : decode cX5_ageOf 28 = .ok (.iconst 0, 1) := by decide +kernel
theorem dX5_ageOf_29 : decode cX5_ageOf 29 = .ok (.goto 9, 3) := by decide +kernel
theorem dX5_ageOf_32 : decode cX5_ageOf 32 = .ok (.aload_n 0, 1) := by decide +kernel
theorem dX5_ageOf_33 : decode cX5_ageOf 33 = .ok (.getfield 67, 3) := by decide +kernel
theorem dX5_ageOf_36 : decode cX5_ageOf 36 = .ok (.iload_n 3, 1) := by decide +kernel
theorem dX5_ageOf_37 : decode cX5_ageOf 37 = .ok (.isub, 1) := by decide +kernel
theorem dX5_ageOf_38 : decode cX5_ageOf 38 = .ok (.ireturn, 1) := by decide +kernel
set_option maxRecDepth 20000 in
theorem ggX5_sumOfAges_X0_isNeeded : GoodIn wsX5_sumOfAges wsX0_isNeeded := goodIn_r _ [10, 11, 29, 30, 31, 32, 33, 34] (by first | rfl | decide +kernel) (by decide +kernel)
set_option maxRecDepth 20000 in
theorem gX5_sumOfAges_X0_isNeeded : GoodIn wsX5_sumOfAges (wsV RX5 166 RX0 yX0_isNeeded wsX0_isNeeded) := goodIn_app (goodIn_of _ (by decide +kernel)) ggX5_sumOfAges_X0_isNeeded
theorem dX5_sumOfAges_0 : decode cX5_sumOfAges 0 = .ok (.iload_n 1, 1) := by decide +kernel
theorem dX5_sumOfAges_1 : decode cX5_sumOfAges 1 = .ok (.bipush 16, 2) := by decide +kernel
theorem dX5_sumOfAges_3 : decode cX5_sumOfAges 3 = .ok (.imul, 1) := by decide +kernel
theorem dX5_sumOfAges_4 : decode cX5_sumOfAges 4 = .ok (.istore_n 2, 1) := by decide +kernel
theorem dX5_sumOfAges_5 : decode cX5_sumOfAges 5 = .ok (.iconst 0, 1) := by decide +kernel
theorem dX5_sumOfAges_6 : decode cX5_sumOfAges 6 = .ok (.istore_n 3, 1) := by decide +kernel
theorem dX5_sumOfAges_7 : decode cX5_sumOfAges 7 = .ok (.iload_n 2, 1) := by decide +kernel
theorem dX5_sumOfAges_8 : decode cX5_sumOfAges 8 = .ok (.istore 4, 2) := by decide +kernel
theorem dX5_sumOfAges_10 : decode cX5_sumOfAges 10 = .ok (.iload 4, 2) := by decide +kernel
theorem dX5_sumOfAges_12 : decode cX5_sumOfAges 12 = .ok (.iload_n 2, 1) := by decide +kernel
theorem dX5_sumOfAges_13 : decode cX5_sumOfAges 13 = .ok (.aload_n 0, 1) := by decide +kernel
theorem dX5_sumOfAges_14 : decode cX5_sumOfAges 14 = .ok (.getfield 12, 3) := by decide +kernel
theorem dX5_sumOfAges_17 : decode cX5_sumOfAges 17 = .ok (.getfield 109, 3) := by decide +kernel
theorem dX5_sumOfAges_20 : decode cX5_sumOfAges 20 = .ok (.iadd, 1) := by decide +kernel
theorem dX5_sumOfAges_21 : decode cX5_sumOfAges 21 = .ok (.if_icmp .ge 39, 3) := by decide +kernel
theorem dX5_sumOfAges_24 : decode cX5_sumOfAges 24 = .ok (.aload_n 0, 1) := by decide +kernel
theorem dX5_sumOfAges_25 : decode cX5_sumOfAges 25 = .ok (.getfield 21, 3) := by decide +kernel
theorem dX5_sumOfAges_28 : decode cX5_sumOfAges 28 = .ok (.iload 4, 2) := by decide +kernel
theorem dX5_sumOfAges_30 : decode cX5_sumOfAges 30 = .ok (.invokevirtual 166, 3) := by decide +kernel
theorem dX5_sumOfAges_33 : decode cX5_sumOfAges 33 = .ok (.ifCond .eq 21, 3) := by decide +kernel
theorem dX5_sumOfAges_36 : decode cX5_sumOfAges 36 = .ok (.iload_n 3, 1) := by decide +kernel
theorem dX5_sumOfAges_37 : decode cX5_sumOfAges 37 = .ok (.aload_n 0, 1) := by decide +kernel
theorem dX5_sumOfAges_38 : decode cX5_sumOfAges 38 = .ok (.getfield 67, 3) := by decide +kernel
theorem dX5_sumOfAges_41 : decode cX5_sumOfAges 41 = .ok (.aload_n 0, 1) := by decide +kernel
theorem dX5_sumOfAges_42 : decode cX5_sumOfAges 42 = .ok (.getfield 21, 3) := by decide +kernel
theorem dX5_sumOfAges_45 : decode cX5_sumOfAges 45 = .ok (.getfield 170, 3) := by decide +kernel
theorem dX5_sumOfAges_48 : decode cX5_sumOfAges 48 = .ok (.iload 4, 2) := by decide +kernel
theorem dX5_sumOfAges_50 : decode cX5_sumOfAges 50 = .ok (.iaload, 1) := by decide +kernel
theorem dX5_sumOfAges_51 : decode cX5_sumOfAges 51 = .ok (.isub, 1) := by decide +kernel
theorem dX5_sumOfAges_52 : decode cX5_sumOfAges 52 = .ok (.iadd, 1) := by decide +kernel
theorem dX5_sumOfAges_53 : decode cX5_sumOfAges 53 = .ok (.istore_n 3, 1) := by decide +kernel
theorem dX5_sumOfAges_54 : decode cX5_sumOfAges 54 = .ok (.iinc 4 1, 3) := by decide +kernel
theorem dX5_sumOfAges_57 : decode cX5_sumOfAges 57 = .ok (.goto (-47), 3) := by decide +kernel
theorem dX5_sumOfAges_60 : decode cX5_sumOfAges 60 = .ok (.iload_n 3, 1) := by decide +kernel
theorem dX5_sumOfAges_61 : decode cX5_sumOfAges 61 = .ok (.ireturn, 1) := by decide +kernel
set_option maxRecDepth 20000 in
theorem ggX5_canBeErased_X5_useOf : GoodIn wsX5_canBeErased wsX5_useOf := goodIn_r _ [7, 8, 9, 10, 6, 11, 12, 1, 13, 14, 15, 16, 17, 18, 19, 20, 21, 22, 23, 24, 25, 26, 27, 28, 29, 30, 31, 32, 33, 34, 35, 36, 37, 38, 39, 40, 41, 42] (by first | rfl | decide +kernel) (by decide +kernel)
set_option maxRecDepth 20000 in
theorem gX5_canBeErased_X5_useOf : GoodIn wsX5_canBeErased (wsV RX5 173 RX5 yX5_useOf wsX5_useOf) := goodIn_app (goodIn_of _ (by decide +kernel)) ggX5_canBeErased_X5_useOf
theorem dX5_canBeErased_0 : decode cX5_canBeErased 0 = .ok (.aload_n 0, 1) := by decide +kernel
theorem dX5_canBeErased_1 : decode cX5_canBeErased 1 = .ok (.getfield 12, 3) := by decide +kernel
theorem dX5_canBeErased_4 : decode cX5_canBeErased 4 = .ok (.getfield 172, 3) := by decide +kernel
theorem dX5_canBeErased_7 : decode cX5_canBeErased 7 = .ok (.iload_n 1, 1) := by decide +kernel
theorem dX5_canBeErased_8 : decode cX5_canBeErased 8 = .ok (.iaload, 1) := by decide +kernel
theorem dX5_canBeErased_9 : decode cX5_canBeErased 9 = .ok (.iconst 2, 1) := by decide +kernel
theorem dX5_canBeErased_10 : decode cX5_canBeErased 10 = .ok (.if_icmp .ne 15, 3) := by decide +kernel
theorem dX5_canBeErased_13 : decode cX5_canBeErased 13 = .ok (.aload_n 0, 1) := by decide +kernel
theorem dX5_canBeErased_14 : decode cX5_canBeErased 14 = .ok (.iload_n 1, 1) := by decide +kernel
theorem dX5_canBeErased_15 : decode cX5_canBeErased 15 = .ok (.invokevirtual 173, 3) := by decide +kernel
theorem dX5_canBeErased_18 : decode cX5_canBeErased 18 = .ok (.ifCond .ne 7, 3) := by decide +kernel
theorem dX5_canBeErased_21 : decode cX5_canBeErased 21 = .ok (.iconst 1, 1) := by decide +kernel
theorem dX5_canBeErased_22 : decode cX5_canBeErased 22 = .ok (.goto 4, 3) := by decide +kernel
theorem dX5_canBeErased_25 : decode cX5_canBeErased 25 = .ok (.iconst 0, 1) := by decide +kernel
theorem dX5_canBeErased_26 : decode cX5_canBeErased 26 = .ok (.ireturn, 1) := by decide +kernel
set_option maxRecDepth 20000 in
theorem ggX5_advancesMissingIn_X0_latestWaitingEpoch : GoodIn wsX5_advancesMissingIn wsX0_latestWaitingEpoch := goodIn_r _ [13, 14, 15, 6, 7, 8, 33, 34, 35, 36, 37, 38] (by first | rfl | decide +kernel) (by decide +kernel)
set_option maxRecDepth 20000 in
theorem gX5_advancesMissingIn_X0_latestWaitingEpoch : GoodIn wsX5_advancesMissingIn (wsV RX5 176 RX0 yX0_latestWaitingEpoch wsX0_latestWaitingEpoch) := goodIn_app (goodIn_of _ (by decide +kernel)) ggX5_advancesMissingIn_X0_latestWaitingEpoch
theorem dX5_advancesMissingIn_0 : decode cX5_advancesMissingIn 0 = .ok (.iload_n 1, 1) := by decide +kernel
theorem dX5_advancesMissingIn_1 : decode cX5_advancesMissingIn 1 = .ok (.bipush 16, 2) := by decide +kernel
theorem dX5_advancesMissingIn_3 : decode cX5_advancesMissingIn 3 = .ok (.imul, 1) := by decide +kernel
theorem dX5_advancesMissingIn_4 : decode cX5_advancesMissingIn 4 = .ok (.istore_n 2, 1) := by decide +kernel
theorem dX5_advancesMissingIn_5 : decode cX5_advancesMissingIn 5 = .ok (.aload_n 0, 1) := by decide +kernel
theorem dX5_advancesMissingIn_6 : decode cX5_advancesMissingIn 6 = .ok (.getfield 21, 3) := by decide +kernel
theorem dX5_advancesMissingIn_9 : decode cX5_advancesMissingIn 9 = .ok (.iload_n 2, 1) := by decide +kernel
theorem dX5_advancesMissingIn_10 : decode cX5_advancesMissingIn 10 = .ok (.iload_n 2, 1) := by decide +kernel
theorem dX5_advancesMissingIn_11 : decode cX5_advancesMissingIn 11 = .ok (.aload_n 0, 1) := by decide +kernel
theorem dX5_advancesMissingIn_12 : decode cX5_advancesMissingIn 12 = .ok (.getfield 12, 3) := by decide +kernel
theorem dX5_advancesMissingIn_15 : decode cX5_advancesMissingIn 15 = .ok (.getfield 109, 3) := by decide +kernel
theorem dX5_advancesMissingIn_18 : decode cX5_advancesMissingIn 18 = .ok (.iadd, 1) := by decide +kernel
theorem dX5_advancesMissingIn_19 : decode cX5_advancesMissingIn 19 = .ok (.invokevirtual 176, 3) := by decide +kernel
theorem dX5_advancesMissingIn_22 : decode cX5_advancesMissingIn 22 = .ok (.istore_n 3, 1) := by decide +kernel
theorem dX5_advancesMissingIn_23 : decode cX5_advancesMissingIn 23 = .ok (.iload_n 3, 1) := by decide +kernel
theorem dX5_advancesMissingIn_24 : decode cX5_advancesMissingIn 24 = .ok (.iconst (-1), 1) := by decide +kernel
theorem dX5_advancesMissingIn_25 : decode cX5_advancesMissingIn 25 = .ok (.if_icmp .ne 7, 3) := by decide +kernel
theorem dX5_advancesMissingIn_28 : decode cX5_advancesMissingIn 28 = .ok (.iconst 0, 1) := by decide +kernel
theorem dX5_advancesMissingIn_29 : decode cX5_advancesMissingIn 29 = .ok (.goto 15, 3) := by decide +kernel
theorem dX5_advancesMissingIn_32 : decode cX5_advancesMissingIn 32 = .ok (.iconst 0, 1) := by decide +kernel
theorem dX5_advancesMissingIn_33 : decode cX5_advancesMissingIn 33 = .ok (.iload_n 3, 1) := by decide +kernel
theorem dX5_advancesMissingIn_34 : decode cX5_advancesMissingIn 34 = .ok (.iconst 2, 1) := by decide +kernel
theorem dX5_advancesMissingIn_35 : decode cX5_advancesMissingIn 35 = .ok (.iadd, 1) := by decide +kernel
theorem dX5_advancesMissingIn_36 : decode cX5_advancesMissingIn 36 = .ok (.aload_n 0, 1) := by decide +kernel
theorem dX5_advancesMissingIn_37 : decode cX5_advancesMissingIn 37 = .ok (.getfield 61, 3) := by decide +kernel
theorem dX5_advancesMissingIn_40 : decode cX5_advancesMissingIn 40 = .ok (.isub, 1) := by decide +kernel
theorem dX5_advancesMissingIn_41 : decode cX5_advancesMissingIn 41 = .ok (.invokestatic 99, 3) := by decide +kernel
theorem dX5_advancesMissingIn_44 : decode cX5_advancesMissingIn 44 = .ok (.ireturn, 1) := by decide +kernel
set_option maxRecDepth 20000 in
theorem ggX5_regain_X0_letDie : GoodIn wsX5_regain wsX0_letDie := goodIn_r _ [11, 12, 13, 60, 61, 62, 63, 64, 65] (by first | rfl | decide +kernel) (by decide +kernel)
set_option maxRecDepth 20000 in
theorem gX5_regain_X0_letDie : GoodIn wsX5_regain (wsV RX5 179 RX0 yX0_letDie wsX0_letDie) := goodIn_app (goodIn_of _ (by decide +kernel)) ggX5_regain_X0_letDie
set_option maxRecDepth 20000 in
theorem ggX5_regain_X5_blocksIn : GoodIn wsX5_regain wsX5_blocksIn := goodIn_r _ [18, 1, 3, 6, 19, 20, 21, 10, 22, 12, 43, 44, 45, 46, 47, 48, 49, 50, 51, 52, 53, 54, 55, 56, 57, 58, 59, 60, 61, 62, 63, 64, 65] (by first | rfl | decide +kernel) (by decide +kernel)
set_option maxRecDepth 20000 in
theorem gX5_regain_X5_blocksIn : GoodIn wsX5_regain (wsV RX5 160 RX5 yX5_blocksIn wsX5_blocksIn) := goodIn_app (goodIn_of _ (by decide +kernel)) ggX5_regain_X5_blocksIn
set_option maxRecDepth 20000 in
theorem ggX5_regain_X3_erase : GoodIn wsX5_regain wsX3_erase := goodIn_r _ [27, 28, 29, 30, 54, 55, 56, 57, 58, 59] (by first | rfl | decide +kernel) (by decide +kernel)
set_option maxRecDepth 20000 in
theorem gX5_regain_X3_erase : GoodIn wsX5_regain (wsV RX5 185 RX3 yX3_erase wsX3_erase) := goodIn_app (goodIn_of _ (by decide +kernel)) ggX5_regain_X3_erase
set_option maxRecDepth 20000 in
theorem ggX5_regain_X0_erase : GoodIn wsX5_regain wsX0_erase := goodIn_r _ [34, 12, 13, 35, 36, 37, 38, 10, 39, 40, 41, 42, 60, 61, 62, 63, 64, 65] (by first | rfl | decide +kernel) (by decide +kernel)
set_option maxRecDepth 20000 in
theorem gX5_regain_X0_erase : GoodIn wsX5_regain (wsV RX5 188 RX0 yX0_erase wsX0_erase) := goodIn_app (goodIn_of _ (by decide +kernel)) ggX5_regain_X0_erase
theorem dX5_regain_0 : decode cX5_regain 0 = .ok (.aload_n 0, 1) := by decide +kernel
theorem dX5_regain_1 : decode cX5_regain 1 = .ok (.getfield 21, 3) := by decide +kernel
theorem dX5_regain_4 : decode cX5_regain 4 = .ok (.aload_n 0, 1) := by decide +kernel
theorem dX5_regain_5 : decode cX5_regain 5 = .ok (.getfield 61, 3) := by decide +kernel
theorem dX5_regain_8 : decode cX5_regain 8 = .ok (.iconst 2, 1) := by decide +kernel
theorem dX5_regain_9 : decode cX5_regain 9 = .ok (.isub, 1) := by decide +kernel
theorem dX5_regain_10 : decode cX5_regain 10 = .ok (.invokevirtual 179, 3) := by decide +kernel
theorem dX5_regain_13 : decode cX5_regain 13 = .ok (.istore_n 1, 1) := by decide +kernel
theorem dX5_regain_14 : decode cX5_regain 14 = .ok (.iconst 0, 1) := by decide +kernel
theorem dX5_regain_15 : decode cX5_regain 15 = .ok (.istore_n 2, 1) := by decide +kernel
theorem dX5_regain_16 : decode cX5_regain 16 = .ok (.iload_n 2, 1) := by decide +kernel
theorem dX5_regain_17 : decode cX5_regain 17 = .ok (.aload_n 0, 1) := by decide +kernel
theorem dX5_regain_18 : decode cX5_regain 18 = .ok (.getfield 12, 3) := by decide +kernel
theorem dX5_regain_21 : decode cX5_regain 21 = .ok (.getfield 182, 3) := by decide +kernel
theorem dX5_regain_24 : decode cX5_regain 24 = .ok (.if_icmp .ge 69, 3) := by decide +kernel
theorem dX5_regain_27 : decode cX5_regain 27 = .ok (.aload_n 0, 1) := by decide +kernel
theorem dX5_regain_28 : decode cX5_regain 28 = .ok (.getfield 12, 3) := by decide +kernel
theorem dX5_regain_31 : decode cX5_regain 31 = .ok (.getfield 172, 3) := by decide +kernel
theorem dX5_regain_34 : decode cX5_regain 34 = .ok (.iload_n 2, 1) := by decide +kernel
theorem dX5_regain_35 : decode cX5_regain 35 = .ok (.iaload, 1) := by decide +kernel
theorem dX5_regain_36 : decode cX5_regain 36 = .ok (.iconst 2, 1) := by decide +kernel
theorem dX5_regain_37 : decode cX5_regain 37 = .ok (.if_icmp .ne 50, 3) := by decide +kernel
theorem dX5_regain_40 : decode cX5_regain 40 = .ok (.aload_n 0, 1) := by decide +kernel
theorem dX5_regain_41 : decode cX5_regain 41 = .ok (.iload_n 2, 1) := by decide +kernel
theorem dX5_regain_42 : decode cX5_regain 42 = .ok (.iconst 4, 1) := by decide +kernel
theorem dX5_regain_43 : decode cX5_regain 43 = .ok (.invokevirtual 160, 3) := by decide +kernel
theorem dX5_regain_46 : decode cX5_regain 46 = .ok (.aload_n 0, 1) := by decide +kernel
theorem dX5_regain_47 : decode cX5_regain 47 = .ok (.getfield 12, 3) := by decide +kernel
theorem dX5_regain_50 : decode cX5_regain 50 = .ok (.getfield 109, 3) := by decide +kernel
theorem dX5_regain_53 : decode cX5_regain 53 = .ok (.if_icmp .ne 34, 3) := by decide +kernel
theorem dX5_regain_56 : decode cX5_regain 56 = .ok (.aload_n 0, 1) := by decide +kernel
theorem dX5_regain_57 : decode cX5_regain 57 = .ok (.getfield 12, 3) := by decide +kernel
theorem dX5_regain_60 : decode cX5_regain 60 = .ok (.iload_n 2, 1) := by decide +kernel
theorem dX5_regain_61 : decode cX5_regain 61 = .ok (.invokevirtual 185, 3) := by decide +kernel
theorem dX5_regain_64 : decode cX5_regain 64 = .ok (.aload_n 0, 1) := by decide +kernel
theorem dX5_regain_65 : decode cX5_regain 65 = .ok (.getfield 21, 3) := by decide +kernel
theorem dX5_regain_68 : decode cX5_regain 68 = .ok (.iload_n 2, 1) := by decide +kernel
theorem dX5_regain_69 : decode cX5_regain 69 = .ok (.bipush 16, 2) := by decide +kernel
theorem dX5_regain_71 : decode cX5_regain 71 = .ok (.imul, 1) := by decide +kernel
theorem dX5_regain_72 : decode cX5_regain 72 = .ok (.iload_n 2, 1) := by decide +kernel
theorem dX5_regain_73 : decode cX5_regain 73 = .ok (.bipush 16, 2) := by decide +kernel
theorem dX5_regain_75 : decode cX5_regain 75 = .ok (.imul, 1) := by decide +kernel
theorem dX5_regain_76 : decode cX5_regain 76 = .ok (.aload_n 0, 1) := by decide +kernel
theorem dX5_regain_77 : decode cX5_regain 77 = .ok (.getfield 12, 3) := by decide +kernel
theorem dX5_regain_80 : decode cX5_regain 80 = .ok (.getfield 109, 3) := by decide +kernel
theorem dX5_regain_83 : decode cX5_regain 83 = .ok (.iadd, 1) := by decide +kernel
theorem dX5_regain_84 : decode cX5_regain 84 = .ok (.invokevirtual 188, 3) := by decide +kernel
theorem dX5_regain_87 : decode cX5_regain 87 = .ok (.iinc 2 1, 3) := by decide +kernel
theorem dX5_regain_90 : decode cX5_regain 90 = .ok (.goto (-74), 3) := by decide +kernel
theorem dX5_regain_93 : decode cX5_regain 93 = .ok (.iload_n 1, 1) := by decide +kernel
theorem dX5_regain_94 : decode cX5_regain 94 = .ok (.ireturn, 1) := by decide +kernel
set_option maxRecDepth 20000 in
theorem ggX5_moveAll_X0_isNeeded : GoodIn wsX5_moveAll wsX0_isNeeded := goodIn_r _ [9, 10, 81, 82, 83, 84, 85, 86] (by first | rfl | decide +kernel) (by decide +kernel)
set_option maxRecDepth 20000 in
theorem gX5_moveAll_X0_isNeeded : GoodIn wsX5_moveAll (wsV RX5 166 RX0 yX0_isNeeded wsX0_isNeeded) := goodIn_app (goodIn_of _ (by decide +kernel)) ggX5_moveAll_X0_isNeeded
set_option maxRecDepth 20000 in
theorem ggX5_moveAll_X5_move : GoodIn wsX5_moveAll wsX5_move := goodIn_r _ [15, 1, 3, 16, 17, 18, 19, 20, 21, 22, 23, 24, 25, 26, 27, 28, 29, 30, 31, 32, 33, 34, 35, 36, 37, 38, 39, 40, 8, 41, 42, 43, 44, 45, 46, 47, 48, 49, 50, 51, 52, 53, 54, 55, 56, 57, 58, 59, 60, 61, 62, 10, 63, 64, 65, 66, 67, 68, 69, 70, 71, 72, 73, 74, 81, 82, 83, 84, 85, 86, 75, 76, 77, 78, 79, 80, 87, 88] (by first | rfl | decide +kernel) (by decide +kernel)
set_option maxRecDepth 20000 in
theorem gX5_moveAll_X5_move : GoodIn wsX5_moveAll (wsV RX5 190 RX5 yX5_move wsX5_move) := goodIn_app (goodIn_of _ (by decide +kernel)) ggX5_moveAll_X5_move
theorem dX5_moveAll_0 : decode cX5_moveAll 0 = .ok (.iload_n 1, 1) := by decide +kernel
theorem dX5_moveAll_1 : decode cX5_moveAll 1 = .ok (.bipush 16, 2) := by decide +kernel
theorem dX5_moveAll_3 : decode cX5_moveAll 3 = .ok (.imul, 1) := by decide +kernel
theorem dX5_moveAll_4 : decode cX5_moveAll 4 = .ok (.istore_n 2, 1) := by decide +kernel
theorem dX5_moveAll_5 : decode cX5_moveAll 5 = .ok (.iconst 0, 1) := by decide +kernel
theorem dX5_moveAll_6 : decode cX5_moveAll 6 = .ok (.istore_n 3, 1) := by decide +kernel
theorem dX5_moveAll_7 : decode cX5_moveAll 7 = .ok (.iload_n 2, 1) := by decide +kernel
theorem dX5_moveAll_8 : decode cX5_moveAll 8 = .ok (.istore 4, 2) := by decide +kernel
theorem dX5_moveAll_10 : decode cX5_moveAll 10 = .ok (.iload 4, 2) := by decide +kernel
theorem dX5_moveAll_12 : decode cX5_moveAll 12 = .ok (.iload_n 2, 1) := by decide +kernel
theorem dX5_moveAll_13 : decode cX5_moveAll 13 = .ok (.aload_n 0, 1) := by decide +kernel
theorem dX5_moveAll_14 : decode cX5_moveAll 14 = .ok (.getfield 12, 3) := by decide +kernel
theorem dX5_moveAll_17 : decode cX5_moveAll 17 = .ok (.getfield 109, 3) := by decide +kernel
theorem dX5_moveAll_20 : decode cX5_moveAll 20 = .ok (.iadd, 1) := by decide +kernel
theorem dX5_moveAll_21 : decode cX5_moveAll 21 = .ok (.if_icmp .ge 30, 3) := by decide +kernel
theorem dX5_moveAll_24 : decode cX5_moveAll 24 = .ok (.aload_n 0, 1) := by decide +kernel
theorem dX5_moveAll_25 : decode cX5_moveAll 25 = .ok (.getfield 21, 3) := by decide +kernel
theorem dX5_moveAll_28 : decode cX5_moveAll 28 = .ok (.iload 4, 2) := by decide +kernel
theorem dX5_moveAll_30 : decode cX5_moveAll 30 = .ok (.invokevirtual 166, 3) := by decide +kernel
theorem dX5_moveAll_33 : decode cX5_moveAll 33 = .ok (.ifCond .eq 12, 3) := by decide +kernel
theorem dX5_moveAll_36 : decode cX5_moveAll 36 = .ok (.aload_n 0, 1) := by decide +kernel
theorem dX5_moveAll_37 : decode cX5_moveAll 37 = .ok (.iload 4, 2) := by decide +kernel
theorem dX5_moveAll_39 : decode cX5_moveAll 39 = .ok (.invokevirtual 190, 3) := by decide +kernel
theorem dX5_moveAll_42 : decode cX5_moveAll 42 = .ok (.iinc 3 1, 3) := by decide +kernel
theorem dX5_moveAll_45 : decode cX5_moveAll 45 = .ok (.iinc 4 1, 3) := by decide +kernel
theorem dX5_moveAll_48 : decode cX5_moveAll 48 = .ok (.goto (-38), 3) := by decide +kernel
theorem dX5_moveAll_51 : decode cX5_moveAll 51 = .ok (.aload_n 0, 1) := by decide +kernel
theorem dX5_moveAll_52 : decode cX5_moveAll 52 = .ok (.dup, 1) := by decide +kernel
theorem dX5_moveAll_53 : decode cX5_moveAll 53 = .ok (.getfield 73, 3) := by decide +kernel
theorem dX5_moveAll_56 : decode cX5_moveAll 56 = .ok (.iload_n 3, 1) := by decide +kernel
theorem dX5_moveAll_57 : decode cX5_moveAll 57 = .ok (.iadd, 1) := by decide +kernel
theorem dX5_moveAll_58 : decode cX5_moveAll 58 = .ok (.putfield 73, 3) := by decide +kernel
theorem dX5_moveAll_61 : decode cX5_moveAll 61 = .ok (.iload_n 3, 1) := by decide +kernel
theorem dX5_moveAll_62 : decode cX5_moveAll 62 = .ok (.ireturn, 1) := by decide +kernel
set_option maxRecDepth 20000 in
theorem ggX5_move_X3_appendAt : GoodIn wsX5_move wsX3_appendAt := goodIn_r _ [14, 15, 16, 17, 18, 19, 20, 21, 13, 22, 23, 24, 70, 71, 72, 73, 74, 75] (by first | rfl | decide +kernel) (by decide +kernel)
set_option maxRecDepth 20000 in
theorem gX5_move_X3_appendAt : GoodIn wsX5_move (wsV RX5 112 RX3 yX3_appendAt wsX3_appendAt) := goodIn_app (goodIn_of _ (by decide +kernel)) ggX5_move_X3_appendAt
set_option maxRecDepth 20000 in
theorem ggX5_move_X0_fill : GoodIn wsX5_move wsX0_fill := goodIn_r _ [29, 30, 31, 32, 64, 65, 66, 67, 68, 69] (by first | rfl | decide +kernel) (by decide +kernel)
set_option maxRecDepth 20000 in
theorem gX5_move_X0_fill : GoodIn wsX5_move (wsV RX5 118 RX0 yX0_fill wsX0_fill) := goodIn_app (goodIn_of _ (by decide +kernel)) ggX5_move_X0_fill
set_option maxRecDepth 20000 in
theorem ggX5_move_X4_exchange : GoodIn wsX5_move wsX4_exchange := goodIn_r _ [37, 38, 39, 40, 41, 36, 42, 43, 44, 45, 46, 76, 77] (by first | rfl | decide +kernel) (by decide +kernel)
set_option maxRecDepth 20000 in
theorem gX5_move_X4_exchange : GoodIn wsX5_move (wsV RX5 199 RX4 yX4_exchange wsX4_exchange) := goodIn_app (goodIn_of _ (by decide +kernel)) ggX5_move_X4_exchange
set_option maxRecDepth 20000 in
theorem ggX5_move_X0_beginToWait : GoodIn wsX5_move wsX0_beginToWait := goodIn_r _ [50, 51, 52, 64, 65, 66, 67, 68, 69] (by first | rfl | decide +kernel) (by decide +kernel)
set_option maxRecDepth 20000 in
theorem gX5_move_X0_beginToWait : GoodIn wsX5_move (wsV RX5 128 RX0 yX0_beginToWait wsX0_beginToWait) := goodIn_app (goodIn_of _ (by decide +kernel)) ggX5_move_X0_beginToWait
theorem dX5_move_0 : decode cX5_move 0 = .ok (.aload_n 0, 1) := by decide +kernel
theorem dX5_move_1 : decode cX5_move 1 = .ok (.getfield 12, 3) := by decide +kernel
theorem dX5_move_4 : decode cX5_move 4 = .ok (.iconst 1, 1) := by decide +kernel
theorem dX5_move_5 : decode cX5_move 5 = .ok (.invokevirtual 112, 3) := by decide +kernel
theorem dX5_move_8 : decode cX5_move 8 = .ok (.istore_n 2, 1) := by decide +kernel
theorem dX5_move_9 : decode cX5_move 9 = .ok (.iload_n 2, 1) := by decide +kernel
theorem dX5_move_10 : decode cX5_move 10 = .ok (.iconst (-1), 1) := by decide +kernel
theorem dX5_move_11 : decode cX5_move 11 = .ok (.if_icmp .ne 4, 3) := by decide +kernel
theorem dX5_move_14 : decode cX5_move 14 = .ok (.return_, 1) := by decide +kernel
theorem dX5_move_15 : decode cX5_move 15 = .ok (.aload_n 0, 1) := by decide +kernel
theorem dX5_move_16 : decode cX5_move 16 = .ok (.getfield 21, 3) := by decide +kernel
theorem dX5_move_19 : decode cX5_move 19 = .ok (.getfield 193, 3) := by decide +kernel
theorem dX5_move_22 : decode cX5_move 22 = .ok (.iload_n 1, 1) := by decide +kernel
theorem dX5_move_23 : decode cX5_move 23 = .ok (.iaload, 1) := by decide +kernel
theorem dX5_move_24 : decode cX5_move 24 = .ok (.istore_n 3, 1) := by decide +kernel
theorem dX5_move_25 : decode cX5_move 25 = .ok (.aload_n 0, 1) := by decide +kernel
theorem dX5_move_26 : decode cX5_move 26 = .ok (.getfield 21, 3) := by decide +kernel
theorem dX5_move_29 : decode cX5_move 29 = .ok (.iload_n 2, 1) := by decide +kernel
theorem dX5_move_30 : decode cX5_move 30 = .ok (.iload_n 3, 1) := by decide +kernel
theorem dX5_move_31 : decode cX5_move 31 = .ok (.aload_n 0, 1) := by decide +kernel
theorem dX5_move_32 : decode cX5_move 32 = .ok (.getfield 21, 3) := by decide +kernel
theorem dX5_move_35 : decode cX5_move 35 = .ok (.getfield 196, 3) := by decide +kernel
theorem dX5_move_38 : decode cX5_move 38 = .ok (.iload_n 1, 1) := by decide +kernel
theorem dX5_move_39 : decode cX5_move 39 = .ok (.iaload, 1) := by decide +kernel
theorem dX5_move_40 : decode cX5_move 40 = .ok (.aload_n 0, 1) := by decide +kernel
theorem dX5_move_41 : decode cX5_move 41 = .ok (.getfield 21, 3) := by decide +kernel
theorem dX5_move_44 : decode cX5_move 44 = .ok (.getfield 170, 3) := by decide +kernel
theorem dX5_move_47 : decode cX5_move 47 = .ok (.iload_n 1, 1) := by decide +kernel
theorem dX5_move_48 : decode cX5_move 48 = .ok (.iaload, 1) := by decide +kernel
theorem dX5_move_49 : decode cX5_move 49 = .ok (.invokevirtual 118, 3) := by decide +kernel
theorem dX5_move_52 : decode cX5_move 52 = .ok (.aload_n 0, 1) := by decide +kernel
theorem dX5_move_53 : decode cX5_move 53 = .ok (.getfield 21, 3) := by decide +kernel
theorem dX5_move_56 : decode cX5_move 56 = .ok (.getfield 121, 3) := by decide +kernel
theorem dX5_move_59 : decode cX5_move 59 = .ok (.iload_n 2, 1) := by decide +kernel
theorem dX5_move_60 : decode cX5_move 60 = .ok (.aload_n 0, 1) := by decide +kernel
theorem dX5_move_61 : decode cX5_move 61 = .ok (.getfield 21, 3) := by decide +kernel
theorem dX5_move_64 : decode cX5_move 64 = .ok (.getfield 121, 3) := by decide +kernel
theorem dX5_move_67 : decode cX5_move 67 = .ok (.iload_n 1, 1) := by decide +kernel
theorem dX5_move_68 : decode cX5_move 68 = .ok (.iaload, 1) := by decide +kernel
theorem dX5_move_69 : decode cX5_move 69 = .ok (.iastore, 1) := by decide +kernel
theorem dX5_move_70 : decode cX5_move 70 = .ok (.aload_n 0, 1) := by decide +kernel
theorem dX5_move_71 : decode cX5_move 71 = .ok (.getfield 21, 3) := by decide +kernel
theorem dX5_move_74 : decode cX5_move 74 = .ok (.getfield 121, 3) := by decide +kernel
theorem dX5_move_77 : decode cX5_move 77 = .ok (.iload_n 1, 1) := by decide +kernel
theorem dX5_move_78 : decode cX5_move 78 = .ok (.iaload, 1) := by decide +kernel
theorem dX5_move_79 : decode cX5_move 79 = .ok (.iconst 1, 1) := by decide +kernel
theorem dX5_move_80 : decode cX5_move 80 = .ok (.if_icmp .ne 10, 3) := by decide +kernel
theorem dX5_move_83 : decode cX5_move 83 = .ok (.aload_n 0, 1) := by decide +kernel
theorem dX5_move_84 : decode cX5_move 84 = .ok (.getfield 39, 3) := by decide +kernel
theorem dX5_move_87 : decode cX5_move 87 = .ok (.iload_n 3, 1) := by decide +kernel
theorem dX5_move_88 : decode cX5_move 88 = .ok (.iload_n 2, 1) := by decide +kernel
theorem dX5_move_89 : decode cX5_move 89 = .ok (.iastore, 1) := by decide +kernel
theorem dX5_move_90 : decode cX5_move 90 = .ok (.aload_n 0, 1) := by decide +kernel
theorem dX5_move_91 : decode cX5_move 91 = .ok (.getfield 35, 3) := by decide +kernel
theorem dX5_move_94 : decode cX5_move 94 = .ok (.iload_n 3, 1) := by decide +kernel
theorem dX5_move_95 : decode cX5_move 95 = .ok (.iload_n 1, 1) := by decide +kernel
theorem dX5_move_96 : decode cX5_move 96 = .ok (.iload_n 2, 1) := by decide +kernel
theorem dX5_move_97 : decode cX5_move 97 = .ok (.invokevirtual 199, 3) := by decide +kernel
theorem dX5_move_100 : decode cX5_move 100 = .ok (.aload_n 0, 1) := by decide +kernel
theorem dX5_move_101 : decode cX5_move 101 = .ok (.getfield 21, 3) := by decide +kernel
theorem dX5_move_104 : decode cX5_move 104 = .ok (.iload_n 1, 1) := by decide +kernel
theorem dX5_move_105 : decode cX5_move 105 = .ok (.aload_n 0, 1) := by decide +kernel
theorem dX5_move_106 : decode cX5_move 106 = .ok (.getfield 61, 3) := by decide +kernel
theorem dX5_move_109 : decode cX5_move 109 = .ok (.invokevirtual 128, 3) := by decide +kernel
theorem dX5_move_112 : decode cX5_move 112 = .ok (.return_, 1) := by decide +kernel
set_option maxRecDepth 20000 in
theorem ggX5_chooseVictim_X5_useOf : GoodIn wsX5_chooseVictim wsX5_useOf := goodIn_r _ [9, 10, 11, 12, 8, 13, 14, 1, 4, 15, 16, 17, 18, 19, 20, 39, 40, 41, 42, 43, 44, 45, 46, 47, 48, 49, 50, 51, 52, 53, 54, 55, 56, 57, 58, 59, 60, 61] (by first | rfl | decide +kernel) (by decide +kernel)
set_option maxRecDepth 20000 in
theorem gX5_chooseVictim_X5_useOf : GoodIn wsX5_chooseVictim (wsV RX5 173 RX5 yX5_useOf wsX5_useOf) := goodIn_app (goodIn_of _ (by decide +kernel)) ggX5_chooseVictim_X5_useOf
set_option maxRecDepth 20000 in
theorem ggX5_chooseVictim_X5_isBetter : GoodIn wsX5_chooseVictim wsX5_isBetter := goodIn_r _ [24, 1, 4, 5, 6, 7, 8, 9, 10, 11, 12, 13, 14, 15, 16, 17, 18, 19, 20, 25, 26, 27, 28, 29, 30, 31, 32, 33, 34, 35, 36, 37, 38, 39, 40, 41, 42, 43, 44, 45, 46, 47, 48, 49, 50, 51, 52, 53, 54, 55, 56, 57, 58, 59, 60, 61] (by first | rfl | decide +kernel) (by decide +kernel)
set_option maxRecDepth 20000 in
theorem gX5_chooseVictim_X5_isBetter : GoodIn wsX5_chooseVictim (wsV RX5 203 RX5 yX5_isBetter wsX5_isBetter) := goodIn_app (goodIn_of _ (by decide +kernel)) ggX5_chooseVictim_X5_isBetter
theorem dX5_chooseVictim_0 : decode cX5_chooseVictim 0 = .ok (.iconst (-1), 1) := by decide +kernel
theorem dX5_chooseVictim_1 : decode cX5_chooseVictim 1 = .ok (.istore_n 2, 1) := by decide +kernel
theorem dX5_chooseVictim_2 : decode cX5_chooseVictim 2 = .ok (.iconst 0, 1) := by decide +kernel
theorem dX5_chooseVictim_3 : decode cX5_chooseVictim 3 = .ok (.istore_n 3, 1) := by decide +kernel
theorem dX5_chooseVictim_4 : decode cX5_chooseVictim 4 = .ok (.iload_n 3, 1) := by decide +kernel
theorem dX5_chooseVictim_5 : decode cX5_chooseVictim 5 = .ok (.aload_n 0, 1) := by decide +kernel
theorem dX5_chooseVictim_6 : decode cX5_chooseVictim 6 = .ok (.getfield 12, 3) := by decide +kernel
theorem dX5_chooseVictim_9 : decode cX5_chooseVictim 9 = .ok (.getfield 182, 3) := by decide +kernel
theorem dX5_chooseVictim_12 : decode cX5_chooseVictim 12 = .ok (.if_icmp .ge 54, 3) := by decide +kernel
theorem dX5_chooseVictim_15 : decode cX5_chooseVictim 15 = .ok (.aload_n 0, 1) := by decide +kernel
theorem dX5_chooseVictim_16 : decode cX5_chooseVictim 16 = .ok (.getfield 12, 3) := by decide +kernel
theorem dX5_chooseVictim_19 : decode cX5_chooseVictim 19 = .ok (.getfield 172, 3) := by decide +kernel
theorem dX5_chooseVictim_22 : decode cX5_chooseVictim 22 = .ok (.iload_n 3, 1) := by decide +kernel
theorem dX5_chooseVictim_23 : decode cX5_chooseVictim 23 = .ok (.iaload, 1) := by decide +kernel
theorem dX5_chooseVictim_24 : decode cX5_chooseVictim 24 = .ok (.iconst 2, 1) := by decide +kernel
theorem dX5_chooseVictim_25 : decode cX5_chooseVictim 25 = .ok (.if_icmp .ne 35, 3) := by decide +kernel
theorem dX5_chooseVictim_28 : decode cX5_chooseVictim 28 = .ok (.aload_n 0, 1) := by decide +kernel
theorem dX5_chooseVictim_29 : decode cX5_chooseVictim 29 = .ok (.iload_n 3, 1) := by decide +kernel
theorem dX5_chooseVictim_30 : decode cX5_chooseVictim 30 = .ok (.invokevirtual 173, 3) := by decide +kernel
theorem dX5_chooseVictim_33 : decode cX5_chooseVictim 33 = .ok (.aload_n 0, 1) := by decide +kernel
theorem dX5_chooseVictim_34 : decode cX5_chooseVictim 34 = .ok (.getfield 12, 3) := by decide +kernel
theorem dX5_chooseVictim_37 : decode cX5_chooseVictim 37 = .ok (.getfield 109, 3) := by decide +kernel
theorem dX5_chooseVictim_40 : decode cX5_chooseVictim 40 = .ok (.if_icmp .ge 20, 3) := by decide +kernel
theorem dX5_chooseVictim_43 : decode cX5_chooseVictim 43 = .ok (.iload_n 2, 1) := by decide +kernel
theorem dX5_chooseVictim_44 : decode cX5_chooseVictim 44 = .ok (.iconst (-1), 1) := by decide +kernel
theorem dX5_chooseVictim_45 : decode cX5_chooseVictim 45 = .ok (.if_icmp .eq 13, 3) := by decide +kernel
theorem dX5_chooseVictim_48 : decode cX5_chooseVictim 48 = .ok (.aload_n 0, 1) := by decide +kernel
theorem dX5_chooseVictim_49 : decode cX5_chooseVictim 49 = .ok (.iload_n 1, 1) := by decide +kernel
theorem dX5_chooseVictim_50 : decode cX5_chooseVictim 50 = .ok (.iload_n 3, 1) := by decide +kernel
theorem dX5_chooseVictim_51 : decode cX5_chooseVictim 51 = .ok (.iload_n 2, 1) := by decide +kernel
theorem dX5_chooseVictim_52 : decode cX5_chooseVictim 52 = .ok (.invokevirtual 203, 3) := by decide +kernel
theorem dX5_chooseVictim_55 : decode cX5_chooseVictim 55 = .ok (.ifCond .eq 5, 3) := by decide +kernel
theorem dX5_chooseVictim_58 : decode cX5_chooseVictim 58 = .ok (.iload_n 3, 1) := by decide +kernel
theorem dX5_chooseVictim_59 : decode cX5_chooseVictim 59 = .ok (.istore_n 2, 1) := by decide +kernel
theorem dX5_chooseVictim_60 : decode cX5_chooseVictim 60 = .ok (.iinc 3 1, 3) := by decide +kernel
theorem dX5_chooseVictim_63 : decode cX5_chooseVictim 63 = .ok (.goto (-59), 3) := by decide +kernel
theorem dX5_chooseVictim_66 : decode cX5_chooseVictim 66 = .ok (.iload_n 2, 1) := by decide +kernel
theorem dX5_chooseVictim_67 : decode cX5_chooseVictim 67 = .ok (.ireturn, 1) := by decide +kernel
set_option maxRecDepth 20000 in
theorem ggX5_isBetter_X5_useOf : GoodIn wsX5_isBetter wsX5_useOf := goodIn_r _ [7, 8, 9, 10, 6, 11, 12, 1, 2, 13, 14, 15, 16, 17, 18, 33, 34, 35, 36, 37, 38, 39, 40, 41, 42, 43, 44, 45, 46, 47, 48, 49, 50, 51, 52, 53, 54, 55] (by first | rfl | decide +kernel) (by decide +kernel)
set_option maxRecDepth 20000 in
theorem gX5_isBetter_X5_useOf : GoodIn wsX5_isBetter (wsV RX5 173 RX5 yX5_useOf wsX5_useOf) := goodIn_app (goodIn_of _ (by decide +kernel)) ggX5_isBetter_X5_useOf
set_option maxRecDepth 20000 in
theorem ggX5_isBetter_X5_ageOf : GoodIn wsX5_isBetter wsX5_ageOf := goodIn_r _ [22, 12, 1, 2, 23, 24, 25, 26, 16, 27, 28, 29, 30, 31, 32, 33, 34, 35, 36, 37, 38, 39, 40, 41, 42, 43, 44, 45, 46, 47, 48, 49, 50, 51, 52, 53, 54, 55] (by first | rfl | decide +kernel) (by decide +kernel)
set_option maxRecDepth 20000 in
theorem gX5_isBetter_X5_ageOf : GoodIn wsX5_isBetter (wsV RX5 207 RX5 yX5_ageOf wsX5_ageOf) := goodIn_app (goodIn_of _ (by decide +kernel)) ggX5_isBetter_X5_ageOf
theorem dX5_isBetter_0 : decode cX5_isBetter 0 = .ok (.aload_n 0, 1) := by decide +kernel
theorem dX5_isBetter_1 : decode cX5_isBetter 1 = .ok (.iload_n 2, 1) := by decide +kernel
theorem dX5_isBetter_2 : decode cX5_isBetter 2 = .ok (.invokevirtual 173, 3) := by decide +kernel
theorem dX5_isBetter_5 : decode cX5_isBetter 5 = .ok (.istore 4, 2) := by decide +kernel
theorem dX5_isBetter_7 : decode cX5_isBetter 7 = .ok (.aload_n 0, 1) := by decide +kernel
theorem dX5_isBetter_8 : decode cX5_isBetter 8 = .ok (.iload_n 3, 1) := by decide +kernel
theorem dX5_isBetter_9 : decode cX5_isBetter 9 = .ok (.invokevirtual 173, 3) := by decide +kernel
theorem dX5_isBetter_12 : decode cX5_isBetter 12 = .ok (.istore 5, 2) := by decide +kernel
theorem dX5_isBetter_14 : decode cX5_isBetter 14 = .ok (.aload_n 0, 1) := by decide +kernel
theorem dX5_isBetter_15 : decode cX5_isBetter 15 = .ok (.iload_n 2, 1) := by decide +kernel
theorem dX5_isBetter_16 : decode cX5_isBetter 16 = .ok (.invokevirtual 207, 3) := by decide +kernel
theorem dX5_isBetter_19 : decode cX5_isBetter 19 = .ok (.istore 6, 2) := by decide +kernel
theorem dX5_isBetter_21 : decode cX5_isBetter 21 = .ok (.aload_n 0, 1) := by decide +kernel
theorem dX5_isBetter_22 : decode cX5_isBetter 22 = .ok (.iload_n 3, 1) := by decide +kernel
theorem dX5_isBetter_23 : decode cX5_isBetter 23 = .ok (.invokevirtual 207, 3) := by decide +kernel
theorem dX5_isBetter_26 : decode cX5_isBetter 26 = .ok (.istore 7, 2) := by decide +kernel
theorem dX5_isBetter_28 : decode cX5_isBetter 28 = .ok (.iload_n 1, 1) := by decide +kernel
theorem dX5_isBetter_29 : decode cX5_isBetter 29 = .ok (.lookupswitch 104 #[(0, 27), (1, 40)], 27) := by decide +kernel
theorem dX5_isBetter_56 : decode cX5_isBetter 56 = .ok (.iload 4, 2) := by decide +kernel
theorem dX5_isBetter_58 : decode cX5_isBetter 58 = .ok (.iload 5, 2) := by decide +kernel
theorem dX5_isBetter_60 : decode cX5_isBetter 60 = .ok (.if_icmp .ge 7, 3) := by decide +kernel
theorem dX5_isBetter_63 : decode cX5_isBetter 63 = .ok (.iconst 1, 1) := by decide +kernel
theorem dX5_isBetter_64 : decode cX5_isBetter 64 = .ok (.goto 4, 3) := by decide +kernel
theorem dX5_isBetter_67 : decode cX5_isBetter 67 = .ok (.iconst 0, 1) := by decide +kernel
theorem dX5_isBetter_68 : decode cX5_isBetter 68 = .ok (.ireturn, 1) := by decide +kernel
theorem dX5_isBetter_69 : decode cX5_isBetter 69 = .ok (.aload_n 0, 1) := by decide +kernel
theorem dX5_isBetter_70 : decode cX5_isBetter 70 = .ok (.getfield 12, 3) := by decide +kernel
theorem dX5_isBetter_73 : decode cX5_isBetter 73 = .ok (.getfield 109, 3) := by decide +kernel
theorem dX5_isBetter_76 : decode cX5_isBetter 76 = .ok (.iload 4, 2) := by decide +kernel
theorem dX5_isBetter_78 : decode cX5_isBetter 78 = .ok (.isub, 1) := by decide +kernel
theorem dX5_isBetter_79 : decode cX5_isBetter 79 = .ok (.i2l, 1) := by decide +kernel
theorem dX5_isBetter_80 : decode cX5_isBetter 80 = .ok (.iload 6, 2) := by decide +kernel
theorem dX5_isBetter_82 : decode cX5_isBetter 82 = .ok (.i2l, 1) := by decide +kernel
theorem dX5_isBetter_83 : decode cX5_isBetter 83 = .ok (.lmul, 1) := by decide +kernel
theorem dX5_isBetter_84 : decode cX5_isBetter 84 = .ok (.aload_n 0, 1) := by decide +kernel
theorem dX5_isBetter_85 : decode cX5_isBetter 85 = .ok (.getfield 12, 3) := by decide +kernel
theorem dX5_isBetter_88 : decode cX5_isBetter 88 = .ok (.getfield 109, 3) := by decide +kernel
theorem dX5_isBetter_91 : decode cX5_isBetter 91 = .ok (.iload 5, 2) := by decide +kernel
theorem dX5_isBetter_93 : decode cX5_isBetter 93 = .ok (.iadd, 1) := by decide +kernel
theorem dX5_isBetter_94 : decode cX5_isBetter 94 = .ok (.i2l, 1) := by decide +kernel
theorem dX5_isBetter_95 : decode cX5_isBetter 95 = .ok (.lmul, 1) := by decide +kernel
theorem dX5_isBetter_96 : decode cX5_isBetter 96 = .ok (.aload_n 0, 1) := by decide +kernel
theorem dX5_isBetter_97 : decode cX5_isBetter 97 = .ok (.getfield 12, 3) := by decide +kernel
theorem dX5_isBetter_100 : decode cX5_isBetter 100 = .ok (.getfield 109, 3) := by decide +kernel
theorem dX5_isBetter_103 : decode cX5_isBetter 103 = .ok (.iload 5, 2) := by decide +kernel
theorem dX5_isBetter_105 : decode cX5_isBetter 105 = .ok (.isub, 1) := by decide +kernel
theorem dX5_isBetter_106 : decode cX5_isBetter 106 = .ok (.i2l, 1) := by decide +kernel
theorem dX5_isBetter_107 : decode cX5_isBetter 107 = .ok (.iload 7, 2) := by decide +kernel
theorem dX5_isBetter_109 : decode cX5_isBetter 109 = .ok (.i2l, 1) := by decide +kernel
theorem dX5_isBetter_110 : decode cX5_isBetter 110 = .ok (.lmul, 1) := by decide +kernel
theorem dX5_isBetter_111 : decode cX5_isBetter 111 = .ok (.aload_n 0, 1) := by decide +kernel
theorem dX5_isBetter_112 : decode cX5_isBetter 112 = .ok (.getfield 12, 3) := by decide +kernel
theorem dX5_isBetter_115 : decode cX5_isBetter 115 = .ok (.getfield 109, 3) := by decide +kernel
theorem dX5_isBetter_118 : decode cX5_isBetter 118 = .ok (.iload 4, 2) := by decide +kernel
theorem dX5_isBetter_120 : decode cX5_isBetter 120 = .ok (.iadd, 1) := by decide +kernel
theorem dX5_isBetter_121 : decode cX5_isBetter 121 = .ok (.i2l, 1) := by decide +kernel
theorem dX5_isBetter_122 : decode cX5_isBetter 122 = .ok (.lmul, 1) := by decide +kernel
theorem dX5_isBetter_123 : decode cX5_isBetter 123 = .ok (.lcmp, 1) := by decide +kernel
theorem dX5_isBetter_124 : decode cX5_isBetter 124 = .ok (.ifCond .le 7, 3) := by decide +kernel
theorem dX5_isBetter_127 : decode cX5_isBetter 127 = .ok (.iconst 1, 1) := by decide +kernel
theorem dX5_isBetter_128 : decode cX5_isBetter 128 = .ok (.goto 4, 3) := by decide +kernel
theorem dX5_isBetter_131 : decode cX5_isBetter 131 = .ok (.iconst 0, 1) := by decide +kernel
theorem dX5_isBetter_132 : decode cX5_isBetter 132 = .ok (.ireturn, 1) := by decide +kernel
theorem dX5_isBetter_133 : decode cX5_isBetter 133 = .ok (.iload 6, 2) := by decide +kernel
theorem dX5_isBetter_135 : decode cX5_isBetter 135 = .ok (.iload 7, 2) := by decide +kernel
theorem dX5_isBetter_137 : decode cX5_isBetter 137 = .ok (.if_icmp .le 7, 3) := by decide +kernel
theorem dX5_isBetter_140 : decode cX5_isBetter 140 = .ok (.iconst 1, 1) := by decide +kernel
theorem dX5_isBetter_141 : decode cX5_isBetter 141 = .ok (.goto 4, 3) := by decide +kernel
theorem dX5_isBetter_144 : decode cX5_isBetter 144 = .ok (.iconst 0, 1) := by decide +kernel
theorem dX5_isBetter_145 : decode cX5_isBetter 145 = .ok (.ireturn, 1) := by decide +kernel
set_option maxRecDepth 20000 in
theorem ggX5_relocateUntilRoom_X5_regain : GoodIn wsX5_relocateUntilRoom wsX5_regain := goodIn_r _ [6, 7, 1, 8, 9, 10, 11, 12, 13, 14, 15, 16, 17, 18, 19, 20, 21, 5, 22, 23, 24, 25, 26, 27, 28, 29, 30, 31, 32, 33, 34, 35, 36, 37, 38, 39, 40, 41, 42, 43, 44, 45, 46, 138, 139, 140, 141, 142, 143, 144, 145, 146, 147, 148, 149, 150, 151, 152, 153, 154, 155, 156, 157, 158, 159, 160] (by first | rfl | decide +kernel) (by decide +kernel)
set_option maxRecDepth 20000 in
theorem gX5_relocateUntilRoom_X5_regain : GoodIn wsX5_relocateUntilRoom (wsV RX5 210 RX5 yX5_regain wsX5_regain) := goodIn_app (goodIn_of _ (by decide +kernel)) ggX5_relocateUntilRoom_X5_regain
set_option maxRecDepth 20000 in
theorem ggX5_relocateUntilRoom_X5_roomForWrites : GoodIn wsX5_relocateUntilRoom wsX5_roomForWrites := goodIn_r _ [50, 8, 51, 52, 53, 54, 11, 55, 56, 57, 30, 58, 59, 32, 60, 61, 62, 63, 64, 65, 33, 138, 139, 140, 141, 142, 143, 144, 145, 146, 147, 148, 149, 150, 151, 152, 153, 154] (by first | rfl | decide +kernel) (by decide +kernel)
set_option maxRecDepth 20000 in
theorem gX5_relocateUntilRoom_X5_roomForWrites : GoodIn wsX5_relocateUntilRoom (wsV RX5 213 RX5 yX5_roomForWrites wsX5_roomForWrites) := goodIn_app (goodIn_of _ (by decide +kernel)) ggX5_relocateUntilRoom_X5_roomForWrites
set_option maxRecDepth 20000 in
theorem ggX5_relocateUntilRoom_X5_chooseVictim : GoodIn wsX5_relocateUntilRoom wsX5_chooseVictim := goodIn_r _ [69, 8, 9, 10, 11, 70, 71, 72, 5, 73, 19, 20, 21, 22, 7, 23, 24, 25, 15, 26, 17, 74, 75, 76, 77, 78, 79, 80, 81, 82, 83, 84, 85, 86, 46, 87, 52, 53, 54, 138, 139, 140, 141, 142, 143, 144, 145, 146, 147, 148, 149, 150, 151, 152, 153, 154, 155, 156, 157, 158, 159, 160] (by first | rfl | decide +kernel) (by decide +kernel)
set_option maxRecDepth 20000 in
theorem gX5_relocateUntilRoom_X5_chooseVictim : GoodIn wsX5_relocateUntilRoom (wsV RX5 216 RX5 yX5_chooseVictim wsX5_chooseVictim) := goodIn_app (goodIn_of _ (by decide +kernel)) ggX5_relocateUntilRoom_X5_chooseVictim
set_option maxRecDepth 20000 in
theorem ggX5_relocateUntilRoom_X5_useOf : GoodIn wsX5_relocateUntilRoom wsX5_useOf := goodIn_r _ [73, 19, 20, 21, 5, 22, 7, 8, 11, 23, 24, 25, 15, 26, 17, 138, 139, 140, 141, 142, 143, 144, 145, 146, 147, 148, 149, 150, 151, 152, 153, 154, 155, 156, 157, 158, 159, 160] (by first | rfl | decide +kernel) (by decide +kernel)
set_option maxRecDepth 20000 in
theorem gX5_relocateUntilRoom_X5_useOf : GoodIn wsX5_relocateUntilRoom (wsV RX5 173 RX5 yX5_useOf wsX5_useOf) := goodIn_app (goodIn_of _ (by decide +kernel)) ggX5_relocateUntilRoom_X5_useOf
set_option maxRecDepth 20000 in
theorem ggX5_relocateUntilRoom_X5_roomForRelocation : GoodIn wsX5_relocateUntilRoom wsX5_roomForRelocation := goodIn_r _ [91, 8, 11, 60, 61, 62, 30, 63, 64, 65, 33, 55, 56, 57, 58, 59, 32, 138, 139, 140, 141, 142, 143, 144, 145, 146, 147, 148, 149, 150, 151, 152, 153, 154] (by first | rfl | decide +kernel) (by decide +kernel)
set_option maxRecDepth 20000 in
theorem gX5_relocateUntilRoom_X5_roomForRelocation : GoodIn wsX5_relocateUntilRoom (wsV RX5 219 RX5 yX5_roomForRelocation wsX5_roomForRelocation) := goodIn_app (goodIn_of _ (by decide +kernel)) ggX5_relocateUntilRoom_X5_roomForRelocation
set_option maxRecDepth 20000 in
theorem ggX5_relocateUntilRoom_X5_moveAll : GoodIn wsX5_relocateUntilRoom wsX5_moveAll := goodIn_r _ [95, 8, 11, 7, 96, 97, 98, 99, 15, 100, 17, 101, 102, 103, 5, 104, 105, 106, 107, 108, 109, 110, 1, 111, 112, 113, 30, 114, 64, 33, 65, 32, 115, 116, 117, 118, 59, 34, 119, 41, 42, 43, 44, 45, 46, 120, 121, 122, 123, 124, 125, 126, 127, 128, 129, 130, 131, 132, 133, 134, 135, 136, 137, 18, 138, 139, 140, 141, 142, 143, 144, 145, 146, 147, 148, 149, 150, 151, 152, 153, 154, 155, 156, 157, 158, 159, 160, 161, 162] (by first | rfl | decide +kernel) (by decide +kernel)
set_option maxRecDepth 20000 in
theorem gX5_relocateUntilRoom_X5_moveAll : GoodIn wsX5_relocateUntilRoom (wsV RX5 222 RX5 yX5_moveAll wsX5_moveAll) := goodIn_app (goodIn_of _ (by decide +kernel)) ggX5_relocateUntilRoom_X5_moveAll
theorem dX5_relocateUntilRoom_0 : decode cX5_relocateUntilRoom 0 = .ok (.iconst 0, 1) := by decide +kernel
theorem dX5_relocateUntilRoom_1 : decode cX5_relocateUntilRoom 1 = .ok (.istore_n 3, 1) := by decide +kernel
theorem dX5_relocateUntilRoom_2 : decode cX5_relocateUntilRoom 2 = .ok (.iload_n 3, 1) := by decide +kernel
theorem dX5_relocateUntilRoom_3 : decode cX5_relocateUntilRoom 3 = .ok (.bipush 20, 2) := by decide +kernel
theorem dX5_relocateUntilRoom_5 : decode cX5_relocateUntilRoom 5 = .ok (.if_icmp .gt 69, 3) := by decide +kernel
theorem dX5_relocateUntilRoom_8 : decode cX5_relocateUntilRoom 8 = .ok (.aload_n 0, 1) := by decide +kernel
theorem dX5_relocateUntilRoom_9 : decode cX5_relocateUntilRoom 9 = .ok (.dup, 1) := by decide +kernel
theorem dX5_relocateUntilRoom_10 : decode cX5_relocateUntilRoom 10 = .ok (.getfield 61, 3) := by decide +kernel
theorem dX5_relocateUntilRoom_13 : decode cX5_relocateUntilRoom 13 = .ok (.iconst 2, 1) := by decide +kernel
theorem dX5_relocateUntilRoom_14 : decode cX5_relocateUntilRoom 14 = .ok (.iadd, 1) := by decide +kernel
theorem dX5_relocateUntilRoom_15 : decode cX5_relocateUntilRoom 15 = .ok (.putfield 61, 3) := by decide +kernel
theorem dX5_relocateUntilRoom_18 : decode cX5_relocateUntilRoom 18 = .ok (.aload_n 0, 1) := by decide +kernel
theorem dX5_relocateUntilRoom_19 : decode cX5_relocateUntilRoom 19 = .ok (.invokevirtual 210, 3) := by decide +kernel
theorem dX5_relocateUntilRoom_22 : decode cX5_relocateUntilRoom 22 = .ok (.pop, 1) := by decide +kernel
theorem dX5_relocateUntilRoom_23 : decode cX5_relocateUntilRoom 23 = .ok (.aload_n 0, 1) := by decide +kernel
theorem dX5_relocateUntilRoom_24 : decode cX5_relocateUntilRoom 24 = .ok (.invokevirtual 213, 3) := by decide +kernel
theorem dX5_relocateUntilRoom_27 : decode cX5_relocateUntilRoom 27 = .ok (.iload_n 2, 1) := by decide +kernel
theorem dX5_relocateUntilRoom_28 : decode cX5_relocateUntilRoom 28 = .ok (.if_icmp .lt 5, 3) := by decide +kernel
theorem dX5_relocateUntilRoom_31 : decode cX5_relocateUntilRoom 31 = .ok (.iload_n 3, 1) := by decide +kernel
theorem dX5_relocateUntilRoom_32 : decode cX5_relocateUntilRoom 32 = .ok (.ireturn, 1) := by decide +kernel
theorem dX5_relocateUntilRoom_33 : decode cX5_relocateUntilRoom 33 = .ok (.aload_n 0, 1) := by decide +kernel
theorem dX5_relocateUntilRoom_34 : decode cX5_relocateUntilRoom 34 = .ok (.iload_n 1, 1) := by decide +kernel
theorem dX5_relocateUntilRoom_35 : decode cX5_relocateUntilRoom 35 = .ok (.invokevirtual 216, 3) := by decide +kernel
theorem dX5_relocateUntilRoom_38 : decode cX5_relocateUntilRoom 38 = .ok (.istore 4, 2) := by decide +kernel
theorem dX5_relocateUntilRoom_40 : decode cX5_relocateUntilRoom 40 = .ok (.iload 4, 2) := by decide +kernel
theorem dX5_relocateUntilRoom_42 : decode cX5_relocateUntilRoom 42 = .ok (.iconst (-1), 1) := by decide +kernel
theorem dX5_relocateUntilRoom_43 : decode cX5_relocateUntilRoom 43 = .ok (.if_icmp .eq 16, 3) := by decide +kernel
theorem dX5_relocateUntilRoom_46 : decode cX5_relocateUntilRoom 46 = .ok (.aload_n 0, 1) := by decide +kernel
theorem dX5_relocateUntilRoom_47 : decode cX5_relocateUntilRoom 47 = .ok (.iload 4, 2) := by decide +kernel
theorem dX5_relocateUntilRoom_49 : decode cX5_relocateUntilRoom 49 = .ok (.invokevirtual 173, 3) := by decide +kernel
theorem dX5_relocateUntilRoom_52 : decode cX5_relocateUntilRoom 52 = .ok (.aload_n 0, 1) := by decide +kernel
theorem dX5_relocateUntilRoom_53 : decode cX5_relocateUntilRoom 53 = .ok (.invokevirtual 219, 3) := by decide +kernel
theorem dX5_relocateUntilRoom_56 : decode cX5_relocateUntilRoom 56 = .ok (.if_icmp .le 5, 3) := by decide +kernel
theorem dX5_relocateUntilRoom_59 : decode cX5_relocateUntilRoom 59 = .ok (.iconst (-1), 1) := by decide +kernel
theorem dX5_relocateUntilRoom_60 : decode cX5_relocateUntilRoom 60 = .ok (.ireturn, 1) := by decide +kernel
theorem dX5_relocateUntilRoom_61 : decode cX5_relocateUntilRoom 61 = .ok (.aload_n 0, 1) := by decide +kernel
theorem dX5_relocateUntilRoom_62 : decode cX5_relocateUntilRoom 62 = .ok (.iload 4, 2) := by decide +kernel
theorem dX5_relocateUntilRoom_64 : decode cX5_relocateUntilRoom 64 = .ok (.invokevirtual 222, 3) := by decide +kernel
theorem dX5_relocateUntilRoom_67 : decode cX5_relocateUntilRoom 67 = .ok (.pop, 1) := by decide +kernel
theorem dX5_relocateUntilRoom_68 : decode cX5_relocateUntilRoom 68 = .ok (.iinc 3 1, 3) := by decide +kernel
theorem dX5_relocateUntilRoom_71 : decode cX5_relocateUntilRoom 71 = .ok (.goto (-69), 3) := by decide +kernel
theorem dX5_relocateUntilRoom_74 : decode cX5_relocateUntilRoom 74 = .ok (.iconst (-1), 1) := by decide +kernel
theorem dX5_relocateUntilRoom_75 : decode cX5_relocateUntilRoom 75 = .ok (.ireturn, 1) := by decide +kernel
set_option maxRecDepth 20000 in
theorem ggX6_init_X5_init : GoodIn wsX6_init wsX5_init := goodIn_r _ [14, 15, 2, 3, 16, 17, 18, 19, 20, 21, 22, 23, 24, 25, 26, 27, 28, 29, 30, 31, 32, 33, 34, 35, 36, 37, 38, 39, 40, 41, 42, 43, 44, 45, 46, 47, 48, 49, 50, 51, 52, 53, 54, 55, 56, 57, 58, 59, 60, 130, 131, 132, 133, 134, 135, 113, 114, 115, 116, 117, 118, 119, 120, 121, 122, 123, 136, 137, 138, 139, 140, 141, 142, 143, 144, 145] (by first | rfl | decide +kernel) (by decide +kernel)
set_option maxRecDepth 20000 in
theorem gX6_init_X5_init_n11 : GoodIn wsX6_init (wsX5_init) := ggX6_init_X5_init
set_option maxRecDepth 20000 in
theorem ggX6_init_X1_init : GoodIn wsX6_init wsX1_init := goodIn_r _ [63, 64, 2, 3, 65, 66, 5, 6, 13, 14, 15, 16, 17, 18, 19, 20, 21, 22, 23, 24, 25, 26, 27, 28, 29, 30, 31, 32, 33, 34, 35, 36, 37, 38, 39, 40, 41, 42, 43, 44, 45, 46, 47, 48, 49, 50, 51, 52, 53, 54, 55, 56, 57, 58, 59, 60, 127, 128, 129, 113, 114, 115, 116, 117, 118, 119, 120, 121, 122, 123, 130, 131, 132, 133, 134, 135, 136, 137, 138, 139, 140, 141, 142, 143, 144, 145] (by first | rfl | decide +kernel) (by decide +kernel)
set_option maxRecDepth 20000 in
theorem gX6_init_X1_init : GoodIn wsX6_init (wsX1_init) := ggX6_init_X1_init
set_option maxRecDepth 20000 in
theorem ggX6_init_X5_begin : GoodIn wsX6_init wsX5_begin := goodIn_r _ [70, 19, 23, 27, 31, 33, 71, 72, 73, 74, 75, 76, 77, 78, 79, 18, 80, 37, 38, 39, 40, 81, 82, 83, 84, 85, 86, 87, 88, 89, 22, 90, 91, 92, 93, 94, 44, 48, 49, 95, 96, 97, 98, 45, 46, 47, 99, 100, 101, 26, 102, 53, 54, 103, 104, 105, 106, 30, 107, 108, 109, 110, 111, 59, 60, 112, 113, 114, 115, 116, 117, 118, 119, 120, 121, 122, 123, 130, 131, 132, 133, 134, 135, 136, 137, 138, 139, 140, 141, 142, 143, 144, 145] (by first | rfl | decide +kernel) (by decide +kernel)
set_option maxRecDepth 20000 in
theorem gX6_init_X5_begin : GoodIn wsX6_init (wsV RX6 26 RX5 yX5_begin wsX5_begin) := goodIn_app (goodIn_of _ (by decide +kernel)) ggX6_init_X5_begin
