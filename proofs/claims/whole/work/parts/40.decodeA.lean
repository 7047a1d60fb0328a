theorem dX6_init_0 : decode cX6_init 0 = .ok (.aload_n 0, 1) := by decide +kernel
theorem dX6_init_1 : decode cX6_init 1 = .ok (.invokespecial 3, 3) := by decide +kernel
theorem dX6_init_4 : decode cX6_init 4 = .ok (.aload_n 0, 1) := by decide +kernel
theorem dX6_init_5 : decode cX6_init 5 = .ok (.new 9, 3) := by decide +kernel
theorem dX6_init_8 : decode cX6_init 8 = .ok (.dup, 1) := by decide +kernel
theorem dX6_init_9 : decode cX6_init 9 = .ok (.invokespecial 11, 3) := by decide +kernel
theorem dX6_init_12 : decode cX6_init 12 = .ok (.putfield 12, 3) := by decide +kernel
theorem dX6_init_15 : decode cX6_init 15 = .ok (.aload_n 0, 1) := by decide +kernel
theorem dX6_init_16 : decode cX6_init 16 = .ok (.new 9, 3) := by decide +kernel
theorem dX6_init_19 : decode cX6_init 19 = .ok (.dup, 1) := by decide +kernel
theorem dX6_init_20 : decode cX6_init 20 = .ok (.invokespecial 11, 3) := by decide +kernel
theorem dX6_init_23 : decode cX6_init 23 = .ok (.putfield 16, 3) := by decide +kernel
theorem dX6_init_26 : decode cX6_init 26 = .ok (.aload_n 0, 1) := by decide +kernel
theorem dX6_init_27 : decode cX6_init 27 = .ok (.new 19, 3) := by decide +kernel
theorem dX6_init_30 : decode cX6_init 30 = .ok (.dup, 1) := by decide +kernel
theorem dX6_init_31 : decode cX6_init 31 = .ok (.invokespecial 21, 3) := by decide +kernel
theorem dX6_init_34 : decode cX6_init 34 = .ok (.putfield 22, 3) := by decide +kernel
theorem dX6_init_37 : decode cX6_init 37 = .ok (.aload_n 0, 1) := by decide +kernel
theorem dX6_init_38 : decode cX6_init 38 = .ok (.getfield 12, 3) := by decide +kernel
theorem dX6_init_41 : decode cX6_init 41 = .ok (.iconst 4, 1) := by decide +kernel
theorem dX6_init_42 : decode cX6_init 42 = .ok (.iconst 4, 1) := by decide +kernel
theorem dX6_init_43 : decode cX6_init 43 = .ok (.iconst 5, 1) := by decide +kernel
theorem dX6_init_44 : decode cX6_init 44 = .ok (.invokevirtual 26, 3) := by decide +kernel
theorem dX6_init_47 : decode cX6_init 47 = .ok (.return_, 1) := by decide +kernel
set_option maxRecDepth 20000 in
theorem ggX6_reset_X6_isBetween : GoodIn wsX6_reset wsX6_isBetween := goodIn_r _ [6] (by first | rfl | decide +kernel) (by decide +kernel)
set_option maxRecDepth 20000 in
theorem gX6_reset_X6_isBetween : GoodIn wsX6_reset (va_wsS RX6 30 yX6_isBetween wsX6_isBetween) := goodIn_app (goodIn_of _ (by decide +kernel)) ggX6_reset_X6_isBetween
set_option maxRecDepth 20000 in
theorem ggX6_reset_X6_checkArgument : GoodIn wsX6_reset wsX6_checkArgument := goodIn_ca (goodIn_r _ [9, 10, 11] (by first | rfl | decide +kernel) (by decide +kernel)) (goodIn_sub (fun _ h => List.mem_cons_of_mem _ (List.mem_append_right _ h)) (by decide +kernel))
set_option maxRecDepth 20000 in
theorem gX6_reset_X6_checkArgument : GoodIn wsX6_reset (va_wsS RX6 34 yX6_checkArgument wsX6_checkArgument) := goodIn_app (goodIn_of _ (by decide +kernel)) ggX6_reset_X6_checkArgument
set_option maxRecDepth 20000 in
theorem ggX6_reset_X1_save : GoodIn wsX6_reset wsX1_save := goodIn_r _ [16, 17, 18, 19, 20, 21, 22, 23, 24, 25, 26, 27, 28, 29, 30, 31, 32, 33, 34, 35, 36, 37, 38, 39, 40, 41, 42, 43, 44, 45, 46, 47, 48, 49, 50, 51, 52, 53, 54, 55, 56, 57, 58, 59, 60, 61, 62, 63, 64, 65, 66, 67, 68, 69, 70, 71, 72, 73, 74, 75, 76, 77, 78, 79, 80, 81, 82, 83, 125, 126, 127, 128, 129, 130, 131, 132, 133, 134, 135, 136, 137, 138, 139, 140, 141, 142, 143, 144, 145, 146, 147, 148, 149, 150, 151, 152, 153, 154] (by first | rfl | decide +kernel) (by decide +kernel)
set_option maxRecDepth 20000 in
theorem gX6_reset_X1_save : GoodIn wsX6_reset (wsV RX6 38 RX1 yX1_save wsX1_save) := goodIn_app (goodIn_of _ (by decide +kernel)) ggX6_reset_X1_save
set_option maxRecDepth 20000 in
theorem ggX6_reset_X5_begin : GoodIn wsX6_reset wsX5_begin := goodIn_r _ [87, 29, 30, 31, 32, 33, 38, 39, 40, 41, 42, 43, 88, 89, 90, 47, 91, 49, 51, 52, 53, 54, 55, 92, 93, 94, 95, 96, 97, 98, 59, 99, 100, 101, 102, 103, 61, 66, 67, 104, 105, 106, 107, 63, 64, 65, 108, 109, 110, 71, 111, 73, 75, 112, 113, 114, 115, 79, 116, 117, 118, 119, 120, 81, 82, 121, 128, 129, 130, 131, 132, 133, 134, 135, 136, 137, 138, 139, 140, 141, 142, 143, 144, 145, 146, 147, 148, 149, 150, 151, 152, 153, 154] (by first | rfl | decide +kernel) (by decide +kernel)
set_option maxRecDepth 20000 in
theorem gX6_reset_X5_begin : GoodIn wsX6_reset (wsV RX6 26 RX5 yX5_begin wsX5_begin) := goodIn_app (goodIn_of _ (by decide +kernel)) ggX6_reset_X5_begin
theorem dX6_reset_0 : decode cX6_reset 0 = .ok (.iload_n 1, 1) := by decide +kernel
theorem dX6_reset_1 : decode cX6_reset 1 = .ok (.iconst 3, 1) := by decide +kernel
theorem dX6_reset_2 : decode cX6_reset 2 = .ok (.bipush 10, 2) := by decide +kernel
theorem dX6_reset_4 : decode cX6_reset 4 = .ok (.invokestatic 30, 3) := by decide +kernel
theorem dX6_reset_7 : decode cX6_reset 7 = .ok (.invokestatic 34, 3) := by decide +kernel
theorem dX6_reset_10 : decode cX6_reset 10 = .ok (.iload_n 2, 1) := by decide +kernel
theorem dX6_reset_11 : decode cX6_reset 11 = .ok (.iconst 2, 1) := by decide +kernel
theorem dX6_reset_12 : decode cX6_reset 12 = .ok (.bipush 12, 2) := by decide +kernel
theorem dX6_reset_14 : decode cX6_reset 14 = .ok (.invokestatic 30, 3) := by decide +kernel
theorem dX6_reset_17 : decode cX6_reset 17 = .ok (.invokestatic 34, 3) := by decide +kernel
theorem dX6_reset_20 : decode cX6_reset 20 = .ok (.iload_n 3, 1) := by decide +kernel
theorem dX6_reset_21 : decode cX6_reset 21 = .ok (.iconst 1, 1) := by decide +kernel
theorem dX6_reset_22 : decode cX6_reset 22 = .ok (.bipush 100, 2) := by decide +kernel
theorem dX6_reset_24 : decode cX6_reset 24 = .ok (.invokestatic 30, 3) := by decide +kernel
theorem dX6_reset_27 : decode cX6_reset 27 = .ok (.invokestatic 34, 3) := by decide +kernel
theorem dX6_reset_30 : decode cX6_reset 30 = .ok (.aload_n 0, 1) := by decide +kernel
theorem dX6_reset_31 : decode cX6_reset 31 = .ok (.getfield 22, 3) := by decide +kernel
theorem dX6_reset_34 : decode cX6_reset 34 = .ok (.aload_n 0, 1) := by decide +kernel
theorem dX6_reset_35 : decode cX6_reset 35 = .ok (.getfield 12, 3) := by decide +kernel
theorem dX6_reset_38 : decode cX6_reset 38 = .ok (.invokevirtual 38, 3) := by decide +kernel
theorem dX6_reset_41 : decode cX6_reset 41 = .ok (.aload_n 0, 1) := by decide +kernel
theorem dX6_reset_42 : decode cX6_reset 42 = .ok (.getfield 12, 3) := by decide +kernel
theorem dX6_reset_45 : decode cX6_reset 45 = .ok (.iload_n 1, 1) := by decide +kernel
theorem dX6_reset_46 : decode cX6_reset 46 = .ok (.iload_n 2, 1) := by decide +kernel
theorem dX6_reset_47 : decode cX6_reset 47 = .ok (.iload_n 3, 1) := by decide +kernel
theorem dX6_reset_48 : decode cX6_reset 48 = .ok (.invokevirtual 26, 3) := by decide +kernel
theorem dX6_reset_51 : decode cX6_reset 51 = .ok (.return_, 1) := by decide +kernel
set_option maxRecDepth 20000 in
theorem ggX6_write_X6_checkKey : GoodIn wsX6_write wsX6_checkKey := goodIn_ca (goodIn_r _ [6, 7, 8, 5, 9, 10, 11, 12, 13, 14] (by first | rfl | decide +kernel) (by decide +kernel)) (goodIn_sub (fun _ h => List.mem_cons_of_mem _ (List.mem_append_left _ (List.mem_append_right _ h))) (by decide +kernel))
set_option maxRecDepth 20000 in
theorem gX6_write_X6_checkKey : GoodIn wsX6_write (va_wsS RX6 42 yX6_checkKey wsX6_checkKey) := goodIn_app (goodIn_of _ (by decide +kernel)) ggX6_write_X6_checkKey
set_option maxRecDepth 20000 in
theorem ggX6_write_X5_roomForWrites : GoodIn wsX6_write wsX5_roomForWrites := goodIn_r _ [19, 20, 21, 22, 23, 24, 25, 26, 27, 28, 29, 30, 31, 32, 33, 34, 35, 36, 37, 38, 39, 152, 153, 154, 155, 156, 157, 158, 159, 160, 161, 162, 163, 164, 165, 166, 167, 168] (by first | rfl | decide +kernel) (by decide +kernel)
set_option maxRecDepth 20000 in
theorem gX6_write_X5_roomForWrites : GoodIn wsX6_write (wsV RX6 46 RX5 yX5_roomForWrites wsX5_roomForWrites) := goodIn_app (goodIn_of _ (by decide +kernel)) ggX6_write_X5_roomForWrites
set_option maxRecDepth 20000 in
theorem ggX6_write_X6_checkState : GoodIn wsX6_write wsX6_checkState := goodIn_ca (goodIn_r _ [42, 43, 44] (by first | rfl | decide +kernel) (by decide +kernel)) (goodIn_sub (fun _ h => List.mem_cons_of_mem _ (List.mem_append_right _ h)) (by decide +kernel))
set_option maxRecDepth 20000 in
theorem gX6_write_X6_checkState : GoodIn wsX6_write (va_wsS RX6 50 yX6_checkState wsX6_checkState) := goodIn_app (goodIn_of _ (by decide +kernel)) ggX6_write_X6_checkState
set_option maxRecDepth 20000 in
theorem ggX6_write_X1_save : GoodIn wsX6_write wsX1_save := goodIn_r _ [49, 50, 51, 52, 53, 54, 23, 55, 56, 57, 58, 18, 59, 20, 60, 61, 62, 63, 64, 65, 66, 67, 68, 69, 70, 71, 72, 73, 74, 75, 76, 29, 77, 32, 78, 79, 39, 37, 31, 38, 80, 81, 82, 83, 84, 85, 86, 87, 88, 89, 90, 91, 92, 93, 94, 95, 96, 97, 98, 99, 100, 101, 102, 103, 104, 105, 106, 107, 169, 170, 171, 152, 153, 154, 155, 156, 157, 158, 159, 160, 161, 162, 163, 164, 165, 166, 167, 168, 172, 173, 174, 175, 176, 177, 178, 179, 180, 181] (by first | rfl | decide +kernel) (by decide +kernel)
set_option maxRecDepth 20000 in
theorem gX6_write_X1_save : GoodIn wsX6_write (wsV RX6 38 RX1 yX1_save wsX1_save) := goodIn_app (goodIn_of _ (by decide +kernel)) ggX6_write_X1_save
set_option maxRecDepth 20000 in
theorem ggX6_write_X5_appendVersion : GoodIn wsX6_write wsX5_appendVersion := goodIn_r _ [111, 20, 60, 71, 112, 63, 72, 113, 114, 115, 29, 116, 37, 39, 38, 32, 117, 118, 119, 120, 31, 79, 121, 122, 123, 18, 124, 62, 69, 125, 126, 127, 103, 128, 129, 130, 131, 132, 133, 134, 135, 136, 137, 138, 139, 140, 106, 141, 142, 143, 83, 144, 85, 90, 145, 146, 147, 148, 87, 88, 89, 152, 153, 154, 155, 156, 157, 158, 159, 160, 161, 162, 172, 173, 174, 175, 176, 177, 163, 164, 165, 166, 167, 168, 180, 181] (by first | rfl | decide +kernel) (by decide +kernel)
set_option maxRecDepth 20000 in
theorem gX6_write_X5_appendVersion : GoodIn wsX6_write (wsV RX6 53 RX5 yX5_appendVersion wsX5_appendVersion) := goodIn_app (goodIn_of _ (by decide +kernel)) ggX6_write_X5_appendVersion
theorem dX6_write_0 : decode cX6_write 0 = .ok (.iload_n 1, 1) := by decide +kernel
theorem dX6_write_1 : decode cX6_write 1 = .ok (.invokestatic 42, 3) := by decide +kernel
theorem dX6_write_4 : decode cX6_write 4 = .ok (.aload_n 0, 1) := by decide +kernel
theorem dX6_write_5 : decode cX6_write 5 = .ok (.getfield 12, 3) := by decide +kernel
theorem dX6_write_8 : decode cX6_write 8 = .ok (.invokevirtual 46, 3) := by decide +kernel
theorem dX6_write_11 : decode cX6_write 11 = .ok (.ifCond .le 7, 3) := by decide +kernel
theorem dX6_write_14 : decode cX6_write 14 = .ok (.iconst 1, 1) := by decide +kernel
theorem dX6_write_15 : decode cX6_write 15 = .ok (.goto 4, 3) := by decide +kernel
theorem dX6_write_18 : decode cX6_write 18 = .ok (.iconst 0, 1) := by decide +kernel
theorem dX6_write_19 : decode cX6_write 19 = .ok (.invokestatic 50, 3) := by decide +kernel
theorem dX6_write_22 : decode cX6_write 22 = .ok (.aload_n 0, 1) := by decide +kernel
theorem dX6_write_23 : decode cX6_write 23 = .ok (.getfield 22, 3) := by decide +kernel
theorem dX6_write_26 : decode cX6_write 26 = .ok (.aload_n 0, 1) := by decide +kernel
theorem dX6_write_27 : decode cX6_write 27 = .ok (.getfield 12, 3) := by decide +kernel
theorem dX6_write_30 : decode cX6_write 30 = .ok (.invokevirtual 38, 3) := by decide +kernel
theorem dX6_write_33 : decode cX6_write 33 = .ok (.aload_n 0, 1) := by decide +kernel
theorem dX6_write_34 : decode cX6_write 34 = .ok (.getfield 12, 3) := by decide +kernel
theorem dX6_write_37 : decode cX6_write 37 = .ok (.iload_n 1, 1) := by decide +kernel
theorem dX6_write_38 : decode cX6_write 38 = .ok (.iload_n 2, 1) := by decide +kernel
theorem dX6_write_39 : decode cX6_write 39 = .ok (.invokevirtual 53, 3) := by decide +kernel
theorem dX6_write_42 : decode cX6_write 42 = .ok (.ireturn, 1) := by decide +kernel
set_option maxRecDepth 20000 in
theorem ggX6_delete_X6_checkKey : GoodIn wsX6_delete wsX6_checkKey := goodIn_ca (goodIn_r _ [7, 8, 9, 6, 10, 11, 12, 13, 14, 15] (by first | rfl | decide +kernel) (by decide +kernel)) (goodIn_sub (fun _ h => List.mem_cons_of_mem _ (List.mem_append_left _ (List.mem_append_right _ h))) (by decide +kernel))
set_option maxRecDepth 20000 in
theorem gX6_delete_X6_checkKey : GoodIn wsX6_delete (va_wsS RX6 42 yX6_checkKey wsX6_checkKey) := goodIn_app (goodIn_of _ (by decide +kernel)) ggX6_delete_X6_checkKey
set_option maxRecDepth 20000 in
theorem ggX6_delete_X6_checkElement : GoodIn wsX6_delete wsX6_checkElement := goodIn_ca (goodIn_r _ [18, 19, 20] (by first | rfl | decide +kernel) (by decide +kernel)) (goodIn_sub (fun _ h => List.mem_cons_of_mem _ (List.mem_append_right _ h)) (by decide +kernel))
set_option maxRecDepth 20000 in
theorem gX6_delete_X6_checkElement : GoodIn wsX6_delete (va_wsS RX6 61 yX6_checkElement wsX6_checkElement) := goodIn_app (goodIn_of _ (by decide +kernel)) ggX6_delete_X6_checkElement
set_option maxRecDepth 20000 in
theorem ggX6_delete_X1_save : GoodIn wsX6_delete wsX1_save := goodIn_r _ [25, 26, 27, 28, 29, 30, 31, 32, 33, 34, 35, 36, 37, 38, 39, 40, 41, 42, 43, 44, 45, 46, 47, 48, 49, 50, 51, 52, 53, 54, 55, 56, 57, 58, 59, 60, 61, 62, 63, 64, 65, 66, 67, 68, 69, 70, 71, 72, 73, 74, 75, 76, 77, 78, 79, 80, 81, 82, 83, 84, 85, 86, 87, 88, 89, 90, 91, 92, 132, 133, 134, 121, 122, 123, 124, 125, 126, 127, 128, 129, 130, 131, 135, 136, 137, 138, 139, 140, 141, 142, 143, 144, 145, 146, 147, 148, 149, 150] (by first | rfl | decide +kernel) (by decide +kernel)
set_option maxRecDepth 20000 in
theorem gX6_delete_X1_save : GoodIn wsX6_delete (wsV RX6 38 RX1 yX1_save wsX1_save) := goodIn_app (goodIn_of _ (by decide +kernel)) ggX6_delete_X1_save
set_option maxRecDepth 20000 in
theorem ggX6_delete_X5_dropLive : GoodIn wsX6_delete wsX5_dropLive := goodIn_r _ [96, 42, 41, 39, 97, 48, 98, 99, 100, 88, 101, 102, 103, 104, 105, 106, 107, 108, 109, 110, 111, 112, 113, 91, 114, 115, 116, 68, 117, 70, 75, 121, 122, 123, 124, 125, 126, 127, 128, 129, 130, 131, 141, 142, 143, 144, 145, 146, 149, 150] (by first | rfl | decide +kernel) (by decide +kernel)
set_option maxRecDepth 20000 in
theorem gX6_delete_X5_dropLive : GoodIn wsX6_delete (wsV RX6 64 RX5 yX5_dropLive wsX5_dropLive) := goodIn_app (goodIn_of _ (by decide +kernel)) ggX6_delete_X5_dropLive
theorem dX6_delete_0 : decode cX6_delete 0 = .ok (.iload_n 1, 1) := by decide +kernel
theorem dX6_delete_1 : decode cX6_delete 1 = .ok (.invokestatic 42, 3) := by decide +kernel
theorem dX6_delete_4 : decode cX6_delete 4 = .ok (.aload_n 0, 1) := by decide +kernel
theorem dX6_delete_5 : decode cX6_delete 5 = .ok (.getfield 12, 3) := by decide +kernel
theorem dX6_delete_8 : decode cX6_delete 8 = .ok (.getfield 57, 3) := by decide +kernel
theorem dX6_delete_11 : decode cX6_delete 11 = .ok (.iload_n 1, 1) := by decide +kernel
theorem dX6_delete_12 : decode cX6_delete 12 = .ok (.iaload, 1) := by decide +kernel
theorem dX6_delete_13 : decode cX6_delete 13 = .ok (.iconst (-1), 1) := by decide +kernel
theorem dX6_delete_14 : decode cX6_delete 14 = .ok (.if_icmp .eq 7, 3) := by decide +kernel
theorem dX6_delete_17 : decode cX6_delete 17 = .ok (.iconst 1, 1) := by decide +kernel
theorem dX6_delete_18 : decode cX6_delete 18 = .ok (.goto 4, 3) := by decide +kernel
theorem dX6_delete_21 : decode cX6_delete 21 = .ok (.iconst 0, 1) := by decide +kernel
theorem dX6_delete_22 : decode cX6_delete 22 = .ok (.invokestatic 61, 3) := by decide +kernel
theorem dX6_delete_25 : decode cX6_delete 25 = .ok (.aload_n 0, 1) := by decide +kernel
theorem dX6_delete_26 : decode cX6_delete 26 = .ok (.getfield 22, 3) := by decide +kernel
theorem dX6_delete_29 : decode cX6_delete 29 = .ok (.aload_n 0, 1) := by decide +kernel
theorem dX6_delete_30 : decode cX6_delete 30 = .ok (.getfield 12, 3) := by decide +kernel
theorem dX6_delete_33 : decode cX6_delete 33 = .ok (.invokevirtual 38, 3) := by decide +kernel
theorem dX6_delete_36 : decode cX6_delete 36 = .ok (.aload_n 0, 1) := by decide +kernel
theorem dX6_delete_37 : decode cX6_delete 37 = .ok (.getfield 12, 3) := by decide +kernel
theorem dX6_delete_40 : decode cX6_delete 40 = .ok (.iload_n 1, 1) := by decide +kernel
theorem dX6_delete_41 : decode cX6_delete 41 = .ok (.invokevirtual 64, 3) := by decide +kernel
theorem dX6_delete_44 : decode cX6_delete 44 = .ok (.ireturn, 1) := by decide +kernel
set_option maxRecDepth 20000 in
theorem ggX6_get_X6_checkKey : GoodIn wsX6_get wsX6_checkKey := goodIn_ca (goodIn_r _ [8, 9, 10, 7, 11, 12, 13, 14, 15, 16] (by first | rfl | decide +kernel) (by decide +kernel)) (goodIn_sub (fun _ h => List.mem_cons_of_mem _ (List.mem_append_left _ (List.mem_append_right _ h))) (by decide +kernel))
set_option maxRecDepth 20000 in
theorem gX6_get_X6_checkKey : GoodIn wsX6_get (va_wsS RX6 42 yX6_checkKey wsX6_checkKey) := goodIn_app (goodIn_of _ (by decide +kernel)) ggX6_get_X6_checkKey
set_option maxRecDepth 20000 in
theorem ggX6_get_X6_checkElement : GoodIn wsX6_get wsX6_checkElement := goodIn_ca (goodIn_r _ [19, 20, 21] (by first | rfl | decide +kernel) (by decide +kernel)) (goodIn_sub (fun _ h => List.mem_cons_of_mem _ (List.mem_append_right _ h)) (by decide +kernel))
set_option maxRecDepth 20000 in
theorem gX6_get_X6_checkElement : GoodIn wsX6_get (va_wsS RX6 61 yX6_checkElement wsX6_checkElement) := goodIn_app (goodIn_of _ (by decide +kernel)) ggX6_get_X6_checkElement
theorem dX6_get_0 : decode cX6_get 0 = .ok (.iload_n 1, 1) := by decide +kernel
theorem dX6_get_1 : decode cX6_get 1 = .ok (.invokestatic 42, 3) := by decide +kernel
theorem dX6_get_4 : decode cX6_get 4 = .ok (.aload_n 0, 1) := by decide +kernel
theorem dX6_get_5 : decode cX6_get 5 = .ok (.getfield 12, 3) := by decide +kernel
theorem dX6_get_8 : decode cX6_get 8 = .ok (.getfield 57, 3) := by decide +kernel
theorem dX6_get_11 : decode cX6_get 11 = .ok (.iload_n 1, 1) := by decide +kernel
theorem dX6_get_12 : decode cX6_get 12 = .ok (.iaload, 1) := by decide +kernel
theorem dX6_get_13 : decode cX6_get 13 = .ok (.istore_n 2, 1) := by decide +kernel
theorem dX6_get_14 : decode cX6_get 14 = .ok (.iload_n 2, 1) := by decide +kernel
theorem dX6_get_15 : decode cX6_get 15 = .ok (.iconst (-1), 1) := by decide +kernel
theorem dX6_get_16 : decode cX6_get 16 = .ok (.if_icmp .eq 7, 3) := by decide +kernel
theorem dX6_get_19 : decode cX6_get 19 = .ok (.iconst 1, 1) := by decide +kernel
theorem dX6_get_20 : decode cX6_get 20 = .ok (.goto 4, 3) := by decide +kernel
theorem dX6_get_23 : decode cX6_get 23 = .ok (.iconst 0, 1) := by decide +kernel
theorem dX6_get_24 : decode cX6_get 24 = .ok (.invokestatic 61, 3) := by decide +kernel
theorem dX6_get_27 : decode cX6_get 27 = .ok (.aload_n 0, 1) := by decide +kernel
theorem dX6_get_28 : decode cX6_get 28 = .ok (.getfield 12, 3) := by decide +kernel
theorem dX6_get_31 : decode cX6_get 31 = .ok (.getfield 68, 3) := by decide +kernel
theorem dX6_get_34 : decode cX6_get 34 = .ok (.getfield 72, 3) := by decide +kernel
theorem dX6_get_37 : decode cX6_get 37 = .ok (.iload_n 2, 1) := by decide +kernel
theorem dX6_get_38 : decode cX6_get 38 = .ok (.iaload, 1) := by decide +kernel
theorem dX6_get_39 : decode cX6_get 39 = .ok (.ireturn, 1) := by decide +kernel
set_option maxRecDepth 20000 in
theorem ggX6_addressOf_X6_checkKey : GoodIn wsX6_addressOf wsX6_checkKey := goodIn_ca (goodIn_r _ [6, 7, 8, 5, 9, 10, 11, 12, 13, 14] (by first | rfl | decide +kernel) (by decide +kernel)) (goodIn_sub (fun _ h => List.mem_cons_of_mem _ (List.mem_append_right _ h)) (by decide +kernel))
set_option maxRecDepth 20000 in
theorem gX6_addressOf_X6_checkKey : GoodIn wsX6_addressOf (va_wsS RX6 42 yX6_checkKey wsX6_checkKey) := goodIn_app (goodIn_of _ (by decide +kernel)) ggX6_addressOf_X6_checkKey
theorem dX6_addressOf_0 : decode cX6_addressOf 0 = .ok (.iload_n 1, 1) := by decide +kernel
theorem dX6_addressOf_1 : decode cX6_addressOf 1 = .ok (.invokestatic 42, 3) := by decide +kernel
theorem dX6_addressOf_4 : decode cX6_addressOf 4 = .ok (.aload_n 0, 1) := by decide +kernel
theorem dX6_addressOf_5 : decode cX6_addressOf 5 = .ok (.getfield 12, 3) := by decide +kernel
theorem dX6_addressOf_8 : decode cX6_addressOf 8 = .ok (.getfield 57, 3) := by decide +kernel
theorem dX6_addressOf_11 : decode cX6_addressOf 11 = .ok (.iload_n 1, 1) := by decide +kernel
theorem dX6_addressOf_12 : decode cX6_addressOf 12 = .ok (.iaload, 1) := by decide +kernel
theorem dX6_addressOf_13 : decode cX6_addressOf 13 = .ok (.ireturn, 1) := by decide +kernel
set_option maxRecDepth 20000 in
theorem ggX6_room_X5_roomForWrites : GoodIn wsX6_room wsX5_roomForWrites := goodIn_r _ [6, 7, 8, 9, 10, 11, 12, 13, 14, 15, 16, 17, 18, 19, 20, 21, 22, 23, 24, 25, 26, 30, 31, 32, 33, 34, 35, 36, 37, 38, 39, 40, 41, 42, 43, 44, 45, 46] (by first | rfl | decide +kernel) (by decide +kernel)
set_option maxRecDepth 20000 in
theorem gX6_room_X5_roomForWrites : GoodIn wsX6_room (wsV RX6 46 RX5 yX5_roomForWrites wsX5_roomForWrites) := goodIn_app (goodIn_of _ (by decide +kernel)) ggX6_room_X5_roomForWrites
theorem dX6_room_0 : decode cX6_room 0 = .ok (.aload_n 0, 1) := by decide +kernel
theorem dX6_room_1 : decode cX6_room 1 = .ok (.getfield 12, 3) := by decide +kernel
theorem dX6_room_4 : decode cX6_room 4 = .ok (.invokevirtual 46, 3) := by decide +kernel
theorem dX6_room_7 : decode cX6_room 7 = .ok (.ireturn, 1) := by decide +kernel
set_option maxRecDepth 20000 in
theorem ggX6_versions_X6_checkKey : GoodIn wsX6_versions wsX6_checkKey := goodIn_ca (goodIn_r _ [6, 7, 8, 5, 9, 10, 11, 12, 13, 14] (by first | rfl | decide +kernel) (by decide +kernel)) (goodIn_sub (fun _ h => List.mem_cons_of_mem _ (List.mem_append_right _ h)) (by decide +kernel))
set_option maxRecDepth 20000 in
theorem gX6_versions_X6_checkKey : GoodIn wsX6_versions (va_wsS RX6 42 yX6_checkKey wsX6_checkKey) := goodIn_app (goodIn_of _ (by decide +kernel)) ggX6_versions_X6_checkKey
set_option maxRecDepth 20000 in
theorem ggX6_versions_X0_versionsOf : GoodIn wsX6_versions wsX0_versionsOf := goodIn_r _ [19, 20, 21, 22, 18, 23, 24, 25, 26, 27, 28, 29, 44, 45, 46, 47, 48, 49] (by first | rfl | decide +kernel) (by decide +kernel)
set_option maxRecDepth 20000 in
theorem gX6_versions_X0_versionsOf : GoodIn wsX6_versions (wsV RX6 77 RX0 yX0_versionsOf wsX0_versionsOf) := goodIn_app (goodIn_of _ (by decide +kernel)) ggX6_versions_X0_versionsOf
theorem dX6_versions_0 : decode cX6_versions 0 = .ok (.iload_n 1, 1) := by decide +kernel
theorem dX6_versions_1 : decode cX6_versions 1 = .ok (.invokestatic 42, 3) := by decide +kernel
theorem dX6_versions_4 : decode cX6_versions 4 = .ok (.aload_n 0, 1) := by decide +kernel
theorem dX6_versions_5 : decode cX6_versions 5 = .ok (.getfield 12, 3) := by decide +kernel
theorem dX6_versions_8 : decode cX6_versions 8 = .ok (.getfield 68, 3) := by decide +kernel
theorem dX6_versions_11 : decode cX6_versions 11 = .ok (.iload_n 1, 1) := by decide +kernel
theorem dX6_versions_12 : decode cX6_versions 12 = .ok (.invokevirtual 77, 3) := by decide +kernel
theorem dX6_versions_15 : decode cX6_versions 15 = .ok (.ireturn, 1) := by decide +kernel
set_option maxRecDepth 20000 in
theorem ggX6_version_X6_checkKey : GoodIn wsX6_version wsX6_checkKey := goodIn_ca (goodIn_r _ [6, 7, 8, 5, 9, 10, 11, 12, 13, 14] (by first | rfl | decide +kernel) (by decide +kernel)) (goodIn_sub (fun _ h => List.mem_cons_of_mem _ (List.mem_append_right _ h)) (by decide +kernel))
set_option maxRecDepth 20000 in
theorem gX6_version_X6_checkKey : GoodIn wsX6_version (va_wsS RX6 42 yX6_checkKey wsX6_checkKey) := goodIn_app (goodIn_of _ (by decide +kernel)) ggX6_version_X6_checkKey
set_option maxRecDepth 20000 in
theorem ggX6_version_X0_versionAt : GoodIn wsX6_version wsX0_versionAt := goodIn_r _ [19, 20, 21, 22, 18, 23, 24, 25, 26, 27, 28, 29, 44, 45, 46, 47, 48, 49] (by first | rfl | decide +kernel) (by decide +kernel)
set_option maxRecDepth 20000 in
theorem gX6_version_X0_versionAt : GoodIn wsX6_version (wsV RX6 80 RX0 yX0_versionAt wsX0_versionAt) := goodIn_app (goodIn_of _ (by decide +kernel)) ggX6_version_X0_versionAt
set_option maxRecDepth 20000 in
theorem ggX6_version_X6_checkIndex : GoodIn wsX6_version wsX6_checkIndex := goodIn_ca (goodIn_r _ [12, 13, 14] (by first | rfl | decide +kernel) (by decide +kernel)) (goodIn_sub (fun _ h => List.mem_cons_of_mem _ (List.mem_append_right _ h)) (by decide +kernel))
set_option maxRecDepth 20000 in
theorem gX6_version_X6_checkIndex : GoodIn wsX6_version (va_wsS RX6 83 yX6_checkIndex wsX6_checkIndex) := goodIn_app (goodIn_of _ (by decide +kernel)) ggX6_version_X6_checkIndex
theorem dX6_version_0 : decode cX6_version 0 = .ok (.iload_n 1, 1) := by decide +kernel
theorem dX6_version_1 : decode cX6_version 1 = .ok (.invokestatic 42, 3) := by decide +kernel
theorem dX6_version_4 : decode cX6_version 4 = .ok (.aload_n 0, 1) := by decide +kernel
theorem dX6_version_5 : decode cX6_version 5 = .ok (.getfield 12, 3) := by decide +kernel
theorem dX6_version_8 : decode cX6_version 8 = .ok (.getfield 68, 3) := by decide +kernel
theorem dX6_version_11 : decode cX6_version 11 = .ok (.iload_n 1, 1) := by decide +kernel
theorem dX6_version_12 : decode cX6_version 12 = .ok (.iload_n 2, 1) := by decide +kernel
theorem dX6_version_13 : decode cX6_version 13 = .ok (.invokevirtual 80, 3) := by decide +kernel
theorem dX6_version_16 : decode cX6_version 16 = .ok (.istore_n 3, 1) := by decide +kernel
theorem dX6_version_17 : decode cX6_version 17 = .ok (.iload_n 3, 1) := by decide +kernel
theorem dX6_version_18 : decode cX6_version 18 = .ok (.iconst (-1), 1) := by decide +kernel
theorem dX6_version_19 : decode cX6_version 19 = .ok (.if_icmp .eq 7, 3) := by decide +kernel
theorem dX6_version_22 : decode cX6_version 22 = .ok (.iconst 1, 1) := by decide +kernel
theorem dX6_version_23 : decode cX6_version 23 = .ok (.goto 4, 3) := by decide +kernel
theorem dX6_version_26 : decode cX6_version 26 = .ok (.iconst 0, 1) := by decide +kernel
theorem dX6_version_27 : decode cX6_version 27 = .ok (.invokestatic 83, 3) := by decide +kernel
theorem dX6_version_30 : decode cX6_version 30 = .ok (.iload_n 3, 1) := by decide +kernel
theorem dX6_version_31 : decode cX6_version 31 = .ok (.ireturn, 1) := by decide +kernel
set_option maxRecDepth 20000 in
theorem ggX6_takeSnapshot_X6_checkSnapshot : GoodIn wsX6_takeSnapshot wsX6_checkSnapshot := goodIn_ca (goodIn_r _ [9, 10, 11, 8, 12, 13, 14, 15, 16, 17] (by first | rfl | decide +kernel) (by decide +kernel)) (goodIn_sub (fun _ h => List.mem_cons_of_mem _ (List.mem_append_left _ (List.mem_append_right _ h))) (by decide +kernel))
set_option maxRecDepth 20000 in
theorem gX6_takeSnapshot_X6_checkSnapshot : GoodIn wsX6_takeSnapshot (va_wsS RX6 86 yX6_checkSnapshot wsX6_checkSnapshot) := goodIn_app (goodIn_of _ (by decide +kernel)) ggX6_takeSnapshot_X6_checkSnapshot
set_option maxRecDepth 20000 in
theorem ggX6_takeSnapshot_X6_checkState : GoodIn wsX6_takeSnapshot wsX6_checkState := goodIn_ca (goodIn_r _ [20, 21, 22] (by first | rfl | decide +kernel) (by decide +kernel)) (goodIn_sub (fun _ h => List.mem_cons_of_mem _ (List.mem_append_right _ h)) (by decide +kernel))
set_option maxRecDepth 20000 in
theorem gX6_takeSnapshot_X6_checkState : GoodIn wsX6_takeSnapshot (va_wsS RX6 50 yX6_checkState wsX6_checkState) := goodIn_app (goodIn_of _ (by decide +kernel)) ggX6_takeSnapshot_X6_checkState
set_option maxRecDepth 20000 in
theorem ggX6_takeSnapshot_X1_save : GoodIn wsX6_takeSnapshot wsX1_save := goodIn_r _ [27, 28, 29, 30, 31, 32, 33, 34, 35, 36, 37, 38, 39, 40, 41, 42, 43, 44, 45, 46, 47, 48, 49, 50, 51, 52, 53, 54, 55, 56, 57, 58, 59, 60, 61, 62, 63, 64, 65, 66, 67, 68, 69, 70, 71, 72, 73, 74, 75, 76, 77, 78, 79, 80, 81, 82, 83, 84, 85, 86, 87, 88, 89, 90, 91, 92, 93, 94, 115, 116, 117, 102, 103, 104, 105, 106, 107, 108, 109, 110, 111, 112, 118, 119, 120, 121, 122, 123, 124, 125, 126, 127, 128, 129, 130, 131, 113, 114] (by first | rfl | decide +kernel) (by decide +kernel)
set_option maxRecDepth 20000 in
theorem gX6_takeSnapshot_X1_save : GoodIn wsX6_takeSnapshot (wsV RX6 38 RX1 yX1_save wsX1_save) := goodIn_app (goodIn_of _ (by decide +kernel)) ggX6_takeSnapshot_X1_save
set_option maxRecDepth 20000 in
theorem ggX6_takeSnapshot_X4_take : GoodIn wsX6_takeSnapshot wsX4_take := goodIn_r _ [98, 92, 93, 113, 114] (by first | rfl | decide +kernel) (by decide +kernel)
set_option maxRecDepth 20000 in
theorem gX6_takeSnapshot_X4_take : GoodIn wsX6_takeSnapshot (wsV RX6 99 RX4 yX4_take wsX4_take) := goodIn_app (goodIn_of _ (by decide +kernel)) ggX6_takeSnapshot_X4_take
theorem dX6_takeSnapshot_0 : decode cX6_takeSnapshot 0 = .ok (.iload_n 1, 1) := by decide +kernel
theorem dX6_takeSnapshot_1 : decode cX6_takeSnapshot 1 = .ok (.invokestatic 86, 3) := by decide +kernel
theorem dX6_takeSnapshot_4 : decode cX6_takeSnapshot 4 = .ok (.aload_n 0, 1) := by decide +kernel
theorem dX6_takeSnapshot_5 : decode cX6_takeSnapshot 5 = .ok (.getfield 12, 3) := by decide +kernel
theorem dX6_takeSnapshot_8 : decode cX6_takeSnapshot 8 = .ok (.getfield 89, 3) := by decide +kernel
theorem dX6_takeSnapshot_11 : decode cX6_takeSnapshot 11 = .ok (.getfield 93, 3) := by decide +kernel
theorem dX6_takeSnapshot_14 : decode cX6_takeSnapshot 14 = .ok (.iload_n 1, 1) := by decide +kernel
theorem dX6_takeSnapshot_15 : decode cX6_takeSnapshot 15 = .ok (.baload, 1) := by decide +kernel
theorem dX6_takeSnapshot_16 : decode cX6_takeSnapshot 16 = .ok (.ifCond .ne 7, 3) := by decide +kernel
theorem dX6_takeSnapshot_19 : decode cX6_takeSnapshot 19 = .ok (.iconst 1, 1) := by decide +kernel
theorem dX6_takeSnapshot_20 : decode cX6_takeSnapshot 20 = .ok (.goto 4, 3) := by decide +kernel
theorem dX6_takeSnapshot_23 : decode cX6_takeSnapshot 23 = .ok (.iconst 0, 1) := by decide +kernel
theorem dX6_takeSnapshot_24 : decode cX6_takeSnapshot 24 = .ok (.invokestatic 50, 3) := by decide +kernel
theorem dX6_takeSnapshot_27 : decode cX6_takeSnapshot 27 = .ok (.aload_n 0, 1) := by decide +kernel
theorem dX6_takeSnapshot_28 : decode cX6_takeSnapshot 28 = .ok (.getfield 22, 3) := by decide +kernel
theorem dX6_takeSnapshot_31 : decode cX6_takeSnapshot 31 = .ok (.aload_n 0, 1) := by decide +kernel
theorem dX6_takeSnapshot_32 : decode cX6_takeSnapshot 32 = .ok (.getfield 12, 3) := by decide +kernel
theorem dX6_takeSnapshot_35 : decode cX6_takeSnapshot 35 = .ok (.invokevirtual 38, 3) := by decide +kernel
theorem dX6_takeSnapshot_38 : decode cX6_takeSnapshot 38 = .ok (.aload_n 0, 1) := by decide +kernel
theorem dX6_takeSnapshot_39 : decode cX6_takeSnapshot 39 = .ok (.getfield 12, 3) := by decide +kernel
theorem dX6_takeSnapshot_42 : decode cX6_takeSnapshot 42 = .ok (.getfield 89, 3) := by decide +kernel
theorem dX6_takeSnapshot_45 : decode cX6_takeSnapshot 45 = .ok (.iload_n 1, 1) := by decide +kernel
theorem dX6_takeSnapshot_46 : decode cX6_takeSnapshot 46 = .ok (.aload_n 0, 1) := by decide +kernel
theorem dX6_takeSnapshot_47 : decode cX6_takeSnapshot 47 = .ok (.getfield 12, 3) := by decide +kernel
theorem dX6_takeSnapshot_50 : decode cX6_takeSnapshot 50 = .ok (.getfield 57, 3) := by decide +kernel
theorem dX6_takeSnapshot_53 : decode cX6_takeSnapshot 53 = .ok (.invokevirtual 99, 3) := by decide +kernel
theorem dX6_takeSnapshot_56 : decode cX6_takeSnapshot 56 = .ok (.ireturn, 1) := by decide +kernel
set_option maxRecDepth 20000 in
theorem ggX6_dropSnapshot_X6_checkTaken : GoodIn wsX6_dropSnapshot wsX6_checkTaken := goodIn_ca (goodIn_ca (goodIn_r _ [7, 2, 8, 9, 10, 11, 6, 12, 13, 14, 15, 16, 17, 18, 19, 20, 21, 22, 23, 24, 25, 128, 129, 130, 131, 132, 133, 134, 135, 136, 137, 138, 139, 140, 141, 142, 143] (by first | rfl | decide +kernel) (by decide +kernel)) (goodIn_sub (fun _ h => List.mem_cons_of_mem _ (List.mem_append_left _ (List.mem_append_right _ h))) (by decide +kernel))) (goodIn_sub (fun _ h => List.mem_cons_of_mem _ (List.mem_append_right _ h)) (by decide +kernel))
set_option maxRecDepth 20000 in
theorem gX6_dropSnapshot_X6_checkTaken : GoodIn wsX6_dropSnapshot (wsV RX6 103 RX6 yX6_checkTaken wsX6_checkTaken) := goodIn_app (goodIn_of _ (by decide +kernel)) ggX6_dropSnapshot_X6_checkTaken
set_option maxRecDepth 20000 in
theorem ggX6_dropSnapshot_X1_save : GoodIn wsX6_dropSnapshot wsX1_save := goodIn_r _ [30, 31, 32, 33, 34, 35, 36, 37, 38, 39, 40, 41, 42, 43, 44, 45, 46, 47, 48, 49, 50, 51, 52, 53, 54, 55, 56, 57, 58, 59, 60, 61, 62, 63, 64, 65, 66, 67, 68, 69, 70, 71, 72, 73, 74, 75, 76, 77, 78, 79, 80, 81, 82, 83, 84, 85, 86, 87, 88, 89, 90, 91, 92, 93, 94, 95, 96, 97, 144, 145, 146, 131, 132, 133, 134, 135, 136, 137, 138, 139, 140, 141, 147, 148, 149, 150, 151, 152, 153, 154, 155, 156, 157, 158, 159, 160, 142, 143] (by first | rfl | decide +kernel) (by decide +kernel)
set_option maxRecDepth 20000 in
theorem gX6_dropSnapshot_X1_save : GoodIn wsX6_dropSnapshot (wsV RX6 38 RX1 yX1_save wsX1_save) := goodIn_app (goodIn_of _ (by decide +kernel)) ggX6_dropSnapshot_X1_save
set_option maxRecDepth 20000 in
theorem ggX6_dropSnapshot_X5_forgetSnapshot : GoodIn wsX6_dropSnapshot wsX5_forgetSnapshot := goodIn_r _ [101, 44, 46, 53, 102, 103, 104, 41, 105, 106, 107, 108, 109, 93, 110, 96, 111, 112, 113, 114, 115, 116, 117, 118, 119, 120, 121, 122, 73, 123, 75, 80, 124, 125, 126, 127, 95, 131, 132, 133, 134, 135, 136, 137, 138, 139, 140, 141, 153, 154, 155, 156, 157, 158, 142, 143] (by first | rfl | decide +kernel) (by decide +kernel)
set_option maxRecDepth 20000 in
theorem gX6_dropSnapshot_X5_forgetSnapshot : GoodIn wsX6_dropSnapshot (wsV RX6 106 RX5 yX5_forgetSnapshot wsX5_forgetSnapshot) := goodIn_app (goodIn_of _ (by decide +kernel)) ggX6_dropSnapshot_X5_forgetSnapshot
theorem dX6_dropSnapshot_0 : decode cX6_dropSnapshot 0 = .ok (.aload_n 0, 1) := by decide +kernel
theorem dX6_dropSnapshot_1 : decode cX6_dropSnapshot 1 = .ok (.iload_n 1, 1) := by decide +kernel
theorem dX6_dropSnapshot_2 : decode cX6_dropSnapshot 2 = .ok (.invokevirtual 103, 3) := by decide +kernel
theorem dX6_dropSnapshot_5 : decode cX6_dropSnapshot 5 = .ok (.aload_n 0, 1) := by decide +kernel
theorem dX6_dropSnapshot_6 : decode cX6_dropSnapshot 6 = .ok (.getfield 22, 3) := by decide +kernel
theorem dX6_dropSnapshot_9 : decode cX6_dropSnapshot 9 = .ok (.aload_n 0, 1) := by decide +kernel
theorem dX6_dropSnapshot_10 : decode cX6_dropSnapshot 10 = .ok (.getfield 12, 3) := by decide +kernel
theorem dX6_dropSnapshot_13 : decode cX6_dropSnapshot 13 = .ok (.invokevirtual 38, 3) := by decide +kernel
theorem dX6_dropSnapshot_16 : decode cX6_dropSnapshot 16 = .ok (.aload_n 0, 1) := by decide +kernel
theorem dX6_dropSnapshot_17 : decode cX6_dropSnapshot 17 = .ok (.getfield 12, 3) := by decide +kernel
theorem dX6_dropSnapshot_20 : decode cX6_dropSnapshot 20 = .ok (.iload_n 1, 1) := by decide +kernel
theorem dX6_dropSnapshot_21 : decode cX6_dropSnapshot 21 = .ok (.invokevirtual 106, 3) := by decide +kernel
theorem dX6_dropSnapshot_24 : decode cX6_dropSnapshot 24 = .ok (.ireturn, 1) := by decide +kernel
set_option maxRecDepth 20000 in
theorem ggX6_rollBack_X6_checkTaken : GoodIn wsX6_rollBack wsX6_checkTaken := goodIn_ca (goodIn_ca (goodIn_r _ [7, 2, 8, 9, 10, 11, 6, 12, 13, 14, 15, 16, 17, 18, 19, 20, 21, 22, 23, 24, 25, 128, 129, 130, 131, 132, 133, 134, 135, 136, 137, 138, 139, 140, 141, 142, 143] (by first | rfl | decide +kernel) (by decide +kernel)) (goodIn_sub (fun _ h => List.mem_cons_of_mem _ (List.mem_append_left _ (List.mem_append_right _ h))) (by decide +kernel))) (goodIn_sub (fun _ h => List.mem_cons_of_mem _ (List.mem_append_right _ h)) (by decide +kernel))
set_option maxRecDepth 20000 in
theorem gX6_rollBack_X6_checkTaken : GoodIn wsX6_rollBack (wsV RX6 103 RX6 yX6_checkTaken wsX6_checkTaken) := goodIn_app (goodIn_of _ (by decide +kernel)) ggX6_rollBack_X6_checkTaken
set_option maxRecDepth 20000 in
theorem ggX6_rollBack_X1_save : GoodIn wsX6_rollBack wsX1_save := goodIn_r _ [30, 31, 32, 33, 34, 35, 36, 37, 38, 39, 40, 41, 42, 43, 44, 45, 46, 47, 48, 49, 50, 51, 52, 53, 54, 55, 56, 57, 58, 59, 60, 61, 62, 63, 64, 65, 66, 67, 68, 69, 70, 71, 72, 73, 74, 75, 76, 77, 78, 79, 80, 81, 82, 83, 84, 85, 86, 87, 88, 89, 90, 91, 92, 93, 94, 95, 96, 97, 144, 145, 146, 131, 132, 133, 134, 135, 136, 137, 138, 139, 140, 141, 147, 148, 149, 150, 151, 152, 153, 154, 155, 156, 157, 158, 159, 160, 142, 143] (by first | rfl | decide +kernel) (by decide +kernel)
set_option maxRecDepth 20000 in
theorem gX6_rollBack_X1_save : GoodIn wsX6_rollBack (wsV RX6 38 RX1 yX1_save wsX1_save) := goodIn_app (goodIn_of _ (by decide +kernel)) ggX6_rollBack_X1_save
set_option maxRecDepth 20000 in
theorem ggX6_rollBack_X5_returnTo : GoodIn wsX6_rollBack wsX5_returnTo := goodIn_r _ [101, 46, 47, 44, 102, 103, 104, 105, 93, 106, 96, 107, 108, 109, 41, 110, 53, 111, 112, 113, 114, 115, 116, 117, 118, 119, 120, 121, 122, 123, 124, 125, 126, 73, 127, 75, 80, 131, 132, 133, 134, 135, 136, 137, 138, 139, 140, 141, 153, 154, 155, 156, 157, 158, 142, 143] (by first | rfl | decide +kernel) (by decide +kernel)
set_option maxRecDepth 20000 in
theorem gX6_rollBack_X5_returnTo : GoodIn wsX6_rollBack (wsV RX6 109 RX5 yX5_returnTo wsX5_returnTo) := goodIn_app (goodIn_of _ (by decide +kernel)) ggX6_rollBack_X5_returnTo
theorem dX6_rollBack_0 : decode cX6_rollBack 0 = .ok (.aload_n 0, 1) := by decide +kernel
theorem dX6_rollBack_1 : decode cX6_rollBack 1 = .ok (.iload_n 1, 1) := by decide +kernel
theorem dX6_rollBack_2 : decode cX6_rollBack 2 = .ok (.invokevirtual 103, 3) := by decide +kernel
theorem dX6_rollBack_5 : decode cX6_rollBack 5 = .ok (.aload_n 0, 1) := by decide +kernel
theorem dX6_rollBack_6 : decode cX6_rollBack 6 = .ok (.getfield 22, 3) := by decide +kernel
theorem dX6_rollBack_9 : decode cX6_rollBack 9 = .ok (.aload_n 0, 1) := by decide +kernel
theorem dX6_rollBack_10 : decode cX6_rollBack 10 = .ok (.getfield 12, 3) := by decide +kernel
theorem dX6_rollBack_13 : decode cX6_rollBack 13 = .ok (.invokevirtual 38, 3) := by decide +kernel
theorem dX6_rollBack_16 : decode cX6_rollBack 16 = .ok (.aload_n 0, 1) := by decide +kernel
theorem dX6_rollBack_17 : decode cX6_rollBack 17 = .ok (.getfield 12, 3) := by decide +kernel
theorem dX6_rollBack_20 : decode cX6_rollBack 20 = .ok (.iload_n 1, 1) := by decide +kernel
theorem dX6_rollBack_21 : decode cX6_rollBack 21 = .ok (.invokevirtual 109, 3) := by decide +kernel
theorem dX6_rollBack_24 : decode cX6_rollBack 24 = .ok (.ireturn, 1) := by decide +kernel
set_option maxRecDepth 20000 in
theorem ggX6_getFrom_X6_checkKey : GoodIn wsX6_getFrom wsX6_checkKey := goodIn_ca (goodIn_r _ [8, 9, 10, 7, 11, 12, 13, 14, 15, 16] (by first | rfl | decide +kernel) (by decide +kernel)) (goodIn_sub (fun _ h => List.mem_cons_of_mem _ (List.mem_append_left _ (List.mem_append_left _ (List.mem_append_right _ h)))) (by decide +kernel))
set_option maxRecDepth 20000 in
theorem gX6_getFrom_X6_checkKey : GoodIn wsX6_getFrom (va_wsS RX6 42 yX6_checkKey wsX6_checkKey) := goodIn_app (goodIn_of _ (by decide +kernel)) ggX6_getFrom_X6_checkKey
set_option maxRecDepth 20000 in
theorem ggX6_getFrom_X6_checkTaken : GoodIn wsX6_getFrom wsX6_checkTaken := goodIn_ca (goodIn_ca (goodIn_r _ [20, 1, 2, 21, 22, 23, 7, 24, 9, 10, 11, 12, 13, 14, 15, 16, 25, 26, 27, 28, 29, 41, 42, 43, 44, 45, 46, 47, 48, 49, 50, 51, 52, 53, 54, 61, 62] (by first | rfl | decide +kernel) (by decide +kernel)) (goodIn_sub (fun _ h => List.mem_cons_of_mem _ (List.mem_append_left _ (List.mem_append_left _ (List.mem_append_right _ h)))) (by decide +kernel))) (goodIn_sub (fun _ h => List.mem_cons_of_mem _ (List.mem_append_left _ (List.mem_append_right _ h))) (by decide +kernel))
set_option maxRecDepth 20000 in
theorem gX6_getFrom_X6_checkTaken : GoodIn wsX6_getFrom (wsV RX6 103 RX6 yX6_checkTaken wsX6_checkTaken) := goodIn_app (goodIn_of _ (by decide +kernel)) ggX6_getFrom_X6_checkTaken
set_option maxRecDepth 20000 in
theorem ggX6_getFrom_X4_blockOf : GoodIn wsX6_getFrom wsX4_blockOf := goodIn_r _ [34, 35, 61, 62] (by first | rfl | decide +kernel) (by decide +kernel)
set_option maxRecDepth 20000 in
theorem gX6_getFrom_X4_blockOf : GoodIn wsX6_getFrom (wsV RX6 112 RX4 yX4_blockOf wsX4_blockOf) := goodIn_app (goodIn_of _ (by decide +kernel)) ggX6_getFrom_X4_blockOf
set_option maxRecDepth 20000 in
theorem ggX6_getFrom_X6_checkElement : GoodIn wsX6_getFrom wsX6_checkElement := goodIn_ca (goodIn_r _ [38, 39, 40] (by first | rfl | decide +kernel) (by decide +kernel)) (goodIn_sub (fun _ h => List.mem_cons_of_mem _ (List.mem_append_right _ h)) (by decide +kernel))
set_option maxRecDepth 20000 in
theorem gX6_getFrom_X6_checkElement : GoodIn wsX6_getFrom (va_wsS RX6 61 yX6_checkElement wsX6_checkElement) := goodIn_app (goodIn_of _ (by decide +kernel)) ggX6_getFrom_X6_checkElement
theorem dX6_getFrom_0 : decode cX6_getFrom 0 = .ok (.iload_n 2, 1) := by decide +kernel
theorem dX6_getFrom_1 : decode cX6_getFrom 1 = .ok (.invokestatic 42, 3) := by decide +kernel
theorem dX6_getFrom_4 : decode cX6_getFrom 4 = .ok (.aload_n 0, 1) := by decide +kernel
theorem dX6_getFrom_5 : decode cX6_getFrom 5 = .ok (.iload_n 1, 1) := by decide +kernel
theorem dX6_getFrom_6 : decode cX6_getFrom 6 = .ok (.invokevirtual 103, 3) := by decide +kernel
theorem dX6_getFrom_9 : decode cX6_getFrom 9 = .ok (.aload_n 0, 1) := by decide +kernel
theorem dX6_getFrom_10 : decode cX6_getFrom 10 = .ok (.getfield 12, 3) := by decide +kernel
theorem dX6_getFrom_13 : decode cX6_getFrom 13 = .ok (.getfield 89, 3) := by decide +kernel
theorem dX6_getFrom_16 : decode cX6_getFrom 16 = .ok (.iload_n 1, 1) := by decide +kernel
theorem dX6_getFrom_17 : decode cX6_getFrom 17 = .ok (.iload_n 2, 1) := by decide +kernel
theorem dX6_getFrom_18 : decode cX6_getFrom 18 = .ok (.invokevirtual 112, 3) := by decide +kernel
theorem dX6_getFrom_21 : decode cX6_getFrom 21 = .ok (.istore_n 3, 1) := by decide +kernel
theorem dX6_getFrom_22 : decode cX6_getFrom 22 = .ok (.iload_n 3, 1) := by decide +kernel
theorem dX6_getFrom_23 : decode cX6_getFrom 23 = .ok (.iconst (-1), 1) := by decide +kernel
theorem dX6_getFrom_24 : decode cX6_getFrom 24 = .ok (.if_icmp .eq 7, 3) := by decide +kernel
theorem dX6_getFrom_27 : decode cX6_getFrom 27 = .ok (.iconst 1, 1) := by decide +kernel
theorem dX6_getFrom_28 : decode cX6_getFrom 28 = .ok (.goto 4, 3) := by decide +kernel
theorem dX6_getFrom_31 : decode cX6_getFrom 31 = .ok (.iconst 0, 1) := by decide +kernel
theorem dX6_getFrom_32 : decode cX6_getFrom 32 = .ok (.invokestatic 61, 3) := by decide +kernel
theorem dX6_getFrom_35 : decode cX6_getFrom 35 = .ok (.aload_n 0, 1) := by decide +kernel
theorem dX6_getFrom_36 : decode cX6_getFrom 36 = .ok (.getfield 12, 3) := by decide +kernel
theorem dX6_getFrom_39 : decode cX6_getFrom 39 = .ok (.getfield 68, 3) := by decide +kernel
theorem dX6_getFrom_42 : decode cX6_getFrom 42 = .ok (.getfield 72, 3) := by decide +kernel
theorem dX6_getFrom_45 : decode cX6_getFrom 45 = .ok (.iload_n 3, 1) := by decide +kernel
theorem dX6_getFrom_46 : decode cX6_getFrom 46 = .ok (.iaload, 1) := by decide +kernel
theorem dX6_getFrom_47 : decode cX6_getFrom 47 = .ok (.ireturn, 1) := by decide +kernel
set_option maxRecDepth 20000 in
theorem ggX6_changedSince_X6_checkTaken : GoodIn wsX6_changedSince wsX6_checkTaken := goodIn_ca (goodIn_ca (goodIn_r _ [8, 1, 2, 9, 10, 11, 7, 12, 13, 14, 15, 16, 17, 18, 19, 20, 21, 22, 23, 24, 25, 32, 33, 34, 35, 36, 37, 38, 39, 40, 41, 42, 43, 44, 45, 46, 47] (by first | rfl | decide +kernel) (by decide +kernel)) (goodIn_sub (fun _ h => List.mem_cons_of_mem _ (List.mem_append_left _ (List.mem_append_right _ h))) (by decide +kernel))) (goodIn_sub (fun _ h => List.mem_cons_of_mem _ (List.mem_append_right _ h)) (by decide +kernel))
set_option maxRecDepth 20000 in
theorem gX6_changedSince_X6_checkTaken : GoodIn wsX6_changedSince (wsV RX6 103 RX6 yX6_checkTaken wsX6_checkTaken) := goodIn_app (goodIn_of _ (by decide +kernel)) ggX6_changedSince_X6_checkTaken
set_option maxRecDepth 20000 in
theorem ggX6_changedSince_X4_blockOf : GoodIn wsX6_changedSince wsX4_blockOf := goodIn_r _ [30, 31, 46, 47] (by first | rfl | decide +kernel) (by decide +kernel)
set_option maxRecDepth 20000 in
theorem gX6_changedSince_X4_blockOf : GoodIn wsX6_changedSince (wsV RX6 112 RX4 yX4_blockOf wsX4_blockOf) := goodIn_app (goodIn_of _ (by decide +kernel)) ggX6_changedSince_X4_blockOf
theorem dX6_changedSince_0 : decode cX6_changedSince 0 = .ok (.aload_n 0, 1) := by decide +kernel
theorem dX6_changedSince_1 : decode cX6_changedSince 1 = .ok (.iload_n 1, 1) := by decide +kernel
theorem dX6_changedSince_2 : decode cX6_changedSince 2 = .ok (.invokevirtual 103, 3) := by decide +kernel
theorem dX6_changedSince_5 : decode cX6_changedSince 5 = .ok (.iconst 0, 1) := by decide +kernel
theorem dX6_changedSince_6 : decode cX6_changedSince 6 = .ok (.istore_n 2, 1) := by decide +kernel
theorem dX6_changedSince_7 : decode cX6_changedSince 7 = .ok (.iconst 0, 1) := by decide +kernel
theorem dX6_changedSince_8 : decode cX6_changedSince 8 = .ok (.istore_n 3, 1) := by decide +kernel
theorem dX6_changedSince_9 : decode cX6_changedSince 9 = .ok (.iload_n 3, 1) := by decide +kernel
theorem dX6_changedSince_10 : decode cX6_changedSince 10 = .ok (.bipush 24, 2) := by decide +kernel
theorem dX6_changedSince_12 : decode cX6_changedSince 12 = .ok (.if_icmp .ge 36, 3) := by decide +kernel
theorem dX6_changedSince_15 : decode cX6_changedSince 15 = .ok (.aload_n 0, 1) := by decide +kernel
theorem dX6_changedSince_16 : decode cX6_changedSince 16 = .ok (.getfield 12, 3) := by decide +kernel
theorem dX6_changedSince_19 : decode cX6_changedSince 19 = .ok (.getfield 89, 3) := by decide +kernel
theorem dX6_changedSince_22 : decode cX6_changedSince 22 = .ok (.iload_n 1, 1) := by decide +kernel
theorem dX6_changedSince_23 : decode cX6_changedSince 23 = .ok (.iload_n 3, 1) := by decide +kernel
theorem dX6_changedSince_24 : decode cX6_changedSince 24 = .ok (.invokevirtual 112, 3) := by decide +kernel
theorem dX6_changedSince_27 : decode cX6_changedSince 27 = .ok (.aload_n 0, 1) := by decide +kernel
theorem dX6_changedSince_28 : decode cX6_changedSince 28 = .ok (.getfield 12, 3) := by decide +kernel
theorem dX6_changedSince_31 : decode cX6_changedSince 31 = .ok (.getfield 57, 3) := by decide +kernel
theorem dX6_changedSince_34 : decode cX6_changedSince 34 = .ok (.iload_n 3, 1) := by decide +kernel
theorem dX6_changedSince_35 : decode cX6_changedSince 35 = .ok (.iaload, 1) := by decide +kernel
theorem dX6_changedSince_36 : decode cX6_changedSince 36 = .ok (.if_icmp .eq 6, 3) := by decide +kernel
theorem dX6_changedSince_39 : decode cX6_changedSince 39 = .ok (.iinc 2 1, 3) := by decide +kernel
theorem dX6_changedSince_42 : decode cX6_changedSince 42 = .ok (.iinc 3 1, 3) := by decide +kernel
theorem dX6_changedSince_45 : decode cX6_changedSince 45 = .ok (.goto (-36), 3) := by decide +kernel
theorem dX6_changedSince_48 : decode cX6_changedSince 48 = .ok (.iload_n 2, 1) := by decide +kernel
theorem dX6_changedSince_49 : decode cX6_changedSince 49 = .ok (.ireturn, 1) := by decide +kernel
set_option maxRecDepth 20000 in
theorem ggX6_difference_X6_checkSnapshot : GoodIn wsX6_difference wsX6_checkSnapshot := goodIn_ca (goodIn_r _ [6, 7, 8, 5, 9, 10, 11, 12, 13, 14] (by first | rfl | decide +kernel) (by decide +kernel)) (goodIn_sub (fun _ h => List.mem_cons_of_mem _ (List.mem_append_left _ (List.mem_append_right _ h))) (by decide +kernel))
set_option maxRecDepth 20000 in
theorem gX6_difference_X6_checkSnapshot : GoodIn wsX6_difference (va_wsS RX6 86 yX6_checkSnapshot wsX6_checkSnapshot) := goodIn_app (goodIn_of _ (by decide +kernel)) ggX6_difference_X6_checkSnapshot
set_option maxRecDepth 20000 in
theorem ggX6_difference_X6_checkTaken : GoodIn wsX6_difference wsX6_checkTaken := goodIn_ca (goodIn_ca (goodIn_r _ [18, 1, 2, 19, 3, 4, 5, 6, 7, 8, 9, 10, 11, 12, 13, 14, 20, 21, 22, 23, 24, 31, 32, 33, 34, 35, 36, 37, 38, 39, 40, 41, 42, 43, 44, 45, 46] (by first | rfl | decide +kernel) (by decide +kernel)) (goodIn_sub (fun _ h => List.mem_cons_of_mem _ (List.mem_append_left _ (List.mem_append_right _ h))) (by decide +kernel))) (goodIn_sub (fun _ h => List.mem_cons_of_mem _ (List.mem_append_right _ h)) (by decide +kernel))
set_option maxRecDepth 20000 in
theorem gX6_difference_X6_checkTaken : GoodIn wsX6_difference (wsV RX6 103 RX6 yX6_checkTaken wsX6_checkTaken) := goodIn_app (goodIn_of _ (by decide +kernel)) ggX6_difference_X6_checkTaken
set_option maxRecDepth 20000 in
theorem ggX6_difference_X4_blockOf : GoodIn wsX6_difference wsX4_blockOf := goodIn_r _ [29, 30, 45, 46] (by first | rfl | decide +kernel) (by decide +kernel)
set_option maxRecDepth 20000 in
theorem gX6_difference_X4_blockOf : GoodIn wsX6_difference (wsV RX6 112 RX4 yX4_blockOf wsX4_blockOf) := goodIn_app (goodIn_of _ (by decide +kernel)) ggX6_difference_X4_blockOf
theorem dX6_difference_0 : decode cX6_difference 0 = .ok (.iload_n 1, 1) := by decide +kernel
theorem dX6_difference_1 : decode cX6_difference 1 = .ok (.invokestatic 86, 3) := by decide +kernel
theorem dX6_difference_4 : decode cX6_difference 4 = .ok (.iload_n 2, 1) := by decide +kernel
theorem dX6_difference_5 : decode cX6_difference 5 = .ok (.invokestatic 86, 3) := by decide +kernel
theorem dX6_difference_8 : decode cX6_difference 8 = .ok (.aload_n 0, 1) := by decide +kernel
theorem dX6_difference_9 : decode cX6_difference 9 = .ok (.iload_n 1, 1) := by decide +kernel
theorem dX6_difference_10 : decode cX6_difference 10 = .ok (.invokevirtual 103, 3) := by decide +kernel
theorem dX6_difference_13 : decode cX6_difference 13 = .ok (.aload_n 0, 1) := by decide +kernel
theorem dX6_difference_14 : decode cX6_difference 14 = .ok (.iload_n 2, 1) := by decide +kernel
theorem dX6_difference_15 : decode cX6_difference 15 = .ok (.invokevirtual 103, 3) := by decide +kernel
theorem dX6_difference_18 : decode cX6_difference 18 = .ok (.iconst 0, 1) := by decide +kernel
theorem dX6_difference_19 : decode cX6_difference 19 = .ok (.istore_n 3, 1) := by decide +kernel
theorem dX6_difference_20 : decode cX6_difference 20 = .ok (.iconst 0, 1) := by decide +kernel
theorem dX6_difference_21 : decode cX6_difference 21 = .ok (.istore 4, 2) := by decide +kernel
theorem dX6_difference_23 : decode cX6_difference 23 = .ok (.iload 4, 2) := by decide +kernel
theorem dX6_difference_25 : decode cX6_difference 25 = .ok (.bipush 24, 2) := by decide +kernel
theorem dX6_difference_27 : decode cX6_difference 27 = .ok (.if_icmp .ge 41, 3) := by decide +kernel
theorem dX6_difference_30 : decode cX6_difference 30 = .ok (.aload_n 0, 1) := by decide +kernel
theorem dX6_difference_31 : decode cX6_difference 31 = .ok (.getfield 12, 3) := by decide +kernel
theorem dX6_difference_34 : decode cX6_difference 34 = .ok (.getfield 89, 3) := by decide +kernel
theorem dX6_difference_37 : decode cX6_difference 37 = .ok (.iload_n 1, 1) := by decide +kernel
theorem dX6_difference_38 : decode cX6_difference 38 = .ok (.iload 4, 2) := by decide +kernel
theorem dX6_difference_40 : decode cX6_difference 40 = .ok (.invokevirtual 112, 3) := by decide +kernel
theorem dX6_difference_43 : decode cX6_difference 43 = .ok (.aload_n 0, 1) := by decide +kernel
theorem dX6_difference_44 : decode cX6_difference 44 = .ok (.getfield 12, 3) := by decide +kernel
theorem dX6_difference_47 : decode cX6_difference 47 = .ok (.getfield 89, 3) := by decide +kernel
theorem dX6_difference_50 : decode cX6_difference 50 = .ok (.iload_n 2, 1) := by decide +kernel
theorem dX6_difference_51 : decode cX6_difference 51 = .ok (.iload 4, 2) := by decide +kernel
theorem dX6_difference_53 : decode cX6_difference 53 = .ok (.invokevirtual 112, 3) := by decide +kernel
theorem dX6_difference_56 : decode cX6_difference 56 = .ok (.if_icmp .eq 6, 3) := by decide +kernel
theorem dX6_difference_59 : decode cX6_difference 59 = .ok (.iinc 3 1, 3) := by decide +kernel
theorem dX6_difference_62 : decode cX6_difference 62 = .ok (.iinc 4 1, 3) := by decide +kernel
theorem dX6_difference_65 : decode cX6_difference 65 = .ok (.goto (-42), 3) := by decide +kernel
theorem dX6_difference_68 : decode cX6_difference 68 = .ok (.iload_n 3, 1) := by decide +kernel
theorem dX6_difference_69 : decode cX6_difference 69 = .ok (.ireturn, 1) := by decide +kernel
set_option maxRecDepth 20000 in
theorem ggX6_ownBlocks_X6_checkTaken : GoodIn wsX6_ownBlocks wsX6_checkTaken := goodIn_ca (goodIn_ca (goodIn_r _ [6, 1, 7, 8, 9, 10, 5, 11, 12, 13, 14, 15, 16, 17, 18, 19, 20, 21, 22, 23, 24, 48, 49, 50, 51, 52, 53, 54, 55, 56, 57, 58, 59, 60, 61, 62, 63] (by first | rfl | decide +kernel) (by decide +kernel)) (goodIn_sub (fun _ h => List.mem_cons_of_mem _ (List.mem_append_left _ (List.mem_append_right _ h))) (by decide +kernel))) (goodIn_sub (fun _ h => List.mem_cons_of_mem _ (List.mem_append_right _ h)) (by decide +kernel))
set_option maxRecDepth 20000 in
theorem gX6_ownBlocks_X6_checkTaken : GoodIn wsX6_ownBlocks (wsV RX6 103 RX6 yX6_checkTaken wsX6_checkTaken) := goodIn_app (goodIn_of _ (by decide +kernel)) ggX6_ownBlocks_X6_checkTaken
set_option maxRecDepth 20000 in
theorem ggX6_ownBlocks_X5_isOwn : GoodIn wsX6_ownBlocks wsX5_isOwn := goodIn_r _ [29, 30, 31, 32, 33, 34, 35, 36, 37, 38, 39, 40, 41, 42, 43, 44, 45, 46, 47, 51, 52, 53, 54, 55, 56, 57, 58, 59, 60, 61, 64, 65, 66, 67, 68, 69, 62, 63] (by first | rfl | decide +kernel) (by decide +kernel)
set_option maxRecDepth 20000 in
theorem gX6_ownBlocks_X5_isOwn : GoodIn wsX6_ownBlocks (wsV RX6 115 RX5 yX5_isOwn wsX5_isOwn) := goodIn_app (goodIn_of _ (by decide +kernel)) ggX6_ownBlocks_X5_isOwn
theorem dX6_ownBlocks_0 : decode cX6_ownBlocks 0 = .ok (.aload_n 0, 1) := by decide +kernel
theorem dX6_ownBlocks_1 : decode cX6_ownBlocks 1 = .ok (.iload_n 1, 1) := by decide +kernel
theorem dX6_ownBlocks_2 : decode cX6_ownBlocks 2 = .ok (.invokevirtual 103, 3) := by decide +kernel
theorem dX6_ownBlocks_5 : decode cX6_ownBlocks 5 = .ok (.iconst 0, 1) := by decide +kernel
theorem dX6_ownBlocks_6 : decode cX6_ownBlocks 6 = .ok (.istore_n 2, 1) := by decide +kernel
theorem dX6_ownBlocks_7 : decode cX6_ownBlocks 7 = .ok (.iconst 0, 1) := by decide +kernel
theorem dX6_ownBlocks_8 : decode cX6_ownBlocks 8 = .ok (.istore_n 3, 1) := by decide +kernel
theorem dX6_ownBlocks_9 : decode cX6_ownBlocks 9 = .ok (.iload_n 3, 1) := by decide +kernel
theorem dX6_ownBlocks_10 : decode cX6_ownBlocks 10 = .ok (.bipush 24, 2) := by decide +kernel
theorem dX6_ownBlocks_12 : decode cX6_ownBlocks 12 = .ok (.if_icmp .ge 24, 3) := by decide +kernel
theorem dX6_ownBlocks_15 : decode cX6_ownBlocks 15 = .ok (.aload_n 0, 1) := by decide +kernel
theorem dX6_ownBlocks_16 : decode cX6_ownBlocks 16 = .ok (.getfield 12, 3) := by decide +kernel
theorem dX6_ownBlocks_19 : decode cX6_ownBlocks 19 = .ok (.iload_n 1, 1) := by decide +kernel
theorem dX6_ownBlocks_20 : decode cX6_ownBlocks 20 = .ok (.iload_n 3, 1) := by decide +kernel
theorem dX6_ownBlocks_21 : decode cX6_ownBlocks 21 = .ok (.invokevirtual 115, 3) := by decide +kernel
theorem dX6_ownBlocks_24 : decode cX6_ownBlocks 24 = .ok (.ifCond .eq 6, 3) := by decide +kernel
theorem dX6_ownBlocks_27 : decode cX6_ownBlocks 27 = .ok (.iinc 2 1, 3) := by decide +kernel
theorem dX6_ownBlocks_30 : decode cX6_ownBlocks 30 = .ok (.iinc 3 1, 3) := by decide +kernel
theorem dX6_ownBlocks_33 : decode cX6_ownBlocks 33 = .ok (.goto (-24), 3) := by decide +kernel
theorem dX6_ownBlocks_36 : decode cX6_ownBlocks 36 = .ok (.iload_n 2, 1) := by decide +kernel
theorem dX6_ownBlocks_37 : decode cX6_ownBlocks 37 = .ok (.ireturn, 1) := by decide +kernel
set_option maxRecDepth 20000 in
theorem ggX6_enter_X6_checkReader : GoodIn wsX6_enter wsX6_checkReader := goodIn_ca (goodIn_r _ [8, 9, 10, 7, 11, 12, 13, 14, 15, 16] (by first | rfl | decide +kernel) (by decide +kernel)) (goodIn_sub (fun _ h => List.mem_cons_of_mem _ (List.mem_append_left _ (List.mem_append_right _ h))) (by decide +kernel))
set_option maxRecDepth 20000 in
theorem gX6_enter_X6_checkReader : GoodIn wsX6_enter (va_wsS RX6 119 yX6_checkReader wsX6_checkReader) := goodIn_app (goodIn_of _ (by decide +kernel)) ggX6_enter_X6_checkReader
set_option maxRecDepth 20000 in
theorem ggX6_enter_X2_isInside : GoodIn wsX6_enter wsX2_isInside := goodIn_r _ [21, 22, 116, 117] (by first | rfl | decide +kernel) (by decide +kernel)
set_option maxRecDepth 20000 in
theorem gX6_enter_X2_isInside : GoodIn wsX6_enter (wsV RX6 126 RX2 yX2_isInside wsX2_isInside) := goodIn_app (goodIn_of _ (by decide +kernel)) ggX6_enter_X2_isInside
set_option maxRecDepth 20000 in
theorem ggX6_enter_X6_checkState : GoodIn wsX6_enter wsX6_checkState := goodIn_ca (goodIn_r _ [25, 26, 27] (by first | rfl | decide +kernel) (by decide +kernel)) (goodIn_sub (fun _ h => List.mem_cons_of_mem _ (List.mem_append_right _ h)) (by decide +kernel))
set_option maxRecDepth 20000 in
theorem gX6_enter_X6_checkState : GoodIn wsX6_enter (va_wsS RX6 50 yX6_checkState wsX6_checkState) := goodIn_app (goodIn_of _ (by decide +kernel)) ggX6_enter_X6_checkState
set_option maxRecDepth 20000 in
theorem ggX6_enter_X1_save : GoodIn wsX6_enter wsX1_save := goodIn_r _ [32, 33, 34, 35, 36, 37, 38, 39, 40, 41, 42, 43, 44, 45, 46, 47, 48, 49, 50, 51, 52, 53, 54, 55, 56, 57, 58, 59, 60, 61, 62, 63, 64, 65, 66, 67, 68, 69, 70, 71, 72, 73, 74, 75, 76, 77, 78, 79, 80, 81, 82, 83, 84, 85, 86, 20, 87, 22, 88, 89, 90, 91, 92, 93, 94, 95, 96, 97, 118, 119, 120, 105, 106, 107, 108, 109, 110, 111, 112, 113, 114, 115, 121, 122, 123, 124, 125, 126, 127, 128, 129, 130, 131, 132, 116, 117, 133, 134] (by first | rfl | decide +kernel) (by decide +kernel)
set_option maxRecDepth 20000 in
theorem gX6_enter_X1_save : GoodIn wsX6_enter (wsV RX6 38 RX1 yX1_save wsX1_save) := goodIn_app (goodIn_of _ (by decide +kernel)) ggX6_enter_X1_save
set_option maxRecDepth 20000 in
theorem ggX6_enter_X2_letIn : GoodIn wsX6_enter wsX2_letIn := goodIn_r _ [101, 22, 89, 116, 117] (by first | rfl | decide +kernel) (by decide +kernel)
set_option maxRecDepth 20000 in
theorem gX6_enter_X2_letIn : GoodIn wsX6_enter (wsV RX6 136 RX2 yX2_letIn wsX2_letIn) := goodIn_app (goodIn_of _ (by decide +kernel)) ggX6_enter_X2_letIn
theorem dX6_enter_0 : decode cX6_enter 0 = .ok (.iload_n 1, 1) := by decide +kernel
theorem dX6_enter_1 : decode cX6_enter 1 = .ok (.invokestatic 119, 3) := by decide +kernel
theorem dX6_enter_4 : decode cX6_enter 4 = .ok (.aload_n 0, 1) := by decide +kernel
theorem dX6_enter_5 : decode cX6_enter 5 = .ok (.getfield 12, 3) := by decide +kernel
theorem dX6_enter_8 : decode cX6_enter 8 = .ok (.getfield 122, 3) := by decide +kernel
theorem dX6_enter_11 : decode cX6_enter 11 = .ok (.iload_n 1, 1) := by decide +kernel
theorem dX6_enter_12 : decode cX6_enter 12 = .ok (.invokevirtual 126, 3) := by decide +kernel
theorem dX6_enter_15 : decode cX6_enter 15 = .ok (.ifCond .ne 7, 3) := by decide +kernel
theorem dX6_enter_18 : decode cX6_enter 18 = .ok (.iconst 1, 1) := by decide +kernel
theorem dX6_enter_19 : decode cX6_enter 19 = .ok (.goto 4, 3) := by decide +kernel
theorem dX6_enter_22 : decode cX6_enter 22 = .ok (.iconst 0, 1) := by decide +kernel
theorem dX6_enter_23 : decode cX6_enter 23 = .ok (.invokestatic 50, 3) := by decide +kernel
theorem dX6_enter_26 : decode cX6_enter 26 = .ok (.aload_n 0, 1) := by decide +kernel
theorem dX6_enter_27 : decode cX6_enter 27 = .ok (.getfield 22, 3) := by decide +kernel
theorem dX6_enter_30 : decode cX6_enter 30 = .ok (.aload_n 0, 1) := by decide +kernel
theorem dX6_enter_31 : decode cX6_enter 31 = .ok (.getfield 12, 3) := by decide +kernel
theorem dX6_enter_34 : decode cX6_enter 34 = .ok (.invokevirtual 38, 3) := by decide +kernel
theorem dX6_enter_37 : decode cX6_enter 37 = .ok (.aload_n 0, 1) := by decide +kernel
theorem dX6_enter_38 : decode cX6_enter 38 = .ok (.getfield 12, 3) := by decide +kernel
theorem dX6_enter_41 : decode cX6_enter 41 = .ok (.getfield 122, 3) := by decide +kernel
theorem dX6_enter_44 : decode cX6_enter 44 = .ok (.iload_n 1, 1) := by decide +kernel
theorem dX6_enter_45 : decode cX6_enter 45 = .ok (.aload_n 0, 1) := by decide +kernel
theorem dX6_enter_46 : decode cX6_enter 46 = .ok (.getfield 12, 3) := by decide +kernel
theorem dX6_enter_49 : decode cX6_enter 49 = .ok (.getfield 132, 3) := by decide +kernel
theorem dX6_enter_52 : decode cX6_enter 52 = .ok (.invokevirtual 136, 3) := by decide +kernel
theorem dX6_enter_55 : decode cX6_enter 55 = .ok (.aload_n 0, 1) := by decide +kernel
theorem dX6_enter_56 : decode cX6_enter 56 = .ok (.getfield 12, 3) := by decide +kernel
theorem dX6_enter_59 : decode cX6_enter 59 = .ok (.getfield 132, 3) := by decide +kernel
theorem dX6_enter_62 : decode cX6_enter 62 = .ok (.ireturn, 1) := by decide +kernel
set_option maxRecDepth 20000 in
theorem ggX6_leave_X6_checkReader : GoodIn wsX6_leave wsX6_checkReader := goodIn_ca (goodIn_r _ [9, 10, 11, 8, 12, 13, 14, 15, 16, 17] (by first | rfl | decide +kernel) (by decide +kernel)) (goodIn_sub (fun _ h => List.mem_cons_of_mem _ (List.mem_append_left _ (List.mem_append_right _ h))) (by decide +kernel))
set_option maxRecDepth 20000 in
theorem gX6_leave_X6_checkReader : GoodIn wsX6_leave (va_wsS RX6 119 yX6_checkReader wsX6_checkReader) := goodIn_app (goodIn_of _ (by decide +kernel)) ggX6_leave_X6_checkReader
set_option maxRecDepth 20000 in
theorem ggX6_leave_X6_checkState : GoodIn wsX6_leave wsX6_checkState := goodIn_ca (goodIn_r _ [20, 21, 22] (by first | rfl | decide +kernel) (by decide +kernel)) (goodIn_sub (fun _ h => List.mem_cons_of_mem _ (List.mem_append_right _ h)) (by decide +kernel))
set_option maxRecDepth 20000 in
theorem gX6_leave_X6_checkState : GoodIn wsX6_leave (va_wsS RX6 50 yX6_checkState wsX6_checkState) := goodIn_app (goodIn_of _ (by decide +kernel)) ggX6_leave_X6_checkState
set_option maxRecDepth 20000 in
theorem ggX6_leave_X1_save : GoodIn wsX6_leave wsX1_save := goodIn_r _ [27, 28, 29, 30, 31, 32, 33, 34, 35, 36, 37, 38, 39, 40, 41, 42, 43, 44, 45, 46, 47, 48, 49, 50, 51, 52, 53, 54, 55, 56, 57, 58, 59, 60, 61, 62, 63, 64, 65, 66, 67, 68, 69, 70, 71, 72, 73, 74, 75, 76, 77, 78, 79, 80, 81, 82, 83, 84, 85, 86, 87, 88, 89, 90, 91, 92, 93, 94, 131, 132, 133, 118, 119, 120, 121, 122, 123, 124, 125, 126, 127, 128, 134, 135, 136, 137, 138, 139, 140, 141, 142, 143, 144, 145, 129, 130, 146, 147] (by first | rfl | decide +kernel) (by decide +kernel)
set_option maxRecDepth 20000 in
theorem gX6_leave_X1_save : GoodIn wsX6_leave (wsV RX6 38 RX1 yX1_save wsX1_save) := goodIn_app (goodIn_of _ (by decide +kernel)) ggX6_leave_X1_save
set_option maxRecDepth 20000 in
theorem ggX6_leave_X2_sendOut : GoodIn wsX6_leave wsX2_sendOut := goodIn_r _ [98, 84, 86, 129, 130] (by first | rfl | decide +kernel) (by decide +kernel)
set_option maxRecDepth 20000 in
theorem gX6_leave_X2_sendOut : GoodIn wsX6_leave (wsV RX6 143 RX2 yX2_sendOut wsX2_sendOut) := goodIn_app (goodIn_of _ (by decide +kernel)) ggX6_leave_X2_sendOut
set_option maxRecDepth 20000 in
theorem ggX6_leave_X0_releaseAll : GoodIn wsX6_leave wsX0_releaseAll := goodIn_r _ [102, 103, 104, 105, 70, 106, 107, 108, 109, 110, 78, 111, 112, 113, 114, 140, 141, 142, 143, 144, 145] (by first | rfl | decide +kernel) (by decide +kernel)
set_option maxRecDepth 20000 in
theorem gX6_leave_X0_releaseAll : GoodIn wsX6_leave (wsV RX6 146 RX0 yX0_releaseAll wsX0_releaseAll) := goodIn_app (goodIn_of _ (by decide +kernel)) ggX6_leave_X0_releaseAll
theorem dX6_leave_0 : decode cX6_leave 0 = .ok (.iload_n 1, 1) := by decide +kernel
theorem dX6_leave_1 : decode cX6_leave 1 = .ok (.invokestatic 119, 3) := by decide +kernel
theorem dX6_leave_4 : decode cX6_leave 4 = .ok (.aload_n 0, 1) := by decide +kernel
theorem dX6_leave_5 : decode cX6_leave 5 = .ok (.getfield 12, 3) := by decide +kernel
theorem dX6_leave_8 : decode cX6_leave 8 = .ok (.getfield 122, 3) := by decide +kernel
theorem dX6_leave_11 : decode cX6_leave 11 = .ok (.getfield 140, 3) := by decide +kernel
theorem dX6_leave_14 : decode cX6_leave 14 = .ok (.iload_n 1, 1) := by decide +kernel
theorem dX6_leave_15 : decode cX6_leave 15 = .ok (.iaload, 1) := by decide +kernel
theorem dX6_leave_16 : decode cX6_leave 16 = .ok (.ifCond .eq 7, 3) := by decide +kernel
theorem dX6_leave_19 : decode cX6_leave 19 = .ok (.iconst 1, 1) := by decide +kernel
theorem dX6_leave_20 : decode cX6_leave 20 = .ok (.goto 4, 3) := by decide +kernel
theorem dX6_leave_23 : decode cX6_leave 23 = .ok (.iconst 0, 1) := by decide +kernel
theorem dX6_leave_24 : decode cX6_leave 24 = .ok (.invokestatic 50, 3) := by decide +kernel
theorem dX6_leave_27 : decode cX6_leave 27 = .ok (.aload_n 0, 1) := by decide +kernel
theorem dX6_leave_28 : decode cX6_leave 28 = .ok (.getfield 22, 3) := by decide +kernel
theorem dX6_leave_31 : decode cX6_leave 31 = .ok (.aload_n 0, 1) := by decide +kernel
theorem dX6_leave_32 : decode cX6_leave 32 = .ok (.getfield 12, 3) := by decide +kernel
theorem dX6_leave_35 : decode cX6_leave 35 = .ok (.invokevirtual 38, 3) := by decide +kernel
theorem dX6_leave_38 : decode cX6_leave 38 = .ok (.aload_n 0, 1) := by decide +kernel
theorem dX6_leave_39 : decode cX6_leave 39 = .ok (.getfield 12, 3) := by decide +kernel
theorem dX6_leave_42 : decode cX6_leave 42 = .ok (.getfield 122, 3) := by decide +kernel
theorem dX6_leave_45 : decode cX6_leave 45 = .ok (.iload_n 1, 1) := by decide +kernel
theorem dX6_leave_46 : decode cX6_leave 46 = .ok (.iconst 0, 1) := by decide +kernel
theorem dX6_leave_47 : decode cX6_leave 47 = .ok (.invokevirtual 143, 3) := by decide +kernel
theorem dX6_leave_50 : decode cX6_leave 50 = .ok (.aload_n 0, 1) := by decide +kernel
theorem dX6_leave_51 : decode cX6_leave 51 = .ok (.getfield 12, 3) := by decide +kernel
theorem dX6_leave_54 : decode cX6_leave 54 = .ok (.getfield 68, 3) := by decide +kernel
theorem dX6_leave_57 : decode cX6_leave 57 = .ok (.iload_n 1, 1) := by decide +kernel
theorem dX6_leave_58 : decode cX6_leave 58 = .ok (.invokevirtual 146, 3) := by decide +kernel
theorem dX6_leave_61 : decode cX6_leave 61 = .ok (.ireturn, 1) := by decide +kernel
set_option maxRecDepth 20000 in
theorem ggX6_announce_X6_checkReader : GoodIn wsX6_announce wsX6_checkReader := goodIn_ca (goodIn_r _ [9, 10, 11, 8, 12, 13, 14, 15, 16, 17] (by first | rfl | decide +kernel) (by decide +kernel)) (goodIn_sub (fun _ h => List.mem_cons_of_mem _ (List.mem_append_left _ (List.mem_append_right _ h))) (by decide +kernel))
set_option maxRecDepth 20000 in
theorem gX6_announce_X6_checkReader : GoodIn wsX6_announce (va_wsS RX6 119 yX6_checkReader wsX6_checkReader) := goodIn_app (goodIn_of _ (by decide +kernel)) ggX6_announce_X6_checkReader
set_option maxRecDepth 20000 in
theorem ggX6_announce_X2_isInside : GoodIn wsX6_announce wsX2_isInside := goodIn_r _ [22, 23, 133, 134] (by first | rfl | decide +kernel) (by decide +kernel)
set_option maxRecDepth 20000 in
theorem gX6_announce_X2_isInside : GoodIn wsX6_announce (wsV RX6 126 RX2 yX2_isInside wsX2_isInside) := goodIn_app (goodIn_of _ (by decide +kernel)) ggX6_announce_X2_isInside
set_option maxRecDepth 20000 in
theorem ggX6_announce_X6_checkState : GoodIn wsX6_announce wsX6_checkState := goodIn_ca (goodIn_r _ [26, 27, 28] (by first | rfl | decide +kernel) (by decide +kernel)) (goodIn_sub (fun _ h => List.mem_cons_of_mem _ (List.mem_append_right _ h)) (by decide +kernel))
set_option maxRecDepth 20000 in
theorem gX6_announce_X6_checkState : GoodIn wsX6_announce (va_wsS RX6 50 yX6_checkState wsX6_checkState) := goodIn_app (goodIn_of _ (by decide +kernel)) ggX6_announce_X6_checkState
set_option maxRecDepth 20000 in
theorem ggX6_announce_X1_save : GoodIn wsX6_announce wsX1_save := goodIn_r _ [33, 34, 35, 36, 37, 38, 39, 40, 41, 42, 43, 44, 45, 46, 47, 48, 49, 50, 51, 52, 53, 54, 55, 56, 57, 58, 59, 60, 61, 62, 63, 64, 65, 66, 67, 68, 69, 70, 71, 72, 73, 74, 75, 76, 77, 78, 79, 80, 81, 82, 83, 84, 85, 86, 87, 21, 88, 23, 89, 90, 91, 92, 93, 94, 95, 96, 97, 98, 135, 136, 137, 122, 123, 124, 125, 126, 127, 128, 129, 130, 131, 132, 138, 139, 140, 141, 142, 143, 144, 145, 146, 147, 148, 149, 133, 134, 150, 151] (by first | rfl | decide +kernel) (by decide +kernel)
set_option maxRecDepth 20000 in
theorem gX6_announce_X1_save : GoodIn wsX6_announce (wsV RX6 38 RX1 yX1_save wsX1_save) := goodIn_app (goodIn_of _ (by decide +kernel)) ggX6_announce_X1_save
set_option maxRecDepth 20000 in
theorem ggX6_announce_X2_letIn : GoodIn wsX6_announce wsX2_letIn := goodIn_r _ [102, 23, 90, 133, 134] (by first | rfl | decide +kernel) (by decide +kernel)
set_option maxRecDepth 20000 in
theorem gX6_announce_X2_letIn : GoodIn wsX6_announce (wsV RX6 136 RX2 yX2_letIn wsX2_letIn) := goodIn_app (goodIn_of _ (by decide +kernel)) ggX6_announce_X2_letIn
set_option maxRecDepth 20000 in
theorem ggX6_announce_X0_releaseAll : GoodIn wsX6_announce wsX0_releaseAll := goodIn_r _ [106, 107, 108, 109, 76, 110, 111, 112, 113, 114, 84, 115, 116, 117, 118, 144, 145, 146, 147, 148, 149] (by first | rfl | decide +kernel) (by decide +kernel)
set_option maxRecDepth 20000 in
theorem gX6_announce_X0_releaseAll : GoodIn wsX6_announce (wsV RX6 146 RX0 yX0_releaseAll wsX0_releaseAll) := goodIn_app (goodIn_of _ (by decide +kernel)) ggX6_announce_X0_releaseAll
theorem dX6_announce_0 : decode cX6_announce 0 = .ok (.iload_n 1, 1) := by decide +kernel
theorem dX6_announce_1 : decode cX6_announce 1 = .ok (.invokestatic 119, 3) := by decide +kernel
theorem dX6_announce_4 : decode cX6_announce 4 = .ok (.aload_n 0, 1) := by decide +kernel
theorem dX6_announce_5 : decode cX6_announce 5 = .ok (.getfield 12, 3) := by decide +kernel
theorem dX6_announce_8 : decode cX6_announce 8 = .ok (.getfield 122, 3) := by decide +kernel
theorem dX6_announce_11 : decode cX6_announce 11 = .ok (.iload_n 1, 1) := by decide +kernel
theorem dX6_announce_12 : decode cX6_announce 12 = .ok (.invokevirtual 126, 3) := by decide +kernel
theorem dX6_announce_15 : decode cX6_announce 15 = .ok (.invokestatic 50, 3) := by decide +kernel
theorem dX6_announce_18 : decode cX6_announce 18 = .ok (.aload_n 0, 1) := by decide +kernel
theorem dX6_announce_19 : decode cX6_announce 19 = .ok (.getfield 22, 3) := by decide +kernel
theorem dX6_announce_22 : decode cX6_announce 22 = .ok (.aload_n 0, 1) := by decide +kernel
theorem dX6_announce_23 : decode cX6_announce 23 = .ok (.getfield 12, 3) := by decide +kernel
theorem dX6_announce_26 : decode cX6_announce 26 = .ok (.invokevirtual 38, 3) := by decide +kernel
theorem dX6_announce_29 : decode cX6_announce 29 = .ok (.aload_n 0, 1) := by decide +kernel
theorem dX6_announce_30 : decode cX6_announce 30 = .ok (.getfield 12, 3) := by decide +kernel
theorem dX6_announce_33 : decode cX6_announce 33 = .ok (.getfield 122, 3) := by decide +kernel
theorem dX6_announce_36 : decode cX6_announce 36 = .ok (.iload_n 1, 1) := by decide +kernel
theorem dX6_announce_37 : decode cX6_announce 37 = .ok (.aload_n 0, 1) := by decide +kernel
theorem dX6_announce_38 : decode cX6_announce 38 = .ok (.getfield 12, 3) := by decide +kernel
theorem dX6_announce_41 : decode cX6_announce 41 = .ok (.getfield 132, 3) := by decide +kernel
theorem dX6_announce_44 : decode cX6_announce 44 = .ok (.invokevirtual 136, 3) := by decide +kernel
theorem dX6_announce_47 : decode cX6_announce 47 = .ok (.aload_n 0, 1) := by decide +kernel
theorem dX6_announce_48 : decode cX6_announce 48 = .ok (.getfield 12, 3) := by decide +kernel
theorem dX6_announce_51 : decode cX6_announce 51 = .ok (.getfield 68, 3) := by decide +kernel
theorem dX6_announce_54 : decode cX6_announce 54 = .ok (.iload_n 1, 1) := by decide +kernel
theorem dX6_announce_55 : decode cX6_announce 55 = .ok (.invokevirtual 146, 3) := by decide +kernel
theorem dX6_announce_58 : decode cX6_announce 58 = .ok (.ireturn, 1) := by decide +kernel
set_option maxRecDepth 20000 in
theorem ggX6_hold_X6_checkReader : GoodIn wsX6_hold wsX6_checkReader := goodIn_ca (goodIn_r _ [9, 10, 11, 8, 12, 13, 14, 15, 16, 17] (by first | rfl | decide +kernel) (by decide +kernel)) (goodIn_sub (fun _ h => List.mem_cons_of_mem _ (List.mem_append_left _ (List.mem_append_left _ (List.mem_append_right _ h)))) (by decide +kernel))
set_option maxRecDepth 20000 in
theorem gX6_hold_X6_checkReader : GoodIn wsX6_hold (va_wsS RX6 119 yX6_checkReader wsX6_checkReader) := goodIn_app (goodIn_of _ (by decide +kernel)) ggX6_hold_X6_checkReader
set_option maxRecDepth 20000 in
theorem ggX6_hold_X6_checkKey : GoodIn wsX6_hold wsX6_checkKey := goodIn_ca (goodIn_r _ [20, 10, 11, 8, 12, 13, 14, 15, 16, 17] (by first | rfl | decide +kernel) (by decide +kernel)) (goodIn_sub (fun _ h => List.mem_cons_of_mem _ (List.mem_append_left _ (List.mem_append_left _ (List.mem_append_right _ h)))) (by decide +kernel))
set_option maxRecDepth 20000 in
theorem gX6_hold_X6_checkKey : GoodIn wsX6_hold (va_wsS RX6 42 yX6_checkKey wsX6_checkKey) := goodIn_app (goodIn_of _ (by decide +kernel)) ggX6_hold_X6_checkKey
set_option maxRecDepth 20000 in
theorem ggX6_hold_X2_isInside : GoodIn wsX6_hold wsX2_isInside := goodIn_r _ [25, 26, 125, 126] (by first | rfl | decide +kernel) (by decide +kernel)
set_option maxRecDepth 20000 in
theorem gX6_hold_X2_isInside : GoodIn wsX6_hold (wsV RX6 126 RX2 yX2_isInside wsX2_isInside) := goodIn_app (goodIn_of _ (by decide +kernel)) ggX6_hold_X2_isInside
set_option maxRecDepth 20000 in
theorem ggX6_hold_X6_checkState : GoodIn wsX6_hold wsX6_checkState := goodIn_ca (goodIn_r _ [29, 30, 31] (by first | rfl | decide +kernel) (by decide +kernel)) (goodIn_sub (fun _ h => List.mem_cons_of_mem _ (List.mem_append_left _ (List.mem_append_right _ h))) (by decide +kernel))
set_option maxRecDepth 20000 in
theorem gX6_hold_X6_checkState : GoodIn wsX6_hold (va_wsS RX6 50 yX6_checkState wsX6_checkState) := goodIn_app (goodIn_of _ (by decide +kernel)) ggX6_hold_X6_checkState
set_option maxRecDepth 20000 in
theorem ggX6_hold_X6_checkElement : GoodIn wsX6_hold wsX6_checkElement := goodIn_ca (goodIn_r _ [34, 35, 36] (by first | rfl | decide +kernel) (by decide +kernel)) (goodIn_sub (fun _ h => List.mem_cons_of_mem _ (List.mem_append_right _ h)) (by decide +kernel))
set_option maxRecDepth 20000 in
theorem gX6_hold_X6_checkElement : GoodIn wsX6_hold (va_wsS RX6 61 yX6_checkElement wsX6_checkElement) := goodIn_app (goodIn_of _ (by decide +kernel)) ggX6_hold_X6_checkElement
set_option maxRecDepth 20000 in
theorem ggX6_hold_X1_save : GoodIn wsX6_hold wsX1_save := goodIn_r _ [41, 42, 43, 44, 45, 46, 47, 48, 49, 50, 51, 52, 53, 54, 55, 56, 57, 58, 59, 60, 61, 62, 63, 64, 65, 66, 67, 68, 69, 70, 71, 72, 73, 74, 75, 76, 77, 78, 79, 80, 81, 82, 83, 84, 85, 86, 87, 88, 89, 90, 91, 92, 93, 94, 95, 24, 96, 26, 97, 98, 99, 100, 101, 102, 103, 104, 105, 106, 127, 128, 129, 114, 115, 116, 117, 118, 119, 120, 121, 122, 123, 124, 130, 131, 132, 133, 134, 135, 136, 137, 138, 139, 140, 141, 125, 126, 142, 143] (by first | rfl | decide +kernel) (by decide +kernel)
set_option maxRecDepth 20000 in
theorem gX6_hold_X1_save : GoodIn wsX6_hold (wsV RX6 38 RX1 yX1_save wsX1_save) := goodIn_app (goodIn_of _ (by decide +kernel)) ggX6_hold_X1_save
set_option maxRecDepth 20000 in
theorem ggX6_hold_X0_addHolder : GoodIn wsX6_hold wsX0_addHolder := goodIn_r _ [110, 92, 136, 137, 138, 139, 140, 141] (by first | rfl | decide +kernel) (by decide +kernel)
set_option maxRecDepth 20000 in
theorem gX6_hold_X0_addHolder : GoodIn wsX6_hold (wsV RX6 149 RX0 yX0_addHolder wsX0_addHolder) := goodIn_app (goodIn_of _ (by decide +kernel)) ggX6_hold_X0_addHolder
theorem dX6_hold_0 : decode cX6_hold 0 = .ok (.iload_n 1, 1) := by decide +kernel
theorem dX6_hold_1 : decode cX6_hold 1 = .ok (.invokestatic 119, 3) := by decide +kernel
theorem dX6_hold_4 : decode cX6_hold 4 = .ok (.iload_n 2, 1) := by decide +kernel
theorem dX6_hold_5 : decode cX6_hold 5 = .ok (.invokestatic 42, 3) := by decide +kernel
theorem dX6_hold_8 : decode cX6_hold 8 = .ok (.aload_n 0, 1) := by decide +kernel
theorem dX6_hold_9 : decode cX6_hold 9 = .ok (.getfield 12, 3) := by decide +kernel
theorem dX6_hold_12 : decode cX6_hold 12 = .ok (.getfield 122, 3) := by decide +kernel
theorem dX6_hold_15 : decode cX6_hold 15 = .ok (.iload_n 1, 1) := by decide +kernel
theorem dX6_hold_16 : decode cX6_hold 16 = .ok (.invokevirtual 126, 3) := by decide +kernel
theorem dX6_hold_19 : decode cX6_hold 19 = .ok (.invokestatic 50, 3) := by decide +kernel
theorem dX6_hold_22 : decode cX6_hold 22 = .ok (.aload_n 0, 1) := by decide +kernel
theorem dX6_hold_23 : decode cX6_hold 23 = .ok (.getfield 12, 3) := by decide +kernel
theorem dX6_hold_26 : decode cX6_hold 26 = .ok (.getfield 57, 3) := by decide +kernel
theorem dX6_hold_29 : decode cX6_hold 29 = .ok (.iload_n 2, 1) := by decide +kernel
theorem dX6_hold_30 : decode cX6_hold 30 = .ok (.iaload, 1) := by decide +kernel
theorem dX6_hold_31 : decode cX6_hold 31 = .ok (.istore_n 3, 1) := by decide +kernel
theorem dX6_hold_32 : decode cX6_hold 32 = .ok (.iload_n 3, 1) := by decide +kernel
theorem dX6_hold_33 : decode cX6_hold 33 = .ok (.iconst (-1), 1) := by decide +kernel
theorem dX6_hold_34 : decode cX6_hold 34 = .ok (.if_icmp .eq 7, 3) := by decide +kernel
theorem dX6_hold_37 : decode cX6_hold 37 = .ok (.iconst 1, 1) := by decide +kernel
theorem dX6_hold_38 : decode cX6_hold 38 = .ok (.goto 4, 3) := by decide +kernel
theorem dX6_hold_41 : decode cX6_hold 41 = .ok (.iconst 0, 1) := by decide +kernel
theorem dX6_hold_42 : decode cX6_hold 42 = .ok (.invokestatic 61, 3) := by decide +kernel
theorem dX6_hold_45 : decode cX6_hold 45 = .ok (.aload_n 0, 1) := by decide +kernel
theorem dX6_hold_46 : decode cX6_hold 46 = .ok (.getfield 22, 3) := by decide +kernel
theorem dX6_hold_49 : decode cX6_hold 49 = .ok (.aload_n 0, 1) := by decide +kernel
theorem dX6_hold_50 : decode cX6_hold 50 = .ok (.getfield 12, 3) := by decide +kernel
theorem dX6_hold_53 : decode cX6_hold 53 = .ok (.invokevirtual 38, 3) := by decide +kernel
theorem dX6_hold_56 : decode cX6_hold 56 = .ok (.aload_n 0, 1) := by decide +kernel
theorem dX6_hold_57 : decode cX6_hold 57 = .ok (.getfield 12, 3) := by decide +kernel
theorem dX6_hold_60 : decode cX6_hold 60 = .ok (.getfield 68, 3) := by decide +kernel
theorem dX6_hold_63 : decode cX6_hold 63 = .ok (.iload_n 3, 1) := by decide +kernel
theorem dX6_hold_64 : decode cX6_hold 64 = .ok (.iload_n 1, 1) := by decide +kernel
theorem dX6_hold_65 : decode cX6_hold 65 = .ok (.invokevirtual 149, 3) := by decide +kernel
theorem dX6_hold_68 : decode cX6_hold 68 = .ok (.iload_n 3, 1) := by decide +kernel
theorem dX6_hold_69 : decode cX6_hold 69 = .ok (.ireturn, 1) := by decide +kernel
set_option maxRecDepth 20000 in
theorem ggX6_release_X6_checkHeld : GoodIn wsX6_release wsX6_checkHeld := goodIn_ca (goodIn_ca (goodIn_r _ [8, 2, 3, 9, 10, 7, 11, 12, 13, 14, 15, 16, 17, 18, 19, 20, 21, 22, 23, 24, 25, 26, 27, 28, 29, 30, 31, 32, 33, 34, 35, 36, 37, 117, 118, 119, 120, 121, 122, 123, 124, 125, 126, 127, 128, 129, 130, 131, 132, 133, 134, 135, 136, 137, 138, 139, 140, 141, 142] (by first | rfl | decide +kernel) (by decide +kernel)) (goodIn_sub (fun _ h => List.mem_cons_of_mem _ (List.mem_append_left _ (List.mem_append_right _ h))) (by decide +kernel))) (goodIn_sub (fun _ h => List.mem_cons_of_mem _ (List.mem_append_right _ h)) (by decide +kernel))
set_option maxRecDepth 20000 in
theorem gX6_release_X6_checkHeld : GoodIn wsX6_release (wsV RX6 152 RX6 yX6_checkHeld wsX6_checkHeld) := goodIn_app (goodIn_of _ (by decide +kernel)) ggX6_release_X6_checkHeld
set_option maxRecDepth 20000 in
theorem ggX6_release_X1_save : GoodIn wsX6_release wsX1_save := goodIn_r _ [42, 43, 44, 45, 46, 47, 48, 49, 50, 51, 52, 53, 54, 55, 56, 57, 58, 59, 60, 61, 62, 63, 64, 65, 66, 67, 68, 69, 70, 71, 72, 73, 74, 75, 76, 77, 78, 79, 80, 81, 82, 83, 84, 30, 85, 86, 87, 88, 89, 90, 91, 32, 92, 93, 94, 95, 96, 97, 98, 99, 100, 101, 102, 103, 104, 105, 106, 107, 143, 144, 145, 120, 121, 122, 123, 124, 125, 126, 127, 128, 129, 130, 131, 132, 133, 134, 135, 136, 137, 138, 139, 140, 141, 142, 146, 147, 148, 149] (by first | rfl | decide +kernel) (by decide +kernel)
set_option maxRecDepth 20000 in
theorem gX6_release_X1_save : GoodIn wsX6_release (wsV RX6 38 RX1 yX1_save wsX1_save) := goodIn_app (goodIn_of _ (by decide +kernel)) ggX6_release_X1_save
set_option maxRecDepth 20000 in
theorem ggX6_release_X0_removeHolder : GoodIn wsX6_release wsX0_removeHolder := goodIn_r _ [111, 32, 137, 138, 139, 140, 141, 142] (by first | rfl | decide +kernel) (by decide +kernel)
set_option maxRecDepth 20000 in
theorem gX6_release_X0_removeHolder : GoodIn wsX6_release (wsV RX6 155 RX0 yX0_removeHolder wsX0_removeHolder) := goodIn_app (goodIn_of _ (by decide +kernel)) ggX6_release_X0_removeHolder
set_option maxRecDepth 20000 in
theorem ggX6_release_X0_heldBy : GoodIn wsX6_release wsX0_heldBy := goodIn_r _ [115, 116, 28, 29, 30, 31, 32, 137, 138, 139, 140, 141, 142] (by first | rfl | decide +kernel) (by decide +kernel)
set_option maxRecDepth 20000 in
theorem gX6_release_X0_heldBy : GoodIn wsX6_release (wsV RX6 158 RX0 yX0_heldBy wsX0_heldBy) := goodIn_app (goodIn_of _ (by decide +kernel)) ggX6_release_X0_heldBy
theorem dX6_release_0 : decode cX6_release 0 = .ok (.aload_n 0, 1) := by decide +kernel
theorem dX6_release_1 : decode cX6_release 1 = .ok (.iload_n 1, 1) := by decide +kernel
theorem dX6_release_2 : decode cX6_release 2 = .ok (.iload_n 2, 1) := by decide +kernel
theorem dX6_release_3 : decode cX6_release 3 = .ok (.invokevirtual 152, 3) := by decide +kernel
theorem dX6_release_6 : decode cX6_release 6 = .ok (.aload_n 0, 1) := by decide +kernel
theorem dX6_release_7 : decode cX6_release 7 = .ok (.getfield 22, 3) := by decide +kernel
theorem dX6_release_10 : decode cX6_release 10 = .ok (.aload_n 0, 1) := by decide +kernel
theorem dX6_release_11 : decode cX6_release 11 = .ok (.getfield 12, 3) := by decide +kernel
theorem dX6_release_14 : decode cX6_release 14 = .ok (.invokevirtual 38, 3) := by decide +kernel
theorem dX6_release_17 : decode cX6_release 17 = .ok (.aload_n 0, 1) := by decide +kernel
theorem dX6_release_18 : decode cX6_release 18 = .ok (.getfield 12, 3) := by decide +kernel
theorem dX6_release_21 : decode cX6_release 21 = .ok (.getfield 68, 3) := by decide +kernel
theorem dX6_release_24 : decode cX6_release 24 = .ok (.iload_n 2, 1) := by decide +kernel
theorem dX6_release_25 : decode cX6_release 25 = .ok (.iload_n 1, 1) := by decide +kernel
theorem dX6_release_26 : decode cX6_release 26 = .ok (.invokevirtual 155, 3) := by decide +kernel
theorem dX6_release_29 : decode cX6_release 29 = .ok (.aload_n 0, 1) := by decide +kernel
theorem dX6_release_30 : decode cX6_release 30 = .ok (.getfield 12, 3) := by decide +kernel
theorem dX6_release_33 : decode cX6_release 33 = .ok (.getfield 68, 3) := by decide +kernel
theorem dX6_release_36 : decode cX6_release 36 = .ok (.iload_n 1, 1) := by decide +kernel
theorem dX6_release_37 : decode cX6_release 37 = .ok (.invokevirtual 158, 3) := by decide +kernel
theorem dX6_release_40 : decode cX6_release 40 = .ok (.ireturn, 1) := by decide +kernel
set_option maxRecDepth 20000 in
theorem ggX6_read_X6_checkHeld : GoodIn wsX6_read wsX6_checkHeld := goodIn_ca (goodIn_ca (goodIn_r _ [8, 1, 2, 9, 10, 7, 11, 12, 13, 14, 15, 16, 17, 18, 19, 20, 21, 22, 23, 24, 25, 26, 27, 28, 29, 30, 31, 32, 33, 34, 35, 36, 37, 38, 39, 40, 41, 42, 43, 44, 45, 46, 47, 48, 49, 50, 51, 58, 59, 60, 61, 62, 63, 52, 53, 54, 55, 56, 57] (by first | rfl | decide +kernel) (by decide +kernel)) (goodIn_sub (fun _ h => List.mem_cons_of_mem _ (List.mem_append_left _ (List.mem_append_right _ h))) (by decide +kernel))) (goodIn_sub (fun _ h => List.mem_cons_of_mem _ (List.mem_append_right _ h)) (by decide +kernel))
set_option maxRecDepth 20000 in
theorem gX6_read_X6_checkHeld : GoodIn wsX6_read (wsV RX6 152 RX6 yX6_checkHeld wsX6_checkHeld) := goodIn_app (goodIn_of _ (by decide +kernel)) ggX6_read_X6_checkHeld
theorem dX6_read_0 : decode cX6_read 0 = .ok (.aload_n 0, 1) := by decide +kernel
theorem dX6_read_1 : decode cX6_read 1 = .ok (.iload_n 1, 1) := by decide +kernel
theorem dX6_read_2 : decode cX6_read 2 = .ok (.iload_n 2, 1) := by decide +kernel
theorem dX6_read_3 : decode cX6_read 3 = .ok (.invokevirtual 152, 3) := by decide +kernel
theorem dX6_read_6 : decode cX6_read 6 = .ok (.aload_n 0, 1) := by decide +kernel
theorem dX6_read_7 : decode cX6_read 7 = .ok (.getfield 12, 3) := by decide +kernel
theorem dX6_read_10 : decode cX6_read 10 = .ok (.getfield 68, 3) := by decide +kernel
theorem dX6_read_13 : decode cX6_read 13 = .ok (.getfield 72, 3) := by decide +kernel
theorem dX6_read_16 : decode cX6_read 16 = .ok (.iload_n 2, 1) := by decide +kernel
theorem dX6_read_17 : decode cX6_read 17 = .ok (.iaload, 1) := by decide +kernel
theorem dX6_read_18 : decode cX6_read 18 = .ok (.ireturn, 1) := by decide +kernel
set_option maxRecDepth 20000 in
theorem ggX6_reader_X6_checkReader : GoodIn wsX6_reader wsX6_checkReader := goodIn_ca (goodIn_r _ [11, 12, 13, 10, 14, 15, 16, 17, 18, 19] (by first | rfl | decide +kernel) (by decide +kernel)) (goodIn_sub (fun _ h => List.mem_cons_of_mem _ (List.mem_append_right _ h)) (by decide +kernel))
set_option maxRecDepth 20000 in
theorem gX6_reader_X6_checkReader : GoodIn wsX6_reader (va_wsS RX6 119 yX6_checkReader wsX6_checkReader) := goodIn_app (goodIn_of _ (by decide +kernel)) ggX6_reader_X6_checkReader
set_option maxRecDepth 20000 in
theorem ggX6_reader_X0_heldBy : GoodIn wsX6_reader wsX0_heldBy := goodIn_r _ [24, 25, 26, 27, 23, 28, 29, 71, 72, 73, 74, 75, 76] (by first | rfl | decide +kernel) (by decide +kernel)
set_option maxRecDepth 20000 in
theorem gX6_reader_X0_heldBy : GoodIn wsX6_reader (wsV RX6 158 RX0 yX0_heldBy wsX0_heldBy) := goodIn_app (goodIn_of _ (by decide +kernel)) ggX6_reader_X0_heldBy
set_option maxRecDepth 20000 in
theorem ggX6_reader_X5_stallOf : GoodIn wsX6_reader wsX5_stallOf := goodIn_r _ [34, 35, 36, 37, 38, 39, 40, 41, 42, 43, 44, 45, 46, 47, 48, 49, 58, 59, 60, 61, 62, 63, 64, 65, 66, 67, 68, 69, 70] (by first | rfl | decide +kernel) (by decide +kernel)
set_option maxRecDepth 20000 in
theorem gX6_reader_X5_stallOf : GoodIn wsX6_reader (wsV RX6 164 RX5 yX5_stallOf wsX5_stallOf) := goodIn_app (goodIn_of _ (by decide +kernel)) ggX6_reader_X5_stallOf
set_option maxRecDepth 20000 in
theorem ggX6_reader_X0_waitingHeldBy : GoodIn wsX6_reader wsX0_waitingHeldBy := goodIn_r _ [53, 54, 25, 26, 27, 23, 28, 29, 71, 72, 73, 74, 75, 76] (by first | rfl | decide +kernel) (by decide +kernel)
set_option maxRecDepth 20000 in
theorem gX6_reader_X0_waitingHeldBy : GoodIn wsX6_reader (wsV RX6 167 RX0 yX0_waitingHeldBy wsX0_waitingHeldBy) := goodIn_app (goodIn_of _ (by decide +kernel)) ggX6_reader_X0_waitingHeldBy
theorem dX6_reader_0 : decode cX6_reader 0 = .ok (.iload_n 1, 1) := by decide +kernel
theorem dX6_reader_1 : decode cX6_reader 1 = .ok (.invokestatic 119, 3) := by decide +kernel
theorem dX6_reader_4 : decode cX6_reader 4 = .ok (.iload_n 2, 1) := by decide +kernel
theorem dX6_reader_5 : decode cX6_reader 5 = .ok (.tableswitch 94 0 4 #[35, 48, 61, 73, 82], 35) := by decide +kernel
theorem dX6_reader_40 : decode cX6_reader 40 = .ok (.aload_n 0, 1) := by decide +kernel
theorem dX6_reader_41 : decode cX6_reader 41 = .ok (.getfield 12, 3) := by decide +kernel
theorem dX6_reader_44 : decode cX6_reader 44 = .ok (.getfield 122, 3) := by decide +kernel
theorem dX6_reader_47 : decode cX6_reader 47 = .ok (.getfield 140, 3) := by decide +kernel
theorem dX6_reader_50 : decode cX6_reader 50 = .ok (.iload_n 1, 1) := by decide +kernel
theorem dX6_reader_51 : decode cX6_reader 51 = .ok (.iaload, 1) := by decide +kernel
theorem dX6_reader_52 : decode cX6_reader 52 = .ok (.ireturn, 1) := by decide +kernel
theorem dX6_reader_53 : decode cX6_reader 53 = .ok (.aload_n 0, 1) := by decide +kernel
theorem dX6_reader_54 : decode cX6_reader 54 = .ok (.getfield 12, 3) := by decide +kernel
theorem dX6_reader_57 : decode cX6_reader 57 = .ok (.getfield 122, 3) := by decide +kernel
theorem dX6_reader_60 : decode cX6_reader 60 = .ok (.getfield 161, 3) := by decide +kernel
theorem dX6_reader_63 : decode cX6_reader 63 = .ok (.iload_n 1, 1) := by decide +kernel
theorem dX6_reader_64 : decode cX6_reader 64 = .ok (.iaload, 1) := by decide +kernel
theorem dX6_reader_65 : decode cX6_reader 65 = .ok (.ireturn, 1) := by decide +kernel
theorem dX6_reader_66 : decode cX6_reader 66 = .ok (.aload_n 0, 1) := by decide +kernel
theorem dX6_reader_67 : decode cX6_reader 67 = .ok (.getfield 12, 3) := by decide +kernel
theorem dX6_reader_70 : decode cX6_reader 70 = .ok (.getfield 68, 3) := by decide +kernel
theorem dX6_reader_73 : decode cX6_reader 73 = .ok (.iload_n 1, 1) := by decide +kernel
theorem dX6_reader_74 : decode cX6_reader 74 = .ok (.invokevirtual 158, 3) := by decide +kernel
theorem dX6_reader_77 : decode cX6_reader 77 = .ok (.ireturn, 1) := by decide +kernel
theorem dX6_reader_78 : decode cX6_reader 78 = .ok (.aload_n 0, 1) := by decide +kernel
theorem dX6_reader_79 : decode cX6_reader 79 = .ok (.getfield 12, 3) := by decide +kernel
theorem dX6_reader_82 : decode cX6_reader 82 = .ok (.iload_n 1, 1) := by decide +kernel
theorem dX6_reader_83 : decode cX6_reader 83 = .ok (.invokevirtual 164, 3) := by decide +kernel
theorem dX6_reader_86 : decode cX6_reader 86 = .ok (.ireturn, 1) := by decide +kernel
theorem dX6_reader_87 : decode cX6_reader 87 = .ok (.aload_n 0, 1) := by decide +kernel
theorem dX6_reader_88 : decode cX6_reader 88 = .ok (.getfield 12, 3) := by decide +kernel
theorem dX6_reader_91 : decode cX6_reader 91 = .ok (.getfield 68, 3) := by decide +kernel
theorem dX6_reader_94 : decode cX6_reader 94 = .ok (.iload_n 1, 1) := by decide +kernel
theorem dX6_reader_95 : decode cX6_reader 95 = .ok (.invokevirtual 167, 3) := by decide +kernel
theorem dX6_reader_98 : decode cX6_reader 98 = .ok (.ireturn, 1) := by decide +kernel
theorem dX6_reader_99 : decode cX6_reader 99 = .ok (.new 170, 3) := by decide +kernel
theorem dX6_reader_102 : decode cX6_reader 102 = .ok (.dup, 1) := by decide +kernel
theorem dX6_reader_103 : decode cX6_reader 103 = .ok (.ldc 172, 2) := by decide +kernel
theorem dX6_reader_105 : decode cX6_reader 105 = .ok (.invokespecial 174, 3) := by decide +kernel
theorem dX6_reader_108 : decode cX6_reader 108 = .ok (.athrow, 1) := by decide +kernel
set_option maxRecDepth 20000 in
theorem ggX6_blockers_X2_stalledMask : GoodIn wsX6_blockers wsX2_stalledMask := goodIn_r _ [8, 9, 10, 11, 7, 12, 13, 14, 15, 16, 17, 18, 33, 34] (by first | rfl | decide +kernel) (by decide +kernel)
set_option maxRecDepth 20000 in
theorem gX6_blockers_X2_stalledMask : GoodIn wsX6_blockers (wsV RX6 177 RX2 yX2_stalledMask wsX2_stalledMask) := goodIn_app (goodIn_of _ (by decide +kernel)) ggX6_blockers_X2_stalledMask
theorem dX6_blockers_0 : decode cX6_blockers 0 = .ok (.aload_n 0, 1) := by decide +kernel
theorem dX6_blockers_1 : decode cX6_blockers 1 = .ok (.getfield 12, 3) := by decide +kernel
theorem dX6_blockers_4 : decode cX6_blockers 4 = .ok (.getfield 122, 3) := by decide +kernel
theorem dX6_blockers_7 : decode cX6_blockers 7 = .ok (.aload_n 0, 1) := by decide +kernel
theorem dX6_blockers_8 : decode cX6_blockers 8 = .ok (.getfield 12, 3) := by decide +kernel
theorem dX6_blockers_11 : decode cX6_blockers 11 = .ok (.getfield 132, 3) := by decide +kernel
theorem dX6_blockers_14 : decode cX6_blockers 14 = .ok (.invokevirtual 177, 3) := by decide +kernel
theorem dX6_blockers_17 : decode cX6_blockers 17 = .ok (.ireturn, 1) := by decide +kernel
set_option maxRecDepth 20000 in
theorem ggX6_expel_X6_checkReader : GoodIn wsX6_expel wsX6_checkReader := goodIn_ca (goodIn_r _ [9, 10, 11, 8, 12, 13, 14, 15, 16, 17] (by first | rfl | decide +kernel) (by decide +kernel)) (goodIn_sub (fun _ h => List.mem_cons_of_mem _ (List.mem_append_left _ (List.mem_append_right _ h))) (by decide +kernel))
set_option maxRecDepth 20000 in
theorem gX6_expel_X6_checkReader : GoodIn wsX6_expel (va_wsS RX6 119 yX6_checkReader wsX6_checkReader) := goodIn_app (goodIn_of _ (by decide +kernel)) ggX6_expel_X6_checkReader
set_option maxRecDepth 20000 in
theorem ggX6_expel_X2_isInside : GoodIn wsX6_expel wsX2_isInside := goodIn_r _ [22, 23, 142, 143] (by first | rfl | decide +kernel) (by decide +kernel)
set_option maxRecDepth 20000 in
theorem gX6_expel_X2_isInside : GoodIn wsX6_expel (wsV RX6 126 RX2 yX2_isInside wsX2_isInside) := goodIn_app (goodIn_of _ (by decide +kernel)) ggX6_expel_X2_isInside
set_option maxRecDepth 20000 in
theorem ggX6_expel_X6_checkState : GoodIn wsX6_expel wsX6_checkState := goodIn_ca (goodIn_r _ [26, 27, 28] (by first | rfl | decide +kernel) (by decide +kernel)) (goodIn_sub (fun _ h => List.mem_cons_of_mem _ (List.mem_append_right _ h)) (by decide +kernel))
set_option maxRecDepth 20000 in
theorem gX6_expel_X6_checkState : GoodIn wsX6_expel (va_wsS RX6 50 yX6_checkState wsX6_checkState) := goodIn_app (goodIn_of _ (by decide +kernel)) ggX6_expel_X6_checkState
set_option maxRecDepth 20000 in
theorem ggX6_expel_X5_stallOf : GoodIn wsX6_expel wsX5_stallOf := goodIn_r _ [33, 34, 35, 36, 37, 38, 39, 40, 21, 41, 42, 43, 19, 20, 22, 23, 131, 132, 133, 134, 135, 136, 137, 138, 139, 140, 141, 142, 143] (by first | rfl | decide +kernel) (by decide +kernel)
set_option maxRecDepth 20000 in
theorem gX6_expel_X5_stallOf : GoodIn wsX6_expel (wsV RX6 164 RX5 yX5_stallOf wsX5_stallOf) := goodIn_app (goodIn_of _ (by decide +kernel)) ggX6_expel_X5_stallOf
set_option maxRecDepth 20000 in
theorem ggX6_expel_X1_save : GoodIn wsX6_expel wsX1_save := goodIn_r _ [48, 49, 50, 51, 52, 53, 54, 55, 56, 57, 58, 32, 59, 60, 61, 34, 62, 63, 64, 65, 66, 67, 68, 35, 37, 36, 69, 70, 71, 72, 73, 74, 75, 76, 77, 78, 79, 80, 81, 82, 83, 84, 85, 86, 87, 88, 89, 90, 91, 92, 93, 94, 95, 96, 97, 21, 98, 23, 99, 42, 100, 101, 102, 103, 104, 105, 106, 107, 144, 145, 146, 131, 132, 133, 134, 135, 136, 137, 138, 139, 140, 141, 147, 148, 149, 150, 151, 152, 153, 154, 155, 156, 157, 158, 142, 143, 159, 160] (by first | rfl | decide +kernel) (by decide +kernel)
set_option maxRecDepth 20000 in
theorem gX6_expel_X1_save : GoodIn wsX6_expel (wsV RX6 38 RX1 yX1_save wsX1_save) := goodIn_app (goodIn_of _ (by decide +kernel)) ggX6_expel_X1_save
set_option maxRecDepth 20000 in
theorem ggX6_expel_X2_sendOut : GoodIn wsX6_expel wsX2_sendOut := goodIn_r _ [111, 23, 42, 142, 143] (by first | rfl | decide +kernel) (by decide +kernel)
set_option maxRecDepth 20000 in
theorem gX6_expel_X2_sendOut : GoodIn wsX6_expel (wsV RX6 143 RX2 yX2_sendOut wsX2_sendOut) := goodIn_app (goodIn_of _ (by decide +kernel)) ggX6_expel_X2_sendOut
set_option maxRecDepth 20000 in
theorem ggX6_expel_X0_releaseAll : GoodIn wsX6_expel wsX0_releaseAll := goodIn_r _ [115, 116, 117, 118, 86, 119, 120, 121, 122, 123, 94, 124, 125, 126, 127, 153, 154, 155, 156, 157, 158] (by first | rfl | decide +kernel) (by decide +kernel)
set_option maxRecDepth 20000 in
theorem gX6_expel_X0_releaseAll : GoodIn wsX6_expel (wsV RX6 146 RX0 yX0_releaseAll wsX0_releaseAll) := goodIn_app (goodIn_of _ (by decide +kernel)) ggX6_expel_X0_releaseAll
theorem dX6_expel_0 : decode cX6_expel 0 = .ok (.iload_n 1, 1) := by decide +kernel
theorem dX6_expel_1 : decode cX6_expel 1 = .ok (.invokestatic 119, 3) := by decide +kernel
theorem dX6_expel_4 : decode cX6_expel 4 = .ok (.aload_n 0, 1) := by decide +kernel
theorem dX6_expel_5 : decode cX6_expel 5 = .ok (.getfield 12, 3) := by decide +kernel
theorem dX6_expel_8 : decode cX6_expel 8 = .ok (.getfield 122, 3) := by decide +kernel
theorem dX6_expel_11 : decode cX6_expel 11 = .ok (.iload_n 1, 1) := by decide +kernel
theorem dX6_expel_12 : decode cX6_expel 12 = .ok (.invokevirtual 126, 3) := by decide +kernel
theorem dX6_expel_15 : decode cX6_expel 15 = .ok (.invokestatic 50, 3) := by decide +kernel
theorem dX6_expel_18 : decode cX6_expel 18 = .ok (.aload_n 0, 1) := by decide +kernel
theorem dX6_expel_19 : decode cX6_expel 19 = .ok (.getfield 12, 3) := by decide +kernel
theorem dX6_expel_22 : decode cX6_expel 22 = .ok (.iload_n 1, 1) := by decide +kernel
theorem dX6_expel_23 : decode cX6_expel 23 = .ok (.invokevirtual 164, 3) := by decide +kernel
theorem dX6_expel_26 : decode cX6_expel 26 = .ok (.aload_n 0, 1) := by decide +kernel
theorem dX6_expel_27 : decode cX6_expel 27 = .ok (.getfield 12, 3) := by decide +kernel
theorem dX6_expel_30 : decode cX6_expel 30 = .ok (.getfield 180, 3) := by decide +kernel
theorem dX6_expel_33 : decode cX6_expel 33 = .ok (.if_icmp .lt 7, 3) := by decide +kernel
theorem dX6_expel_36 : decode cX6_expel 36 = .ok (.iconst 1, 1) := by decide +kernel
theorem dX6_expel_37 : decode cX6_expel 37 = .ok (.goto 4, 3) := by decide +kernel
theorem dX6_expel_40 : decode cX6_expel 40 = .ok (.iconst 0, 1) := by decide +kernel
theorem dX6_expel_41 : decode cX6_expel 41 = .ok (.invokestatic 50, 3) := by decide +kernel
theorem dX6_expel_44 : decode cX6_expel 44 = .ok (.aload_n 0, 1) := by decide +kernel
theorem dX6_expel_45 : decode cX6_expel 45 = .ok (.getfield 22, 3) := by decide +kernel
theorem dX6_expel_48 : decode cX6_expel 48 = .ok (.aload_n 0, 1) := by decide +kernel
theorem dX6_expel_49 : decode cX6_expel 49 = .ok (.getfield 12, 3) := by decide +kernel
theorem dX6_expel_52 : decode cX6_expel 52 = .ok (.invokevirtual 38, 3) := by decide +kernel
theorem dX6_expel_55 : decode cX6_expel 55 = .ok (.aload_n 0, 1) := by decide +kernel
theorem dX6_expel_56 : decode cX6_expel 56 = .ok (.getfield 12, 3) := by decide +kernel
theorem dX6_expel_59 : decode cX6_expel 59 = .ok (.getfield 122, 3) := by decide +kernel
theorem dX6_expel_62 : decode cX6_expel 62 = .ok (.iload_n 1, 1) := by decide +kernel
theorem dX6_expel_63 : decode cX6_expel 63 = .ok (.iconst 2, 1) := by decide +kernel
theorem dX6_expel_64 : decode cX6_expel 64 = .ok (.invokevirtual 143, 3) := by decide +kernel
theorem dX6_expel_67 : decode cX6_expel 67 = .ok (.aload_n 0, 1) := by decide +kernel
theorem dX6_expel_68 : decode cX6_expel 68 = .ok (.getfield 12, 3) := by decide +kernel
theorem dX6_expel_71 : decode cX6_expel 71 = .ok (.getfield 68, 3) := by decide +kernel
theorem dX6_expel_74 : decode cX6_expel 74 = .ok (.iload_n 1, 1) := by decide +kernel
theorem dX6_expel_75 : decode cX6_expel 75 = .ok (.invokevirtual 146, 3) := by decide +kernel
theorem dX6_expel_78 : decode cX6_expel 78 = .ok (.ireturn, 1) := by decide +kernel
set_option maxRecDepth 20000 in
theorem ggX6_reclaimableWithout_X6_isBetween : GoodIn wsX6_reclaimableWithout wsX6_isBetween := goodIn_r _ [5] (by first | rfl | decide +kernel) (by decide +kernel)
set_option maxRecDepth 20000 in
theorem gX6_reclaimableWithout_X6_isBetween : GoodIn wsX6_reclaimableWithout (va_wsS RX6 30 yX6_isBetween wsX6_isBetween) := goodIn_app (goodIn_of _ (by decide +kernel)) ggX6_reclaimableWithout_X6_isBetween
set_option maxRecDepth 20000 in
theorem ggX6_reclaimableWithout_X6_checkIndex : GoodIn wsX6_reclaimableWithout wsX6_checkIndex := goodIn_ca (goodIn_r _ [8, 9, 10] (by first | rfl | decide +kernel) (by decide +kernel)) (goodIn_sub (fun _ h => List.mem_cons_of_mem _ (List.mem_append_right _ h)) (by decide +kernel))
set_option maxRecDepth 20000 in
theorem gX6_reclaimableWithout_X6_checkIndex : GoodIn wsX6_reclaimableWithout (va_wsS RX6 83 yX6_checkIndex wsX6_checkIndex) := goodIn_app (goodIn_of _ (by decide +kernel)) ggX6_reclaimableWithout_X6_checkIndex
set_option maxRecDepth 20000 in
theorem ggX6_reclaimableWithout_X5_reclaimableIfGone : GoodIn wsX6_reclaimableWithout wsX5_reclaimableIfGone := goodIn_r _ [15, 16, 17, 18, 19, 20, 21, 22, 23, 24, 25, 26, 27, 28, 29, 30, 31, 32, 33, 34, 35, 36, 37, 38, 39, 14, 40, 41, 42, 43, 44, 45, 46, 47, 48, 52, 53, 54, 55, 56, 57, 58, 59, 60, 61, 62, 63, 64, 65, 66, 67, 68, 69, 70] (by first | rfl | decide +kernel) (by decide +kernel)
set_option maxRecDepth 20000 in
theorem gX6_reclaimableWithout_X5_reclaimableIfGone : GoodIn wsX6_reclaimableWithout (wsV RX6 183 RX5 yX5_reclaimableIfGone wsX5_reclaimableIfGone) := goodIn_app (goodIn_of _ (by decide +kernel)) ggX6_reclaimableWithout_X5_reclaimableIfGone
theorem dX6_reclaimableWithout_0 : decode cX6_reclaimableWithout 0 = .ok (.iload_n 1, 1) := by decide +kernel
theorem dX6_reclaimableWithout_1 : decode cX6_reclaimableWithout 1 = .ok (.iconst (-1), 1) := by decide +kernel
theorem dX6_reclaimableWithout_2 : decode cX6_reclaimableWithout 2 = .ok (.if_icmp .eq 12, 3) := by decide +kernel
theorem dX6_reclaimableWithout_5 : decode cX6_reclaimableWithout 5 = .ok (.iload_n 1, 1) := by decide +kernel
theorem dX6_reclaimableWithout_6 : decode cX6_reclaimableWithout 6 = .ok (.iconst 0, 1) := by decide +kernel
theorem dX6_reclaimableWithout_7 : decode cX6_reclaimableWithout 7 = .ok (.iconst 5, 1) := by decide +kernel
theorem dX6_reclaimableWithout_8 : decode cX6_reclaimableWithout 8 = .ok (.invokestatic 30, 3) := by decide +kernel
theorem dX6_reclaimableWithout_11 : decode cX6_reclaimableWithout 11 = .ok (.ifCond .eq 7, 3) := by decide +kernel
theorem dX6_reclaimableWithout_14 : decode cX6_reclaimableWithout 14 = .ok (.iconst 1, 1) := by decide +kernel
theorem dX6_reclaimableWithout_15 : decode cX6_reclaimableWithout 15 = .ok (.goto 4, 3) := by decide +kernel
theorem dX6_reclaimableWithout_18 : decode cX6_reclaimableWithout 18 = .ok (.iconst 0, 1) := by decide +kernel
theorem dX6_reclaimableWithout_19 : decode cX6_reclaimableWithout 19 = .ok (.invokestatic 83, 3) := by decide +kernel
theorem dX6_reclaimableWithout_22 : decode cX6_reclaimableWithout 22 = .ok (.aload_n 0, 1) := by decide +kernel
theorem dX6_reclaimableWithout_23 : decode cX6_reclaimableWithout 23 = .ok (.getfield 12, 3) := by decide +kernel
theorem dX6_reclaimableWithout_26 : decode cX6_reclaimableWithout 26 = .ok (.iload_n 1, 1) := by decide +kernel
theorem dX6_reclaimableWithout_27 : decode cX6_reclaimableWithout 27 = .ok (.invokevirtual 183, 3) := by decide +kernel
theorem dX6_reclaimableWithout_30 : decode cX6_reclaimableWithout 30 = .ok (.ireturn, 1) := by decide +kernel
set_option maxRecDepth 20000 in
theorem ggX6_costliestReader_X5_reclaimableIfGone : GoodIn wsX6_costliestReader wsX5_reclaimableIfGone := goodIn_r _ [6, 7, 8, 9, 10, 11, 12, 13, 14, 15, 16, 17, 18, 19, 20, 21, 22, 23, 24, 25, 26, 27, 28, 29, 30, 5, 31, 32, 33, 34, 35, 36, 37, 38, 39, 43, 44, 45, 46, 47, 48, 49, 50, 51, 52, 53, 54, 55, 56, 57, 58, 59, 60, 61] (by first | rfl | decide +kernel) (by decide +kernel)
set_option maxRecDepth 20000 in
theorem gX6_costliestReader_X5_reclaimableIfGone : GoodIn wsX6_costliestReader (wsV RX6 183 RX5 yX5_reclaimableIfGone wsX5_reclaimableIfGone) := goodIn_app (goodIn_of _ (by decide +kernel)) ggX6_costliestReader_X5_reclaimableIfGone
theorem dX6_costliestReader_0 : decode cX6_costliestReader 0 = .ok (.iconst (-1), 1) := by decide +kernel
theorem dX6_costliestReader_1 : decode cX6_costliestReader 1 = .ok (.istore_n 1, 1) := by decide +kernel
theorem dX6_costliestReader_2 : decode cX6_costliestReader 2 = .ok (.aload_n 0, 1) := by decide +kernel
theorem dX6_costliestReader_3 : decode cX6_costliestReader 3 = .ok (.getfield 12, 3) := by decide +kernel
theorem dX6_costliestReader_6 : decode cX6_costliestReader 6 = .ok (.iconst (-1), 1) := by decide +kernel
theorem dX6_costliestReader_7 : decode cX6_costliestReader 7 = .ok (.invokevirtual 183, 3) := by decide +kernel
theorem dX6_costliestReader_10 : decode cX6_costliestReader 10 = .ok (.istore_n 2, 1) := by decide +kernel
theorem dX6_costliestReader_11 : decode cX6_costliestReader 11 = .ok (.iconst 0, 1) := by decide +kernel
theorem dX6_costliestReader_12 : decode cX6_costliestReader 12 = .ok (.istore_n 3, 1) := by decide +kernel
theorem dX6_costliestReader_13 : decode cX6_costliestReader 13 = .ok (.iload_n 3, 1) := by decide +kernel
theorem dX6_costliestReader_14 : decode cX6_costliestReader 14 = .ok (.bipush 6, 2) := by decide +kernel
theorem dX6_costliestReader_16 : decode cX6_costliestReader 16 = .ok (.if_icmp .ge 30, 3) := by decide +kernel
theorem dX6_costliestReader_19 : decode cX6_costliestReader 19 = .ok (.aload_n 0, 1) := by decide +kernel
theorem dX6_costliestReader_20 : decode cX6_costliestReader 20 = .ok (.getfield 12, 3) := by decide +kernel
theorem dX6_costliestReader_23 : decode cX6_costliestReader 23 = .ok (.iload_n 3, 1) := by decide +kernel
theorem dX6_costliestReader_24 : decode cX6_costliestReader 24 = .ok (.invokevirtual 183, 3) := by decide +kernel
theorem dX6_costliestReader_27 : decode cX6_costliestReader 27 = .ok (.istore 4, 2) := by decide +kernel
theorem dX6_costliestReader_29 : decode cX6_costliestReader 29 = .ok (.iload 4, 2) := by decide +kernel
theorem dX6_costliestReader_31 : decode cX6_costliestReader 31 = .ok (.iload_n 2, 1) := by decide +kernel
theorem dX6_costliestReader_32 : decode cX6_costliestReader 32 = .ok (.if_icmp .le 8, 3) := by decide +kernel
theorem dX6_costliestReader_35 : decode cX6_costliestReader 35 = .ok (.iload_n 3, 1) := by decide +kernel
theorem dX6_costliestReader_36 : decode cX6_costliestReader 36 = .ok (.istore_n 1, 1) := by decide +kernel
theorem dX6_costliestReader_37 : decode cX6_costliestReader 37 = .ok (.iload 4, 2) := by decide +kernel
theorem dX6_costliestReader_39 : decode cX6_costliestReader 39 = .ok (.istore_n 2, 1) := by decide +kernel
theorem dX6_costliestReader_40 : decode cX6_costliestReader 40 = .ok (.iinc 3 1, 3) := by decide +kernel
theorem dX6_costliestReader_43 : decode cX6_costliestReader 43 = .ok (.goto (-30), 3) := by decide +kernel
theorem dX6_costliestReader_46 : decode cX6_costliestReader 46 = .ok (.iload_n 1, 1) := by decide +kernel
theorem dX6_costliestReader_47 : decode cX6_costliestReader 47 = .ok (.ireturn, 1) := by decide +kernel
set_option maxRecDepth 20000 in
theorem ggX6_advance_X2_stalledMask : GoodIn wsX6_advance wsX2_stalledMask := goodIn_r _ [11, 12, 13, 14, 10, 15, 16, 17, 18, 19, 20, 21, 111, 112] (by first | rfl | decide +kernel) (by decide +kernel)
set_option maxRecDepth 20000 in
theorem gX6_advance_X2_stalledMask : GoodIn wsX6_advance (wsV RX6 177 RX2 yX2_stalledMask wsX2_stalledMask) := goodIn_app (goodIn_of _ (by decide +kernel)) ggX6_advance_X2_stalledMask
set_option maxRecDepth 20000 in
theorem ggX6_advance_X6_checkState : GoodIn wsX6_advance wsX6_checkState := goodIn_ca (goodIn_r _ [25, 26, 27] (by first | rfl | decide +kernel) (by decide +kernel)) (goodIn_sub (fun _ h => List.mem_cons_of_mem _ (List.mem_append_right _ h)) (by decide +kernel))
set_option maxRecDepth 20000 in
theorem gX6_advance_X6_checkState : GoodIn wsX6_advance (va_wsS RX6 50 yX6_checkState wsX6_checkState) := goodIn_app (goodIn_of _ (by decide +kernel)) ggX6_advance_X6_checkState
set_option maxRecDepth 20000 in
theorem ggX6_advance_X1_save : GoodIn wsX6_advance wsX1_save := goodIn_r _ [32, 33, 34, 35, 36, 37, 38, 39, 40, 41, 42, 43, 44, 45, 46, 47, 48, 49, 50, 51, 52, 53, 54, 55, 56, 57, 58, 59, 60, 61, 62, 63, 64, 65, 66, 67, 68, 69, 70, 71, 72, 73, 74, 75, 76, 77, 78, 79, 80, 81, 82, 83, 84, 85, 86, 10, 87, 21, 88, 16, 89, 90, 91, 92, 93, 94, 95, 96, 113, 114, 115, 100, 101, 102, 103, 104, 105, 106, 107, 108, 109, 110, 116, 117, 118, 119, 120, 121, 122, 123, 124, 125, 126, 127, 111, 112, 128, 129] (by first | rfl | decide +kernel) (by decide +kernel)
set_option maxRecDepth 20000 in
theorem gX6_advance_X1_save : GoodIn wsX6_advance (wsV RX6 38 RX1 yX1_save wsX1_save) := goodIn_app (goodIn_of _ (by decide +kernel)) ggX6_advance_X1_save
theorem dX6_advance_0 : decode cX6_advance 0 = .ok (.aload_n 0, 1) := by decide +kernel
theorem dX6_advance_1 : decode cX6_advance 1 = .ok (.getfield 12, 3) := by decide +kernel
theorem dX6_advance_4 : decode cX6_advance 4 = .ok (.getfield 122, 3) := by decide +kernel
theorem dX6_advance_7 : decode cX6_advance 7 = .ok (.aload_n 0, 1) := by decide +kernel
theorem dX6_advance_8 : decode cX6_advance 8 = .ok (.getfield 12, 3) := by decide +kernel
theorem dX6_advance_11 : decode cX6_advance 11 = .ok (.getfield 132, 3) := by decide +kernel
theorem dX6_advance_14 : decode cX6_advance 14 = .ok (.invokevirtual 177, 3) := by decide +kernel
theorem dX6_advance_17 : decode cX6_advance 17 = .ok (.ifCond .ne 7, 3) := by decide +kernel
theorem dX6_advance_20 : decode cX6_advance 20 = .ok (.iconst 1, 1) := by decide +kernel
theorem dX6_advance_21 : decode cX6_advance 21 = .ok (.goto 4, 3) := by decide +kernel
theorem dX6_advance_24 : decode cX6_advance 24 = .ok (.iconst 0, 1) := by decide +kernel
theorem dX6_advance_25 : decode cX6_advance 25 = .ok (.invokestatic 50, 3) := by decide +kernel
theorem dX6_advance_28 : decode cX6_advance 28 = .ok (.aload_n 0, 1) := by decide +kernel
theorem dX6_advance_29 : decode cX6_advance 29 = .ok (.getfield 22, 3) := by decide +kernel
theorem dX6_advance_32 : decode cX6_advance 32 = .ok (.aload_n 0, 1) := by decide +kernel
theorem dX6_advance_33 : decode cX6_advance 33 = .ok (.getfield 12, 3) := by decide +kernel
theorem dX6_advance_36 : decode cX6_advance 36 = .ok (.invokevirtual 38, 3) := by decide +kernel
theorem dX6_advance_39 : decode cX6_advance 39 = .ok (.aload_n 0, 1) := by decide +kernel
theorem dX6_advance_40 : decode cX6_advance 40 = .ok (.getfield 12, 3) := by decide +kernel
theorem dX6_advance_43 : decode cX6_advance 43 = .ok (.dup, 1) := by decide +kernel
theorem dX6_advance_44 : decode cX6_advance 44 = .ok (.getfield 132, 3) := by decide +kernel
theorem dX6_advance_47 : decode cX6_advance 47 = .ok (.iconst 1, 1) := by decide +kernel
theorem dX6_advance_48 : decode cX6_advance 48 = .ok (.iadd, 1) := by decide +kernel
theorem dX6_advance_49 : decode cX6_advance 49 = .ok (.putfield 132, 3) := by decide +kernel
theorem dX6_advance_52 : decode cX6_advance 52 = .ok (.aload_n 0, 1) := by decide +kernel
theorem dX6_advance_53 : decode cX6_advance 53 = .ok (.getfield 12, 3) := by decide +kernel
theorem dX6_advance_56 : decode cX6_advance 56 = .ok (.aload_n 0, 1) := by decide +kernel
theorem dX6_advance_57 : decode cX6_advance 57 = .ok (.getfield 12, 3) := by decide +kernel
theorem dX6_advance_60 : decode cX6_advance 60 = .ok (.getfield 186, 3) := by decide +kernel
theorem dX6_advance_63 : decode cX6_advance 63 = .ok (.putfield 189, 3) := by decide +kernel
theorem dX6_advance_66 : decode cX6_advance 66 = .ok (.aload_n 0, 1) := by decide +kernel
theorem dX6_advance_67 : decode cX6_advance 67 = .ok (.getfield 12, 3) := by decide +kernel
theorem dX6_advance_70 : decode cX6_advance 70 = .ok (.getfield 132, 3) := by decide +kernel
theorem dX6_advance_73 : decode cX6_advance 73 = .ok (.ireturn, 1) := by decide +kernel
set_option maxRecDepth 20000 in
theorem ggX6_pass_X6_isBetween : GoodIn wsX6_pass wsX6_isBetween := goodIn_r _ [8] (by first | rfl | decide +kernel) (by decide +kernel)
set_option maxRecDepth 20000 in
theorem gX6_pass_X6_isBetween : GoodIn wsX6_pass (va_wsS RX6 30 yX6_isBetween wsX6_isBetween) := goodIn_app (goodIn_of _ (by decide +kernel)) ggX6_pass_X6_isBetween
set_option maxRecDepth 20000 in
theorem ggX6_pass_X6_checkArgument : GoodIn wsX6_pass wsX6_checkArgument := goodIn_ca (goodIn_r _ [11, 12, 13] (by first | rfl | decide +kernel) (by decide +kernel)) (goodIn_sub (fun _ h => List.mem_cons_of_mem _ (List.mem_append_left _ (List.mem_append_right _ h))) (by decide +kernel))
set_option maxRecDepth 20000 in
theorem gX6_pass_X6_checkArgument : GoodIn wsX6_pass (va_wsS RX6 34 yX6_checkArgument wsX6_checkArgument) := goodIn_app (goodIn_of _ (by decide +kernel)) ggX6_pass_X6_checkArgument
set_option maxRecDepth 20000 in
theorem ggX6_pass_X6_checkState : GoodIn wsX6_pass wsX6_checkState := goodIn_ca (goodIn_r _ [16, 17, 18] (by first | rfl | decide +kernel) (by decide +kernel)) (goodIn_sub (fun _ h => List.mem_cons_of_mem _ (List.mem_append_right _ h)) (by decide +kernel))
set_option maxRecDepth 20000 in
theorem gX6_pass_X6_checkState : GoodIn wsX6_pass (va_wsS RX6 50 yX6_checkState wsX6_checkState) := goodIn_app (goodIn_of _ (by decide +kernel)) ggX6_pass_X6_checkState
set_option maxRecDepth 20000 in
theorem ggX6_pass_X1_save : GoodIn wsX6_pass wsX1_save := goodIn_r _ [23, 24, 25, 26, 27, 28, 29, 30, 31, 32, 33, 34, 35, 36, 37, 38, 39, 40, 41, 42, 43, 44, 45, 46, 47, 48, 49, 50, 51, 52, 53, 54, 55, 56, 57, 58, 59, 60, 61, 62, 63, 64, 65, 66, 67, 68, 69, 70, 71, 72, 73, 74, 75, 76, 77, 78, 79, 80, 81, 82, 83, 84, 85, 86, 87, 88, 89, 90, 105, 106, 107, 94, 95, 96, 97, 98, 99, 100, 101, 102, 103, 104, 108, 109, 110, 111, 112, 113, 114, 115, 116, 117, 118, 119, 120, 121, 122, 123] (by first | rfl | decide +kernel) (by decide +kernel)
set_option maxRecDepth 20000 in
theorem gX6_pass_X1_save : GoodIn wsX6_pass (wsV RX6 38 RX1 yX1_save wsX1_save) := goodIn_app (goodIn_of _ (by decide +kernel)) ggX6_pass_X1_save
theorem dX6_pass_0 : decode cX6_pass 0 = .ok (.iload_n 1, 1) := by decide +kernel
theorem dX6_pass_1 : decode cX6_pass 1 = .ok (.iconst 1, 1) := by decide +kernel
theorem dX6_pass_2 : decode cX6_pass 2 = .ok (.sipush 1000, 3) := by decide +kernel
theorem dX6_pass_5 : decode cX6_pass 5 = .ok (.invokestatic 30, 3) := by decide +kernel
theorem dX6_pass_8 : decode cX6_pass 8 = .ok (.invokestatic 34, 3) := by decide +kernel
theorem dX6_pass_11 : decode cX6_pass 11 = .ok (.aload_n 0, 1) := by decide +kernel
theorem dX6_pass_12 : decode cX6_pass 12 = .ok (.getfield 12, 3) := by decide +kernel
theorem dX6_pass_15 : decode cX6_pass 15 = .ok (.getfield 186, 3) := by decide +kernel
theorem dX6_pass_18 : decode cX6_pass 18 = .ok (.iload_n 1, 1) := by decide +kernel
theorem dX6_pass_19 : decode cX6_pass 19 = .ok (.iadd, 1) := by decide +kernel
theorem dX6_pass_20 : decode cX6_pass 20 = .ok (.ldc 192, 2) := by decide +kernel
theorem dX6_pass_22 : decode cX6_pass 22 = .ok (.if_icmp .gt 7, 3) := by decide +kernel
theorem dX6_pass_25 : decode cX6_pass 25 = .ok (.iconst 1, 1) := by decide +kernel
theorem dX6_pass_26 : decode cX6_pass 26 = .ok (.goto 4, 3) := by decide +kernel
theorem dX6_pass_29 : decode cX6_pass 29 = .ok (.iconst 0, 1) := by decide +kernel
theorem dX6_pass_30 : decode cX6_pass 30 = .ok (.invokestatic 50, 3) := by decide +kernel
theorem dX6_pass_33 : decode cX6_pass 33 = .ok (.aload_n 0, 1) := by decide +kernel
theorem dX6_pass_34 : decode cX6_pass 34 = .ok (.getfield 22, 3) := by decide +kernel
theorem dX6_pass_37 : decode cX6_pass 37 = .ok (.aload_n 0, 1) := by decide +kernel
theorem dX6_pass_38 : decode cX6_pass 38 = .ok (.getfield 12, 3) := by decide +kernel
theorem dX6_pass_41 : decode cX6_pass 41 = .ok (.invokevirtual 38, 3) := by decide +kernel
theorem dX6_pass_44 : decode cX6_pass 44 = .ok (.aload_n 0, 1) := by decide +kernel
theorem dX6_pass_45 : decode cX6_pass 45 = .ok (.getfield 12, 3) := by decide +kernel
theorem dX6_pass_48 : decode cX6_pass 48 = .ok (.dup, 1) := by decide +kernel
theorem dX6_pass_49 : decode cX6_pass 49 = .ok (.getfield 186, 3) := by decide +kernel
theorem dX6_pass_52 : decode cX6_pass 52 = .ok (.iload_n 1, 1) := by decide +kernel
theorem dX6_pass_53 : decode cX6_pass 53 = .ok (.iadd, 1) := by decide +kernel
theorem dX6_pass_54 : decode cX6_pass 54 = .ok (.putfield 186, 3) := by decide +kernel
theorem dX6_pass_57 : decode cX6_pass 57 = .ok (.aload_n 0, 1) := by decide +kernel
theorem dX6_pass_58 : decode cX6_pass 58 = .ok (.getfield 12, 3) := by decide +kernel
theorem dX6_pass_61 : decode cX6_pass 61 = .ok (.getfield 186, 3) := by decide +kernel
theorem dX6_pass_64 : decode cX6_pass 64 = .ok (.ireturn, 1) := by decide +kernel
theorem dX6_count_0 : decode cX6_count 0 = .ok (.iload_n 1, 1) := by decide +kernel
theorem dX6_count_1 : decode cX6_count 1 = .ok (.tableswitch 151 0 9 #[55, 66, 77, 85, 93, 101, 109, 117, 125, 138], 55) := by decide +kernel
theorem dX6_count_56 : decode cX6_count 56 = .ok (.aload_n 0, 1) := by decide +kernel
theorem dX6_count_57 : decode cX6_count 57 = .ok (.getfield 12, 3) := by decide +kernel
theorem dX6_count_60 : decode cX6_count 60 = .ok (.getfield 193, 3) := by decide +kernel
theorem dX6_count_63 : decode cX6_count 63 = .ok (.getfield 197, 3) := by decide +kernel
theorem dX6_count_66 : decode cX6_count 66 = .ok (.ireturn, 1) := by decide +kernel
theorem dX6_count_67 : decode cX6_count 67 = .ok (.aload_n 0, 1) := by decide +kernel
theorem dX6_count_68 : decode cX6_count 68 = .ok (.getfield 12, 3) := by decide +kernel
theorem dX6_count_71 : decode cX6_count 71 = .ok (.getfield 193, 3) := by decide +kernel
theorem dX6_count_74 : decode cX6_count 74 = .ok (.getfield 202, 3) := by decide +kernel
theorem dX6_count_77 : decode cX6_count 77 = .ok (.ireturn, 1) := by decide +kernel
theorem dX6_count_78 : decode cX6_count 78 = .ok (.aload_n 0, 1) := by decide +kernel
theorem dX6_count_79 : decode cX6_count 79 = .ok (.getfield 12, 3) := by decide +kernel
theorem dX6_count_82 : decode cX6_count 82 = .ok (.getfield 180, 3) := by decide +kernel
theorem dX6_count_85 : decode cX6_count 85 = .ok (.ireturn, 1) := by decide +kernel
theorem dX6_count_86 : decode cX6_count 86 = .ok (.aload_n 0, 1) := by decide +kernel
theorem dX6_count_87 : decode cX6_count 87 = .ok (.getfield 12, 3) := by decide +kernel
theorem dX6_count_90 : decode cX6_count 90 = .ok (.getfield 132, 3) := by decide +kernel
theorem dX6_count_93 : decode cX6_count 93 = .ok (.ireturn, 1) := by decide +kernel
theorem dX6_count_94 : decode cX6_count 94 = .ok (.aload_n 0, 1) := by decide +kernel
theorem dX6_count_95 : decode cX6_count 95 = .ok (.getfield 12, 3) := by decide +kernel
theorem dX6_count_98 : decode cX6_count 98 = .ok (.getfield 186, 3) := by decide +kernel
theorem dX6_count_101 : decode cX6_count 101 = .ok (.ireturn, 1) := by decide +kernel
theorem dX6_count_102 : decode cX6_count 102 = .ok (.aload_n 0, 1) := by decide +kernel
theorem dX6_count_103 : decode cX6_count 103 = .ok (.getfield 12, 3) := by decide +kernel
theorem dX6_count_106 : decode cX6_count 106 = .ok (.getfield 189, 3) := by decide +kernel
theorem dX6_count_109 : decode cX6_count 109 = .ok (.ireturn, 1) := by decide +kernel
theorem dX6_count_110 : decode cX6_count 110 = .ok (.aload_n 0, 1) := by decide +kernel
theorem dX6_count_111 : decode cX6_count 111 = .ok (.getfield 12, 3) := by decide +kernel
theorem dX6_count_114 : decode cX6_count 114 = .ok (.getfield 205, 3) := by decide +kernel
theorem dX6_count_117 : decode cX6_count 117 = .ok (.ireturn, 1) := by decide +kernel
theorem dX6_count_118 : decode cX6_count 118 = .ok (.aload_n 0, 1) := by decide +kernel
theorem dX6_count_119 : decode cX6_count 119 = .ok (.getfield 12, 3) := by decide +kernel
theorem dX6_count_122 : decode cX6_count 122 = .ok (.getfield 208, 3) := by decide +kernel
theorem dX6_count_125 : decode cX6_count 125 = .ok (.ireturn, 1) := by decide +kernel
theorem dX6_count_126 : decode cX6_count 126 = .ok (.aload_n 0, 1) := by decide +kernel
theorem dX6_count_127 : decode cX6_count 127 = .ok (.getfield 12, 3) := by decide +kernel
theorem dX6_count_130 : decode cX6_count 130 = .ok (.getfield 193, 3) := by decide +kernel
theorem dX6_count_133 : decode cX6_count 133 = .ok (.getfield 211, 3) := by decide +kernel
theorem dX6_count_136 : decode cX6_count 136 = .ok (.iconst 0, 1) := by decide +kernel
theorem dX6_count_137 : decode cX6_count 137 = .ok (.iaload, 1) := by decide +kernel
theorem dX6_count_138 : decode cX6_count 138 = .ok (.ireturn, 1) := by decide +kernel
theorem dX6_count_139 : decode cX6_count 139 = .ok (.aload_n 0, 1) := by decide +kernel
theorem dX6_count_140 : decode cX6_count 140 = .ok (.getfield 12, 3) := by decide +kernel
theorem dX6_count_143 : decode cX6_count 143 = .ok (.getfield 193, 3) := by decide +kernel
theorem dX6_count_146 : decode cX6_count 146 = .ok (.getfield 211, 3) := by decide +kernel
theorem dX6_count_149 : decode cX6_count 149 = .ok (.iconst 1, 1) := by decide +kernel
theorem dX6_count_150 : decode cX6_count 150 = .ok (.iaload, 1) := by decide +kernel
theorem dX6_count_151 : decode cX6_count 151 = .ok (.ireturn, 1) := by decide +kernel
theorem dX6_count_152 : decode cX6_count 152 = .ok (.new 170, 3) := by decide +kernel
theorem dX6_count_155 : decode cX6_count 155 = .ok (.dup, 1) := by decide +kernel
theorem dX6_count_156 : decode cX6_count 156 = .ok (.ldc 214, 2) := by decide +kernel
theorem dX6_count_158 : decode cX6_count 158 = .ok (.invokespecial 174, 3) := by decide +kernel
theorem dX6_count_161 : decode cX6_count 161 = .ok (.athrow, 1) := by decide +kernel
set_option maxRecDepth 20000 in
theorem ggX6_blocks_X6_isBetween : GoodIn wsX6_blocks wsX6_isBetween := goodIn_r _ [7] (by first | rfl | decide +kernel) (by decide +kernel)
set_option maxRecDepth 20000 in
theorem gX6_blocks_X6_isBetween : GoodIn wsX6_blocks (va_wsS RX6 30 yX6_isBetween wsX6_isBetween) := goodIn_app (goodIn_of _ (by decide +kernel)) ggX6_blocks_X6_isBetween
set_option maxRecDepth 20000 in
theorem ggX6_blocks_X6_checkArgument : GoodIn wsX6_blocks wsX6_checkArgument := goodIn_ca (goodIn_r _ [10, 11, 12] (by first | rfl | decide +kernel) (by decide +kernel)) (goodIn_sub (fun _ h => List.mem_cons_of_mem _ (List.mem_append_right _ h)) (by decide +kernel))
set_option maxRecDepth 20000 in
theorem gX6_blocks_X6_checkArgument : GoodIn wsX6_blocks (va_wsS RX6 34 yX6_checkArgument wsX6_checkArgument) := goodIn_app (goodIn_of _ (by decide +kernel)) ggX6_blocks_X6_checkArgument
set_option maxRecDepth 20000 in
theorem ggX6_blocks_X5_blocksIn : GoodIn wsX6_blocks wsX5_blocksIn := goodIn_r _ [17, 18, 19, 20, 21, 22, 23, 24, 25, 26, 30, 31, 32, 33, 34, 35, 36, 37, 38, 39, 40, 41, 42, 43, 44, 45, 46, 47, 48, 49, 50, 51, 52] (by first | rfl | decide +kernel) (by decide +kernel)
set_option maxRecDepth 20000 in
theorem gX6_blocks_X5_blocksIn : GoodIn wsX6_blocks (wsV RX6 216 RX5 yX5_blocksIn wsX5_blocksIn) := goodIn_app (goodIn_of _ (by decide +kernel)) ggX6_blocks_X5_blocksIn
theorem dX6_blocks_0 : decode cX6_blocks 0 = .ok (.iload_n 1, 1) := by decide +kernel
theorem dX6_blocks_1 : decode cX6_blocks 1 = .ok (.iconst 0, 1) := by decide +kernel
theorem dX6_blocks_2 : decode cX6_blocks 2 = .ok (.iconst 4, 1) := by decide +kernel
theorem dX6_blocks_3 : decode cX6_blocks 3 = .ok (.invokestatic 30, 3) := by decide +kernel
theorem dX6_blocks_6 : decode cX6_blocks 6 = .ok (.invokestatic 34, 3) := by decide +kernel
theorem dX6_blocks_9 : decode cX6_blocks 9 = .ok (.iconst 0, 1) := by decide +kernel
theorem dX6_blocks_10 : decode cX6_blocks 10 = .ok (.istore_n 2, 1) := by decide +kernel
theorem dX6_blocks_11 : decode cX6_blocks 11 = .ok (.iconst 0, 1) := by decide +kernel
theorem dX6_blocks_12 : decode cX6_blocks 12 = .ok (.istore_n 3, 1) := by decide +kernel
theorem dX6_blocks_13 : decode cX6_blocks 13 = .ok (.iload_n 3, 1) := by decide +kernel
theorem dX6_blocks_14 : decode cX6_blocks 14 = .ok (.aload_n 0, 1) := by decide +kernel
theorem dX6_blocks_15 : decode cX6_blocks 15 = .ok (.getfield 12, 3) := by decide +kernel
theorem dX6_blocks_18 : decode cX6_blocks 18 = .ok (.getfield 193, 3) := by decide +kernel
theorem dX6_blocks_21 : decode cX6_blocks 21 = .ok (.getfield 197, 3) := by decide +kernel
theorem dX6_blocks_24 : decode cX6_blocks 24 = .ok (.if_icmp .ge 21, 3) := by decide +kernel
theorem dX6_blocks_27 : decode cX6_blocks 27 = .ok (.iload_n 2, 1) := by decide +kernel
theorem dX6_blocks_28 : decode cX6_blocks 28 = .ok (.aload_n 0, 1) := by decide +kernel
theorem dX6_blocks_29 : decode cX6_blocks 29 = .ok (.getfield 12, 3) := by decide +kernel
theorem dX6_blocks_32 : decode cX6_blocks 32 = .ok (.iload_n 3, 1) := by decide +kernel
theorem dX6_blocks_33 : decode cX6_blocks 33 = .ok (.iload_n 1, 1) := by decide +kernel
theorem dX6_blocks_34 : decode cX6_blocks 34 = .ok (.invokevirtual 216, 3) := by decide +kernel
theorem dX6_blocks_37 : decode cX6_blocks 37 = .ok (.iadd, 1) := by decide +kernel
theorem dX6_blocks_38 : decode cX6_blocks 38 = .ok (.istore_n 2, 1) := by decide +kernel
theorem dX6_blocks_39 : decode cX6_blocks 39 = .ok (.iinc 3 1, 3) := by decide +kernel
theorem dX6_blocks_42 : decode cX6_blocks 42 = .ok (.goto (-29), 3) := by decide +kernel
theorem dX6_blocks_45 : decode cX6_blocks 45 = .ok (.iload_n 2, 1) := by decide +kernel
theorem dX6_blocks_46 : decode cX6_blocks 46 = .ok (.ireturn, 1) := by decide +kernel
set_option maxRecDepth 20000 in
theorem ggX6_segment_X6_checkSegment : GoodIn wsX6_segment wsX6_checkSegment := goodIn_ca (goodIn_r _ [11, 3, 4, 12, 13, 14, 10, 15, 16, 17, 18, 19, 20, 54, 55, 56, 57, 58, 59, 60, 61, 62, 63, 64, 65, 66, 67, 68, 69, 70, 71, 72, 73] (by first | rfl | decide +kernel) (by decide +kernel)) (goodIn_sub (fun _ h => List.mem_cons_of_mem _ (List.mem_append_right _ h)) (by decide +kernel))
set_option maxRecDepth 20000 in
theorem gX6_segment_X6_checkSegment : GoodIn wsX6_segment (wsV RX6 219 RX6 yX6_checkSegment wsX6_checkSegment) := goodIn_app (goodIn_of _ (by decide +kernel)) ggX6_segment_X6_checkSegment
set_option maxRecDepth 20000 in
theorem ggX6_segment_X5_useOf : GoodIn wsX6_segment wsX5_useOf := goodIn_r _ [25, 26, 27, 28, 24, 29, 30, 31, 32, 33, 34, 35, 36, 37, 38, 57, 58, 59, 60, 61, 62, 63, 64, 65, 66, 67, 68, 69, 70, 71, 72, 73, 74, 75, 76, 77, 78, 79] (by first | rfl | decide +kernel) (by decide +kernel)
set_option maxRecDepth 20000 in
theorem gX6_segment_X5_useOf : GoodIn wsX6_segment (wsV RX6 223 RX5 yX5_useOf wsX5_useOf) := goodIn_app (goodIn_of _ (by decide +kernel)) ggX6_segment_X5_useOf
set_option maxRecDepth 20000 in
theorem ggX6_segment_X5_blocksIn : GoodIn wsX6_segment wsX5_blocksIn := goodIn_r _ [29, 30, 31, 32, 33, 34, 35, 36, 37, 38, 57, 58, 59, 60, 61, 62, 63, 64, 65, 66, 67, 68, 69, 70, 71, 72, 73, 74, 75, 76, 77, 78, 79] (by first | rfl | decide +kernel) (by decide +kernel)
set_option maxRecDepth 20000 in
theorem gX6_segment_X5_blocksIn : GoodIn wsX6_segment (wsV RX6 216 RX5 yX5_blocksIn wsX5_blocksIn) := goodIn_app (goodIn_of _ (by decide +kernel)) ggX6_segment_X5_blocksIn
set_option maxRecDepth 20000 in
theorem ggX6_segment_X5_ageOf : GoodIn wsX6_segment wsX5_ageOf := goodIn_r _ [43, 30, 31, 32, 44, 45, 46, 47, 36, 48, 49, 50, 51, 52, 53, 57, 58, 59, 60, 61, 62, 63, 64, 65, 66, 67, 68, 69, 70, 71, 72, 73, 74, 75, 76, 77, 78, 79] (by first | rfl | decide +kernel) (by decide +kernel)
set_option maxRecDepth 20000 in
theorem gX6_segment_X5_ageOf : GoodIn wsX6_segment (wsV RX6 229 RX5 yX5_ageOf wsX5_ageOf) := goodIn_app (goodIn_of _ (by decide +kernel)) ggX6_segment_X5_ageOf
theorem dX6_segment_0 : decode cX6_segment 0 = .ok (.aload_n 0, 1) := by decide +kernel
theorem dX6_segment_1 : decode cX6_segment 1 = .ok (.iload_n 1, 1) := by decide +kernel
theorem dX6_segment_2 : decode cX6_segment 2 = .ok (.invokevirtual 219, 3) := by decide +kernel
theorem dX6_segment_5 : decode cX6_segment 5 = .ok (.iload_n 2, 1) := by decide +kernel
theorem dX6_segment_6 : decode cX6_segment 6 = .ok (.tableswitch 102 0 5 #[38, 51, 60, 70, 80, 93], 38) := by decide +kernel
theorem dX6_segment_44 : decode cX6_segment 44 = .ok (.aload_n 0, 1) := by decide +kernel
theorem dX6_segment_45 : decode cX6_segment 45 = .ok (.getfield 12, 3) := by decide +kernel
theorem dX6_segment_48 : decode cX6_segment 48 = .ok (.getfield 193, 3) := by decide +kernel
theorem dX6_segment_51 : decode cX6_segment 51 = .ok (.getfield 222, 3) := by decide +kernel
theorem dX6_segment_54 : decode cX6_segment 54 = .ok (.iload_n 1, 1) := by decide +kernel
theorem dX6_segment_55 : decode cX6_segment 55 = .ok (.iaload, 1) := by decide +kernel
theorem dX6_segment_56 : decode cX6_segment 56 = .ok (.ireturn, 1) := by decide +kernel
theorem dX6_segment_57 : decode cX6_segment 57 = .ok (.aload_n 0, 1) := by decide +kernel
theorem dX6_segment_58 : decode cX6_segment 58 = .ok (.getfield 12, 3) := by decide +kernel
theorem dX6_segment_61 : decode cX6_segment 61 = .ok (.iload_n 1, 1) := by decide +kernel
theorem dX6_segment_62 : decode cX6_segment 62 = .ok (.invokevirtual 223, 3) := by decide +kernel
theorem dX6_segment_65 : decode cX6_segment 65 = .ok (.ireturn, 1) := by decide +kernel
theorem dX6_segment_66 : decode cX6_segment 66 = .ok (.aload_n 0, 1) := by decide +kernel
theorem dX6_segment_67 : decode cX6_segment 67 = .ok (.getfield 12, 3) := by decide +kernel
theorem dX6_segment_70 : decode cX6_segment 70 = .ok (.iload_n 1, 1) := by decide +kernel
theorem dX6_segment_71 : decode cX6_segment 71 = .ok (.iconst 3, 1) := by decide +kernel
theorem dX6_segment_72 : decode cX6_segment 72 = .ok (.invokevirtual 216, 3) := by decide +kernel
theorem dX6_segment_75 : decode cX6_segment 75 = .ok (.ireturn, 1) := by decide +kernel
theorem dX6_segment_76 : decode cX6_segment 76 = .ok (.aload_n 0, 1) := by decide +kernel
theorem dX6_segment_77 : decode cX6_segment 77 = .ok (.getfield 12, 3) := by decide +kernel
theorem dX6_segment_80 : decode cX6_segment 80 = .ok (.iload_n 1, 1) := by decide +kernel
theorem dX6_segment_81 : decode cX6_segment 81 = .ok (.iconst 4, 1) := by decide +kernel
theorem dX6_segment_82 : decode cX6_segment 82 = .ok (.invokevirtual 216, 3) := by decide +kernel
theorem dX6_segment_85 : decode cX6_segment 85 = .ok (.ireturn, 1) := by decide +kernel
theorem dX6_segment_86 : decode cX6_segment 86 = .ok (.aload_n 0, 1) := by decide +kernel
theorem dX6_segment_87 : decode cX6_segment 87 = .ok (.getfield 12, 3) := by decide +kernel
theorem dX6_segment_90 : decode cX6_segment 90 = .ok (.getfield 193, 3) := by decide +kernel
theorem dX6_segment_93 : decode cX6_segment 93 = .ok (.getfield 226, 3) := by decide +kernel
theorem dX6_segment_96 : decode cX6_segment 96 = .ok (.iload_n 1, 1) := by decide +kernel
theorem dX6_segment_97 : decode cX6_segment 97 = .ok (.iaload, 1) := by decide +kernel
theorem dX6_segment_98 : decode cX6_segment 98 = .ok (.ireturn, 1) := by decide +kernel
theorem dX6_segment_99 : decode cX6_segment 99 = .ok (.aload_n 0, 1) := by decide +kernel
theorem dX6_segment_100 : decode cX6_segment 100 = .ok (.getfield 12, 3) := by decide +kernel
theorem dX6_segment_103 : decode cX6_segment 103 = .ok (.iload_n 1, 1) := by decide +kernel
theorem dX6_segment_104 : decode cX6_segment 104 = .ok (.invokevirtual 229, 3) := by decide +kernel
theorem dX6_segment_107 : decode cX6_segment 107 = .ok (.ireturn, 1) := by decide +kernel
theorem dX6_segment_108 : decode cX6_segment 108 = .ok (.new 170, 3) := by decide +kernel
theorem dX6_segment_111 : decode cX6_segment 111 = .ok (.dup, 1) := by decide +kernel
theorem dX6_segment_112 : decode cX6_segment 112 = .ok (.ldc 232, 2) := by decide +kernel
theorem dX6_segment_114 : decode cX6_segment 114 = .ok (.invokespecial 174, 3) := by decide +kernel
theorem dX6_segment_117 : decode cX6_segment 117 = .ok (.athrow, 1) := by decide +kernel
set_option maxRecDepth 20000 in
theorem ggX6_meanAge_X6_checkSegment : GoodIn wsX6_meanAge wsX6_checkSegment := goodIn_ca (goodIn_r _ [6, 1, 7, 8, 9, 10, 5, 11, 12, 13, 14, 15, 16, 56, 57, 58, 59, 60, 61, 62, 63, 64, 65, 66, 67, 68, 69, 70, 71, 72, 73, 74, 75] (by first | rfl | decide +kernel) (by decide +kernel)) (goodIn_sub (fun _ h => List.mem_cons_of_mem _ (List.mem_append_left _ (List.mem_append_right _ h))) (by decide +kernel))
set_option maxRecDepth 20000 in
theorem gX6_meanAge_X6_checkSegment : GoodIn wsX6_meanAge (wsV RX6 219 RX6 yX6_checkSegment wsX6_checkSegment) := goodIn_app (goodIn_of _ (by decide +kernel)) ggX6_meanAge_X6_checkSegment
set_option maxRecDepth 20000 in
theorem ggX6_meanAge_X5_useOf : GoodIn wsX6_meanAge wsX5_useOf := goodIn_r _ [21, 22, 23, 24, 20, 25, 26, 27, 28, 29, 30, 31, 32, 33, 34, 59, 60, 61, 62, 63, 64, 65, 66, 67, 68, 69, 70, 71, 72, 73, 74, 75, 76, 77, 78, 79, 80, 81] (by first | rfl | decide +kernel) (by decide +kernel)
set_option maxRecDepth 20000 in
theorem gX6_meanAge_X5_useOf : GoodIn wsX6_meanAge (wsV RX6 223 RX5 yX5_useOf wsX5_useOf) := goodIn_app (goodIn_of _ (by decide +kernel)) ggX6_meanAge_X5_useOf
set_option maxRecDepth 20000 in
theorem ggX6_meanAge_X6_checkElement : GoodIn wsX6_meanAge wsX6_checkElement := goodIn_ca (goodIn_r _ [37, 38, 39] (by first | rfl | decide +kernel) (by decide +kernel)) (goodIn_sub (fun _ h => List.mem_cons_of_mem _ (List.mem_append_right _ h)) (by decide +kernel))
set_option maxRecDepth 20000 in
theorem gX6_meanAge_X6_checkElement : GoodIn wsX6_meanAge (va_wsS RX6 61 yX6_checkElement wsX6_checkElement) := goodIn_app (goodIn_of _ (by decide +kernel)) ggX6_meanAge_X6_checkElement
set_option maxRecDepth 20000 in
theorem ggX6_meanAge_X5_sumOfAges : GoodIn wsX6_meanAge wsX5_sumOfAges := goodIn_r _ [43, 27, 28, 26, 44, 45, 46, 47, 48, 32, 49, 34, 59, 60, 61, 62, 63, 64, 65, 66, 67, 68, 69, 70, 71, 72, 73, 74, 75, 76, 77, 78, 79, 80, 81] (by first | rfl | decide +kernel) (by decide +kernel)
set_option maxRecDepth 20000 in
theorem gX6_meanAge_X5_sumOfAges : GoodIn wsX6_meanAge (wsV RX6 234 RX5 yX5_sumOfAges wsX5_sumOfAges) := goodIn_app (goodIn_of _ (by decide +kernel)) ggX6_meanAge_X5_sumOfAges
set_option maxRecDepth 20000 in
theorem ggX6_meanAge_X6_inLowestTerms : GoodIn wsX6_meanAge wsX6_inLowestTerms := goodIn_r _ [52, 53, 54, 5, 55] (by first | rfl | decide +kernel) (by decide +kernel)
set_option maxRecDepth 20000 in
theorem gX6_meanAge_X6_inLowestTerms : GoodIn wsX6_meanAge (va_wsS RX6 237 yX6_inLowestTerms wsX6_inLowestTerms) := goodIn_app (goodIn_of _ (by decide +kernel)) ggX6_meanAge_X6_inLowestTerms
theorem dX6_meanAge_0 : decode cX6_meanAge 0 = .ok (.aload_n 0, 1) := by decide +kernel
theorem dX6_meanAge_1 : decode cX6_meanAge 1 = .ok (.iload_n 1, 1) := by decide +kernel
theorem dX6_meanAge_2 : decode cX6_meanAge 2 = .ok (.invokevirtual 219, 3) := by decide +kernel
theorem dX6_meanAge_5 : decode cX6_meanAge 5 = .ok (.aload_n 0, 1) := by decide +kernel
theorem dX6_meanAge_6 : decode cX6_meanAge 6 = .ok (.getfield 12, 3) := by decide +kernel
theorem dX6_meanAge_9 : decode cX6_meanAge 9 = .ok (.iload_n 1, 1) := by decide +kernel
theorem dX6_meanAge_10 : decode cX6_meanAge 10 = .ok (.invokevirtual 223, 3) := by decide +kernel
theorem dX6_meanAge_13 : decode cX6_meanAge 13 = .ok (.istore_n 3, 1) := by decide +kernel
theorem dX6_meanAge_14 : decode cX6_meanAge 14 = .ok (.iload_n 3, 1) := by decide +kernel
theorem dX6_meanAge_15 : decode cX6_meanAge 15 = .ok (.ifCond .le 7, 3) := by decide +kernel
theorem dX6_meanAge_18 : decode cX6_meanAge 18 = .ok (.iconst 1, 1) := by decide +kernel
theorem dX6_meanAge_19 : decode cX6_meanAge 19 = .ok (.goto 4, 3) := by decide +kernel
theorem dX6_meanAge_22 : decode cX6_meanAge 22 = .ok (.iconst 0, 1) := by decide +kernel
theorem dX6_meanAge_23 : decode cX6_meanAge 23 = .ok (.invokestatic 61, 3) := by decide +kernel
theorem dX6_meanAge_26 : decode cX6_meanAge 26 = .ok (.aload_n 0, 1) := by decide +kernel
theorem dX6_meanAge_27 : decode cX6_meanAge 27 = .ok (.getfield 12, 3) := by decide +kernel
theorem dX6_meanAge_30 : decode cX6_meanAge 30 = .ok (.iload_n 1, 1) := by decide +kernel
theorem dX6_meanAge_31 : decode cX6_meanAge 31 = .ok (.invokevirtual 234, 3) := by decide +kernel
theorem dX6_meanAge_34 : decode cX6_meanAge 34 = .ok (.iload_n 3, 1) := by decide +kernel
theorem dX6_meanAge_35 : decode cX6_meanAge 35 = .ok (.iload_n 2, 1) := by decide +kernel
theorem dX6_meanAge_36 : decode cX6_meanAge 36 = .ok (.invokestatic 237, 3) := by decide +kernel
theorem dX6_meanAge_39 : decode cX6_meanAge 39 = .ok (.ireturn, 1) := by decide +kernel
set_option maxRecDepth 20000 in
theorem ggX6_block_X6_checkAddress : GoodIn wsX6_block wsX6_checkAddress := goodIn_ca (goodIn_r _ [14, 3, 15, 16, 17, 18, 19, 13, 20, 21, 22, 23, 24, 25, 26, 27, 28, 29, 30, 31, 32, 33, 34, 35, 36, 43, 44, 45, 46, 47, 48] (by first | rfl | decide +kernel) (by decide +kernel)) (goodIn_sub (fun _ h => List.mem_cons_of_mem _ (List.mem_append_right _ h)) (by decide +kernel))
set_option maxRecDepth 20000 in
theorem gX6_block_X6_checkAddress : GoodIn wsX6_block (wsV RX6 241 RX6 yX6_checkAddress wsX6_checkAddress) := goodIn_app (goodIn_of _ (by decide +kernel)) ggX6_block_X6_checkAddress
theorem dX6_block_0 : decode cX6_block 0 = .ok (.aload_n 0, 1) := by decide +kernel
theorem dX6_block_1 : decode cX6_block 1 = .ok (.iload_n 1, 1) := by decide +kernel
theorem dX6_block_2 : decode cX6_block 2 = .ok (.invokevirtual 241, 3) := by decide +kernel
theorem dX6_block_5 : decode cX6_block 5 = .ok (.iload_n 2, 1) := by decide +kernel
theorem dX6_block_6 : decode cX6_block 6 = .ok (.tableswitch 99 0 4 #[34, 47, 60, 73, 86], 34) := by decide +kernel
theorem dX6_block_40 : decode cX6_block 40 = .ok (.aload_n 0, 1) := by decide +kernel
theorem dX6_block_41 : decode cX6_block 41 = .ok (.getfield 12, 3) := by decide +kernel
theorem dX6_block_44 : decode cX6_block 44 = .ok (.getfield 68, 3) := by decide +kernel
theorem dX6_block_47 : decode cX6_block 47 = .ok (.getfield 244, 3) := by decide +kernel
theorem dX6_block_50 : decode cX6_block 50 = .ok (.iload_n 1, 1) := by decide +kernel
theorem dX6_block_51 : decode cX6_block 51 = .ok (.iaload, 1) := by decide +kernel
theorem dX6_block_52 : decode cX6_block 52 = .ok (.ireturn, 1) := by decide +kernel
theorem dX6_block_53 : decode cX6_block 53 = .ok (.aload_n 0, 1) := by decide +kernel
theorem dX6_block_54 : decode cX6_block 54 = .ok (.getfield 12, 3) := by decide +kernel
theorem dX6_block_57 : decode cX6_block 57 = .ok (.getfield 68, 3) := by decide +kernel
theorem dX6_block_60 : decode cX6_block 60 = .ok (.getfield 245, 3) := by decide +kernel
theorem dX6_block_63 : decode cX6_block 63 = .ok (.iload_n 1, 1) := by decide +kernel
theorem dX6_block_64 : decode cX6_block 64 = .ok (.iaload, 1) := by decide +kernel
theorem dX6_block_65 : decode cX6_block 65 = .ok (.ireturn, 1) := by decide +kernel
theorem dX6_block_66 : decode cX6_block 66 = .ok (.aload_n 0, 1) := by decide +kernel
theorem dX6_block_67 : decode cX6_block 67 = .ok (.getfield 12, 3) := by decide +kernel
theorem dX6_block_70 : decode cX6_block 70 = .ok (.getfield 68, 3) := by decide +kernel
theorem dX6_block_73 : decode cX6_block 73 = .ok (.getfield 72, 3) := by decide +kernel
theorem dX6_block_76 : decode cX6_block 76 = .ok (.iload_n 1, 1) := by decide +kernel
theorem dX6_block_77 : decode cX6_block 77 = .ok (.iaload, 1) := by decide +kernel
theorem dX6_block_78 : decode cX6_block 78 = .ok (.ireturn, 1) := by decide +kernel
theorem dX6_block_79 : decode cX6_block 79 = .ok (.aload_n 0, 1) := by decide +kernel
theorem dX6_block_80 : decode cX6_block 80 = .ok (.getfield 12, 3) := by decide +kernel
theorem dX6_block_83 : decode cX6_block 83 = .ok (.getfield 68, 3) := by decide +kernel
theorem dX6_block_86 : decode cX6_block 86 = .ok (.getfield 248, 3) := by decide +kernel
theorem dX6_block_89 : decode cX6_block 89 = .ok (.iload_n 1, 1) := by decide +kernel
theorem dX6_block_90 : decode cX6_block 90 = .ok (.iaload, 1) := by decide +kernel
theorem dX6_block_91 : decode cX6_block 91 = .ok (.ireturn, 1) := by decide +kernel
theorem dX6_block_92 : decode cX6_block 92 = .ok (.aload_n 0, 1) := by decide +kernel
theorem dX6_block_93 : decode cX6_block 93 = .ok (.getfield 12, 3) := by decide +kernel
theorem dX6_block_96 : decode cX6_block 96 = .ok (.getfield 68, 3) := by decide +kernel
theorem dX6_block_99 : decode cX6_block 99 = .ok (.getfield 250, 3) := by decide +kernel
theorem dX6_block_102 : decode cX6_block 102 = .ok (.iload_n 1, 1) := by decide +kernel
theorem dX6_block_103 : decode cX6_block 103 = .ok (.iaload, 1) := by decide +kernel
theorem dX6_block_104 : decode cX6_block 104 = .ok (.ireturn, 1) := by decide +kernel
theorem dX6_block_105 : decode cX6_block 105 = .ok (.new 170, 3) := by decide +kernel
theorem dX6_block_108 : decode cX6_block 108 = .ok (.dup, 1) := by decide +kernel
theorem dX6_block_109 : decode cX6_block 109 = .ok (.ldc 253, 2) := by decide +kernel
theorem dX6_block_111 : decode cX6_block 111 = .ok (.invokespecial 174, 3) := by decide +kernel
theorem dX6_block_114 : decode cX6_block 114 = .ok (.athrow, 1) := by decide +kernel
set_option maxRecDepth 20000 in
theorem ggX6_neededBy_X6_checkAddress : GoodIn wsX6_neededBy wsX6_checkAddress := goodIn_ca (goodIn_r _ [12, 1, 13, 14, 15, 16, 17, 11, 18, 19, 20, 31, 32, 33, 34, 35, 36, 37, 38, 39, 40, 41, 42, 43, 44, 51, 52, 53, 54, 55, 56] (by first | rfl | decide +kernel) (by decide +kernel)) (goodIn_sub (fun _ h => List.mem_cons_of_mem _ (List.mem_append_right _ h)) (by decide +kernel))
set_option maxRecDepth 20000 in
theorem gX6_neededBy_X6_checkAddress : GoodIn wsX6_neededBy (wsV RX6 241 RX6 yX6_checkAddress wsX6_checkAddress) := goodIn_app (goodIn_of _ (by decide +kernel)) ggX6_neededBy_X6_checkAddress
set_option maxRecDepth 20000 in
theorem ggX6_neededBy_X4_has : GoodIn wsX6_neededBy wsX4_has := goodIn_r _ [25, 26, 27, 28, 24, 29, 30, 57, 58] (by first | rfl | decide +kernel) (by decide +kernel)
set_option maxRecDepth 20000 in
theorem gX6_neededBy_X4_has : GoodIn wsX6_neededBy (wsV RX6 258 RX4 yX4_has wsX4_has) := goodIn_app (goodIn_of _ (by decide +kernel)) ggX6_neededBy_X4_has
theorem dX6_neededBy_0 : decode cX6_neededBy 0 = .ok (.aload_n 0, 1) := by decide +kernel
theorem dX6_neededBy_1 : decode cX6_neededBy 1 = .ok (.iload_n 1, 1) := by decide +kernel
theorem dX6_neededBy_2 : decode cX6_neededBy 2 = .ok (.invokevirtual 241, 3) := by decide +kernel
theorem dX6_neededBy_5 : decode cX6_neededBy 5 = .ok (.aload_n 0, 1) := by decide +kernel
theorem dX6_neededBy_6 : decode cX6_neededBy 6 = .ok (.getfield 12, 3) := by decide +kernel
theorem dX6_neededBy_9 : decode cX6_neededBy 9 = .ok (.getfield 68, 3) := by decide +kernel
theorem dX6_neededBy_12 : decode cX6_neededBy 12 = .ok (.getfield 255, 3) := by decide +kernel
theorem dX6_neededBy_15 : decode cX6_neededBy 15 = .ok (.iload_n 1, 1) := by decide +kernel
theorem dX6_neededBy_16 : decode cX6_neededBy 16 = .ok (.iaload, 1) := by decide +kernel
theorem dX6_neededBy_17 : decode cX6_neededBy 17 = .ok (.istore_n 2, 1) := by decide +kernel
theorem dX6_neededBy_18 : decode cX6_neededBy 18 = .ok (.iconst 0, 1) := by decide +kernel
theorem dX6_neededBy_19 : decode cX6_neededBy 19 = .ok (.istore_n 3, 1) := by decide +kernel
theorem dX6_neededBy_20 : decode cX6_neededBy 20 = .ok (.iload_n 3, 1) := by decide +kernel
theorem dX6_neededBy_21 : decode cX6_neededBy 21 = .ok (.iconst 4, 1) := by decide +kernel
theorem dX6_neededBy_22 : decode cX6_neededBy 22 = .ok (.if_icmp .ge 45, 3) := by decide +kernel
theorem dX6_neededBy_25 : decode cX6_neededBy 25 = .ok (.aload_n 0, 1) := by decide +kernel
theorem dX6_neededBy_26 : decode cX6_neededBy 26 = .ok (.getfield 12, 3) := by decide +kernel
theorem dX6_neededBy_29 : decode cX6_neededBy 29 = .ok (.getfield 89, 3) := by decide +kernel
theorem dX6_neededBy_32 : decode cX6_neededBy 32 = .ok (.iload_n 3, 1) := by decide +kernel
theorem dX6_neededBy_33 : decode cX6_neededBy 33 = .ok (.aload_n 0, 1) := by decide +kernel
theorem dX6_neededBy_34 : decode cX6_neededBy 34 = .ok (.getfield 12, 3) := by decide +kernel
theorem dX6_neededBy_37 : decode cX6_neededBy 37 = .ok (.getfield 68, 3) := by decide +kernel
theorem dX6_neededBy_40 : decode cX6_neededBy 40 = .ok (.getfield 245, 3) := by decide +kernel
theorem dX6_neededBy_43 : decode cX6_neededBy 43 = .ok (.iload_n 1, 1) := by decide +kernel
theorem dX6_neededBy_44 : decode cX6_neededBy 44 = .ok (.iaload, 1) := by decide +kernel
theorem dX6_neededBy_45 : decode cX6_neededBy 45 = .ok (.iload_n 1, 1) := by decide +kernel
theorem dX6_neededBy_46 : decode cX6_neededBy 46 = .ok (.invokevirtual 258, 3) := by decide +kernel
theorem dX6_neededBy_49 : decode cX6_neededBy 49 = .ok (.ifCond .eq 12, 3) := by decide +kernel
theorem dX6_neededBy_52 : decode cX6_neededBy 52 = .ok (.iload_n 2, 1) := by decide +kernel
theorem dX6_neededBy_53 : decode cX6_neededBy 53 = .ok (.iconst 1, 1) := by decide +kernel
theorem dX6_neededBy_54 : decode cX6_neededBy 54 = .ok (.bipush 8, 2) := by decide +kernel
theorem dX6_neededBy_56 : decode cX6_neededBy 56 = .ok (.iload_n 3, 1) := by decide +kernel
theorem dX6_neededBy_57 : decode cX6_neededBy 57 = .ok (.iadd, 1) := by decide +kernel
theorem dX6_neededBy_58 : decode cX6_neededBy 58 = .ok (.ishl, 1) := by decide +kernel
theorem dX6_neededBy_59 : decode cX6_neededBy 59 = .ok (.ior, 1) := by decide +kernel
theorem dX6_neededBy_60 : decode cX6_neededBy 60 = .ok (.istore_n 2, 1) := by decide +kernel
theorem dX6_neededBy_61 : decode cX6_neededBy 61 = .ok (.iinc 3 1, 3) := by decide +kernel
theorem dX6_neededBy_64 : decode cX6_neededBy 64 = .ok (.goto (-44), 3) := by decide +kernel
theorem dX6_neededBy_67 : decode cX6_neededBy 67 = .ok (.aload_n 0, 1) := by decide +kernel
theorem dX6_neededBy_68 : decode cX6_neededBy 68 = .ok (.getfield 12, 3) := by decide +kernel
theorem dX6_neededBy_71 : decode cX6_neededBy 71 = .ok (.getfield 68, 3) := by decide +kernel
theorem dX6_neededBy_74 : decode cX6_neededBy 74 = .ok (.getfield 244, 3) := by decide +kernel
theorem dX6_neededBy_77 : decode cX6_neededBy 77 = .ok (.iload_n 1, 1) := by decide +kernel
theorem dX6_neededBy_78 : decode cX6_neededBy 78 = .ok (.iaload, 1) := by decide +kernel
theorem dX6_neededBy_79 : decode cX6_neededBy 79 = .ok (.iconst 1, 1) := by decide +kernel
theorem dX6_neededBy_80 : decode cX6_neededBy 80 = .ok (.if_icmp .ne 9, 3) := by decide +kernel
theorem dX6_neededBy_83 : decode cX6_neededBy 83 = .ok (.iload_n 2, 1) := by decide +kernel
theorem dX6_neededBy_84 : decode cX6_neededBy 84 = .ok (.ldc_w 261, 3) := by decide +kernel
theorem dX6_neededBy_87 : decode cX6_neededBy 87 = .ok (.ior, 1) := by decide +kernel
theorem dX6_neededBy_88 : decode cX6_neededBy 88 = .ok (.istore_n 2, 1) := by decide +kernel
theorem dX6_neededBy_89 : decode cX6_neededBy 89 = .ok (.iload_n 2, 1) := by decide +kernel
theorem dX6_neededBy_90 : decode cX6_neededBy 90 = .ok (.ireturn, 1) := by decide +kernel
set_option maxRecDepth 20000 in
theorem ggX6_waiting_X6_isBetween : GoodIn wsX6_waiting wsX6_isBetween := goodIn_r _ [5] (by first | rfl | decide +kernel) (by decide +kernel)
set_option maxRecDepth 20000 in
theorem gX6_waiting_X6_isBetween : GoodIn wsX6_waiting (va_wsS RX6 30 yX6_isBetween wsX6_isBetween) := goodIn_app (goodIn_of _ (by decide +kernel)) ggX6_waiting_X6_isBetween
set_option maxRecDepth 20000 in
theorem ggX6_waiting_X6_checkArgument : GoodIn wsX6_waiting wsX6_checkArgument := goodIn_ca (goodIn_r _ [8, 9, 10] (by first | rfl | decide +kernel) (by decide +kernel)) (goodIn_sub (fun _ h => List.mem_cons_of_mem _ (List.mem_append_right _ h)) (by decide +kernel))
set_option maxRecDepth 20000 in
theorem gX6_waiting_X6_checkArgument : GoodIn wsX6_waiting (va_wsS RX6 34 yX6_checkArgument wsX6_checkArgument) := goodIn_app (goodIn_of _ (by decide +kernel)) ggX6_waiting_X6_checkArgument
set_option maxRecDepth 20000 in
theorem ggX6_waiting_X5_reclaimableAfter : GoodIn wsX6_waiting wsX5_reclaimableAfter := goodIn_r _ [15, 16, 17, 18, 19, 20, 21, 22, 23, 24, 28, 29, 30, 31, 32, 33, 34, 35, 36, 37, 38, 39, 40, 41, 42, 43, 44] (by first | rfl | decide +kernel) (by decide +kernel)
set_option maxRecDepth 20000 in
theorem gX6_waiting_X5_reclaimableAfter : GoodIn wsX6_waiting (wsV RX6 262 RX5 yX5_reclaimableAfter wsX5_reclaimableAfter) := goodIn_app (goodIn_of _ (by decide +kernel)) ggX6_waiting_X5_reclaimableAfter
theorem dX6_waiting_0 : decode cX6_waiting 0 = .ok (.iload_n 1, 1) := by decide +kernel
theorem dX6_waiting_1 : decode cX6_waiting 1 = .ok (.iconst 0, 1) := by decide +kernel
theorem dX6_waiting_2 : decode cX6_waiting 2 = .ok (.iconst 2, 1) := by decide +kernel
theorem dX6_waiting_3 : decode cX6_waiting 3 = .ok (.invokestatic 30, 3) := by decide +kernel
theorem dX6_waiting_6 : decode cX6_waiting 6 = .ok (.invokestatic 34, 3) := by decide +kernel
theorem dX6_waiting_9 : decode cX6_waiting 9 = .ok (.aload_n 0, 1) := by decide +kernel
theorem dX6_waiting_10 : decode cX6_waiting 10 = .ok (.getfield 12, 3) := by decide +kernel
theorem dX6_waiting_13 : decode cX6_waiting 13 = .ok (.iload_n 1, 1) := by decide +kernel
theorem dX6_waiting_14 : decode cX6_waiting 14 = .ok (.invokevirtual 262, 3) := by decide +kernel
theorem dX6_waiting_17 : decode cX6_waiting 17 = .ok (.istore_n 2, 1) := by decide +kernel
theorem dX6_waiting_18 : decode cX6_waiting 18 = .ok (.iload_n 1, 1) := by decide +kernel
theorem dX6_waiting_19 : decode cX6_waiting 19 = .ok (.ifCond .ne 7, 3) := by decide +kernel
theorem dX6_waiting_22 : decode cX6_waiting 22 = .ok (.iload_n 2, 1) := by decide +kernel
theorem dX6_waiting_23 : decode cX6_waiting 23 = .ok (.goto 15, 3) := by decide +kernel
theorem dX6_waiting_26 : decode cX6_waiting 26 = .ok (.iload_n 2, 1) := by decide +kernel
theorem dX6_waiting_27 : decode cX6_waiting 27 = .ok (.aload_n 0, 1) := by decide +kernel
theorem dX6_waiting_28 : decode cX6_waiting 28 = .ok (.getfield 12, 3) := by decide +kernel
theorem dX6_waiting_31 : decode cX6_waiting 31 = .ok (.iload_n 1, 1) := by decide +kernel
theorem dX6_waiting_32 : decode cX6_waiting 32 = .ok (.iconst 1, 1) := by decide +kernel
theorem dX6_waiting_33 : decode cX6_waiting 33 = .ok (.isub, 1) := by decide +kernel
theorem dX6_waiting_34 : decode cX6_waiting 34 = .ok (.invokevirtual 262, 3) := by decide +kernel
theorem dX6_waiting_37 : decode cX6_waiting 37 = .ok (.isub, 1) := by decide +kernel
theorem dX6_waiting_38 : decode cX6_waiting 38 = .ok (.ireturn, 1) := by decide +kernel
set_option maxRecDepth 20000 in
theorem ggX6_reclaim_X1_save : GoodIn wsX6_reclaim wsX1_save := goodIn_r _ [7, 8, 9, 10, 11, 12, 13, 14, 15, 16, 17, 18, 19, 20, 21, 22, 23, 24, 25, 26, 27, 28, 29, 30, 31, 32, 33, 34, 35, 36, 37, 38, 39, 40, 41, 42, 43, 44, 45, 46, 47, 48, 49, 50, 51, 52, 53, 54, 55, 56, 57, 58, 59, 60, 61, 62, 63, 64, 65, 66, 67, 68, 69, 70, 71, 72, 73, 74, 109, 110, 111, 112, 113, 114, 115, 116, 117, 118, 119, 120, 121, 122, 123, 124, 125, 126, 127, 128, 129, 130, 131, 132, 133, 134, 135, 136, 137, 138] (by first | rfl | decide +kernel) (by decide +kernel)
set_option maxRecDepth 20000 in
theorem gX6_reclaim_X1_save : GoodIn wsX6_reclaim (wsV RX6 38 RX1 yX1_save wsX1_save) := goodIn_app (goodIn_of _ (by decide +kernel)) ggX6_reclaim_X1_save
set_option maxRecDepth 20000 in
theorem ggX6_reclaim_X5_regain : GoodIn wsX6_reclaim wsX5_regain := goodIn_r _ [78, 21, 30, 20, 79, 80, 81, 82, 83, 84, 50, 85, 52, 57, 86, 87, 88, 18, 89, 90, 91, 92, 93, 94, 95, 96, 38, 97, 40, 43, 42, 98, 99, 100, 101, 58, 102, 103, 104, 105, 54, 55, 56, 112, 113, 114, 115, 116, 117, 118, 119, 120, 121, 122, 123, 124, 125, 126, 127, 128, 129, 130, 131, 132, 133, 134] (by first | rfl | decide +kernel) (by decide +kernel)
set_option maxRecDepth 20000 in
theorem gX6_reclaim_X5_regain : GoodIn wsX6_reclaim (wsV RX6 265 RX5 yX5_regain wsX5_regain) := goodIn_app (goodIn_of _ (by decide +kernel)) ggX6_reclaim_X5_regain
theorem dX6_reclaim_0 : decode cX6_reclaim 0 = .ok (.aload_n 0, 1) := by decide +kernel
theorem dX6_reclaim_1 : decode cX6_reclaim 1 = .ok (.getfield 22, 3) := by decide +kernel
theorem dX6_reclaim_4 : decode cX6_reclaim 4 = .ok (.aload_n 0, 1) := by decide +kernel
theorem dX6_reclaim_5 : decode cX6_reclaim 5 = .ok (.getfield 12, 3) := by decide +kernel
theorem dX6_reclaim_8 : decode cX6_reclaim 8 = .ok (.invokevirtual 38, 3) := by decide +kernel
theorem dX6_reclaim_11 : decode cX6_reclaim 11 = .ok (.aload_n 0, 1) := by decide +kernel
theorem dX6_reclaim_12 : decode cX6_reclaim 12 = .ok (.getfield 12, 3) := by decide +kernel
theorem dX6_reclaim_15 : decode cX6_reclaim 15 = .ok (.invokevirtual 265, 3) := by decide +kernel
theorem dX6_reclaim_18 : decode cX6_reclaim 18 = .ok (.ireturn, 1) := by decide +kernel
set_option maxRecDepth 20000 in
theorem ggX6_wouldErase_X5_canBeErased : GoodIn wsX6_wouldErase wsX5_canBeErased := goodIn_r _ [8, 9, 10, 11, 12, 13, 7, 14, 15, 16, 17, 18, 19, 20, 21, 22, 23, 24, 25, 26, 45, 46, 47, 48, 49, 50, 51, 52, 53, 54, 55, 56, 57, 58, 59, 60, 61, 62, 63, 64, 65, 66, 67] (by first | rfl | decide +kernel) (by decide +kernel)
set_option maxRecDepth 20000 in
theorem gX6_wouldErase_X5_canBeErased : GoodIn wsX6_wouldErase (wsV RX6 268 RX5 yX5_canBeErased wsX5_canBeErased) := goodIn_app (goodIn_of _ (by decide +kernel)) ggX6_wouldErase_X5_canBeErased
set_option maxRecDepth 20000 in
theorem ggX6_wouldErase_X5_advancesMissingIn : GoodIn wsX6_wouldErase wsX5_advancesMissingIn := goodIn_r _ [30, 19, 9, 20, 31, 32, 33, 34, 35, 36, 37, 38, 24, 39, 40, 41, 45, 46, 47, 48, 49, 50, 51, 52, 53, 54, 55, 56, 57, 58, 59, 60, 61, 62, 63, 64, 65, 66, 67] (by first | rfl | decide +kernel) (by decide +kernel)
set_option maxRecDepth 20000 in
theorem gX6_wouldErase_X5_advancesMissingIn : GoodIn wsX6_wouldErase (wsV RX6 271 RX5 yX5_advancesMissingIn wsX5_advancesMissingIn) := goodIn_app (goodIn_of _ (by decide +kernel)) ggX6_wouldErase_X5_advancesMissingIn
theorem dX6_wouldErase_0 : decode cX6_wouldErase 0 = .ok (.iconst 0, 1) := by decide +kernel
theorem dX6_wouldErase_1 : decode cX6_wouldErase 1 = .ok (.istore_n 1, 1) := by decide +kernel
theorem dX6_wouldErase_2 : decode cX6_wouldErase 2 = .ok (.iconst 0, 1) := by decide +kernel
theorem dX6_wouldErase_3 : decode cX6_wouldErase 3 = .ok (.istore_n 2, 1) := by decide +kernel
theorem dX6_wouldErase_4 : decode cX6_wouldErase 4 = .ok (.iload_n 2, 1) := by decide +kernel
theorem dX6_wouldErase_5 : decode cX6_wouldErase 5 = .ok (.aload_n 0, 1) := by decide +kernel
theorem dX6_wouldErase_6 : decode cX6_wouldErase 6 = .ok (.getfield 12, 3) := by decide +kernel
theorem dX6_wouldErase_9 : decode cX6_wouldErase 9 = .ok (.getfield 193, 3) := by decide +kernel
theorem dX6_wouldErase_12 : decode cX6_wouldErase 12 = .ok (.getfield 197, 3) := by decide +kernel
theorem dX6_wouldErase_15 : decode cX6_wouldErase 15 = .ok (.if_icmp .ge 34, 3) := by decide +kernel
theorem dX6_wouldErase_18 : decode cX6_wouldErase 18 = .ok (.aload_n 0, 1) := by decide +kernel
theorem dX6_wouldErase_19 : decode cX6_wouldErase 19 = .ok (.getfield 12, 3) := by decide +kernel
theorem dX6_wouldErase_22 : decode cX6_wouldErase 22 = .ok (.iload_n 2, 1) := by decide +kernel
theorem dX6_wouldErase_23 : decode cX6_wouldErase 23 = .ok (.invokevirtual 268, 3) := by decide +kernel
theorem dX6_wouldErase_26 : decode cX6_wouldErase 26 = .ok (.ifCond .eq 17, 3) := by decide +kernel
theorem dX6_wouldErase_29 : decode cX6_wouldErase 29 = .ok (.aload_n 0, 1) := by decide +kernel
theorem dX6_wouldErase_30 : decode cX6_wouldErase 30 = .ok (.getfield 12, 3) := by decide +kernel
theorem dX6_wouldErase_33 : decode cX6_wouldErase 33 = .ok (.iload_n 2, 1) := by decide +kernel
theorem dX6_wouldErase_34 : decode cX6_wouldErase 34 = .ok (.invokevirtual 271, 3) := by decide +kernel
theorem dX6_wouldErase_37 : decode cX6_wouldErase 37 = .ok (.ifCond .ne 6, 3) := by decide +kernel
theorem dX6_wouldErase_40 : decode cX6_wouldErase 40 = .ok (.iinc 1 1, 3) := by decide +kernel
theorem dX6_wouldErase_43 : decode cX6_wouldErase 43 = .ok (.iinc 2 1, 3) := by decide +kernel
theorem dX6_wouldErase_46 : decode cX6_wouldErase 46 = .ok (.goto (-42), 3) := by decide +kernel
theorem dX6_wouldErase_49 : decode cX6_wouldErase 49 = .ok (.iload_n 1, 1) := by decide +kernel
theorem dX6_wouldErase_50 : decode cX6_wouldErase 50 = .ok (.ireturn, 1) := by decide +kernel
set_option maxRecDepth 20000 in
theorem ggX6_advancesToErase_X6_checkSegment : GoodIn wsX6_advancesToErase wsX6_checkSegment := goodIn_ca (goodIn_r _ [6, 1, 7, 8, 9, 10, 5, 11, 12, 13, 14, 15, 16, 60, 61, 62, 63, 64, 65, 66, 67, 68, 69, 70, 71, 72, 73, 74, 75, 76, 77, 78, 79] (by first | rfl | decide +kernel) (by decide +kernel)) (goodIn_sub (fun _ h => List.mem_cons_of_mem _ (List.mem_append_left _ (List.mem_append_right _ h))) (by decide +kernel))
set_option maxRecDepth 20000 in
theorem gX6_advancesToErase_X6_checkSegment : GoodIn wsX6_advancesToErase (wsV RX6 219 RX6 yX6_checkSegment wsX6_checkSegment) := goodIn_app (goodIn_of _ (by decide +kernel)) ggX6_advancesToErase_X6_checkSegment
set_option maxRecDepth 20000 in
theorem ggX6_advancesToErase_X5_canBeErased : GoodIn wsX6_advancesToErase wsX5_canBeErased := goodIn_r _ [21, 22, 23, 24, 25, 26, 20, 27, 28, 29, 30, 31, 32, 33, 34, 35, 36, 37, 38, 39, 63, 64, 65, 66, 67, 68, 69, 70, 71, 72, 73, 74, 75, 76, 77, 78, 79, 80, 81, 82, 83, 84, 85] (by first | rfl | decide +kernel) (by decide +kernel)
set_option maxRecDepth 20000 in
theorem gX6_advancesToErase_X5_canBeErased : GoodIn wsX6_advancesToErase (wsV RX6 268 RX5 yX5_canBeErased wsX5_canBeErased) := goodIn_app (goodIn_of _ (by decide +kernel)) ggX6_advancesToErase_X5_canBeErased
set_option maxRecDepth 20000 in
theorem ggX6_advancesToErase_X6_checkElement : GoodIn wsX6_advancesToErase wsX6_checkElement := goodIn_ca (goodIn_r _ [42, 43, 44] (by first | rfl | decide +kernel) (by decide +kernel)) (goodIn_sub (fun _ h => List.mem_cons_of_mem _ (List.mem_append_right _ h)) (by decide +kernel))
set_option maxRecDepth 20000 in
theorem gX6_advancesToErase_X6_checkElement : GoodIn wsX6_advancesToErase (va_wsS RX6 61 yX6_checkElement wsX6_checkElement) := goodIn_app (goodIn_of _ (by decide +kernel)) ggX6_advancesToErase_X6_checkElement
set_option maxRecDepth 20000 in
theorem ggX6_advancesToErase_X5_advancesMissingIn : GoodIn wsX6_advancesToErase wsX5_advancesMissingIn := goodIn_r _ [48, 32, 22, 33, 49, 50, 51, 52, 53, 54, 55, 56, 37, 57, 58, 59, 63, 64, 65, 66, 67, 68, 69, 70, 71, 72, 73, 74, 75, 76, 77, 78, 79, 80, 81, 82, 83, 84, 85] (by first | rfl | decide +kernel) (by decide +kernel)
set_option maxRecDepth 20000 in
theorem gX6_advancesToErase_X5_advancesMissingIn : GoodIn wsX6_advancesToErase (wsV RX6 271 RX5 yX5_advancesMissingIn wsX5_advancesMissingIn) := goodIn_app (goodIn_of _ (by decide +kernel)) ggX6_advancesToErase_X5_advancesMissingIn
theorem dX6_advancesToErase_0 : decode cX6_advancesToErase 0 = .ok (.aload_n 0, 1) := by decide +kernel
theorem dX6_advancesToErase_1 : decode cX6_advancesToErase 1 = .ok (.iload_n 1, 1) := by decide +kernel
theorem dX6_advancesToErase_2 : decode cX6_advancesToErase 2 = .ok (.invokevirtual 219, 3) := by decide +kernel
theorem dX6_advancesToErase_5 : decode cX6_advancesToErase 5 = .ok (.aload_n 0, 1) := by decide +kernel
theorem dX6_advancesToErase_6 : decode cX6_advancesToErase 6 = .ok (.getfield 12, 3) := by decide +kernel
theorem dX6_advancesToErase_9 : decode cX6_advancesToErase 9 = .ok (.iload_n 1, 1) := by decide +kernel
theorem dX6_advancesToErase_10 : decode cX6_advancesToErase 10 = .ok (.invokevirtual 268, 3) := by decide +kernel
theorem dX6_advancesToErase_13 : decode cX6_advancesToErase 13 = .ok (.invokestatic 61, 3) := by decide +kernel
theorem dX6_advancesToErase_16 : decode cX6_advancesToErase 16 = .ok (.aload_n 0, 1) := by decide +kernel
theorem dX6_advancesToErase_17 : decode cX6_advancesToErase 17 = .ok (.getfield 12, 3) := by decide +kernel
theorem dX6_advancesToErase_20 : decode cX6_advancesToErase 20 = .ok (.iload_n 1, 1) := by decide +kernel
theorem dX6_advancesToErase_21 : decode cX6_advancesToErase 21 = .ok (.invokevirtual 271, 3) := by decide +kernel
theorem dX6_advancesToErase_24 : decode cX6_advancesToErase 24 = .ok (.ireturn, 1) := by decide +kernel
set_option maxRecDepth 20000 in
theorem ggX6_relocate_X6_checkSegment : GoodIn wsX6_relocate wsX6_checkSegment := goodIn_ca (goodIn_r _ [9, 1, 2, 10, 11, 12, 8, 13, 14, 15, 16, 17, 18, 165, 166, 167, 168, 169, 170, 171, 172, 173, 174, 175, 176, 177, 178, 179, 180, 181, 182, 183, 184] (by first | rfl | decide +kernel) (by decide +kernel)) (goodIn_sub (fun _ h => List.mem_cons_of_mem _ (List.mem_append_left _ (List.mem_append_right _ h))) (by decide +kernel))
set_option maxRecDepth 20000 in
theorem gX6_relocate_X6_checkSegment : GoodIn wsX6_relocate (wsV RX6 219 RX6 yX6_checkSegment wsX6_checkSegment) := goodIn_app (goodIn_of _ (by decide +kernel)) ggX6_relocate_X6_checkSegment
set_option maxRecDepth 20000 in
theorem ggX6_relocate_X6_checkState : GoodIn wsX6_relocate wsX6_checkState := goodIn_ca (goodIn_r _ [21, 22, 23] (by first | rfl | decide +kernel) (by decide +kernel)) (goodIn_sub (fun _ h => List.mem_cons_of_mem _ (List.mem_append_right _ h)) (by decide +kernel))
set_option maxRecDepth 20000 in
theorem gX6_relocate_X6_checkState : GoodIn wsX6_relocate (va_wsS RX6 50 yX6_checkState wsX6_checkState) := goodIn_app (goodIn_of _ (by decide +kernel)) ggX6_relocate_X6_checkState
set_option maxRecDepth 20000 in
theorem ggX6_relocate_X5_useOf : GoodIn wsX6_relocate wsX5_useOf := goodIn_r _ [28, 29, 30, 31, 27, 32, 33, 34, 35, 36, 37, 38, 39, 40, 41, 168, 169, 170, 171, 172, 173, 174, 175, 176, 177, 178, 179, 180, 181, 182, 183, 184, 185, 186, 187, 188, 189, 190] (by first | rfl | decide +kernel) (by decide +kernel)
set_option maxRecDepth 20000 in
theorem gX6_relocate_X5_useOf : GoodIn wsX6_relocate (wsV RX6 223 RX5 yX5_useOf wsX5_useOf) := goodIn_app (goodIn_of _ (by decide +kernel)) ggX6_relocate_X5_useOf
set_option maxRecDepth 20000 in
theorem ggX6_relocate_X5_roomForRelocation : GoodIn wsX6_relocate wsX5_roomForRelocation := goodIn_r _ [45, 34, 35, 46, 47, 48, 49, 50, 51, 52, 53, 54, 55, 56, 57, 58, 59, 168, 169, 170, 171, 172, 173, 174, 175, 176, 177, 178, 179, 180, 181, 182, 183, 184] (by first | rfl | decide +kernel) (by decide +kernel)
set_option maxRecDepth 20000 in
theorem gX6_relocate_X5_roomForRelocation : GoodIn wsX6_relocate (wsV RX6 274 RX5 yX5_roomForRelocation wsX5_roomForRelocation) := goodIn_app (goodIn_of _ (by decide +kernel)) ggX6_relocate_X5_roomForRelocation
set_option maxRecDepth 20000 in
theorem ggX6_relocate_X1_save : GoodIn wsX6_relocate wsX1_save := goodIn_r _ [64, 65, 66, 67, 68, 69, 70, 71, 72, 73, 74, 27, 75, 34, 33, 76, 77, 78, 79, 80, 81, 82, 83, 84, 85, 86, 87, 88, 89, 90, 91, 49, 92, 59, 93, 94, 53, 51, 58, 52, 95, 96, 97, 39, 98, 41, 99, 100, 101, 102, 103, 104, 105, 106, 107, 108, 109, 110, 111, 112, 113, 114, 115, 116, 117, 118, 119, 120, 191, 192, 193, 168, 169, 170, 171, 172, 173, 174, 175, 176, 177, 178, 179, 180, 181, 182, 183, 184, 185, 186, 187, 188, 189, 190, 194, 195, 196, 197] (by first | rfl | decide +kernel) (by decide +kernel)
set_option maxRecDepth 20000 in
theorem gX6_relocate_X1_save : GoodIn wsX6_relocate (wsV RX6 38 RX1 yX1_save wsX1_save) := goodIn_app (goodIn_of _ (by decide +kernel)) ggX6_relocate_X1_save
set_option maxRecDepth 20000 in
theorem ggX6_relocate_X5_moveAll : GoodIn wsX6_relocate wsX5_moveAll := goodIn_r _ [124, 34, 35, 33, 88, 125, 126, 127, 39, 128, 41, 129, 130, 131, 27, 132, 133, 134, 135, 136, 78, 77, 84, 137, 138, 139, 49, 140, 51, 53, 52, 59, 141, 142, 143, 144, 58, 94, 145, 146, 147, 148, 100, 101, 102, 149, 150, 151, 116, 152, 119, 153, 154, 155, 156, 157, 158, 159, 160, 161, 162, 163, 164, 103, 168, 169, 170, 171, 172, 173, 174, 175, 176, 177, 178, 179, 180, 181, 182, 183, 184, 185, 186, 187, 188, 189, 190, 196, 197] (by first | rfl | decide +kernel) (by decide +kernel)
set_option maxRecDepth 20000 in
theorem gX6_relocate_X5_moveAll : GoodIn wsX6_relocate (wsV RX6 277 RX5 yX5_moveAll wsX5_moveAll) := goodIn_app (goodIn_of _ (by decide +kernel)) ggX6_relocate_X5_moveAll
theorem dX6_relocate_0 : decode cX6_relocate 0 = .ok (.aload_n 0, 1) := by decide +kernel
theorem dX6_relocate_1 : decode cX6_relocate 1 = .ok (.iload_n 1, 1) := by decide +kernel
theorem dX6_relocate_2 : decode cX6_relocate 2 = .ok (.invokevirtual 219, 3) := by decide +kernel
theorem dX6_relocate_5 : decode cX6_relocate 5 = .ok (.aload_n 0, 1) := by decide +kernel
theorem dX6_relocate_6 : decode cX6_relocate 6 = .ok (.getfield 12, 3) := by decide +kernel
theorem dX6_relocate_9 : decode cX6_relocate 9 = .ok (.getfield 193, 3) := by decide +kernel
theorem dX6_relocate_12 : decode cX6_relocate 12 = .ok (.getfield 222, 3) := by decide +kernel
theorem dX6_relocate_15 : decode cX6_relocate 15 = .ok (.iload_n 1, 1) := by decide +kernel
theorem dX6_relocate_16 : decode cX6_relocate 16 = .ok (.iaload, 1) := by decide +kernel
theorem dX6_relocate_17 : decode cX6_relocate 17 = .ok (.iconst 2, 1) := by decide +kernel
theorem dX6_relocate_18 : decode cX6_relocate 18 = .ok (.if_icmp .ne 7, 3) := by decide +kernel
theorem dX6_relocate_21 : decode cX6_relocate 21 = .ok (.iconst 1, 1) := by decide +kernel
theorem dX6_relocate_22 : decode cX6_relocate 22 = .ok (.goto 4, 3) := by decide +kernel
theorem dX6_relocate_25 : decode cX6_relocate 25 = .ok (.iconst 0, 1) := by decide +kernel
theorem dX6_relocate_26 : decode cX6_relocate 26 = .ok (.invokestatic 50, 3) := by decide +kernel
theorem dX6_relocate_29 : decode cX6_relocate 29 = .ok (.aload_n 0, 1) := by decide +kernel
theorem dX6_relocate_30 : decode cX6_relocate 30 = .ok (.getfield 12, 3) := by decide +kernel
theorem dX6_relocate_33 : decode cX6_relocate 33 = .ok (.iload_n 1, 1) := by decide +kernel
theorem dX6_relocate_34 : decode cX6_relocate 34 = .ok (.invokevirtual 223, 3) := by decide +kernel
theorem dX6_relocate_37 : decode cX6_relocate 37 = .ok (.aload_n 0, 1) := by decide +kernel
theorem dX6_relocate_38 : decode cX6_relocate 38 = .ok (.getfield 12, 3) := by decide +kernel
theorem dX6_relocate_41 : decode cX6_relocate 41 = .ok (.invokevirtual 274, 3) := by decide +kernel
theorem dX6_relocate_44 : decode cX6_relocate 44 = .ok (.if_icmp .gt 7, 3) := by decide +kernel
theorem dX6_relocate_47 : decode cX6_relocate 47 = .ok (.iconst 1, 1) := by decide +kernel
theorem dX6_relocate_48 : decode cX6_relocate 48 = .ok (.goto 4, 3) := by decide +kernel
theorem dX6_relocate_51 : decode cX6_relocate 51 = .ok (.iconst 0, 1) := by decide +kernel
theorem dX6_relocate_52 : decode cX6_relocate 52 = .ok (.invokestatic 50, 3) := by decide +kernel
theorem dX6_relocate_55 : decode cX6_relocate 55 = .ok (.aload_n 0, 1) := by decide +kernel
theorem dX6_relocate_56 : decode cX6_relocate 56 = .ok (.getfield 22, 3) := by decide +kernel
theorem dX6_relocate_59 : decode cX6_relocate 59 = .ok (.aload_n 0, 1) := by decide +kernel
theorem dX6_relocate_60 : decode cX6_relocate 60 = .ok (.getfield 12, 3) := by decide +kernel
theorem dX6_relocate_63 : decode cX6_relocate 63 = .ok (.invokevirtual 38, 3) := by decide +kernel
theorem dX6_relocate_66 : decode cX6_relocate 66 = .ok (.aload_n 0, 1) := by decide +kernel
theorem dX6_relocate_67 : decode cX6_relocate 67 = .ok (.getfield 12, 3) := by decide +kernel
theorem dX6_relocate_70 : decode cX6_relocate 70 = .ok (.iload_n 1, 1) := by decide +kernel
theorem dX6_relocate_71 : decode cX6_relocate 71 = .ok (.invokevirtual 277, 3) := by decide +kernel
theorem dX6_relocate_74 : decode cX6_relocate 74 = .ok (.ireturn, 1) := by decide +kernel
set_option maxRecDepth 20000 in
theorem ggX6_victim_X6_isBetween : GoodIn wsX6_victim wsX6_isBetween := goodIn_r _ [5] (by first | rfl | decide +kernel) (by decide +kernel)
set_option maxRecDepth 20000 in
theorem gX6_victim_X6_isBetween : GoodIn wsX6_victim (va_wsS RX6 30 yX6_isBetween wsX6_isBetween) := goodIn_app (goodIn_of _ (by decide +kernel)) ggX6_victim_X6_isBetween
set_option maxRecDepth 20000 in
theorem ggX6_victim_X6_checkArgument : GoodIn wsX6_victim wsX6_checkArgument := goodIn_ca (goodIn_r _ [8, 9, 10] (by first | rfl | decide +kernel) (by decide +kernel)) (goodIn_sub (fun _ h => List.mem_cons_of_mem _ (List.mem_append_left _ (List.mem_append_right _ h))) (by decide +kernel))
set_option maxRecDepth 20000 in
theorem gX6_victim_X6_checkArgument : GoodIn wsX6_victim (va_wsS RX6 34 yX6_checkArgument wsX6_checkArgument) := goodIn_app (goodIn_of _ (by decide +kernel)) ggX6_victim_X6_checkArgument
set_option maxRecDepth 20000 in
theorem ggX6_victim_X5_chooseVictim : GoodIn wsX6_victim wsX5_chooseVictim := goodIn_r _ [15, 16, 17, 18, 19, 20, 21, 22, 14, 23, 24, 25, 26, 27, 28, 29, 30, 31, 32, 33, 34, 35, 36, 37, 38, 39, 40, 41, 42, 43, 44, 45, 46, 47, 48, 49, 50, 51, 52, 61, 62, 63, 64, 65, 66, 67, 68, 69, 70, 71, 72, 73, 74, 75, 76, 77, 78, 79, 80, 81, 82, 83] (by first | rfl | decide +kernel) (by decide +kernel)
set_option maxRecDepth 20000 in
theorem gX6_victim_X5_chooseVictim : GoodIn wsX6_victim (wsV RX6 280 RX5 yX5_chooseVictim wsX5_chooseVictim) := goodIn_app (goodIn_of _ (by decide +kernel)) ggX6_victim_X5_chooseVictim
set_option maxRecDepth 20000 in
theorem ggX6_victim_X6_checkElement : GoodIn wsX6_victim wsX6_checkElement := goodIn_ca (goodIn_r _ [55, 56, 57] (by first | rfl | decide +kernel) (by decide +kernel)) (goodIn_sub (fun _ h => List.mem_cons_of_mem _ (List.mem_append_right _ h)) (by decide +kernel))
set_option maxRecDepth 20000 in
theorem gX6_victim_X6_checkElement : GoodIn wsX6_victim (va_wsS RX6 61 yX6_checkElement wsX6_checkElement) := goodIn_app (goodIn_of _ (by decide +kernel)) ggX6_victim_X6_checkElement
theorem dX6_victim_0 : decode cX6_victim 0 = .ok (.iload_n 1, 1) := by decide +kernel
theorem dX6_victim_1 : decode cX6_victim 1 = .ok (.iconst 0, 1) := by decide +kernel
theorem dX6_victim_2 : decode cX6_victim 2 = .ok (.iconst 2, 1) := by decide +kernel
theorem dX6_victim_3 : decode cX6_victim 3 = .ok (.invokestatic 30, 3) := by decide +kernel
theorem dX6_victim_6 : decode cX6_victim 6 = .ok (.invokestatic 34, 3) := by decide +kernel
theorem dX6_victim_9 : decode cX6_victim 9 = .ok (.aload_n 0, 1) := by decide +kernel
theorem dX6_victim_10 : decode cX6_victim 10 = .ok (.getfield 12, 3) := by decide +kernel
theorem dX6_victim_13 : decode cX6_victim 13 = .ok (.iload_n 1, 1) := by decide +kernel
theorem dX6_victim_14 : decode cX6_victim 14 = .ok (.invokevirtual 280, 3) := by decide +kernel
theorem dX6_victim_17 : decode cX6_victim 17 = .ok (.istore_n 2, 1) := by decide +kernel
theorem dX6_victim_18 : decode cX6_victim 18 = .ok (.iload_n 2, 1) := by decide +kernel
theorem dX6_victim_19 : decode cX6_victim 19 = .ok (.iconst (-1), 1) := by decide +kernel
theorem dX6_victim_20 : decode cX6_victim 20 = .ok (.if_icmp .eq 7, 3) := by decide +kernel
theorem dX6_victim_23 : decode cX6_victim 23 = .ok (.iconst 1, 1) := by decide +kernel
theorem dX6_victim_24 : decode cX6_victim 24 = .ok (.goto 4, 3) := by decide +kernel
theorem dX6_victim_27 : decode cX6_victim 27 = .ok (.iconst 0, 1) := by decide +kernel
theorem dX6_victim_28 : decode cX6_victim 28 = .ok (.invokestatic 61, 3) := by decide +kernel
theorem dX6_victim_31 : decode cX6_victim 31 = .ok (.iload_n 2, 1) := by decide +kernel
theorem dX6_victim_32 : decode cX6_victim 32 = .ok (.ireturn, 1) := by decide +kernel
set_option maxRecDepth 20000 in
theorem ggX6_relocationsFor_X6_isBetween : GoodIn wsX6_relocationsFor wsX6_isBetween := goodIn_r _ [6] (by first | rfl | decide +kernel) (by decide +kernel)
set_option maxRecDepth 20000 in
theorem gX6_relocationsFor_X6_isBetween : GoodIn wsX6_relocationsFor (va_wsS RX6 30 yX6_isBetween wsX6_isBetween) := goodIn_app (goodIn_of _ (by decide +kernel)) ggX6_relocationsFor_X6_isBetween
set_option maxRecDepth 20000 in
theorem ggX6_relocationsFor_X6_checkArgument : GoodIn wsX6_relocationsFor wsX6_checkArgument := goodIn_ca (goodIn_r _ [9, 10, 11] (by first | rfl | decide +kernel) (by decide +kernel)) (goodIn_sub (fun _ h => List.mem_cons_of_mem _ (List.mem_append_left _ (List.mem_append_right _ h))) (by decide +kernel))
set_option maxRecDepth 20000 in
theorem gX6_relocationsFor_X6_checkArgument : GoodIn wsX6_relocationsFor (va_wsS RX6 34 yX6_checkArgument wsX6_checkArgument) := goodIn_app (goodIn_of _ (by decide +kernel)) ggX6_relocationsFor_X6_checkArgument
set_option maxRecDepth 20000 in
theorem ggX6_relocationsFor_X5_copyFrom : GoodIn wsX6_relocationsFor wsX5_copyFrom := goodIn_r _ [16, 17, 18, 19, 20, 21, 22, 23, 24, 25, 26, 27, 28, 29, 30, 31, 32, 33, 34, 35, 36, 37, 38, 39, 40, 41, 42, 43, 44, 45, 46, 47, 48, 49, 50, 51, 52, 53, 54, 55, 56, 57, 58, 59, 60, 61, 62, 63, 64, 65, 66, 67, 68, 69, 70, 71, 197, 198, 199, 200, 201, 202, 203, 204, 205, 206, 207, 208, 209, 210, 211, 212, 213, 214, 215, 216, 217, 218, 219, 220, 221, 222, 223] (by first | rfl | decide +kernel) (by decide +kernel)
set_option maxRecDepth 20000 in
theorem gX6_relocationsFor_X5_copyFrom : GoodIn wsX6_relocationsFor (wsV RX6 283 RX5 yX5_copyFrom wsX5_copyFrom) := goodIn_app (goodIn_of _ (by decide +kernel)) ggX6_relocationsFor_X5_copyFrom
set_option maxRecDepth 20000 in
theorem ggX6_relocationsFor_X5_relocateUntilRoom : GoodIn wsX6_relocationsFor wsX5_relocateUntilRoom := goodIn_r _ [75, 27, 76, 77, 78, 15, 79, 18, 17, 80, 81, 82, 83, 84, 85, 47, 86, 49, 54, 87, 88, 89, 90, 91, 92, 93, 94, 95, 96, 97, 35, 98, 37, 40, 39, 99, 100, 101, 102, 55, 103, 104, 105, 106, 51, 52, 53, 107, 108, 109, 110, 111, 112, 113, 114, 115, 116, 117, 118, 42, 119, 120, 121, 122, 41, 43, 123, 124, 125, 126, 127, 128, 129, 130, 131, 132, 133, 134, 135, 136, 137, 138, 29, 139, 140, 141, 142, 143, 144, 145, 146, 147, 148, 149, 150, 151, 31, 152, 153, 154, 155, 156, 157, 158, 159, 160, 161, 162, 163, 21, 20, 164, 165, 166, 167, 168, 169, 170, 171, 172, 173, 174, 175, 67, 176, 70, 177, 178, 179, 180, 181, 182, 183, 184, 185, 186, 187, 188, 197, 198, 199, 200, 201, 202, 203, 204, 205, 206, 207, 208, 209, 210, 211, 212, 213, 214, 215, 216, 217, 218, 219, 222, 223] (by first | rfl | decide +kernel) (by decide +kernel)
set_option maxRecDepth 20000 in
theorem gX6_relocationsFor_X5_relocateUntilRoom : GoodIn wsX6_relocationsFor (wsV RX6 286 RX5 yX5_relocateUntilRoom wsX5_relocateUntilRoom) := goodIn_app (goodIn_of _ (by decide +kernel)) ggX6_relocationsFor_X5_relocateUntilRoom
set_option maxRecDepth 20000 in
theorem ggX6_relocationsFor_X6_checkElement : GoodIn wsX6_relocationsFor wsX6_checkElement := goodIn_ca (goodIn_r _ [191, 192, 193] (by first | rfl | decide +kernel) (by decide +kernel)) (goodIn_sub (fun _ h => List.mem_cons_of_mem _ (List.mem_append_right _ h)) (by decide +kernel))
set_option maxRecDepth 20000 in
theorem gX6_relocationsFor_X6_checkElement : GoodIn wsX6_relocationsFor (va_wsS RX6 61 yX6_checkElement wsX6_checkElement) := goodIn_app (goodIn_of _ (by decide +kernel)) ggX6_relocationsFor_X6_checkElement
theorem dX6_relocationsFor_0 : decode cX6_relocationsFor 0 = .ok (.iload_n 1, 1) := by decide +kernel
theorem dX6_relocationsFor_1 : decode cX6_relocationsFor 1 = .ok (.iconst 0, 1) := by decide +kernel
theorem dX6_relocationsFor_2 : decode cX6_relocationsFor 2 = .ok (.iconst 2, 1) := by decide +kernel
theorem dX6_relocationsFor_3 : decode cX6_relocationsFor 3 = .ok (.invokestatic 30, 3) := by decide +kernel
theorem dX6_relocationsFor_6 : decode cX6_relocationsFor 6 = .ok (.invokestatic 34, 3) := by decide +kernel
theorem dX6_relocationsFor_9 : decode cX6_relocationsFor 9 = .ok (.iload_n 2, 1) := by decide +kernel
theorem dX6_relocationsFor_10 : decode cX6_relocationsFor 10 = .ok (.iconst 1, 1) := by decide +kernel
theorem dX6_relocationsFor_11 : decode cX6_relocationsFor 11 = .ok (.bipush 120, 2) := by decide +kernel
theorem dX6_relocationsFor_13 : decode cX6_relocationsFor 13 = .ok (.invokestatic 30, 3) := by decide +kernel
theorem dX6_relocationsFor_16 : decode cX6_relocationsFor 16 = .ok (.invokestatic 34, 3) := by decide +kernel
theorem dX6_relocationsFor_19 : decode cX6_relocationsFor 19 = .ok (.aload_n 0, 1) := by decide +kernel
theorem dX6_relocationsFor_20 : decode cX6_relocationsFor 20 = .ok (.getfield 16, 3) := by decide +kernel
theorem dX6_relocationsFor_23 : decode cX6_relocationsFor 23 = .ok (.aload_n 0, 1) := by decide +kernel
theorem dX6_relocationsFor_24 : decode cX6_relocationsFor 24 = .ok (.getfield 12, 3) := by decide +kernel
theorem dX6_relocationsFor_27 : decode cX6_relocationsFor 27 = .ok (.invokevirtual 283, 3) := by decide +kernel
theorem dX6_relocationsFor_30 : decode cX6_relocationsFor 30 = .ok (.aload_n 0, 1) := by decide +kernel
theorem dX6_relocationsFor_31 : decode cX6_relocationsFor 31 = .ok (.getfield 16, 3) := by decide +kernel
theorem dX6_relocationsFor_34 : decode cX6_relocationsFor 34 = .ok (.iload_n 1, 1) := by decide +kernel
theorem dX6_relocationsFor_35 : decode cX6_relocationsFor 35 = .ok (.iload_n 2, 1) := by decide +kernel
theorem dX6_relocationsFor_36 : decode cX6_relocationsFor 36 = .ok (.invokevirtual 286, 3) := by decide +kernel
theorem dX6_relocationsFor_39 : decode cX6_relocationsFor 39 = .ok (.istore_n 3, 1) := by decide +kernel
theorem dX6_relocationsFor_40 : decode cX6_relocationsFor 40 = .ok (.iload_n 3, 1) := by decide +kernel
theorem dX6_relocationsFor_41 : decode cX6_relocationsFor 41 = .ok (.iconst (-1), 1) := by decide +kernel
theorem dX6_relocationsFor_42 : decode cX6_relocationsFor 42 = .ok (.if_icmp .eq 7, 3) := by decide +kernel
theorem dX6_relocationsFor_45 : decode cX6_relocationsFor 45 = .ok (.iconst 1, 1) := by decide +kernel
theorem dX6_relocationsFor_46 : decode cX6_relocationsFor 46 = .ok (.goto 4, 3) := by decide +kernel
theorem dX6_relocationsFor_49 : decode cX6_relocationsFor 49 = .ok (.iconst 0, 1) := by decide +kernel
theorem dX6_relocationsFor_50 : decode cX6_relocationsFor 50 = .ok (.invokestatic 61, 3) := by decide +kernel
theorem dX6_relocationsFor_53 : decode cX6_relocationsFor 53 = .ok (.iload_n 3, 1) := by decide +kernel
theorem dX6_relocationsFor_54 : decode cX6_relocationsFor 54 = .ok (.ireturn, 1) := by decide +kernel
set_option maxRecDepth 20000 in
theorem ggX6_regainable_X5_useOf : GoodIn wsX6_regainable wsX5_useOf := goodIn_r _ [9, 10, 11, 12, 8, 13, 14, 15, 16, 17, 18, 19, 20, 21, 22, 26, 27, 28, 29, 30, 31, 32, 33, 34, 35, 36, 37, 38, 39, 40, 41, 42, 43, 44, 45, 46, 47, 48] (by first | rfl | decide +kernel) (by decide +kernel)
set_option maxRecDepth 20000 in
theorem gX6_regainable_X5_useOf : GoodIn wsX6_regainable (wsV RX6 223 RX5 yX5_useOf wsX5_useOf) := goodIn_app (goodIn_of _ (by decide +kernel)) ggX6_regainable_X5_useOf
theorem dX6_regainable_0 : decode cX6_regainable 0 = .ok (.iconst 0, 1) := by decide +kernel
theorem dX6_regainable_1 : decode cX6_regainable 1 = .ok (.istore_n 1, 1) := by decide +kernel
theorem dX6_regainable_2 : decode cX6_regainable 2 = .ok (.iconst 0, 1) := by decide +kernel
theorem dX6_regainable_3 : decode cX6_regainable 3 = .ok (.istore_n 2, 1) := by decide +kernel
theorem dX6_regainable_4 : decode cX6_regainable 4 = .ok (.iload_n 2, 1) := by decide +kernel
theorem dX6_regainable_5 : decode cX6_regainable 5 = .ok (.aload_n 0, 1) := by decide +kernel
theorem dX6_regainable_6 : decode cX6_regainable 6 = .ok (.getfield 12, 3) := by decide +kernel
theorem dX6_regainable_9 : decode cX6_regainable 9 = .ok (.getfield 193, 3) := by decide +kernel
theorem dX6_regainable_12 : decode cX6_regainable 12 = .ok (.getfield 197, 3) := by decide +kernel
theorem dX6_regainable_15 : decode cX6_regainable 15 = .ok (.if_icmp .ge 31, 3) := by decide +kernel
theorem dX6_regainable_18 : decode cX6_regainable 18 = .ok (.iload_n 1, 1) := by decide +kernel
theorem dX6_regainable_19 : decode cX6_regainable 19 = .ok (.aload_n 0, 1) := by decide +kernel
theorem dX6_regainable_20 : decode cX6_regainable 20 = .ok (.getfield 12, 3) := by decide +kernel
theorem dX6_regainable_23 : decode cX6_regainable 23 = .ok (.getfield 193, 3) := by decide +kernel
theorem dX6_regainable_26 : decode cX6_regainable 26 = .ok (.getfield 202, 3) := by decide +kernel
theorem dX6_regainable_29 : decode cX6_regainable 29 = .ok (.aload_n 0, 1) := by decide +kernel
theorem dX6_regainable_30 : decode cX6_regainable 30 = .ok (.getfield 12, 3) := by decide +kernel
theorem dX6_regainable_33 : decode cX6_regainable 33 = .ok (.iload_n 2, 1) := by decide +kernel
theorem dX6_regainable_34 : decode cX6_regainable 34 = .ok (.invokevirtual 223, 3) := by decide +kernel
theorem dX6_regainable_37 : decode cX6_regainable 37 = .ok (.isub, 1) := by decide +kernel
theorem dX6_regainable_38 : decode cX6_regainable 38 = .ok (.iadd, 1) := by decide +kernel
theorem dX6_regainable_39 : decode cX6_regainable 39 = .ok (.istore_n 1, 1) := by decide +kernel
theorem dX6_regainable_40 : decode cX6_regainable 40 = .ok (.iinc 2 1, 3) := by decide +kernel
theorem dX6_regainable_43 : decode cX6_regainable 43 = .ok (.goto (-39), 3) := by decide +kernel
theorem dX6_regainable_46 : decode cX6_regainable 46 = .ok (.iload_n 1, 1) := by decide +kernel
theorem dX6_regainable_47 : decode cX6_regainable 47 = .ok (.ireturn, 1) := by decide +kernel
set_option maxRecDepth 20000 in
theorem ggX6_regainableNow_X5_canBeErased : GoodIn wsX6_regainableNow wsX5_canBeErased := goodIn_r _ [9, 10, 11, 12, 13, 14, 8, 15, 16, 17, 18, 19, 20, 21, 22, 23, 24, 25, 26, 27, 31, 32, 33, 34, 35, 36, 37, 38, 39, 40, 41, 42, 43, 44, 45, 46, 47, 48, 49, 50, 51, 52, 53] (by first | rfl | decide +kernel) (by decide +kernel)
set_option maxRecDepth 20000 in
theorem gX6_regainableNow_X5_canBeErased : GoodIn wsX6_regainableNow (wsV RX6 268 RX5 yX5_canBeErased wsX5_canBeErased) := goodIn_app (goodIn_of _ (by decide +kernel)) ggX6_regainableNow_X5_canBeErased
theorem dX6_regainableNow_0 : decode cX6_regainableNow 0 = .ok (.iconst 0, 1) := by decide +kernel
theorem dX6_regainableNow_1 : decode cX6_regainableNow 1 = .ok (.istore_n 1, 1) := by decide +kernel
theorem dX6_regainableNow_2 : decode cX6_regainableNow 2 = .ok (.iconst 0, 1) := by decide +kernel
theorem dX6_regainableNow_3 : decode cX6_regainableNow 3 = .ok (.istore_n 2, 1) := by decide +kernel
theorem dX6_regainableNow_4 : decode cX6_regainableNow 4 = .ok (.iload_n 2, 1) := by decide +kernel
theorem dX6_regainableNow_5 : decode cX6_regainableNow 5 = .ok (.aload_n 0, 1) := by decide +kernel
theorem dX6_regainableNow_6 : decode cX6_regainableNow 6 = .ok (.getfield 12, 3) := by decide +kernel
theorem dX6_regainableNow_9 : decode cX6_regainableNow 9 = .ok (.getfield 193, 3) := by decide +kernel
theorem dX6_regainableNow_12 : decode cX6_regainableNow 12 = .ok (.getfield 197, 3) := by decide +kernel
theorem dX6_regainableNow_15 : decode cX6_regainableNow 15 = .ok (.if_icmp .ge 33, 3) := by decide +kernel
theorem dX6_regainableNow_18 : decode cX6_regainableNow 18 = .ok (.aload_n 0, 1) := by decide +kernel
theorem dX6_regainableNow_19 : decode cX6_regainableNow 19 = .ok (.getfield 12, 3) := by decide +kernel
theorem dX6_regainableNow_22 : decode cX6_regainableNow 22 = .ok (.iload_n 2, 1) := by decide +kernel
theorem dX6_regainableNow_23 : decode cX6_regainableNow 23 = .ok (.invokevirtual 268, 3) := by decide +kernel
theorem dX6_regainableNow_26 : decode cX6_regainableNow 26 = .ok (.ifCond .eq 16, 3) := by decide +kernel
theorem dX6_regainableNow_29 : decode cX6_regainableNow 29 = .ok (.iload_n 1, 1) := by decide +kernel
theorem dX6_regainableNow_30 : decode cX6_regainableNow 30 = .ok (.aload_n 0, 1) := by decide +kernel
theorem dX6_regainableNow_31 : decode cX6_regainableNow 31 = .ok (.getfield 12, 3) := by decide +kernel
theorem dX6_regainableNow_34 : decode cX6_regainableNow 34 = .ok (.getfield 193, 3) := by decide +kernel
theorem dX6_regainableNow_37 : decode cX6_regainableNow 37 = .ok (.getfield 202, 3) := by decide +kernel
theorem dX6_regainableNow_40 : decode cX6_regainableNow 40 = .ok (.iadd, 1) := by decide +kernel
theorem dX6_regainableNow_41 : decode cX6_regainableNow 41 = .ok (.istore_n 1, 1) := by decide +kernel
theorem dX6_regainableNow_42 : decode cX6_regainableNow 42 = .ok (.iinc 2 1, 3) := by decide +kernel
theorem dX6_regainableNow_45 : decode cX6_regainableNow 45 = .ok (.goto (-41), 3) := by decide +kernel
theorem dX6_regainableNow_48 : decode cX6_regainableNow 48 = .ok (.iload_n 1, 1) := by decide +kernel
theorem dX6_regainableNow_49 : decode cX6_regainableNow 49 = .ok (.ireturn, 1) := by decide +kernel
set_option maxRecDepth 20000 in
theorem ggX6_amplification_X6_checkElement : GoodIn wsX6_amplification wsX6_checkElement := goodIn_ca (goodIn_r _ [7, 8, 9] (by first | rfl | decide +kernel) (by decide +kernel)) (goodIn_sub (fun _ h => List.mem_cons_of_mem _ (List.mem_append_right _ h)) (by decide +kernel))
set_option maxRecDepth 20000 in
theorem gX6_amplification_X6_checkElement : GoodIn wsX6_amplification (va_wsS RX6 61 yX6_checkElement wsX6_checkElement) := goodIn_app (goodIn_of _ (by decide +kernel)) ggX6_amplification_X6_checkElement
set_option maxRecDepth 20000 in
theorem ggX6_amplification_X6_inLowestTerms : GoodIn wsX6_amplification wsX6_inLowestTerms := goodIn_r _ [12, 13, 14, 6, 15] (by first | rfl | decide +kernel) (by decide +kernel)
set_option maxRecDepth 20000 in
theorem gX6_amplification_X6_inLowestTerms : GoodIn wsX6_amplification (va_wsS RX6 237 yX6_inLowestTerms wsX6_inLowestTerms) := goodIn_app (goodIn_of _ (by decide +kernel)) ggX6_amplification_X6_inLowestTerms
theorem dX6_amplification_0 : decode cX6_amplification 0 = .ok (.aload_n 0, 1) := by decide +kernel
theorem dX6_amplification_1 : decode cX6_amplification 1 = .ok (.getfield 12, 3) := by decide +kernel
theorem dX6_amplification_4 : decode cX6_amplification 4 = .ok (.getfield 205, 3) := by decide +kernel
theorem dX6_amplification_7 : decode cX6_amplification 7 = .ok (.ifCond .le 7, 3) := by decide +kernel
theorem dX6_amplification_10 : decode cX6_amplification 10 = .ok (.iconst 1, 1) := by decide +kernel
theorem dX6_amplification_11 : decode cX6_amplification 11 = .ok (.goto 4, 3) := by decide +kernel
theorem dX6_amplification_14 : decode cX6_amplification 14 = .ok (.iconst 0, 1) := by decide +kernel
theorem dX6_amplification_15 : decode cX6_amplification 15 = .ok (.invokestatic 61, 3) := by decide +kernel
theorem dX6_amplification_18 : decode cX6_amplification 18 = .ok (.aload_n 0, 1) := by decide +kernel
theorem dX6_amplification_19 : decode cX6_amplification 19 = .ok (.getfield 12, 3) := by decide +kernel
theorem dX6_amplification_22 : decode cX6_amplification 22 = .ok (.getfield 205, 3) := by decide +kernel
theorem dX6_amplification_25 : decode cX6_amplification 25 = .ok (.aload_n 0, 1) := by decide +kernel
theorem dX6_amplification_26 : decode cX6_amplification 26 = .ok (.getfield 12, 3) := by decide +kernel
theorem dX6_amplification_29 : decode cX6_amplification 29 = .ok (.getfield 208, 3) := by decide +kernel
theorem dX6_amplification_32 : decode cX6_amplification 32 = .ok (.iadd, 1) := by decide +kernel
theorem dX6_amplification_33 : decode cX6_amplification 33 = .ok (.aload_n 0, 1) := by decide +kernel
theorem dX6_amplification_34 : decode cX6_amplification 34 = .ok (.getfield 12, 3) := by decide +kernel
theorem dX6_amplification_37 : decode cX6_amplification 37 = .ok (.getfield 205, 3) := by decide +kernel
theorem dX6_amplification_40 : decode cX6_amplification 40 = .ok (.iload_n 1, 1) := by decide +kernel
theorem dX6_amplification_41 : decode cX6_amplification 41 = .ok (.invokestatic 237, 3) := by decide +kernel
theorem dX6_amplification_44 : decode cX6_amplification 44 = .ok (.ireturn, 1) := by decide +kernel
theorem dX6_wearGap_0 : decode cX6_wearGap 0 = .ok (.aload_n 0, 1) := by decide +kernel
theorem dX6_wearGap_1 : decode cX6_wearGap 1 = .ok (.getfield 12, 3) := by decide +kernel
theorem dX6_wearGap_4 : decode cX6_wearGap 4 = .ok (.getfield 193, 3) := by decide +kernel
theorem dX6_wearGap_7 : decode cX6_wearGap 7 = .ok (.getfield 226, 3) := by decide +kernel
theorem dX6_wearGap_10 : decode cX6_wearGap 10 = .ok (.iconst 0, 1) := by decide +kernel
theorem dX6_wearGap_11 : decode cX6_wearGap 11 = .ok (.iaload, 1) := by decide +kernel
theorem dX6_wearGap_12 : decode cX6_wearGap 12 = .ok (.istore_n 1, 1) := by decide +kernel
theorem dX6_wearGap_13 : decode cX6_wearGap 13 = .ok (.iload_n 1, 1) := by decide +kernel
theorem dX6_wearGap_14 : decode cX6_wearGap 14 = .ok (.istore_n 2, 1) := by decide +kernel
theorem dX6_wearGap_15 : decode cX6_wearGap 15 = .ok (.iconst 1, 1) := by decide +kernel
theorem dX6_wearGap_16 : decode cX6_wearGap 16 = .ok (.istore_n 3, 1) := by decide +kernel
theorem dX6_wearGap_17 : decode cX6_wearGap 17 = .ok (.iload_n 3, 1) := by decide +kernel
theorem dX6_wearGap_18 : decode cX6_wearGap 18 = .ok (.aload_n 0, 1) := by decide +kernel
theorem dX6_wearGap_19 : decode cX6_wearGap 19 = .ok (.getfield 12, 3) := by decide +kernel
theorem dX6_wearGap_22 : decode cX6_wearGap 22 = .ok (.getfield 193, 3) := by decide +kernel
theorem dX6_wearGap_25 : decode cX6_wearGap 25 = .ok (.getfield 197, 3) := by decide +kernel
theorem dX6_wearGap_28 : decode cX6_wearGap 28 = .ok (.if_icmp .ge 43, 3) := by decide +kernel
theorem dX6_wearGap_31 : decode cX6_wearGap 31 = .ok (.iload_n 1, 1) := by decide +kernel
theorem dX6_wearGap_32 : decode cX6_wearGap 32 = .ok (.aload_n 0, 1) := by decide +kernel
theorem dX6_wearGap_33 : decode cX6_wearGap 33 = .ok (.getfield 12, 3) := by decide +kernel
theorem dX6_wearGap_36 : decode cX6_wearGap 36 = .ok (.getfield 193, 3) := by decide +kernel
theorem dX6_wearGap_39 : decode cX6_wearGap 39 = .ok (.getfield 226, 3) := by decide +kernel
theorem dX6_wearGap_42 : decode cX6_wearGap 42 = .ok (.iload_n 3, 1) := by decide +kernel
theorem dX6_wearGap_43 : decode cX6_wearGap 43 = .ok (.iaload, 1) := by decide +kernel
theorem dX6_wearGap_44 : decode cX6_wearGap 44 = .ok (.invokestatic 289, 3) := by decide +kernel
theorem dX6_wearGap_47 : decode cX6_wearGap 47 = .ok (.istore_n 1, 1) := by decide +kernel
theorem dX6_wearGap_48 : decode cX6_wearGap 48 = .ok (.iload_n 2, 1) := by decide +kernel
theorem dX6_wearGap_49 : decode cX6_wearGap 49 = .ok (.aload_n 0, 1) := by decide +kernel
theorem dX6_wearGap_50 : decode cX6_wearGap 50 = .ok (.getfield 12, 3) := by decide +kernel
theorem dX6_wearGap_53 : decode cX6_wearGap 53 = .ok (.getfield 193, 3) := by decide +kernel
theorem dX6_wearGap_56 : decode cX6_wearGap 56 = .ok (.getfield 226, 3) := by decide +kernel
theorem dX6_wearGap_59 : decode cX6_wearGap 59 = .ok (.iload_n 3, 1) := by decide +kernel
theorem dX6_wearGap_60 : decode cX6_wearGap 60 = .ok (.iaload, 1) := by decide +kernel
theorem dX6_wearGap_61 : decode cX6_wearGap 61 = .ok (.invokestatic 294, 3) := by decide +kernel
theorem dX6_wearGap_64 : decode cX6_wearGap 64 = .ok (.istore_n 2, 1) := by decide +kernel
theorem dX6_wearGap_65 : decode cX6_wearGap 65 = .ok (.iinc 3 1, 3) := by decide +kernel
theorem dX6_wearGap_68 : decode cX6_wearGap 68 = .ok (.goto (-51), 3) := by decide +kernel
theorem dX6_wearGap_71 : decode cX6_wearGap 71 = .ok (.iload_n 2, 1) := by decide +kernel
theorem dX6_wearGap_72 : decode cX6_wearGap 72 = .ok (.iload_n 1, 1) := by decide +kernel
theorem dX6_wearGap_73 : decode cX6_wearGap 73 = .ok (.isub, 1) := by decide +kernel
theorem dX6_wearGap_74 : decode cX6_wearGap 74 = .ok (.ireturn, 1) := by decide +kernel
set_option maxRecDepth 20000 in
theorem ggX6_undo_X6_checkState : GoodIn wsX6_undo wsX6_checkState := goodIn_ca (goodIn_r _ [7, 8, 9] (by first | rfl | decide +kernel) (by decide +kernel)) (goodIn_sub (fun _ h => List.mem_cons_of_mem _ (List.mem_append_right _ h)) (by decide +kernel))
set_option maxRecDepth 20000 in
theorem gX6_undo_X6_checkState : GoodIn wsX6_undo (va_wsS RX6 50 yX6_checkState wsX6_checkState) := goodIn_app (goodIn_of _ (by decide +kernel)) ggX6_undo_X6_checkState
set_option maxRecDepth 20000 in
theorem ggX6_undo_X1_restore : GoodIn wsX6_undo wsX1_restore := goodIn_r _ [14, 15, 16, 17, 18, 19, 20, 21, 22, 23, 24, 25, 26, 27, 28, 29, 30, 31, 32, 33, 34, 35, 36, 37, 38, 39, 40, 41, 42, 43, 44, 45, 46, 47, 48, 49, 50, 51, 52, 53, 54, 55, 56, 57, 58, 59, 60, 61, 62, 63, 64, 65, 66, 67, 68, 69, 70, 71, 72, 73, 74, 75, 76, 77, 81, 82, 83, 84, 85, 86, 87, 88, 89, 90, 91, 92, 93, 94, 95, 96, 97, 98, 99, 100, 101, 102, 103, 104, 105, 106, 107, 108, 109, 110] (by first | rfl | decide +kernel) (by decide +kernel)
set_option maxRecDepth 20000 in
theorem gX6_undo_X1_restore : GoodIn wsX6_undo (wsV RX6 298 RX1 yX1_restore wsX1_restore) := goodIn_app (goodIn_of _ (by decide +kernel)) ggX6_undo_X1_restore
theorem dX6_undo_0 : decode cX6_undo 0 = .ok (.aload_n 0, 1) := by decide +kernel
theorem dX6_undo_1 : decode cX6_undo 1 = .ok (.getfield 22, 3) := by decide +kernel
theorem dX6_undo_4 : decode cX6_undo 4 = .ok (.getfield 297, 3) := by decide +kernel
theorem dX6_undo_7 : decode cX6_undo 7 = .ok (.ifCond .le 7, 3) := by decide +kernel
theorem dX6_undo_10 : decode cX6_undo 10 = .ok (.iconst 1, 1) := by decide +kernel
theorem dX6_undo_11 : decode cX6_undo 11 = .ok (.goto 4, 3) := by decide +kernel
theorem dX6_undo_14 : decode cX6_undo 14 = .ok (.iconst 0, 1) := by decide +kernel
theorem dX6_undo_15 : decode cX6_undo 15 = .ok (.invokestatic 50, 3) := by decide +kernel
theorem dX6_undo_18 : decode cX6_undo 18 = .ok (.aload_n 0, 1) := by decide +kernel
theorem dX6_undo_19 : decode cX6_undo 19 = .ok (.getfield 22, 3) := by decide +kernel
theorem dX6_undo_22 : decode cX6_undo 22 = .ok (.aload_n 0, 1) := by decide +kernel
theorem dX6_undo_23 : decode cX6_undo 23 = .ok (.getfield 12, 3) := by decide +kernel
theorem dX6_undo_26 : decode cX6_undo 26 = .ok (.invokevirtual 298, 3) := by decide +kernel
theorem dX6_undo_29 : decode cX6_undo 29 = .ok (.aload_n 0, 1) := by decide +kernel
theorem dX6_undo_30 : decode cX6_undo 30 = .ok (.getfield 22, 3) := by decide +kernel
theorem dX6_undo_33 : decode cX6_undo 33 = .ok (.getfield 297, 3) := by decide +kernel
theorem dX6_undo_36 : decode cX6_undo 36 = .ok (.ireturn, 1) := by decide +kernel
set_option maxRecDepth 20000 in
theorem ggX6_checkTaken_X6_checkSnapshot : GoodIn wsX6_checkTaken wsX6_checkSnapshot := goodIn_ca (goodIn_r _ [7, 8, 9, 6, 10, 11, 12, 13, 14, 15] (by first | rfl | decide +kernel) (by decide +kernel)) (goodIn_sub (fun _ h => List.mem_cons_of_mem _ (List.mem_append_left _ (List.mem_append_right _ h))) (by decide +kernel))
set_option maxRecDepth 20000 in
theorem gX6_checkTaken_X6_checkSnapshot : GoodIn wsX6_checkTaken (va_wsS RX6 86 yX6_checkSnapshot wsX6_checkSnapshot) := goodIn_app (goodIn_of _ (by decide +kernel)) ggX6_checkTaken_X6_checkSnapshot
set_option maxRecDepth 20000 in
theorem ggX6_checkTaken_X6_checkState : GoodIn wsX6_checkTaken wsX6_checkState := goodIn_ca (goodIn_r _ [18, 19, 20] (by first | rfl | decide +kernel) (by decide +kernel)) (goodIn_sub (fun _ h => List.mem_cons_of_mem _ (List.mem_append_right _ h)) (by decide +kernel))
set_option maxRecDepth 20000 in
theorem gX6_checkTaken_X6_checkState : GoodIn wsX6_checkTaken (va_wsS RX6 50 yX6_checkState wsX6_checkState) := goodIn_app (goodIn_of _ (by decide +kernel)) ggX6_checkTaken_X6_checkState
theorem dX6_checkTaken_0 : decode cX6_checkTaken 0 = .ok (.iload_n 1, 1) := by decide +kernel
theorem dX6_checkTaken_1 : decode cX6_checkTaken 1 = .ok (.invokestatic 86, 3) := by decide +kernel
theorem dX6_checkTaken_4 : decode cX6_checkTaken 4 = .ok (.aload_n 0, 1) := by decide +kernel
theorem dX6_checkTaken_5 : decode cX6_checkTaken 5 = .ok (.getfield 12, 3) := by decide +kernel
theorem dX6_checkTaken_8 : decode cX6_checkTaken 8 = .ok (.getfield 89, 3) := by decide +kernel
theorem dX6_checkTaken_11 : decode cX6_checkTaken 11 = .ok (.getfield 93, 3) := by decide +kernel
theorem dX6_checkTaken_14 : decode cX6_checkTaken 14 = .ok (.iload_n 1, 1) := by decide +kernel
theorem dX6_checkTaken_15 : decode cX6_checkTaken 15 = .ok (.baload, 1) := by decide +kernel
theorem dX6_checkTaken_16 : decode cX6_checkTaken 16 = .ok (.invokestatic 50, 3) := by decide +kernel
theorem dX6_checkTaken_19 : decode cX6_checkTaken 19 = .ok (.return_, 1) := by decide +kernel
set_option maxRecDepth 20000 in
theorem ggX6_checkHeld_X6_checkReader : GoodIn wsX6_checkHeld wsX6_checkReader := goodIn_ca (goodIn_r _ [6, 7, 8, 5, 9, 10, 11, 12, 13, 14] (by first | rfl | decide +kernel) (by decide +kernel)) (goodIn_sub (fun _ h => List.mem_cons_of_mem _ (List.mem_append_left _ (List.mem_append_right _ h))) (by decide +kernel))
set_option maxRecDepth 20000 in
theorem gX6_checkHeld_X6_checkReader : GoodIn wsX6_checkHeld (va_wsS RX6 119 yX6_checkReader wsX6_checkReader) := goodIn_app (goodIn_of _ (by decide +kernel)) ggX6_checkHeld_X6_checkReader
set_option maxRecDepth 20000 in
theorem ggX6_checkHeld_X6_checkAddress : GoodIn wsX6_checkHeld wsX6_checkAddress := goodIn_ca (goodIn_r _ [18, 1, 19, 20, 21, 10, 11, 5, 12, 13, 14, 33, 34, 35, 36, 37, 38, 39, 40, 41, 42, 43, 44, 45, 46, 47, 48, 49, 50, 51, 52] (by first | rfl | decide +kernel) (by decide +kernel)) (goodIn_sub (fun _ h => List.mem_cons_of_mem _ (List.mem_append_left _ (List.mem_append_right _ h))) (by decide +kernel))
set_option maxRecDepth 20000 in
theorem gX6_checkHeld_X6_checkAddress : GoodIn wsX6_checkHeld (wsV RX6 241 RX6 yX6_checkAddress wsX6_checkAddress) := goodIn_app (goodIn_of _ (by decide +kernel)) ggX6_checkHeld_X6_checkAddress
set_option maxRecDepth 20000 in
theorem ggX6_checkHeld_X0_isHeldBy : GoodIn wsX6_checkHeld wsX0_isHeldBy := goodIn_r _ [26, 27, 53, 54, 55, 56, 57, 58] (by first | rfl | decide +kernel) (by decide +kernel)
set_option maxRecDepth 20000 in
theorem gX6_checkHeld_X0_isHeldBy : GoodIn wsX6_checkHeld (wsV RX6 301 RX0 yX0_isHeldBy wsX0_isHeldBy) := goodIn_app (goodIn_of _ (by decide +kernel)) ggX6_checkHeld_X0_isHeldBy
set_option maxRecDepth 20000 in
theorem ggX6_checkHeld_X6_checkElement : GoodIn wsX6_checkHeld wsX6_checkElement := goodIn_ca (goodIn_r _ [30, 31, 32] (by first | rfl | decide +kernel) (by decide +kernel)) (goodIn_sub (fun _ h => List.mem_cons_of_mem _ (List.mem_append_right _ h)) (by decide +kernel))
set_option maxRecDepth 20000 in
theorem gX6_checkHeld_X6_checkElement : GoodIn wsX6_checkHeld (va_wsS RX6 61 yX6_checkElement wsX6_checkElement) := goodIn_app (goodIn_of _ (by decide +kernel)) ggX6_checkHeld_X6_checkElement
theorem dX6_checkHeld_0 : decode cX6_checkHeld 0 = .ok (.iload_n 1, 1) := by decide +kernel
theorem dX6_checkHeld_1 : decode cX6_checkHeld 1 = .ok (.invokestatic 119, 3) := by decide +kernel
theorem dX6_checkHeld_4 : decode cX6_checkHeld 4 = .ok (.aload_n 0, 1) := by decide +kernel
theorem dX6_checkHeld_5 : decode cX6_checkHeld 5 = .ok (.iload_n 2, 1) := by decide +kernel
theorem dX6_checkHeld_6 : decode cX6_checkHeld 6 = .ok (.invokevirtual 241, 3) := by decide +kernel
theorem dX6_checkHeld_9 : decode cX6_checkHeld 9 = .ok (.aload_n 0, 1) := by decide +kernel
theorem dX6_checkHeld_10 : decode cX6_checkHeld 10 = .ok (.getfield 12, 3) := by decide +kernel
theorem dX6_checkHeld_13 : decode cX6_checkHeld 13 = .ok (.getfield 68, 3) := by decide +kernel
theorem dX6_checkHeld_16 : decode cX6_checkHeld 16 = .ok (.iload_n 2, 1) := by decide +kernel
theorem dX6_checkHeld_17 : decode cX6_checkHeld 17 = .ok (.iload_n 1, 1) := by decide +kernel
theorem dX6_checkHeld_18 : decode cX6_checkHeld 18 = .ok (.invokevirtual 301, 3) := by decide +kernel
theorem dX6_checkHeld_21 : decode cX6_checkHeld 21 = .ok (.invokestatic 61, 3) := by decide +kernel
theorem dX6_checkHeld_24 : decode cX6_checkHeld 24 = .ok (.return_, 1) := by decide +kernel
set_option maxRecDepth 20000 in
theorem ggX6_checkSegment_X6_isBetween : GoodIn wsX6_checkSegment wsX6_isBetween := goodIn_r _ [7] (by first | rfl | decide +kernel) (by decide +kernel)
set_option maxRecDepth 20000 in
theorem gX6_checkSegment_X6_isBetween : GoodIn wsX6_checkSegment (va_wsS RX6 30 yX6_isBetween wsX6_isBetween) := goodIn_app (goodIn_of _ (by decide +kernel)) ggX6_checkSegment_X6_isBetween
set_option maxRecDepth 20000 in
theorem ggX6_checkSegment_X6_checkIndex : GoodIn wsX6_checkSegment wsX6_checkIndex := goodIn_ca (goodIn_r _ [10, 11, 12] (by first | rfl | decide +kernel) (by decide +kernel)) (goodIn_sub (fun _ h => List.mem_cons_of_mem _ (List.mem_append_right _ h)) (by decide +kernel))
set_option maxRecDepth 20000 in
theorem gX6_checkSegment_X6_checkIndex : GoodIn wsX6_checkSegment (va_wsS RX6 83 yX6_checkIndex wsX6_checkIndex) := goodIn_app (goodIn_of _ (by decide +kernel)) ggX6_checkSegment_X6_checkIndex
theorem dX6_checkSegment_0 : decode cX6_checkSegment 0 = .ok (.iload_n 1, 1) := by decide +kernel
theorem dX6_checkSegment_1 : decode cX6_checkSegment 1 = .ok (.iconst 0, 1) := by decide +kernel
theorem dX6_checkSegment_2 : decode cX6_checkSegment 2 = .ok (.aload_n 0, 1) := by decide +kernel
theorem dX6_checkSegment_3 : decode cX6_checkSegment 3 = .ok (.getfield 12, 3) := by decide +kernel
theorem dX6_checkSegment_6 : decode cX6_checkSegment 6 = .ok (.getfield 193, 3) := by decide +kernel
theorem dX6_checkSegment_9 : decode cX6_checkSegment 9 = .ok (.getfield 197, 3) := by decide +kernel
theorem dX6_checkSegment_12 : decode cX6_checkSegment 12 = .ok (.iconst 1, 1) := by decide +kernel
theorem dX6_checkSegment_13 : decode cX6_checkSegment 13 = .ok (.isub, 1) := by decide +kernel
theorem dX6_checkSegment_14 : decode cX6_checkSegment 14 = .ok (.invokestatic 30, 3) := by decide +kernel
theorem dX6_checkSegment_17 : decode cX6_checkSegment 17 = .ok (.invokestatic 83, 3) := by decide +kernel
theorem dX6_checkSegment_20 : decode cX6_checkSegment 20 = .ok (.return_, 1) := by decide +kernel
set_option maxRecDepth 20000 in
theorem ggX6_checkAddress_X6_checkIndex : GoodIn wsX6_checkAddress wsX6_checkIndex := goodIn_ca (goodIn_r _ [8, 9, 10] (by first | rfl | decide +kernel) (by decide +kernel)) (goodIn_sub (fun _ h => List.mem_cons_of_mem _ (List.mem_append_right _ h)) (by decide +kernel))
set_option maxRecDepth 20000 in
theorem gX6_checkAddress_X6_checkIndex : GoodIn wsX6_checkAddress (va_wsS RX6 83 yX6_checkIndex wsX6_checkIndex) := goodIn_app (goodIn_of _ (by decide +kernel)) ggX6_checkAddress_X6_checkIndex
theorem dX6_checkAddress_0 : decode cX6_checkAddress 0 = .ok (.iload_n 1, 1) := by decide +kernel
theorem dX6_checkAddress_1 : decode cX6_checkAddress 1 = .ok (.ifCond .lt 41, 3) := by decide +kernel
theorem dX6_checkAddress_4 : decode cX6_checkAddress 4 = .ok (.iload_n 1, 1) := by decide +kernel
theorem dX6_checkAddress_5 : decode cX6_checkAddress 5 = .ok (.bipush 16, 2) := by decide +kernel
theorem dX6_checkAddress_7 : decode cX6_checkAddress 7 = .ok (.idiv, 1) := by decide +kernel
theorem dX6_checkAddress_8 : decode cX6_checkAddress 8 = .ok (.aload_n 0, 1) := by decide +kernel
theorem dX6_checkAddress_9 : decode cX6_checkAddress 9 = .ok (.getfield 12, 3) := by decide +kernel
theorem dX6_checkAddress_12 : decode cX6_checkAddress 12 = .ok (.getfield 193, 3) := by decide +kernel
theorem dX6_checkAddress_15 : decode cX6_checkAddress 15 = .ok (.getfield 197, 3) := by decide +kernel
theorem dX6_checkAddress_18 : decode cX6_checkAddress 18 = .ok (.if_icmp .ge 24, 3) := by decide +kernel
theorem dX6_checkAddress_21 : decode cX6_checkAddress 21 = .ok (.iload_n 1, 1) := by decide +kernel
theorem dX6_checkAddress_22 : decode cX6_checkAddress 22 = .ok (.bipush 16, 2) := by decide +kernel
theorem dX6_checkAddress_24 : decode cX6_checkAddress 24 = .ok (.irem, 1) := by decide +kernel
theorem dX6_checkAddress_25 : decode cX6_checkAddress 25 = .ok (.aload_n 0, 1) := by decide +kernel
theorem dX6_checkAddress_26 : decode cX6_checkAddress 26 = .ok (.getfield 12, 3) := by decide +kernel
theorem dX6_checkAddress_29 : decode cX6_checkAddress 29 = .ok (.getfield 193, 3) := by decide +kernel
theorem dX6_checkAddress_32 : decode cX6_checkAddress 32 = .ok (.getfield 202, 3) := by decide +kernel
theorem dX6_checkAddress_35 : decode cX6_checkAddress 35 = .ok (.if_icmp .ge 7, 3) := by decide +kernel
theorem dX6_checkAddress_38 : decode cX6_checkAddress 38 = .ok (.iconst 1, 1) := by decide +kernel
theorem dX6_checkAddress_39 : decode cX6_checkAddress 39 = .ok (.goto 4, 3) := by decide +kernel
theorem dX6_checkAddress_42 : decode cX6_checkAddress 42 = .ok (.iconst 0, 1) := by decide +kernel
theorem dX6_checkAddress_43 : decode cX6_checkAddress 43 = .ok (.invokestatic 83, 3) := by decide +kernel
theorem dX6_checkAddress_46 : decode cX6_checkAddress 46 = .ok (.return_, 1) := by decide +kernel
set_option maxRecDepth 20000 in
theorem ggX6_checkKey_X6_isBetween : GoodIn wsX6_checkKey wsX6_isBetween := goodIn_r _ [4] (by first | rfl | decide +kernel) (by decide +kernel)
set_option maxRecDepth 20000 in
theorem gX6_checkKey_X6_isBetween : GoodIn wsX6_checkKey (va_wsS RX6 30 yX6_isBetween wsX6_isBetween) := goodIn_app (goodIn_of _ (by decide +kernel)) ggX6_checkKey_X6_isBetween
set_option maxRecDepth 20000 in
theorem ggX6_checkKey_X6_checkIndex : GoodIn wsX6_checkKey wsX6_checkIndex := goodIn_ca (goodIn_r _ [7, 8, 9] (by first | rfl | decide +kernel) (by decide +kernel)) (goodIn_sub (fun _ h => List.mem_cons_of_mem _ (List.mem_append_right _ h)) (by decide +kernel))
set_option maxRecDepth 20000 in
theorem gX6_checkKey_X6_checkIndex : GoodIn wsX6_checkKey (va_wsS RX6 83 yX6_checkIndex wsX6_checkIndex) := goodIn_app (goodIn_of _ (by decide +kernel)) ggX6_checkKey_X6_checkIndex
theorem dX6_checkKey_0 : decode cX6_checkKey 0 = .ok (.iload_n 0, 1) := by decide +kernel
theorem dX6_checkKey_1 : decode cX6_checkKey 1 = .ok (.iconst 0, 1) := by decide +kernel
theorem dX6_checkKey_2 : decode cX6_checkKey 2 = .ok (.bipush 23, 2) := by decide +kernel
theorem dX6_checkKey_4 : decode cX6_checkKey 4 = .ok (.invokestatic 30, 3) := by decide +kernel
theorem dX6_checkKey_7 : decode cX6_checkKey 7 = .ok (.invokestatic 83, 3) := by decide +kernel
theorem dX6_checkKey_10 : decode cX6_checkKey 10 = .ok (.return_, 1) := by decide +kernel
set_option maxRecDepth 20000 in
theorem ggX6_checkReader_X6_isBetween : GoodIn wsX6_checkReader wsX6_isBetween := goodIn_r _ [4] (by first | rfl | decide +kernel) (by decide +kernel)
set_option maxRecDepth 20000 in
theorem gX6_checkReader_X6_isBetween : GoodIn wsX6_checkReader (va_wsS RX6 30 yX6_isBetween wsX6_isBetween) := goodIn_app (goodIn_of _ (by decide +kernel)) ggX6_checkReader_X6_isBetween
set_option maxRecDepth 20000 in
theorem ggX6_checkReader_X6_checkIndex : GoodIn wsX6_checkReader wsX6_checkIndex := goodIn_ca (goodIn_r _ [7, 8, 9] (by first | rfl | decide +kernel) (by decide +kernel)) (goodIn_sub (fun _ h => List.mem_cons_of_mem _ (List.mem_append_right _ h)) (by decide +kernel))
set_option maxRecDepth 20000 in
theorem gX6_checkReader_X6_checkIndex : GoodIn wsX6_checkReader (va_wsS RX6 83 yX6_checkIndex wsX6_checkIndex) := goodIn_app (goodIn_of _ (by decide +kernel)) ggX6_checkReader_X6_checkIndex
theorem dX6_checkReader_0 : decode cX6_checkReader 0 = .ok (.iload_n 0, 1) := by decide +kernel
theorem dX6_checkReader_1 : decode cX6_checkReader 1 = .ok (.iconst 0, 1) := by decide +kernel
theorem dX6_checkReader_2 : decode cX6_checkReader 2 = .ok (.iconst 5, 1) := by decide +kernel
theorem dX6_checkReader_3 : decode cX6_checkReader 3 = .ok (.invokestatic 30, 3) := by decide +kernel
theorem dX6_checkReader_6 : decode cX6_checkReader 6 = .ok (.invokestatic 83, 3) := by decide +kernel
theorem dX6_checkReader_9 : decode cX6_checkReader 9 = .ok (.return_, 1) := by decide +kernel
set_option maxRecDepth 20000 in
theorem ggX6_checkSnapshot_X6_isBetween : GoodIn wsX6_checkSnapshot wsX6_isBetween := goodIn_r _ [4] (by first | rfl | decide +kernel) (by decide +kernel)
set_option maxRecDepth 20000 in
theorem gX6_checkSnapshot_X6_isBetween : GoodIn wsX6_checkSnapshot (va_wsS RX6 30 yX6_isBetween wsX6_isBetween) := goodIn_app (goodIn_of _ (by decide +kernel)) ggX6_checkSnapshot_X6_isBetween
set_option maxRecDepth 20000 in
theorem ggX6_checkSnapshot_X6_checkIndex : GoodIn wsX6_checkSnapshot wsX6_checkIndex := goodIn_ca (goodIn_r _ [7, 8, 9] (by first | rfl | decide +kernel) (by decide +kernel)) (goodIn_sub (fun _ h => List.mem_cons_of_mem _ (List.mem_append_right _ h)) (by decide +kernel))
set_option maxRecDepth 20000 in
theorem gX6_checkSnapshot_X6_checkIndex : GoodIn wsX6_checkSnapshot (va_wsS RX6 83 yX6_checkIndex wsX6_checkIndex) := goodIn_app (goodIn_of _ (by decide +kernel)) ggX6_checkSnapshot_X6_checkIndex
theorem dX6_checkSnapshot_0 : decode cX6_checkSnapshot 0 = .ok (.iload_n 0, 1) := by decide +kernel
theorem dX6_checkSnapshot_1 : decode cX6_checkSnapshot 1 = .ok (.iconst 0, 1) := by decide +kernel
theorem dX6_checkSnapshot_2 : decode cX6_checkSnapshot 2 = .ok (.iconst 3, 1) := by decide +kernel
theorem dX6_checkSnapshot_3 : decode cX6_checkSnapshot 3 = .ok (.invokestatic 30, 3) := by decide +kernel
theorem dX6_checkSnapshot_6 : decode cX6_checkSnapshot 6 = .ok (.invokestatic 83, 3) := by decide +kernel
theorem dX6_checkSnapshot_9 : decode cX6_checkSnapshot 9 = .ok (.return_, 1) := by decide +kernel
theorem dX6_checkIndex_0 : decode cX6_checkIndex 0 = .ok (.iload_n 0, 1) := by decide +kernel
theorem dX6_checkIndex_1 : decode cX6_checkIndex 1 = .ok (.ifCond .ne 11, 3) := by decide +kernel
theorem dX6_checkIndex_4 : decode cX6_checkIndex 4 = .ok (.new 304, 3) := by decide +kernel
theorem dX6_checkIndex_7 : decode cX6_checkIndex 7 = .ok (.dup, 1) := by decide +kernel
theorem dX6_checkIndex_8 : decode cX6_checkIndex 8 = .ok (.invokespecial 306, 3) := by decide +kernel
theorem dX6_checkIndex_11 : decode cX6_checkIndex 11 = .ok (.athrow, 1) := by decide +kernel
theorem dX6_checkIndex_12 : decode cX6_checkIndex 12 = .ok (.return_, 1) := by decide +kernel
theorem dX6_checkArgument_0 : decode cX6_checkArgument 0 = .ok (.iload_n 0, 1) := by decide +kernel
theorem dX6_checkArgument_1 : decode cX6_checkArgument 1 = .ok (.ifCond .ne 11, 3) := by decide +kernel
theorem dX6_checkArgument_4 : decode cX6_checkArgument 4 = .ok (.new 170, 3) := by decide +kernel
theorem dX6_checkArgument_7 : decode cX6_checkArgument 7 = .ok (.dup, 1) := by decide +kernel
theorem dX6_checkArgument_8 : decode cX6_checkArgument 8 = .ok (.invokespecial 307, 3) := by decide +kernel
theorem dX6_checkArgument_11 : decode cX6_checkArgument 11 = .ok (.athrow, 1) := by decide +kernel
theorem dX6_checkArgument_12 : decode cX6_checkArgument 12 = .ok (.return_, 1) := by decide +kernel
theorem dX6_checkState_0 : decode cX6_checkState 0 = .ok (.iload_n 0, 1) := by decide +kernel
theorem dX6_checkState_1 : decode cX6_checkState 1 = .ok (.ifCond .ne 11, 3) := by decide +kernel
theorem dX6_checkState_4 : decode cX6_checkState 4 = .ok (.new 308, 3) := by decide +kernel
theorem dX6_checkState_7 : decode cX6_checkState 7 = .ok (.dup, 1) := by decide +kernel
theorem dX6_checkState_8 : decode cX6_checkState 8 = .ok (.invokespecial 310, 3) := by decide +kernel
theorem dX6_checkState_11 : decode cX6_checkState 11 = .ok (.athrow, 1) := by decide +kernel
theorem dX6_checkState_12 : decode cX6_checkState 12 = .ok (.return_, 1) := by decide +kernel
theorem dX6_checkElement_0 : decode cX6_checkElement 0 = .ok (.iload_n 0, 1) := by decide +kernel
theorem dX6_checkElement_1 : decode cX6_checkElement 1 = .ok (.ifCond .ne 11, 3) := by decide +kernel
theorem dX6_checkElement_4 : decode cX6_checkElement 4 = .ok (.new 311, 3) := by decide +kernel
theorem dX6_checkElement_7 : decode cX6_checkElement 7 = .ok (.dup, 1) := by decide +kernel
theorem dX6_checkElement_8 : decode cX6_checkElement 8 = .ok (.invokespecial 313, 3) := by decide +kernel
theorem dX6_checkElement_11 : decode cX6_checkElement 11 = .ok (.athrow, 1) := by decide +kernel
theorem dX6_checkElement_12 : decode cX6_checkElement 12 = .ok (.return_, 1) := by decide +kernel
theorem dX6_isBetween_0 : decode cX6_isBetween 0 = .ok (.iload_n 0, 1) := by decide +kernel
theorem dX6_isBetween_1 : decode cX6_isBetween 1 = .ok (.iload_n 1, 1) := by decide +kernel
theorem dX6_isBetween_2 : decode cX6_isBetween 2 = .ok (.if_icmp .lt 12, 3) := by decide +kernel
theorem dX6_isBetween_5 : decode cX6_isBetween 5 = .ok (.iload_n 0, 1) := by decide +kernel
theorem dX6_isBetween_6 : decode cX6_isBetween 6 = .ok (.iload_n 2, 1) := by decide +kernel
theorem dX6_isBetween_7 : decode cX6_isBetween 7 = .ok (.if_icmp .gt 7, 3) := by decide +kernel
theorem dX6_isBetween_10 : decode cX6_isBetween 10 = .ok (.iconst 1, 1) := by decide +kernel
theorem dX6_isBetween_11 : decode cX6_isBetween 11 = .ok (.goto 4, 3) := by decide +kernel
theorem dX6_isBetween_14 : decode cX6_isBetween 14 = .ok (.iconst 0, 1) := by decide +kernel
theorem dX6_isBetween_15 : decode cX6_isBetween 15 = .ok (.ireturn, 1) := by decide +kernel
set_option maxRecDepth 20000 in
theorem ggX6_inLowestTerms_X6_greatestDivisor : GoodIn wsX6_inLowestTerms wsX6_greatestDivisor := goodIn_r _ [4] (by first | rfl | decide +kernel) (by decide +kernel)
set_option maxRecDepth 20000 in
theorem gX6_inLowestTerms_X6_greatestDivisor : GoodIn wsX6_inLowestTerms (va_wsS RX6 314 yX6_greatestDivisor wsX6_greatestDivisor) := goodIn_app (goodIn_of _ (by decide +kernel)) ggX6_inLowestTerms_X6_greatestDivisor
theorem dX6_inLowestTerms_0 : decode cX6_inLowestTerms 0 = .ok (.iload_n 2, 1) := by decide +kernel
theorem dX6_inLowestTerms_1 : decode cX6_inLowestTerms 1 = .ok (.ifCond .eq 7, 3) := by decide +kernel
theorem dX6_inLowestTerms_4 : decode cX6_inLowestTerms 4 = .ok (.iload_n 1, 1) := by decide +kernel
theorem dX6_inLowestTerms_5 : decode cX6_inLowestTerms 5 = .ok (.goto 4, 3) := by decide +kernel
theorem dX6_inLowestTerms_8 : decode cX6_inLowestTerms 8 = .ok (.iload_n 0, 1) := by decide +kernel
theorem dX6_inLowestTerms_9 : decode cX6_inLowestTerms 9 = .ok (.istore_n 3, 1) := by decide +kernel
theorem dX6_inLowestTerms_10 : decode cX6_inLowestTerms 10 = .ok (.iload_n 0, 1) := by decide +kernel
theorem dX6_inLowestTerms_11 : decode cX6_inLowestTerms 11 = .ok (.iload_n 1, 1) := by decide +kernel
theorem dX6_inLowestTerms_12 : decode cX6_inLowestTerms 12 = .ok (.invokestatic 314, 3) := by decide +kernel
theorem dX6_inLowestTerms_15 : decode cX6_inLowestTerms 15 = .ok (.istore 4, 2) := by decide +kernel
theorem dX6_inLowestTerms_17 : decode cX6_inLowestTerms 17 = .ok (.iload 4, 2) := by decide +kernel
theorem dX6_inLowestTerms_19 : decode cX6_inLowestTerms 19 = .ok (.ifCond .ne 7, 3) := by decide +kernel
theorem dX6_inLowestTerms_22 : decode cX6_inLowestTerms 22 = .ok (.iload_n 3, 1) := by decide +kernel
theorem dX6_inLowestTerms_23 : decode cX6_inLowestTerms 23 = .ok (.goto 7, 3) := by decide +kernel
theorem dX6_inLowestTerms_26 : decode cX6_inLowestTerms 26 = .ok (.iload_n 3, 1) := by decide +kernel
theorem dX6_inLowestTerms_27 : decode cX6_inLowestTerms 27 = .ok (.iload 4, 2) := by decide +kernel
theorem dX6_inLowestTerms_29 : decode cX6_inLowestTerms 29 = .ok (.idiv, 1) := by decide +kernel
theorem dX6_inLowestTerms_30 : decode cX6_inLowestTerms 30 = .ok (.ireturn, 1) := by decide +kernel
theorem dX6_greatestDivisor_0 : decode cX6_greatestDivisor 0 = .ok (.iload_n 0, 1) := by decide +kernel
theorem dX6_greatestDivisor_1 : decode cX6_greatestDivisor 1 = .ok (.istore_n 2, 1) := by decide +kernel
theorem dX6_greatestDivisor_2 : decode cX6_greatestDivisor 2 = .ok (.iload_n 1, 1) := by decide +kernel
theorem dX6_greatestDivisor_3 : decode cX6_greatestDivisor 3 = .ok (.istore_n 3, 1) := by decide +kernel
theorem dX6_greatestDivisor_4 : decode cX6_greatestDivisor 4 = .ok (.iconst 0, 1) := by decide +kernel
theorem dX6_greatestDivisor_5 : decode cX6_greatestDivisor 5 = .ok (.istore 4, 2) := by decide +kernel
theorem dX6_greatestDivisor_7 : decode cX6_greatestDivisor 7 = .ok (.iload 4, 2) := by decide +kernel
theorem dX6_greatestDivisor_9 : decode cX6_greatestDivisor 9 = .ok (.bipush 100, 2) := by decide +kernel
theorem dX6_greatestDivisor_11 : decode cX6_greatestDivisor 11 = .ok (.if_icmp .ge 23, 3) := by decide +kernel
theorem dX6_greatestDivisor_14 : decode cX6_greatestDivisor 14 = .ok (.iload_n 3, 1) := by decide +kernel
theorem dX6_greatestDivisor_15 : decode cX6_greatestDivisor 15 = .ok (.ifCond .eq 19, 3) := by decide +kernel
theorem dX6_greatestDivisor_18 : decode cX6_greatestDivisor 18 = .ok (.iload_n 2, 1) := by decide +kernel
theorem dX6_greatestDivisor_19 : decode cX6_greatestDivisor 19 = .ok (.iload_n 3, 1) := by decide +kernel
theorem dX6_greatestDivisor_20 : decode cX6_greatestDivisor 20 = .ok (.irem, 1) := by decide +kernel
theorem dX6_greatestDivisor_21 : decode cX6_greatestDivisor 21 = .ok (.istore 5, 2) := by decide +kernel
theorem dX6_greatestDivisor_23 : decode cX6_greatestDivisor 23 = .ok (.iload_n 3, 1) := by decide +kernel
theorem dX6_greatestDivisor_24 : decode cX6_greatestDivisor 24 = .ok (.istore_n 2, 1) := by decide +kernel
theorem dX6_greatestDivisor_25 : decode cX6_greatestDivisor 25 = .ok (.iload 5, 2) := by decide +kernel
theorem dX6_greatestDivisor_27 : decode cX6_greatestDivisor 27 = .ok (.istore_n 3, 1) := by decide +kernel
theorem dX6_greatestDivisor_28 : decode cX6_greatestDivisor 28 = .ok (.iinc 4 1, 3) := by decide +kernel
theorem dX6_greatestDivisor_31 : decode cX6_greatestDivisor 31 = .ok (.goto (-24), 3) := by decide +kernel
theorem dX6_greatestDivisor_34 : decode cX6_greatestDivisor 34 = .ok (.iload_n 2, 1) := by decide +kernel
theorem dX6_greatestDivisor_35 : decode cX6_greatestDivisor 35 = .ok (.ireturn, 1) := by decide +kernel
set_option maxRecDepth 20000 in
theorem ggX7_init_X7_begins : GoodIn wsX7_init wsX7_begins := goodIn_r _ [12, 5, 13, 14, 15, 16, 17] (by first | rfl | decide +kernel) (by decide +kernel)
set_option maxRecDepth 20000 in
theorem gX7_init_X7_begins : GoodIn wsX7_init (wsV RX7 19 RX7 yX7_begins wsX7_begins) := goodIn_app (goodIn_of _ (by decide +kernel)) ggX7_init_X7_begins
