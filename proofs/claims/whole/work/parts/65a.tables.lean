/-! the law's words among the tables' -/
set_option maxRecDepth 20000 in
theorem zt__law0_r1 : ∀ w ∈ wsL_law0_r1, w ∈ lw_tbl := fun w h => (goodIn_p wsL_law0_r1 [82, 85, 90] (by decide +kernel) (by decide +kernel) w h).1
set_option maxRecDepth 20000 in
theorem zt__law0_r2 : ∀ w ∈ wsL_law0_r2, w ∈ lw_tbl := fun w h => (goodIn_p wsL_law0_r2 [96] (by decide +kernel) (by decide +kernel) w h).1
set_option maxRecDepth 20000 in
theorem zt__law0_r3 : ∀ w ∈ wsL_law0_r3, w ∈ lw_tbl := fun w h => (goodIn_p wsL_law0_r3 [130, 165, 180] (by decide +kernel) (by decide +kernel) w h).1
set_option maxRecDepth 20000 in
theorem zt__law0_r4 : ∀ w ∈ wsL_law0_r4, w ∈ lw_tbl := fun w h => (goodIn_p wsL_law0_r4 [240, 259, 263, 266] (by decide +kernel) (by decide +kernel) w h).1
set_option maxRecDepth 20000 in
theorem zt__law0_r5 : ∀ w ∈ wsL_law0_r5, w ∈ lw_tbl := fun w h => (goodIn_p wsL_law0_r5 [270, 274, 278, 282, 287] (by decide +kernel) (by decide +kernel) w h).1
set_option maxRecDepth 20000 in
theorem zt__law0_r6 : ∀ w ∈ wsL_law0_r6, w ∈ lw_tbl := fun w h => (goodIn_p wsL_law0_r6 [291, 1074, 1079, 461] (by decide +kernel) (by decide +kernel) w h).1
set_option maxRecDepth 20000 in
theorem zt__law0_r7 : ∀ w ∈ wsL_law0_r7, w ∈ lw_tbl := fun w h => (goodIn_p wsL_law0_r7 [464, 467, 368, 352, 372] (by decide +kernel) (by decide +kernel) w h).1
set_option maxRecDepth 20000 in
theorem zt__law0_r8 : ∀ w ∈ wsL_law0_r8, w ∈ lw_tbl := fun w h => (goodIn_p wsL_law0_r8 [376, 383, 388, 393, 1107] (by decide +kernel) (by decide +kernel) w h).1
set_option maxRecDepth 20000 in
theorem zt__law0_r9 : ∀ w ∈ wsL_law0_r9, w ∈ lw_tbl := fun w h => (goodIn_p wsL_law0_r9 [1112, 1119, 1099] (by decide +kernel) (by decide +kernel) w h).1
set_option maxRecDepth 20000 in
theorem zt__law0_r10 : ∀ w ∈ wsL_law0_r10, w ∈ lw_tbl := fun w h => (goodIn_p wsL_law0_r10 [541, 544, 547, 310, 317, 314] (by decide +kernel) (by decide +kernel) w h).1
set_option maxRecDepth 20000 in
theorem zt__law0_r11 : ∀ w ∈ wsL_law0_r11, w ∈ lw_tbl := fun w h => (goodIn_p wsL_law0_r11 [321, 565, 584, 588, 592] (by decide +kernel) (by decide +kernel) w h).1
