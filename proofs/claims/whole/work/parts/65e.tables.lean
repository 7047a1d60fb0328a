/-! the law's words among the tables' -/
set_option maxRecDepth 20000 in
theorem zt__law0_r45 : ∀ w ∈ wsL_law0_r45, w ∈ lw_tbl := fun w h => (goodIn_p wsL_law0_r45 [433, 437, 1437, 1441, 1445] (by decide +kernel) (by decide +kernel) w h).1
set_option maxRecDepth 20000 in
theorem zt__law0_r46 : ∀ w ∈ wsL_law0_r46, w ∈ lw_tbl := fun w h => (goodIn_p wsL_law0_r46 [995, 1486, 1002, 1006, 1010] (by decide +kernel) (by decide +kernel) w h).1
set_option maxRecDepth 20000 in
theorem zt__law0_r47 : ∀ w ∈ wsL_law0_r47, w ∈ lw_tbl := fun w h => (goodIn_p wsL_law0_r47 [1014, 1018, 1449, 1453, 1457] (by decide +kernel) (by decide +kernel) w h).1
set_option maxRecDepth 20000 in
theorem zt__law0_r48 : ∀ w ∈ wsL_law0_r48, w ∈ lw_tbl := fun w h => (goodIn_p wsL_law0_r48 [1461, 1025, 1029, 1033, 1465] (by decide +kernel) (by decide +kernel) w h).1
set_option maxRecDepth 20000 in
theorem zt__law0_r49 : ∀ w ∈ wsL_law0_r49, w ∈ lw_tbl := fun w h => (goodIn_p wsL_law0_r49 [1469, 1473, 1041, 1046] (by decide +kernel) (by decide +kernel) w h).1
set_option maxRecDepth 20000 in
theorem zt__law0_r50 : ∀ w ∈ wsL_law0_r50, w ∈ lw_tbl := fun w h => (goodIn_p wsL_law0_r50 [1477, 1482, 442, 1490, 447, 1494] (by decide +kernel) (by decide +kernel) w h).1
set_option maxRecDepth 20000 in
theorem zt__law0_r51 : ∀ w ∈ wsL_law0_r51, w ∈ lw_tbl := fun w h => (goodIn_p wsL_law0_r51 [1058, 1498, 451, 1509] (by decide +kernel) (by decide +kernel) w h).1
set_option maxRecDepth 20000 in
theorem zt__law0_r52 : ∀ w ∈ wsL_law0_r52, w ∈ lw_tbl := fun w h => (goodIn_p wsL_law0_r52 [1065, 1069, 1103] (by decide +kernel) (by decide +kernel) w h).1
