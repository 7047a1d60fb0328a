/-! the law's words among the tables' -/
set_option maxRecDepth 20000 in
theorem zt__law0_r12 : ∀ w ∈ wsL_law0_r12, w ∈ lw_tbl := fun w h => (goodIn_p wsL_law0_r12 [596, 600, 604, 608, 612, 616] (by decide +kernel) (by decide +kernel) w h).1
set_option maxRecDepth 20000 in
theorem zt__law0_r13 : ∀ w ∈ wsL_law0_r13, w ∈ lw_tbl := fun w h => (goodIn_p wsL_law0_r13 [1123, 1126, 1131, 1135, 1139, 1143] (by decide +kernel) (by decide +kernel) w h).1
set_option maxRecDepth 20000 in
theorem zt__law0_r14 : ∀ w ∈ wsL_law0_r14, w ∈ lw_tbl := fun w h => (goodIn_p wsL_law0_r14 [1147, 1151, 1155, 1159, 1163, 1167] (by decide +kernel) (by decide +kernel) w h).1
set_option maxRecDepth 20000 in
theorem zt__law0_r15 : ∀ w ∈ wsL_law0_r15, w ∈ lw_tbl := fun w h => (goodIn_p wsL_law0_r15 [1171, 625, 628, 1175] (by decide +kernel) (by decide +kernel) w h).1
set_option maxRecDepth 20000 in
theorem zt__law0_r16 : ∀ w ∈ wsL_law0_r16, w ∈ lw_tbl := fun w h => (goodIn_p wsL_law0_r16 [651, 1179, 658, 1183] (by decide +kernel) (by decide +kernel) w h).1
set_option maxRecDepth 20000 in
theorem zt__law0_r17 : ∀ w ∈ wsL_law0_r17, w ∈ lw_tbl := fun w h => (goodIn_p wsL_law0_r17 [306, 1187, 1191, 1195, 665, 669] (by decide +kernel) (by decide +kernel) w h).1
set_option maxRecDepth 20000 in
theorem zt__law0_r18 : ∀ w ∈ wsL_law0_r18, w ∈ lw_tbl := fun w h => (goodIn_p wsL_law0_r18 [673, 677, 1199, 1203, 1207, 1211] (by decide +kernel) (by decide +kernel) w h).1
set_option maxRecDepth 20000 in
theorem zt__law0_r19 : ∀ w ∈ wsL_law0_r19, w ∈ lw_tbl := fun w h => (goodIn_p wsL_law0_r19 [1215, 684, 688, 1219] (by decide +kernel) (by decide +kernel) w h).1
set_option maxRecDepth 20000 in
theorem zt__law0_r20 : ∀ w ∈ wsL_law0_r20, w ∈ lw_tbl := fun w h => (goodIn_p wsL_law0_r20 [695, 698, 702, 1223, 1226] (by decide +kernel) (by decide +kernel) w h).1
set_option maxRecDepth 20000 in
theorem zt__law0_r21 : ∀ w ∈ wsL_law0_r21, w ∈ lw_tbl := fun w h => (goodIn_p wsL_law0_r21 [709, 713, 717, 721, 1230, 1234] (by decide +kernel) (by decide +kernel) w h).1
set_option maxRecDepth 20000 in
theorem zt__law0_r22 : ∀ w ∈ wsL_law0_r22, w ∈ lw_tbl := fun w h => (goodIn_p wsL_law0_r22 [1238, 731, 735, 1254] (by decide +kernel) (by decide +kernel) w h).1
