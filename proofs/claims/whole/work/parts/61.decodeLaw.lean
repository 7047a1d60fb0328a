set_option maxRecDepth 20000 in
theorem ggL_law_X6_init : GoodIn wsL_law wsX6_init := goodIn_r _ [9, 10, 11, 12, 13, 14, 15, 16, 17, 18, 19, 20, 21, 22, 23, 24, 25, 26, 27, 28, 29, 30, 31, 32, 33, 34, 35, 36, 37, 38, 39, 40, 41, 42, 43, 44, 45, 46, 47, 48, 49, 50, 51, 52, 53, 54, 55, 56, 57, 58, 59, 60, 61, 62, 63, 64, 65, 66, 67, 68, 69, 70, 71, 72, 73, 74, 75, 76, 77, 78, 79, 80, 81, 82, 83, 84, 85, 86, 87, 88, 89, 90, 91, 92, 93, 94, 95, 96, 97, 98, 99, 100, 101, 102, 103, 104, 105, 106, 107, 108, 109, 110, 111, 112, 113, 114, 115, 116, 117, 118, 119, 120, 121, 1244, 1245, 1246, 1247, 1248, 1249, 1250, 1251, 1252, 1253, 1254, 1236, 1237, 1238, 1255, 1256, 1257, 1258, 1259, 1260, 1261, 1262, 1263, 1264, 1265, 1266, 1267, 1268, 1269, 1270, 1271, 1272, 1273] (by decide +kernel) (by decide +kernel)
set_option maxRecDepth 20000 in
theorem gL_law_X6_init : GoodIn wsL_law (wsX6_init) := ggL_law_X6_init
set_option maxRecDepth 20000 in
theorem ggL_law_X7_init : GoodIn wsL_law wsX7_init := goodIn_r _ [124, 125, 11, 12, 41, 126, 127, 128, 129, 130, 131, 5, 132, 1239, 1240, 1241, 1242, 1243] (by decide +kernel) (by decide +kernel)
set_option maxRecDepth 20000 in
theorem gL_law_X7_init : GoodIn wsL_law (wsX7_init) := ggL_law_X7_init
set_option maxRecDepth 20000 in
theorem ggL_law_L_reset : GoodIn wsL_law wsL_reset := goodIn_ca (goodIn_r _ [136, 137, 138, 139, 140, 2, 141, 21, 16, 142, 143, 144, 145, 146, 147, 148, 149, 150, 151, 152, 20, 153, 75, 154, 155, 156, 157, 158, 159, 160, 161, 162, 15, 163, 28, 32, 36, 40, 42, 164, 165, 166, 167, 80, 81, 82, 83, 84, 85, 168, 169, 170, 27, 171, 46, 172, 47, 48, 49, 90, 91, 173, 174, 175, 31, 176, 53, 177, 54, 55, 56, 57, 58, 178, 179, 180, 35, 181, 62, 182, 63, 183, 184, 185, 39, 186, 68, 69, 187, 76, 77, 78, 79, 86, 87, 88, 89, 92, 93, 94, 95, 96, 97, 98, 99, 100, 101, 102, 103, 104, 105, 106, 107, 108, 109, 110, 111, 112, 113, 114, 115, 116, 117, 118, 119, 120, 121, 1236, 1237, 1238, 1255, 1256, 1257, 1244, 1245, 1246, 1247, 1248, 1249, 1250, 1251, 1252, 1253, 1254, 1258, 1259, 1260, 1261, 1262, 1263, 1264, 1265, 1266, 1267, 1268, 1269, 1270, 1271, 1272, 1273] (by decide +kernel) (by decide +kernel)) (goodIn_sub (fun _ h => List.mem_append_left _ (List.mem_append_left _ (List.mem_append_left _ (List.mem_append_left _ (List.mem_append_right _ h))))) (by decide +kernel))
set_option maxRecDepth 20000 in
theorem gL_law_L_reset : GoodIn wsL_law (va_wsS RL 141 yL_reset wsL_reset) := goodIn_app (goodIn_of _ (by decide +kernel)) ggL_law_L_reset
set_option maxRecDepth 20000 in
theorem ggL_law_X7_reset : GoodIn wsL_law wsX7_reset := goodIn_r _ [191, 192, 193, 194, 195, 196, 197, 198, 199, 5, 200, 201, 202, 203, 204, 205, 127, 126, 129, 130, 131, 132, 1239, 1240, 1241, 1242, 1243] (by decide +kernel) (by decide +kernel)
set_option maxRecDepth 20000 in
theorem gL_law_X7_reset : GoodIn wsL_law (wsV RL 146 RX7 yX7_reset wsX7_reset) := goodIn_app (goodIn_of _ (by decide +kernel)) ggL_law_X7_reset
set_option maxRecDepth 20000 in
theorem ggL_law_X7_thrown : GoodIn wsL_law wsX7_thrown := goodIn_r _ [209, 197, 1239, 1240, 1241, 1242, 1243] (by decide +kernel) (by decide +kernel)
set_option maxRecDepth 20000 in
theorem gL_law_X7_thrown : GoodIn wsL_law (wsV RL 147 RX7 yX7_thrown wsX7_thrown) := goodIn_app (goodIn_of _ (by decide +kernel)) ggL_law_X7_thrown
set_option maxRecDepth 20000 in
theorem ggL_law_L_write : GoodIn wsL_law wsL_write := goodIn_ca (goodIn_ca (goodIn_r _ [212, 213, 214, 215, 216, 217, 2, 218, 16, 21, 219, 220, 221, 142, 143, 144, 222, 223, 224, 225, 226, 227, 228, 229, 15, 230, 28, 231, 232, 158, 233, 234, 235, 236, 237, 27, 238, 90, 46, 239, 240, 241, 242, 49, 91, 48, 243, 244, 245, 246, 247, 150, 151, 152, 20, 153, 75, 154, 155, 156, 157, 159, 160, 161, 162, 163, 32, 36, 40, 42, 164, 165, 166, 167, 80, 81, 82, 83, 84, 85, 168, 169, 170, 171, 172, 47, 173, 174, 175, 31, 176, 53, 177, 54, 55, 56, 57, 58, 178, 179, 180, 35, 181, 62, 182, 63, 183, 184, 185, 39, 186, 68, 69, 187, 248, 249, 250, 251, 252, 253, 254, 255, 256, 257, 258, 259, 260, 261, 262, 263, 264, 265, 266, 267, 268, 269, 270, 271, 272, 273, 274, 275, 276, 277, 278, 279, 280, 281, 282, 283, 284, 285, 105, 106, 107, 1236, 1237, 1238, 1244, 1245, 1246, 1247, 1248, 1249, 1250, 1251, 1252, 1253, 1254, 1258, 1259, 1260, 1261, 1262, 1263, 1255, 1256, 1257, 1264, 1265, 1266, 1267, 1268, 1269, 1270, 1271, 1272, 1273] (by decide +kernel) (by decide +kernel)) (goodIn_sub (fun _ h => List.mem_append_left _ (List.mem_append_left _ (List.mem_append_left _ (List.mem_append_right _ h)))) (by decide +kernel))) (goodIn_sub (fun _ h => List.mem_append_left _ (List.mem_append_left _ (List.mem_append_right _ h))) (by decide +kernel))
set_option maxRecDepth 20000 in
theorem gL_law_L_write : GoodIn wsL_law (va_wsS RL 150 yL_write wsL_write) := goodIn_app (goodIn_of _ (by decide +kernel)) ggL_law_L_write
set_option maxRecDepth 20000 in
theorem ggL_law_X7_write : GoodIn wsL_law wsX7_write := goodIn_r _ [289, 126, 197, 290, 291, 5, 292, 293, 198, 199, 200, 294, 295, 296, 297, 298, 299, 300, 301, 201, 202, 203, 204, 205, 127, 302, 303, 304, 305, 306, 307, 308, 309, 310, 311, 312, 313, 314, 315, 316, 317, 318, 319, 320, 321, 322, 323, 324, 325, 326, 327, 328, 329, 330, 331, 332, 333, 334, 335, 336, 337, 1239, 1240, 1241, 1242, 1243] (by decide +kernel) (by decide +kernel)
set_option maxRecDepth 20000 in
theorem gL_law_X7_write : GoodIn wsL_law (wsV RL 153 RX7 yX7_write wsX7_write) := goodIn_app (goodIn_of _ (by decide +kernel)) ggL_law_X7_write
set_option maxRecDepth 20000 in
theorem ggL_law_L_delete : GoodIn wsL_law wsL_delete := goodIn_ca (goodIn_ca (goodIn_r _ [340, 213, 341, 342, 343, 344, 2, 345, 16, 346, 21, 219, 220, 221, 142, 143, 144, 222, 223, 224, 225, 226, 347, 348, 349, 350, 351, 150, 151, 152, 20, 153, 75, 154, 155, 156, 157, 158, 159, 160, 161, 162, 15, 163, 28, 32, 36, 40, 42, 164, 165, 166, 167, 80, 81, 82, 83, 84, 85, 168, 169, 170, 27, 171, 46, 172, 47, 48, 49, 90, 91, 173, 174, 175, 31, 176, 53, 177, 54, 55, 56, 57, 58, 178, 179, 180, 35, 181, 62, 182, 63, 183, 184, 185, 39, 186, 68, 69, 187, 352, 262, 263, 264, 252, 265, 266, 267, 268, 269, 270, 271, 272, 273, 274, 275, 276, 277, 278, 279, 280, 281, 282, 283, 284, 1236, 1237, 1238, 1244, 1245, 1246, 1247, 1248, 1249, 1250, 1251, 1252, 1253, 1254, 1255, 1256, 1257, 1258, 1259, 1260, 1261, 1262, 1263, 1264, 1265, 1266, 1267, 1268, 1269, 1270, 1271, 1272, 1273] (by decide +kernel) (by decide +kernel)) (goodIn_sub (fun _ h => List.mem_append_left _ (List.mem_append_left _ (List.mem_append_left _ (List.mem_append_right _ h)))) (by decide +kernel))) (goodIn_sub (fun _ h => List.mem_append_left _ (List.mem_append_right _ h)) (by decide +kernel))
set_option maxRecDepth 20000 in
theorem gL_law_L_delete : GoodIn wsL_law (va_wsS RL 154 yL_delete wsL_delete) := goodIn_app (goodIn_of _ (by decide +kernel)) ggL_law_L_delete
set_option maxRecDepth 20000 in
theorem ggL_law_X7_delete : GoodIn wsL_law wsX7_delete := goodIn_r _ [356, 126, 197, 290, 291, 5, 292, 293, 198, 199, 200, 201, 202, 203, 204, 205, 127, 318, 319, 320, 321, 322, 323, 324, 325, 326, 327, 328, 329, 330, 331, 332, 333, 314, 315, 316, 317, 334, 335, 336, 337, 1239, 1240, 1241, 1242, 1243] (by decide +kernel) (by decide +kernel)
set_option maxRecDepth 20000 in
theorem gL_law_X7_delete : GoodIn wsL_law (wsV RL 157 RX7 yX7_delete wsX7_delete) := goodIn_app (goodIn_of _ (by decide +kernel)) ggL_law_X7_delete
set_option maxRecDepth 20000 in
theorem ggL_law_L_get : GoodIn wsL_law wsL_get := goodIn_ca (goodIn_ca (goodIn_r _ [359, 213, 341, 360, 361, 362, 2, 363, 16, 346, 364, 365, 219, 220, 221, 142, 143, 144, 222, 223, 224, 225, 226, 347, 348, 349, 350, 351, 1236, 1237, 1238, 1244, 1245, 1246, 1247, 1248, 1249, 1250, 1251, 1252, 1253, 1254, 1264, 1265, 1266, 1267, 1268, 1269] (by decide +kernel) (by decide +kernel)) (goodIn_sub (fun _ h => List.mem_append_left _ (List.mem_append_left _ (List.mem_append_left _ (List.mem_append_right _ h)))) (by decide +kernel))) (goodIn_sub (fun _ h => List.mem_append_left _ (List.mem_append_right _ h)) (by decide +kernel))
set_option maxRecDepth 20000 in
theorem gL_law_L_get : GoodIn wsL_law (va_wsS RL 158 yL_get wsL_get) := goodIn_app (goodIn_of _ (by decide +kernel)) ggL_law_L_get
set_option maxRecDepth 20000 in
theorem ggL_law_X7_get : GoodIn wsL_law wsX7_get := goodIn_r _ [369, 126, 197, 290, 291, 5, 292, 293, 198, 199, 200, 326, 327, 328, 329, 1239, 1240, 1241, 1242, 1243] (by decide +kernel) (by decide +kernel)
set_option maxRecDepth 20000 in
theorem gL_law_X7_get : GoodIn wsL_law (wsV RL 160 RX7 yX7_get wsX7_get) := goodIn_app (goodIn_of _ (by decide +kernel)) ggL_law_X7_get
set_option maxRecDepth 20000 in
theorem ggL_law_L_addressOf : GoodIn wsL_law wsL_addressOf := goodIn_ca (goodIn_r _ [372, 213, 373, 374, 375, 2, 376, 16, 346, 219, 220, 221, 142, 143, 144, 222, 223, 224, 225, 226, 1236, 1237, 1238, 1244, 1245, 1246, 1247, 1248, 1249, 1250, 1251, 1252, 1253, 1254] (by decide +kernel) (by decide +kernel)) (goodIn_sub (fun _ h => List.mem_append_left _ (List.mem_append_left _ (List.mem_append_left _ (List.mem_append_right _ h)))) (by decide +kernel))
set_option maxRecDepth 20000 in
theorem gL_law_L_addressOf : GoodIn wsL_law (va_wsS RL 161 yL_addressOf wsL_addressOf) := goodIn_app (goodIn_of _ (by decide +kernel)) ggL_law_L_addressOf
set_option maxRecDepth 20000 in
theorem ggL_law_X7_addressOf : GoodIn wsL_law wsX7_addressOf := goodIn_r _ [380, 197, 126, 290, 291, 5, 292, 293, 198, 199, 200, 1239, 1240, 1241, 1242, 1243] (by decide +kernel) (by decide +kernel)
set_option maxRecDepth 20000 in
theorem gL_law_X7_addressOf : GoodIn wsL_law (wsV RL 163 RX7 yX7_addressOf wsX7_addressOf) := goodIn_app (goodIn_of _ (by decide +kernel)) ggL_law_X7_addressOf
set_option maxRecDepth 20000 in
theorem ggL_law_X6_room : GoodIn wsL_law wsX6_room := goodIn_r _ [384, 16, 227, 228, 229, 15, 230, 28, 231, 232, 158, 233, 234, 235, 236, 237, 27, 238, 90, 46, 239, 240, 241, 242, 49, 91, 48, 1236, 1237, 1238, 1244, 1245, 1246, 1247, 1248, 1249, 1250, 1251, 1252, 1253, 1254, 1258, 1259, 1260, 1261, 1262, 1263] (by decide +kernel) (by decide +kernel)
set_option maxRecDepth 20000 in
theorem gL_law_X6_room : GoodIn wsL_law (wsV RL 164 RX6 yX6_room wsX6_room) := goodIn_app (goodIn_of _ (by decide +kernel)) ggL_law_X6_room
set_option maxRecDepth 20000 in
theorem ggL_law_X7_room : GoodIn wsL_law wsX7_room := goodIn_r _ [388, 197, 389, 390, 391, 5, 392, 126, 294, 295, 296, 297, 298, 299, 300, 301, 393, 394, 395, 396, 1239, 1240, 1241, 1242, 1243] (by decide +kernel) (by decide +kernel)
set_option maxRecDepth 20000 in
theorem gL_law_X7_room : GoodIn wsL_law (wsV RL 167 RX7 yX7_room wsX7_room) := goodIn_app (goodIn_of _ (by decide +kernel)) ggL_law_X7_room
set_option maxRecDepth 20000 in
theorem ggL_law_L_versions : GoodIn wsL_law wsL_versions := goodIn_ca (goodIn_r _ [399, 213, 400, 401, 402, 2, 403, 16, 364, 219, 220, 221, 142, 143, 144, 222, 223, 224, 225, 226, 404, 405, 406, 31, 407, 408, 409, 410, 411, 54, 53, 412, 413, 414, 415, 1236, 1237, 1238, 1244, 1245, 1246, 1247, 1248, 1249, 1250, 1251, 1252, 1253, 1254, 1264, 1265, 1266, 1267, 1268, 1269] (by decide +kernel) (by decide +kernel)) (goodIn_sub (fun _ h => List.mem_append_left _ (List.mem_append_left _ (List.mem_append_left _ (List.mem_append_right _ h)))) (by decide +kernel))
set_option maxRecDepth 20000 in
theorem gL_law_L_versions : GoodIn wsL_law (va_wsS RL 168 yL_versions wsL_versions) := goodIn_app (goodIn_of _ (by decide +kernel)) ggL_law_L_versions
set_option maxRecDepth 20000 in
theorem ggL_law_X7_versions : GoodIn wsL_law wsX7_versions := goodIn_r _ [419, 197, 290, 291, 5, 292, 293, 198, 199, 200, 420, 421, 422, 423, 126, 424, 425, 426, 427, 192, 428, 429, 430, 431, 432, 433, 434, 435, 326, 327, 328, 329, 1239, 1240, 1241, 1242, 1243] (by decide +kernel) (by decide +kernel)
set_option maxRecDepth 20000 in
theorem gL_law_X7_versions : GoodIn wsL_law (wsV RL 170 RX7 yX7_versions wsX7_versions) := goodIn_app (goodIn_of _ (by decide +kernel)) ggL_law_X7_versions
set_option maxRecDepth 20000 in
theorem ggL_law_L_version : GoodIn wsL_law wsL_version := goodIn_ca (goodIn_r _ [438, 213, 439, 440, 441, 2, 442, 16, 364, 219, 220, 221, 142, 143, 144, 222, 223, 224, 225, 226, 443, 444, 445, 31, 446, 408, 409, 410, 411, 54, 53, 412, 413, 414, 415, 1236, 1237, 1238, 1244, 1245, 1246, 1247, 1248, 1249, 1250, 1251, 1252, 1253, 1254, 1264, 1265, 1266, 1267, 1268, 1269] (by decide +kernel) (by decide +kernel)) (goodIn_sub (fun _ h => List.mem_append_left _ (List.mem_append_left _ (List.mem_append_left _ (List.mem_append_right _ h)))) (by decide +kernel))
set_option maxRecDepth 20000 in
theorem gL_law_L_version : GoodIn wsL_law (va_wsS RL 171 yL_version wsL_version) := goodIn_app (goodIn_of _ (by decide +kernel)) ggL_law_L_version
set_option maxRecDepth 20000 in
theorem ggL_law_X7_version : GoodIn wsL_law wsX7_version := goodIn_r _ [450, 197, 290, 291, 5, 292, 293, 198, 199, 200, 420, 421, 422, 423, 126, 424, 425, 426, 427, 192, 428, 429, 430, 431, 432, 433, 434, 435, 326, 327, 328, 329, 1239, 1240, 1241, 1242, 1243] (by decide +kernel) (by decide +kernel)
set_option maxRecDepth 20000 in
theorem gL_law_X7_version : GoodIn wsL_law (wsV RL 173 RX7 yX7_version wsX7_version) := goodIn_app (goodIn_of _ (by decide +kernel)) ggL_law_X7_version
set_option maxRecDepth 20000 in
theorem ggL_law_L_takeSnapshot : GoodIn wsL_law wsL_takeSnapshot := goodIn_ca (goodIn_ca (goodIn_r _ [453, 213, 214, 454, 455, 456, 2, 457, 16, 458, 459, 21, 346, 460, 461, 462, 142, 143, 144, 222, 223, 224, 225, 226, 243, 244, 245, 246, 247, 150, 151, 152, 20, 153, 75, 154, 155, 156, 157, 158, 159, 160, 161, 162, 15, 163, 28, 32, 36, 40, 42, 164, 165, 166, 167, 80, 81, 82, 83, 84, 85, 168, 169, 170, 27, 171, 46, 172, 47, 48, 49, 90, 91, 173, 174, 175, 31, 176, 53, 177, 54, 55, 56, 57, 58, 178, 179, 180, 35, 181, 62, 182, 63, 183, 184, 185, 39, 186, 68, 69, 187, 463, 464, 465, 466, 1236, 1237, 1238, 1244, 1245, 1246, 1247, 1248, 1249, 1250, 1251, 1252, 1253, 1254, 1272, 1273, 1255, 1256, 1257, 1258, 1259, 1260, 1261, 1262, 1263, 1264, 1265, 1266, 1267, 1268, 1269, 1270, 1271] (by decide +kernel) (by decide +kernel)) (goodIn_sub (fun _ h => List.mem_append_left _ (List.mem_append_left _ (List.mem_append_left _ (List.mem_append_right _ h)))) (by decide +kernel))) (goodIn_sub (fun _ h => List.mem_append_left _ (List.mem_append_left _ (List.mem_append_right _ h))) (by decide +kernel))
set_option maxRecDepth 20000 in
theorem gL_law_L_takeSnapshot : GoodIn wsL_law (va_wsS RL 174 yL_takeSnapshot wsL_takeSnapshot) := goodIn_app (goodIn_of _ (by decide +kernel)) ggL_law_L_takeSnapshot
set_option maxRecDepth 20000 in
theorem ggL_law_X7_takeSnapshot : GoodIn wsL_law wsX7_takeSnapshot := goodIn_r _ [470, 126, 197, 471, 472, 5, 473, 192, 198, 199, 200, 201, 202, 203, 204, 205, 127, 1239, 1240, 1241, 1242, 1243] (by decide +kernel) (by decide +kernel)
set_option maxRecDepth 20000 in
theorem gL_law_X7_takeSnapshot : GoodIn wsL_law (wsV RL 176 RX7 yX7_takeSnapshot wsX7_takeSnapshot) := goodIn_app (goodIn_of _ (by decide +kernel)) ggL_law_X7_takeSnapshot
set_option maxRecDepth 20000 in
theorem ggL_law_L_dropSnapshot : GoodIn wsL_law wsL_dropSnapshot := goodIn_ca (goodIn_ca (goodIn_r _ [476, 213, 214, 477, 478, 479, 2, 480, 21, 16, 481, 482, 483, 484, 458, 459, 460, 461, 462, 142, 143, 144, 222, 223, 224, 225, 226, 243, 244, 245, 246, 247, 150, 151, 152, 20, 153, 75, 154, 155, 156, 157, 158, 159, 160, 161, 162, 15, 163, 28, 32, 36, 40, 42, 164, 165, 166, 167, 80, 81, 82, 83, 84, 85, 168, 169, 170, 27, 171, 46, 172, 47, 48, 49, 90, 91, 173, 174, 175, 31, 176, 53, 177, 54, 55, 56, 57, 58, 178, 179, 180, 35, 181, 62, 182, 63, 183, 184, 185, 39, 186, 68, 69, 187, 485, 486, 487, 488, 489, 490, 491, 492, 252, 493, 278, 279, 280, 494, 270, 271, 272, 273, 274, 275, 276, 277, 281, 282, 283, 284, 495, 118, 119, 120, 1236, 1237, 1238, 1244, 1245, 1246, 1247, 1248, 1249, 1250, 1251, 1252, 1253, 1254, 1272, 1273, 1255, 1256, 1257, 1258, 1259, 1260, 1261, 1262, 1263, 1264, 1265, 1266, 1267, 1268, 1269, 1270, 1271] (by decide +kernel) (by decide +kernel)) (goodIn_sub (fun _ h => List.mem_append_left _ (List.mem_append_left _ (List.mem_append_left _ (List.mem_append_right _ h)))) (by decide +kernel))) (goodIn_sub (fun _ h => List.mem_append_left _ (List.mem_append_left _ (List.mem_append_right _ h))) (by decide +kernel))
set_option maxRecDepth 20000 in
theorem gL_law_L_dropSnapshot : GoodIn wsL_law (va_wsS RL 177 yL_dropSnapshot wsL_dropSnapshot) := goodIn_app (goodIn_of _ (by decide +kernel)) ggL_law_L_dropSnapshot
set_option maxRecDepth 20000 in
theorem ggL_law_X7_dropSnapshot : GoodIn wsL_law wsX7_dropSnapshot := goodIn_r _ [499, 126, 500, 501, 502, 5, 503, 197, 471, 472, 473, 192, 198, 199, 200, 201, 202, 203, 204, 205, 127, 504, 505, 506, 507, 330, 331, 332, 333, 326, 327, 328, 329, 322, 323, 324, 325, 334, 335, 336, 337, 314, 315, 316, 317, 1239, 1240, 1241, 1242, 1243] (by decide +kernel) (by decide +kernel)
set_option maxRecDepth 20000 in
theorem gL_law_X7_dropSnapshot : GoodIn wsL_law (wsV RL 179 RX7 yX7_dropSnapshot wsX7_dropSnapshot) := goodIn_app (goodIn_of _ (by decide +kernel)) ggL_law_X7_dropSnapshot
set_option maxRecDepth 20000 in
theorem ggL_law_L_rollBack : GoodIn wsL_law wsL_rollBack := goodIn_ca (goodIn_ca (goodIn_r _ [510, 213, 214, 511, 512, 513, 2, 514, 21, 16, 481, 482, 483, 484, 458, 459, 460, 461, 462, 142, 143, 144, 222, 223, 224, 225, 226, 243, 244, 245, 246, 247, 150, 151, 152, 20, 153, 75, 154, 155, 156, 157, 158, 159, 160, 161, 162, 15, 163, 28, 32, 36, 40, 42, 164, 165, 166, 167, 80, 81, 82, 83, 84, 85, 168, 169, 170, 27, 171, 46, 172, 47, 48, 49, 90, 91, 173, 174, 175, 31, 176, 53, 177, 54, 55, 56, 57, 58, 178, 179, 180, 35, 181, 62, 182, 63, 183, 184, 185, 39, 186, 68, 69, 187, 515, 516, 517, 518, 252, 493, 278, 279, 280, 261, 262, 263, 264, 265, 266, 267, 268, 269, 270, 271, 272, 273, 274, 275, 276, 277, 281, 282, 283, 284, 1236, 1237, 1238, 1244, 1245, 1246, 1247, 1248, 1249, 1250, 1251, 1252, 1253, 1254, 1272, 1273, 1255, 1256, 1257, 1258, 1259, 1260, 1261, 1262, 1263, 1264, 1265, 1266, 1267, 1268, 1269, 1270, 1271] (by decide +kernel) (by decide +kernel)) (goodIn_sub (fun _ h => List.mem_append_left _ (List.mem_append_left _ (List.mem_append_left _ (List.mem_append_right _ h)))) (by decide +kernel))) (goodIn_sub (fun _ h => List.mem_append_left _ (List.mem_append_left _ (List.mem_append_right _ h))) (by decide +kernel))
set_option maxRecDepth 20000 in
theorem gL_law_L_rollBack : GoodIn wsL_law (va_wsS RL 180 yL_rollBack wsL_rollBack) := goodIn_app (goodIn_of _ (by decide +kernel)) ggL_law_L_rollBack
set_option maxRecDepth 20000 in
theorem ggL_law_X7_rollBack : GoodIn wsL_law wsX7_rollBack := goodIn_r _ [522, 126, 500, 501, 502, 5, 503, 197, 471, 472, 473, 192, 198, 199, 200, 201, 202, 203, 204, 205, 127, 330, 331, 332, 333, 318, 319, 320, 321, 322, 323, 324, 325, 326, 327, 328, 329, 314, 315, 316, 317, 334, 335, 336, 337, 1239, 1240, 1241, 1242, 1243] (by decide +kernel) (by decide +kernel)
set_option maxRecDepth 20000 in
theorem gL_law_X7_rollBack : GoodIn wsL_law (wsV RL 182 RX7 yX7_rollBack wsX7_rollBack) := goodIn_app (goodIn_of _ (by decide +kernel)) ggL_law_X7_rollBack
set_option maxRecDepth 20000 in
theorem ggL_law_L_getFrom : GoodIn wsL_law wsL_getFrom := goodIn_ca (goodIn_ca (goodIn_ca (goodIn_r _ [525, 213, 214, 341, 526, 527, 528, 2, 529, 16, 458, 364, 365, 219, 220, 221, 142, 143, 144, 222, 223, 224, 225, 226, 481, 482, 483, 484, 459, 460, 461, 462, 243, 244, 245, 246, 247, 530, 278, 279, 39, 280, 69, 347, 348, 349, 350, 351, 1236, 1237, 1238, 1244, 1245, 1246, 1247, 1248, 1249, 1250, 1251, 1252, 1253, 1254, 1264, 1265, 1266, 1267, 1268, 1269, 1272, 1273] (by decide +kernel) (by decide +kernel)) (goodIn_sub (fun _ h => List.mem_append_left _ (List.mem_append_left _ (List.mem_append_left _ (List.mem_append_right _ h)))) (by decide +kernel))) (goodIn_sub (fun _ h => List.mem_append_left _ (List.mem_append_left _ (List.mem_append_right _ h))) (by decide +kernel))) (goodIn_sub (fun _ h => List.mem_append_left _ (List.mem_append_right _ h)) (by decide +kernel))
set_option maxRecDepth 20000 in
theorem gL_law_L_getFrom : GoodIn wsL_law (va_wsS RL 183 yL_getFrom wsL_getFrom) := goodIn_app (goodIn_of _ (by decide +kernel)) ggL_law_L_getFrom
set_option maxRecDepth 20000 in
theorem ggL_law_X7_getFrom : GoodIn wsL_law wsX7_getFrom := goodIn_r _ [534, 126, 197, 471, 472, 5, 473, 192, 198, 199, 200, 290, 291, 292, 293, 330, 331, 332, 333, 326, 327, 328, 329, 1239, 1240, 1241, 1242, 1243] (by decide +kernel) (by decide +kernel)
set_option maxRecDepth 20000 in
theorem gL_law_X7_getFrom : GoodIn wsL_law (wsV RL 185 RX7 yX7_getFrom wsX7_getFrom) := goodIn_app (goodIn_of _ (by decide +kernel)) ggL_law_X7_getFrom
set_option maxRecDepth 20000 in
theorem ggL_law_L_changedSince : GoodIn wsL_law wsL_changedSince := goodIn_ca (goodIn_ca (goodIn_r _ [537, 213, 214, 538, 539, 540, 2, 541, 16, 458, 346, 481, 482, 483, 484, 459, 460, 461, 462, 142, 143, 144, 222, 223, 224, 225, 226, 243, 244, 245, 246, 247, 530, 278, 279, 39, 280, 69, 1236, 1237, 1238, 1244, 1245, 1246, 1247, 1248, 1249, 1250, 1251, 1252, 1253, 1254, 1272, 1273] (by decide +kernel) (by decide +kernel)) (goodIn_sub (fun _ h => List.mem_append_left _ (List.mem_append_left _ (List.mem_append_left _ (List.mem_append_right _ h)))) (by decide +kernel))) (goodIn_sub (fun _ h => List.mem_append_left _ (List.mem_append_left _ (List.mem_append_right _ h))) (by decide +kernel))
set_option maxRecDepth 20000 in
theorem gL_law_L_changedSince : GoodIn wsL_law (va_wsS RL 186 yL_changedSince wsL_changedSince) := goodIn_app (goodIn_of _ (by decide +kernel)) ggL_law_L_changedSince
set_option maxRecDepth 20000 in
theorem ggL_law_X7_changedSince : GoodIn wsL_law wsX7_changedSince := goodIn_r _ [545, 126, 500, 501, 502, 5, 503, 197, 471, 472, 473, 192, 198, 199, 200, 330, 331, 332, 333, 1239, 1240, 1241, 1242, 1243] (by decide +kernel) (by decide +kernel)
set_option maxRecDepth 20000 in
theorem gL_law_X7_changedSince : GoodIn wsL_law (wsV RL 188 RX7 yX7_changedSince wsX7_changedSince) := goodIn_app (goodIn_of _ (by decide +kernel)) ggL_law_X7_changedSince
set_option maxRecDepth 20000 in
theorem ggL_law_L_difference : GoodIn wsL_law wsL_difference := goodIn_ca (goodIn_ca (goodIn_r _ [548, 213, 214, 549, 550, 551, 2, 552, 16, 458, 460, 461, 462, 142, 143, 144, 222, 223, 224, 225, 226, 481, 482, 483, 484, 459, 243, 244, 245, 246, 247, 530, 278, 279, 39, 280, 69, 1236, 1237, 1238, 1244, 1245, 1246, 1247, 1248, 1249, 1250, 1251, 1252, 1253, 1254, 1272, 1273] (by decide +kernel) (by decide +kernel)) (goodIn_sub (fun _ h => List.mem_append_left _ (List.mem_append_left _ (List.mem_append_left _ (List.mem_append_right _ h)))) (by decide +kernel))) (goodIn_sub (fun _ h => List.mem_append_left _ (List.mem_append_left _ (List.mem_append_right _ h))) (by decide +kernel))
set_option maxRecDepth 20000 in
theorem gL_law_L_difference : GoodIn wsL_law (va_wsS RL 189 yL_difference wsL_difference) := goodIn_app (goodIn_of _ (by decide +kernel)) ggL_law_L_difference
set_option maxRecDepth 20000 in
theorem ggL_law_X7_difference : GoodIn wsL_law wsX7_difference := goodIn_r _ [556, 126, 197, 471, 472, 5, 473, 192, 198, 199, 200, 330, 331, 332, 333, 1239, 1240, 1241, 1242, 1243] (by decide +kernel) (by decide +kernel)
set_option maxRecDepth 20000 in
theorem gL_law_X7_difference : GoodIn wsL_law (wsV RL 191 RX7 yX7_difference wsX7_difference) := goodIn_app (goodIn_of _ (by decide +kernel)) ggL_law_X7_difference
set_option maxRecDepth 20000 in
theorem ggL_law_L_ownBlocks : GoodIn wsL_law wsL_ownBlocks := goodIn_ca (goodIn_ca (goodIn_r _ [559, 213, 214, 560, 561, 562, 2, 563, 16, 481, 482, 483, 484, 458, 459, 460, 461, 462, 142, 143, 144, 222, 223, 224, 225, 226, 243, 244, 245, 246, 247, 564, 490, 491, 15, 492, 40, 32, 252, 493, 278, 279, 39, 280, 69, 494, 270, 271, 272, 273, 274, 275, 276, 277, 1236, 1237, 1238, 1244, 1245, 1246, 1247, 1248, 1249, 1250, 1251, 1252, 1253, 1254, 1272, 1273, 1264, 1265, 1266, 1267, 1268, 1269] (by decide +kernel) (by decide +kernel)) (goodIn_sub (fun _ h => List.mem_append_left _ (List.mem_append_left _ (List.mem_append_left _ (List.mem_append_right _ h)))) (by decide +kernel))) (goodIn_sub (fun _ h => List.mem_append_left _ (List.mem_append_left _ (List.mem_append_right _ h))) (by decide +kernel))
set_option maxRecDepth 20000 in
theorem gL_law_L_ownBlocks : GoodIn wsL_law (va_wsS RL 192 yL_ownBlocks wsL_ownBlocks) := goodIn_app (goodIn_of _ (by decide +kernel)) ggL_law_L_ownBlocks
set_option maxRecDepth 20000 in
theorem ggL_law_X7_ownBlocks : GoodIn wsL_law wsX7_ownBlocks := goodIn_r _ [568, 500, 501, 502, 5, 503, 126, 197, 471, 472, 473, 192, 198, 199, 200, 504, 505, 506, 507, 330, 331, 332, 333, 326, 327, 328, 329, 322, 323, 324, 325, 1239, 1240, 1241, 1242, 1243] (by decide +kernel) (by decide +kernel)
set_option maxRecDepth 20000 in
theorem gL_law_X7_ownBlocks : GoodIn wsL_law (wsV RL 194 RX7 yX7_ownBlocks wsX7_ownBlocks) := goodIn_app (goodIn_of _ (by decide +kernel)) ggL_law_X7_ownBlocks
set_option maxRecDepth 20000 in
theorem ggL_law_L_enter : GoodIn wsL_law wsL_enter := goodIn_ca (goodIn_ca (goodIn_r _ [571, 213, 214, 572, 573, 574, 2, 575, 16, 576, 21, 577, 578, 579, 580, 142, 143, 144, 222, 223, 224, 225, 226, 581, 582, 583, 35, 584, 62, 243, 244, 245, 246, 247, 150, 151, 152, 20, 153, 75, 154, 155, 156, 157, 158, 159, 160, 161, 162, 15, 163, 28, 32, 36, 40, 42, 164, 165, 166, 167, 80, 81, 82, 83, 84, 85, 168, 169, 170, 27, 171, 46, 172, 47, 48, 49, 90, 91, 173, 174, 175, 31, 176, 53, 177, 54, 55, 56, 57, 58, 178, 179, 180, 181, 182, 63, 183, 184, 185, 39, 186, 68, 69, 187, 585, 586, 587, 588, 1236, 1237, 1238, 1244, 1245, 1246, 1247, 1248, 1249, 1250, 1251, 1252, 1253, 1254, 1270, 1271, 1255, 1256, 1257, 1258, 1259, 1260, 1261, 1262, 1263, 1264, 1265, 1266, 1267, 1268, 1269, 1272, 1273] (by decide +kernel) (by decide +kernel)) (goodIn_sub (fun _ h => List.mem_append_left _ (List.mem_append_left _ (List.mem_append_left _ (List.mem_append_right _ h)))) (by decide +kernel))) (goodIn_sub (fun _ h => List.mem_append_left _ (List.mem_append_left _ (List.mem_append_right _ h))) (by decide +kernel))
set_option maxRecDepth 20000 in
theorem gL_law_L_enter : GoodIn wsL_law (va_wsS RL 195 yL_enter wsL_enter) := goodIn_app (goodIn_of _ (by decide +kernel)) ggL_law_L_enter
set_option maxRecDepth 20000 in
theorem ggL_law_X7_enter : GoodIn wsL_law wsX7_enter := goodIn_r _ [592, 197, 126, 593, 594, 5, 595, 596, 198, 199, 200, 597, 598, 599, 600, 601, 602, 603, 604, 201, 202, 203, 204, 205, 127, 605, 606, 607, 608, 609, 610, 611, 612, 613, 614, 615, 616, 617, 618, 619, 620, 621, 622, 623, 1239, 1240, 1241, 1242, 1243] (by decide +kernel) (by decide +kernel)
set_option maxRecDepth 20000 in
theorem gL_law_X7_enter : GoodIn wsL_law (wsV RL 197 RX7 yX7_enter wsX7_enter) := goodIn_app (goodIn_of _ (by decide +kernel)) ggL_law_X7_enter
set_option maxRecDepth 20000 in
theorem ggL_law_L_leave : GoodIn wsL_law wsL_leave := goodIn_ca (goodIn_ca (goodIn_r _ [626, 213, 214, 627, 628, 629, 2, 630, 16, 576, 631, 21, 364, 578, 579, 580, 142, 143, 144, 222, 223, 224, 225, 226, 243, 244, 245, 246, 247, 150, 151, 152, 20, 153, 75, 154, 155, 156, 157, 158, 159, 160, 161, 162, 15, 163, 28, 32, 36, 40, 42, 164, 165, 166, 167, 80, 81, 82, 83, 84, 85, 168, 169, 170, 27, 171, 46, 172, 47, 48, 49, 90, 91, 173, 174, 175, 31, 176, 53, 177, 54, 55, 56, 57, 58, 178, 179, 180, 35, 181, 62, 182, 63, 183, 184, 185, 39, 186, 68, 69, 187, 632, 633, 634, 635, 636, 637, 638, 639, 640, 641, 642, 643, 644, 645, 646, 647, 648, 649, 650, 651, 1236, 1237, 1238, 1244, 1245, 1246, 1247, 1248, 1249, 1250, 1251, 1252, 1253, 1254, 1270, 1271, 1255, 1256, 1257, 1258, 1259, 1260, 1261, 1262, 1263, 1264, 1265, 1266, 1267, 1268, 1269, 1272, 1273] (by decide +kernel) (by decide +kernel)) (goodIn_sub (fun _ h => List.mem_append_left _ (List.mem_append_left _ (List.mem_append_left _ (List.mem_append_right _ h)))) (by decide +kernel))) (goodIn_sub (fun _ h => List.mem_append_left _ (List.mem_append_left _ (List.mem_append_right _ h))) (by decide +kernel))
set_option maxRecDepth 20000 in
theorem gL_law_L_leave : GoodIn wsL_law (va_wsS RL 198 yL_leave wsL_leave) := goodIn_app (goodIn_of _ (by decide +kernel)) ggL_law_L_leave
set_option maxRecDepth 20000 in
theorem ggL_law_X7_leave : GoodIn wsL_law wsX7_leave := goodIn_r _ [655, 197, 593, 594, 5, 595, 596, 198, 199, 200, 601, 602, 603, 604, 126, 201, 202, 203, 204, 205, 127, 605, 606, 607, 608, 609, 610, 611, 612, 613, 614, 615, 616, 617, 618, 619, 620, 621, 622, 623, 1239, 1240, 1241, 1242, 1243] (by decide +kernel) (by decide +kernel)
set_option maxRecDepth 20000 in
theorem gL_law_X7_leave : GoodIn wsL_law (wsV RL 200 RX7 yX7_leave wsX7_leave) := goodIn_app (goodIn_of _ (by decide +kernel)) ggL_law_X7_leave
set_option maxRecDepth 20000 in
theorem ggL_law_L_announce : GoodIn wsL_law wsL_announce := goodIn_ca (goodIn_ca (goodIn_r _ [658, 213, 214, 659, 660, 661, 2, 662, 16, 576, 21, 577, 364, 578, 579, 580, 142, 143, 144, 222, 223, 224, 225, 226, 581, 582, 583, 35, 584, 62, 243, 244, 245, 246, 247, 150, 151, 152, 20, 153, 75, 154, 155, 156, 157, 158, 159, 160, 161, 162, 15, 163, 28, 32, 36, 40, 42, 164, 165, 166, 167, 80, 81, 82, 83, 84, 85, 168, 169, 170, 27, 171, 46, 172, 47, 48, 49, 90, 91, 173, 174, 175, 31, 176, 53, 177, 54, 55, 56, 57, 58, 178, 179, 180, 181, 182, 63, 183, 184, 185, 39, 186, 68, 69, 187, 585, 586, 587, 588, 636, 637, 638, 639, 640, 641, 642, 643, 644, 645, 646, 647, 648, 649, 650, 651, 1236, 1237, 1238, 1244, 1245, 1246, 1247, 1248, 1249, 1250, 1251, 1252, 1253, 1254, 1270, 1271, 1255, 1256, 1257, 1258, 1259, 1260, 1261, 1262, 1263, 1264, 1265, 1266, 1267, 1268, 1269, 1272, 1273] (by decide +kernel) (by decide +kernel)) (goodIn_sub (fun _ h => List.mem_append_left _ (List.mem_append_left _ (List.mem_append_left _ (List.mem_append_right _ h)))) (by decide +kernel))) (goodIn_sub (fun _ h => List.mem_append_left _ (List.mem_append_left _ (List.mem_append_right _ h))) (by decide +kernel))
set_option maxRecDepth 20000 in
theorem gL_law_L_announce : GoodIn wsL_law (va_wsS RL 201 yL_announce wsL_announce) := goodIn_app (goodIn_of _ (by decide +kernel)) ggL_law_L_announce
set_option maxRecDepth 20000 in
theorem ggL_law_X7_announce : GoodIn wsL_law wsX7_announce := goodIn_r _ [666, 197, 593, 594, 5, 595, 596, 198, 199, 200, 597, 598, 599, 600, 601, 602, 603, 604, 126, 201, 202, 203, 204, 205, 127, 605, 606, 607, 608, 609, 610, 611, 612, 613, 614, 615, 616, 617, 618, 619, 620, 621, 622, 623, 1239, 1240, 1241, 1242, 1243] (by decide +kernel) (by decide +kernel)
set_option maxRecDepth 20000 in
theorem gL_law_X7_announce : GoodIn wsL_law (wsV RL 203 RX7 yX7_announce wsX7_announce) := goodIn_app (goodIn_of _ (by decide +kernel)) ggL_law_X7_announce
set_option maxRecDepth 20000 in
theorem ggL_law_L_hold : GoodIn wsL_law wsL_hold := goodIn_ca (goodIn_ca (goodIn_ca (goodIn_r _ [669, 213, 214, 341, 670, 671, 672, 2, 673, 16, 576, 346, 21, 364, 578, 579, 580, 142, 143, 144, 222, 223, 224, 225, 226, 219, 220, 221, 581, 582, 583, 35, 584, 62, 243, 244, 245, 246, 247, 347, 348, 349, 350, 351, 150, 151, 152, 20, 153, 75, 154, 155, 156, 157, 158, 159, 160, 161, 162, 15, 163, 28, 32, 36, 40, 42, 164, 165, 166, 167, 80, 81, 82, 83, 84, 85, 168, 169, 170, 27, 171, 46, 172, 47, 48, 49, 90, 91, 173, 174, 175, 31, 176, 53, 177, 54, 55, 56, 57, 58, 178, 179, 180, 181, 182, 63, 183, 184, 185, 39, 186, 68, 69, 187, 674, 675, 676, 677, 1236, 1237, 1238, 1244, 1245, 1246, 1247, 1248, 1249, 1250, 1251, 1252, 1253, 1254, 1270, 1271, 1255, 1256, 1257, 1258, 1259, 1260, 1261, 1262, 1263, 1264, 1265, 1266, 1267, 1268, 1269, 1272, 1273] (by decide +kernel) (by decide +kernel)) (goodIn_sub (fun _ h => List.mem_append_left _ (List.mem_append_left _ (List.mem_append_left _ (List.mem_append_right _ h)))) (by decide +kernel))) (goodIn_sub (fun _ h => List.mem_append_left _ (List.mem_append_left _ (List.mem_append_right _ h))) (by decide +kernel))) (goodIn_sub (fun _ h => List.mem_append_left _ (List.mem_append_right _ h)) (by decide +kernel))
set_option maxRecDepth 20000 in
theorem gL_law_L_hold : GoodIn wsL_law (va_wsS RL 204 yL_hold wsL_hold) := goodIn_app (goodIn_of _ (by decide +kernel)) ggL_law_L_hold
set_option maxRecDepth 20000 in
theorem ggL_law_X7_hold : GoodIn wsL_law wsX7_hold := goodIn_r _ [681, 126, 197, 593, 594, 5, 595, 596, 198, 199, 200, 290, 291, 292, 293, 597, 598, 599, 600, 601, 602, 603, 604, 201, 202, 203, 204, 205, 127, 620, 621, 622, 623, 1239, 1240, 1241, 1242, 1243] (by decide +kernel) (by decide +kernel)
set_option maxRecDepth 20000 in
theorem gL_law_X7_hold : GoodIn wsL_law (wsV RL 206 RX7 yX7_hold wsX7_hold) := goodIn_app (goodIn_of _ (by decide +kernel)) ggL_law_X7_hold
set_option maxRecDepth 20000 in
theorem ggL_law_L_release : GoodIn wsL_law wsL_release := goodIn_ca (goodIn_ca (goodIn_r _ [684, 213, 341, 685, 686, 687, 2, 688, 21, 16, 364, 689, 690, 691, 692, 578, 579, 580, 142, 143, 144, 222, 223, 224, 225, 226, 693, 694, 695, 696, 697, 698, 699, 700, 645, 646, 31, 647, 58, 347, 348, 349, 350, 351, 150, 151, 152, 20, 153, 75, 154, 155, 156, 157, 158, 159, 160, 161, 162, 15, 163, 28, 32, 36, 40, 42, 164, 165, 166, 167, 80, 81, 82, 83, 84, 85, 168, 169, 170, 27, 171, 46, 172, 47, 48, 49, 90, 91, 173, 174, 175, 176, 53, 177, 54, 55, 56, 57, 178, 179, 180, 35, 181, 62, 182, 63, 183, 184, 185, 39, 186, 68, 69, 187, 701, 649, 650, 651, 702, 641, 642, 643, 644, 1236, 1237, 1238, 1244, 1245, 1246, 1247, 1248, 1249, 1250, 1251, 1252, 1253, 1254, 1258, 1259, 1260, 1261, 1262, 1263, 1264, 1265, 1266, 1267, 1268, 1269, 1255, 1256, 1257, 1270, 1271, 1272, 1273] (by decide +kernel) (by decide +kernel)) (goodIn_sub (fun _ h => List.mem_append_left _ (List.mem_append_left _ (List.mem_append_left _ (List.mem_append_right _ h)))) (by decide +kernel))) (goodIn_sub (fun _ h => List.mem_append_left _ (List.mem_append_right _ h)) (by decide +kernel))
set_option maxRecDepth 20000 in
theorem gL_law_L_release : GoodIn wsL_law (va_wsS RL 207 yL_release wsL_release) := goodIn_app (goodIn_of _ (by decide +kernel)) ggL_law_L_release
set_option maxRecDepth 20000 in
theorem ggL_law_X7_release : GoodIn wsL_law wsX7_release := goodIn_r _ [706, 197, 707, 708, 709, 5, 710, 593, 594, 595, 596, 198, 199, 200, 428, 429, 430, 431, 126, 432, 433, 434, 435, 711, 712, 713, 714, 601, 602, 603, 604, 201, 202, 203, 204, 205, 127, 620, 621, 622, 623, 609, 610, 611, 612, 613, 614, 615, 616, 617, 618, 619, 1239, 1240, 1241, 1242, 1243] (by decide +kernel) (by decide +kernel)
set_option maxRecDepth 20000 in
theorem gL_law_X7_release : GoodIn wsL_law (wsV RL 209 RX7 yX7_release wsX7_release) := goodIn_app (goodIn_of _ (by decide +kernel)) ggL_law_X7_release
set_option maxRecDepth 20000 in
theorem ggL_law_L_read : GoodIn wsL_law wsL_read := goodIn_ca (goodIn_ca (goodIn_r _ [717, 213, 341, 718, 719, 720, 2, 721, 16, 364, 365, 689, 690, 691, 692, 578, 579, 580, 142, 143, 144, 222, 223, 224, 225, 226, 693, 694, 695, 696, 697, 698, 699, 700, 645, 646, 31, 647, 58, 347, 348, 349, 350, 351, 1236, 1237, 1238, 1244, 1245, 1246, 1247, 1248, 1249, 1250, 1251, 1252, 1253, 1254, 1264, 1265, 1266, 1267, 1268, 1269, 1258, 1259, 1260, 1261, 1262, 1263] (by decide +kernel) (by decide +kernel)) (goodIn_sub (fun _ h => List.mem_append_left _ (List.mem_append_left _ (List.mem_append_left _ (List.mem_append_right _ h)))) (by decide +kernel))) (goodIn_sub (fun _ h => List.mem_append_left _ (List.mem_append_right _ h)) (by decide +kernel))
set_option maxRecDepth 20000 in
theorem gL_law_L_read : GoodIn wsL_law (va_wsS RL 210 yL_read wsL_read) := goodIn_app (goodIn_of _ (by decide +kernel)) ggL_law_L_read
set_option maxRecDepth 20000 in
theorem ggL_law_X7_read : GoodIn wsL_law wsX7_read := goodIn_r _ [725, 197, 707, 708, 709, 5, 710, 593, 594, 595, 596, 198, 199, 200, 428, 429, 430, 431, 126, 432, 433, 434, 435, 711, 712, 713, 714, 601, 602, 603, 604, 326, 327, 328, 329, 1239, 1240, 1241, 1242, 1243] (by decide +kernel) (by decide +kernel)
set_option maxRecDepth 20000 in
theorem gL_law_X7_read : GoodIn wsL_law (wsV RL 212 RX7 yX7_read wsX7_read) := goodIn_app (goodIn_of _ (by decide +kernel)) ggL_law_X7_read
set_option maxRecDepth 20000 in
theorem ggL_law_L_reader : GoodIn wsL_law wsL_reader := goodIn_ca (goodIn_ca (goodIn_r _ [728, 213, 137, 729, 730, 731, 2, 732, 148, 149, 16, 576, 631, 733, 364, 578, 579, 580, 142, 143, 144, 222, 223, 224, 225, 226, 702, 641, 642, 31, 643, 644, 645, 646, 647, 58, 734, 735, 736, 15, 737, 36, 81, 83, 82, 738, 739, 740, 35, 741, 63, 742, 582, 583, 584, 62, 743, 744, 745, 746, 53, 1236, 1237, 1238, 1244, 1245, 1246, 1247, 1248, 1249, 1250, 1251, 1252, 1253, 1254, 1270, 1271, 1264, 1265, 1266, 1267, 1268, 1269] (by decide +kernel) (by decide +kernel)) (goodIn_sub (fun _ h => List.mem_append_right _ h) (by decide +kernel))) (goodIn_sub (fun _ h => List.mem_append_left _ (List.mem_append_left _ (List.mem_append_left _ (List.mem_append_right _ h)))) (by decide +kernel))
set_option maxRecDepth 20000 in
theorem gL_law_L_reader : GoodIn wsL_law (va_wsS RL 213 yL_reader wsL_reader) := goodIn_app (goodIn_of _ (by decide +kernel)) ggL_law_L_reader
set_option maxRecDepth 20000 in
theorem ggL_law_X7_reader : GoodIn wsL_law wsX7_reader := goodIn_r _ [750, 751, 197, 593, 594, 5, 595, 596, 198, 199, 200, 601, 602, 603, 604, 126, 597, 598, 599, 600, 609, 610, 611, 612, 613, 614, 615, 616, 617, 618, 619, 752, 753, 754, 755, 756, 757, 758, 759, 760, 761, 762, 763, 428, 429, 430, 431, 432, 433, 434, 435, 711, 712, 713, 714, 326, 327, 328, 329, 1239, 1240, 1241, 1242, 1243] (by decide +kernel) (by decide +kernel)
set_option maxRecDepth 20000 in
theorem gL_law_X7_reader : GoodIn wsL_law (wsV RL 215 RX7 yX7_reader wsX7_reader) := goodIn_app (goodIn_of _ (by decide +kernel)) ggL_law_X7_reader
set_option maxRecDepth 20000 in
theorem ggL_law_X6_blockers : GoodIn wsL_law wsX6_blockers := goodIn_r _ [767, 16, 576, 577, 768, 769, 770, 35, 771, 772, 739, 740, 741, 63, 742, 582, 583, 584, 62, 1236, 1237, 1238, 1244, 1245, 1246, 1247, 1248, 1249, 1250, 1251, 1252, 1253, 1254, 1270, 1271] (by decide +kernel) (by decide +kernel)
set_option maxRecDepth 20000 in
theorem gL_law_X6_blockers : GoodIn wsL_law (wsV RL 216 RX6 yX6_blockers wsX6_blockers) := goodIn_app (goodIn_of _ (by decide +kernel)) ggL_law_X6_blockers
set_option maxRecDepth 20000 in
theorem ggL_law_X7_blockers : GoodIn wsL_law wsX7_blockers := goodIn_r _ [776, 197, 777, 778, 779, 5, 780, 756, 757, 758, 759, 126, 597, 598, 599, 600, 601, 602, 603, 604, 1239, 1240, 1241, 1242, 1243] (by decide +kernel) (by decide +kernel)
set_option maxRecDepth 20000 in
theorem gL_law_X7_blockers : GoodIn wsL_law (wsV RL 219 RX7 yX7_blockers wsX7_blockers) := goodIn_app (goodIn_of _ (by decide +kernel)) ggL_law_X7_blockers
set_option maxRecDepth 20000 in
theorem ggL_law_L_expel : GoodIn wsL_law wsL_expel := goodIn_ca (goodIn_ca (goodIn_r _ [783, 213, 214, 784, 785, 786, 2, 787, 16, 576, 788, 21, 364, 578, 579, 580, 142, 143, 144, 222, 223, 224, 225, 226, 581, 582, 583, 35, 584, 62, 243, 244, 245, 246, 247, 734, 735, 736, 15, 737, 36, 81, 83, 82, 738, 739, 740, 741, 63, 742, 150, 151, 152, 20, 153, 75, 154, 155, 156, 157, 158, 159, 160, 161, 162, 163, 28, 32, 40, 42, 164, 165, 166, 167, 80, 84, 85, 168, 169, 170, 27, 171, 46, 172, 47, 48, 49, 90, 91, 173, 174, 175, 31, 176, 53, 177, 54, 55, 56, 57, 58, 178, 179, 180, 181, 182, 183, 184, 185, 39, 186, 68, 69, 187, 632, 633, 634, 635, 636, 637, 638, 639, 640, 641, 642, 643, 644, 645, 646, 647, 648, 649, 650, 651, 1236, 1237, 1238, 1244, 1245, 1246, 1247, 1248, 1249, 1250, 1251, 1252, 1253, 1254, 1270, 1271, 1255, 1256, 1257, 1258, 1259, 1260, 1261, 1262, 1263, 1264, 1265, 1266, 1267, 1268, 1269, 1272, 1273] (by decide +kernel) (by decide +kernel)) (goodIn_sub (fun _ h => List.mem_append_left _ (List.mem_append_left _ (List.mem_append_left _ (List.mem_append_right _ h)))) (by decide +kernel))) (goodIn_sub (fun _ h => List.mem_append_left _ (List.mem_append_left _ (List.mem_append_right _ h))) (by decide +kernel))
set_option maxRecDepth 20000 in
theorem gL_law_L_expel : GoodIn wsL_law (va_wsS RL 220 yL_expel wsL_expel) := goodIn_app (goodIn_of _ (by decide +kernel)) ggL_law_L_expel
set_option maxRecDepth 20000 in
theorem ggL_law_X7_expel : GoodIn wsL_law wsX7_expel := goodIn_r _ [792, 126, 197, 593, 594, 5, 595, 596, 198, 199, 200, 597, 598, 599, 600, 601, 602, 603, 604, 752, 753, 754, 755, 756, 757, 758, 759, 201, 202, 203, 204, 205, 127, 605, 606, 607, 608, 609, 610, 611, 612, 613, 614, 615, 616, 617, 618, 619, 620, 621, 622, 623, 1239, 1240, 1241, 1242, 1243] (by decide +kernel) (by decide +kernel)
set_option maxRecDepth 20000 in
theorem gL_law_X7_expel : GoodIn wsL_law (wsV RL 222 RX7 yX7_expel wsX7_expel) := goodIn_app (goodIn_of _ (by decide +kernel)) ggL_law_X7_expel
set_option maxRecDepth 20000 in
theorem ggL_law_L_reclaimableWithout : GoodIn wsL_law wsL_reclaimableWithout := goodIn_ca (goodIn_r _ [795, 213, 796, 797, 798, 2, 799, 16, 142, 143, 144, 222, 223, 224, 225, 226, 800, 801, 802, 15, 803, 36, 81, 804, 805, 806, 35, 807, 808, 157, 158, 159, 742, 582, 583, 584, 62, 772, 739, 740, 741, 63, 809, 810, 811, 812, 32, 813, 814, 815, 31, 816, 53, 57, 1236, 1237, 1238, 1244, 1245, 1246, 1247, 1248, 1249, 1250, 1251, 1252, 1253, 1254, 1270, 1271, 1264, 1265, 1266, 1267, 1268, 1269] (by decide +kernel) (by decide +kernel)) (goodIn_sub (fun _ h => List.mem_append_left _ (List.mem_append_left _ (List.mem_append_left _ (List.mem_append_right _ h)))) (by decide +kernel))
set_option maxRecDepth 20000 in
theorem gL_law_L_reclaimableWithout : GoodIn wsL_law (va_wsS RL 223 yL_reclaimableWithout wsL_reclaimableWithout) := goodIn_app (goodIn_of _ (by decide +kernel)) ggL_law_L_reclaimableWithout
set_option maxRecDepth 20000 in
theorem ggL_law_X7_reclaimableWithout : GoodIn wsL_law wsX7_reclaimableWithout := goodIn_r _ [820, 197, 593, 594, 5, 595, 596, 198, 199, 200, 821, 822, 823, 824, 126, 825, 826, 827, 828, 756, 757, 758, 759, 597, 598, 599, 600, 601, 602, 603, 604, 428, 429, 430, 431, 432, 433, 434, 435, 326, 327, 328, 329, 829, 830, 831, 832, 1239, 1240, 1241, 1242, 1243] (by decide +kernel) (by decide +kernel)
set_option maxRecDepth 20000 in
theorem gL_law_X7_reclaimableWithout : GoodIn wsL_law (wsV RL 225 RX7 yX7_reclaimableWithout wsX7_reclaimableWithout) := goodIn_app (goodIn_of _ (by decide +kernel)) ggL_law_X7_reclaimableWithout
set_option maxRecDepth 20000 in
theorem ggL_law_X6_costliestReader : GoodIn wsL_law wsX6_costliestReader := goodIn_r _ [836, 16, 800, 801, 802, 15, 803, 36, 81, 804, 805, 806, 35, 807, 808, 157, 158, 159, 742, 582, 583, 584, 62, 772, 739, 740, 741, 63, 809, 810, 811, 812, 32, 813, 814, 815, 31, 816, 53, 57, 1236, 1237, 1238, 1244, 1245, 1246, 1247, 1248, 1249, 1250, 1251, 1252, 1253, 1254, 1270, 1271, 1264, 1265, 1266, 1267, 1268, 1269] (by decide +kernel) (by decide +kernel)
set_option maxRecDepth 20000 in
theorem gL_law_X6_costliestReader : GoodIn wsL_law (wsV RL 226 RX6 yX6_costliestReader wsX6_costliestReader) := goodIn_app (goodIn_of _ (by decide +kernel)) ggL_law_X6_costliestReader
set_option maxRecDepth 20000 in
theorem ggL_law_X7_costliestReader : GoodIn wsL_law wsX7_costliestReader := goodIn_r _ [840, 197, 821, 822, 823, 5, 824, 126, 825, 826, 827, 828, 756, 757, 758, 759, 597, 598, 599, 600, 601, 602, 603, 604, 428, 429, 430, 431, 432, 433, 434, 435, 198, 199, 200, 326, 327, 328, 329, 829, 830, 831, 832, 1239, 1240, 1241, 1242, 1243] (by decide +kernel) (by decide +kernel)
set_option maxRecDepth 20000 in
theorem gL_law_X7_costliestReader : GoodIn wsL_law (wsV RL 229 RX7 yX7_costliestReader wsX7_costliestReader) := goodIn_app (goodIn_of _ (by decide +kernel)) ggL_law_X7_costliestReader
set_option maxRecDepth 20000 in
theorem ggL_law_L_advance : GoodIn wsL_law wsL_advance := goodIn_ca (goodIn_r _ [843, 214, 844, 845, 846, 2, 847, 16, 576, 577, 21, 848, 849, 768, 769, 770, 35, 771, 772, 739, 740, 741, 63, 742, 582, 583, 584, 62, 243, 244, 245, 246, 247, 150, 151, 152, 20, 153, 75, 154, 155, 156, 157, 158, 159, 160, 161, 162, 15, 163, 28, 32, 36, 40, 42, 164, 165, 166, 167, 80, 81, 82, 83, 84, 85, 168, 169, 170, 27, 171, 46, 172, 47, 48, 49, 90, 91, 173, 174, 175, 31, 176, 53, 177, 54, 55, 56, 57, 58, 178, 179, 180, 181, 182, 183, 184, 185, 39, 186, 68, 69, 187, 1236, 1237, 1238, 1244, 1245, 1246, 1247, 1248, 1249, 1250, 1251, 1252, 1253, 1254, 1270, 1271, 1255, 1256, 1257, 1258, 1259, 1260, 1261, 1262, 1263, 1264, 1265, 1266, 1267, 1268, 1269, 1272, 1273] (by decide +kernel) (by decide +kernel)) (goodIn_sub (fun _ h => List.mem_append_left _ (List.mem_append_left _ (List.mem_append_right _ h))) (by decide +kernel))
set_option maxRecDepth 20000 in
theorem gL_law_L_advance : GoodIn wsL_law (va_wsS RL 230 yL_advance wsL_advance) := goodIn_app (goodIn_of _ (by decide +kernel)) ggL_law_L_advance
set_option maxRecDepth 20000 in
theorem ggL_law_X7_advance : GoodIn wsL_law wsX7_advance := goodIn_r _ [853, 197, 126, 777, 778, 779, 5, 780, 756, 757, 758, 759, 597, 598, 599, 600, 601, 602, 603, 604, 201, 202, 203, 204, 205, 127, 1239, 1240, 1241, 1242, 1243] (by decide +kernel) (by decide +kernel)
set_option maxRecDepth 20000 in
theorem gL_law_X7_advance : GoodIn wsL_law (wsV RL 233 RX7 yX7_advance wsX7_advance) := goodIn_app (goodIn_of _ (by decide +kernel)) ggL_law_X7_advance
set_option maxRecDepth 20000 in
theorem ggL_law_L_pass : GoodIn wsL_law wsL_pass := goodIn_ca (goodIn_ca (goodIn_r _ [856, 137, 214, 857, 858, 859, 2, 860, 16, 848, 861, 21, 142, 143, 144, 145, 146, 147, 148, 149, 243, 244, 245, 246, 247, 150, 151, 152, 20, 153, 75, 154, 155, 156, 157, 158, 159, 160, 161, 162, 15, 163, 28, 32, 36, 40, 42, 164, 165, 166, 167, 80, 81, 82, 83, 84, 85, 168, 169, 170, 27, 171, 46, 172, 47, 48, 49, 90, 91, 173, 174, 175, 31, 176, 53, 177, 54, 55, 56, 57, 58, 178, 179, 180, 35, 181, 62, 182, 63, 183, 184, 185, 39, 186, 68, 69, 187, 1236, 1237, 1238, 1244, 1245, 1246, 1247, 1248, 1249, 1250, 1251, 1252, 1253, 1254, 1255, 1256, 1257, 1258, 1259, 1260, 1261, 1262, 1263, 1264, 1265, 1266, 1267, 1268, 1269, 1270, 1271, 1272, 1273] (by decide +kernel) (by decide +kernel)) (goodIn_sub (fun _ h => List.mem_append_left _ (List.mem_append_left _ (List.mem_append_left _ (List.mem_append_left _ (List.mem_append_right _ h))))) (by decide +kernel))) (goodIn_sub (fun _ h => List.mem_append_left _ (List.mem_append_left _ (List.mem_append_right _ h))) (by decide +kernel))
set_option maxRecDepth 20000 in
theorem gL_law_L_pass : GoodIn wsL_law (va_wsS RL 234 yL_pass wsL_pass) := goodIn_app (goodIn_of _ (by decide +kernel)) ggL_law_L_pass
set_option maxRecDepth 20000 in
theorem ggL_law_X7_pass : GoodIn wsL_law wsX7_pass := goodIn_r _ [865, 866, 126, 867, 197, 198, 199, 5, 200, 201, 202, 203, 204, 205, 127, 1239, 1240, 1241, 1242, 1243] (by decide +kernel) (by decide +kernel)
set_option maxRecDepth 20000 in
theorem gL_law_X7_pass : GoodIn wsL_law (wsV RL 236 RX7 yX7_pass wsX7_pass) := goodIn_app (goodIn_of _ (by decide +kernel)) ggL_law_X7_pass
set_option maxRecDepth 20000 in
theorem ggL_law_L_count : GoodIn wsL_law wsL_count := goodIn_ca (goodIn_r _ [870, 137, 871, 872, 873, 2, 874, 148, 149, 16, 697, 698, 699, 788, 577, 848, 849, 875, 876, 877, 1236, 1237, 1238, 1244, 1245, 1246, 1247, 1248, 1249, 1250, 1251, 1252, 1253, 1254, 1258, 1259, 1260, 1261, 1262, 1263] (by decide +kernel) (by decide +kernel)) (goodIn_sub (fun _ h => List.mem_append_right _ h) (by decide +kernel))
set_option maxRecDepth 20000 in
theorem gL_law_L_count : GoodIn wsL_law (va_wsS RL 237 yL_count wsL_count) := goodIn_app (goodIn_of _ (by decide +kernel)) ggL_law_L_count
set_option maxRecDepth 20000 in
theorem ggL_law_X7_count : GoodIn wsL_law wsX7_count := goodIn_r _ [881, 882, 197, 126, 198, 199, 5, 200, 1239, 1240, 1241, 1242, 1243] (by decide +kernel) (by decide +kernel)
set_option maxRecDepth 20000 in
theorem gL_law_X7_count : GoodIn wsL_law (wsV RL 239 RX7 yX7_count wsX7_count) := goodIn_app (goodIn_of _ (by decide +kernel)) ggL_law_X7_count
set_option maxRecDepth 20000 in
theorem ggL_law_L_blocks : GoodIn wsL_law wsL_blocks := goodIn_ca (goodIn_r _ [885, 137, 886, 887, 888, 2, 889, 16, 697, 698, 142, 143, 144, 145, 146, 147, 148, 149, 890, 891, 892, 15, 893, 32, 28, 234, 894, 895, 896, 31, 897, 53, 1236, 1237, 1238, 1244, 1245, 1246, 1247, 1248, 1249, 1250, 1251, 1252, 1253, 1254, 1258, 1259, 1260, 1261, 1262, 1263, 1264, 1265, 1266, 1267, 1268, 1269] (by decide +kernel) (by decide +kernel)) (goodIn_sub (fun _ h => List.mem_append_left _ (List.mem_append_left _ (List.mem_append_left _ (List.mem_append_left _ (List.mem_append_right _ h))))) (by decide +kernel))
set_option maxRecDepth 20000 in
theorem gL_law_L_blocks : GoodIn wsL_law (va_wsS RL 240 yL_blocks wsL_blocks) := goodIn_app (goodIn_of _ (by decide +kernel)) ggL_law_L_blocks
set_option maxRecDepth 20000 in
theorem ggL_law_X7_blocks : GoodIn wsL_law wsX7_blocks := goodIn_r _ [901, 751, 197, 198, 199, 5, 200, 902, 903, 904, 905, 126, 906, 907, 908, 909, 326, 327, 328, 329, 1239, 1240, 1241, 1242, 1243] (by decide +kernel) (by decide +kernel)
set_option maxRecDepth 20000 in
theorem gL_law_X7_blocks : GoodIn wsL_law (wsV RL 242 RX7 yX7_blocks wsX7_blocks) := goodIn_app (goodIn_of _ (by decide +kernel)) ggL_law_X7_blocks
set_option maxRecDepth 20000 in
theorem ggL_law_L_segment : GoodIn wsL_law wsL_segment := goodIn_ca (goodIn_ca (goodIn_r _ [912, 213, 137, 913, 914, 915, 2, 916, 148, 149, 16, 697, 917, 918, 919, 920, 921, 922, 698, 142, 143, 144, 222, 223, 224, 225, 226, 923, 924, 925, 15, 926, 927, 891, 892, 893, 32, 28, 234, 894, 895, 896, 31, 897, 53, 890, 928, 929, 930, 931, 83, 932, 933, 934, 935, 56, 936, 232, 158, 233, 1236, 1237, 1238, 1244, 1245, 1246, 1247, 1248, 1249, 1250, 1251, 1252, 1253, 1254, 1258, 1259, 1260, 1261, 1262, 1263, 1264, 1265, 1266, 1267, 1268, 1269] (by decide +kernel) (by decide +kernel)) (goodIn_sub (fun _ h => List.mem_append_right _ h) (by decide +kernel))) (goodIn_sub (fun _ h => List.mem_append_left _ (List.mem_append_left _ (List.mem_append_left _ (List.mem_append_right _ h)))) (by decide +kernel))
set_option maxRecDepth 20000 in
theorem gL_law_L_segment : GoodIn wsL_law (va_wsS RL 243 yL_segment wsL_segment) := goodIn_app (goodIn_of _ (by decide +kernel)) ggL_law_L_segment
set_option maxRecDepth 20000 in
theorem ggL_law_X7_segment : GoodIn wsL_law wsX7_segment := goodIn_r _ [940, 596, 197, 432, 433, 434, 5, 435, 126, 198, 199, 200, 298, 299, 300, 301, 941, 942, 943, 944, 906, 907, 908, 909, 326, 327, 328, 329, 945, 946, 947, 948, 1239, 1240, 1241, 1242, 1243] (by decide +kernel) (by decide +kernel)
set_option maxRecDepth 20000 in
theorem gL_law_X7_segment : GoodIn wsL_law (wsV RL 245 RX7 yX7_segment wsX7_segment) := goodIn_app (goodIn_of _ (by decide +kernel)) ggL_law_X7_segment
set_option maxRecDepth 20000 in
theorem ggL_law_L_meanAge : GoodIn wsL_law wsL_meanAge := goodIn_ca (goodIn_ca (goodIn_r _ [951, 213, 341, 952, 953, 954, 2, 955, 16, 919, 920, 921, 922, 697, 698, 142, 143, 144, 222, 223, 224, 225, 226, 923, 924, 925, 15, 926, 927, 891, 892, 893, 32, 28, 234, 894, 895, 896, 31, 897, 53, 347, 348, 349, 350, 351, 956, 957, 958, 959, 83, 960, 961, 413, 414, 415, 962, 963, 964, 965, 966, 967, 1236, 1237, 1238, 1244, 1245, 1246, 1247, 1248, 1249, 1250, 1251, 1252, 1253, 1254, 1258, 1259, 1260, 1261, 1262, 1263, 1264, 1265, 1266, 1267, 1268, 1269] (by decide +kernel) (by decide +kernel)) (goodIn_sub (fun _ h => List.mem_append_left _ (List.mem_append_left _ (List.mem_append_left _ (List.mem_append_right _ h)))) (by decide +kernel))) (goodIn_sub (fun _ h => List.mem_append_left _ (List.mem_append_right _ h)) (by decide +kernel))
set_option maxRecDepth 20000 in
theorem gL_law_L_meanAge : GoodIn wsL_law (va_wsS RL 246 yL_meanAge wsL_meanAge) := goodIn_app (goodIn_of _ (by decide +kernel)) ggL_law_L_meanAge
set_option maxRecDepth 20000 in
theorem ggL_law_X7_meanAge : GoodIn wsL_law wsX7_meanAge := goodIn_r _ [971, 197, 126, 194, 432, 433, 434, 5, 435, 198, 199, 200, 941, 942, 943, 944, 906, 907, 908, 909, 326, 327, 328, 329, 972, 973, 974, 1239, 1240, 1241, 1242, 1243] (by decide +kernel) (by decide +kernel)
set_option maxRecDepth 20000 in
theorem gL_law_X7_meanAge : GoodIn wsL_law (wsV RL 249 RX7 yX7_meanAge wsX7_meanAge) := goodIn_app (goodIn_of _ (by decide +kernel)) ggL_law_X7_meanAge
set_option maxRecDepth 20000 in
theorem ggL_law_L_block : GoodIn wsL_law wsL_block := goodIn_ca (goodIn_ca (goodIn_r _ [977, 213, 137, 978, 979, 980, 2, 981, 148, 149, 16, 364, 982, 983, 365, 984, 985, 693, 694, 695, 696, 697, 698, 699, 222, 223, 224, 225, 226, 1236, 1237, 1238, 1244, 1245, 1246, 1247, 1248, 1249, 1250, 1251, 1252, 1253, 1254, 1264, 1265, 1266, 1267, 1268, 1269, 1258, 1259, 1260, 1261, 1262, 1263] (by decide +kernel) (by decide +kernel)) (goodIn_sub (fun _ h => List.mem_append_right _ h) (by decide +kernel))) (goodIn_sub (fun _ h => List.mem_append_left _ (List.mem_append_left _ (List.mem_append_left _ (List.mem_append_right _ h)))) (by decide +kernel))
set_option maxRecDepth 20000 in
theorem gL_law_L_block : GoodIn wsL_law (va_wsS RL 250 yL_block wsL_block) := goodIn_app (goodIn_of _ (by decide +kernel)) ggL_law_L_block
set_option maxRecDepth 20000 in
theorem ggL_law_X7_block : GoodIn wsL_law wsX7_block := goodIn_r _ [989, 751, 197, 428, 429, 430, 5, 431, 126, 432, 433, 434, 435, 198, 199, 200, 326, 327, 328, 329, 1239, 1240, 1241, 1242, 1243] (by decide +kernel) (by decide +kernel)
set_option maxRecDepth 20000 in
theorem gL_law_X7_block : GoodIn wsL_law (wsV RL 252 RX7 yX7_block wsX7_block) := goodIn_app (goodIn_of _ (by decide +kernel)) ggL_law_X7_block
set_option maxRecDepth 20000 in
theorem ggL_law_L_neededBy : GoodIn wsL_law wsL_neededBy := goodIn_ca (goodIn_r _ [992, 213, 993, 994, 995, 2, 996, 16, 364, 997, 458, 983, 982, 998, 693, 694, 695, 696, 697, 698, 699, 222, 223, 224, 225, 226, 999, 274, 275, 39, 276, 277, 278, 279, 280, 69, 1236, 1237, 1238, 1244, 1245, 1246, 1247, 1248, 1249, 1250, 1251, 1252, 1253, 1254, 1264, 1265, 1266, 1267, 1268, 1269, 1258, 1259, 1260, 1261, 1262, 1263, 1272, 1273] (by decide +kernel) (by decide +kernel)) (goodIn_sub (fun _ h => List.mem_append_left _ (List.mem_append_left _ (List.mem_append_left _ (List.mem_append_right _ h)))) (by decide +kernel))
set_option maxRecDepth 20000 in
theorem gL_law_L_neededBy : GoodIn wsL_law (va_wsS RL 253 yL_neededBy wsL_neededBy) := goodIn_app (goodIn_of _ (by decide +kernel)) ggL_law_L_neededBy
set_option maxRecDepth 20000 in
theorem ggL_law_X7_neededBy : GoodIn wsL_law wsX7_neededBy := goodIn_r _ [1003, 197, 1004, 428, 429, 430, 5, 431, 126, 432, 433, 434, 435, 198, 199, 200, 322, 323, 324, 325, 326, 327, 328, 329, 330, 331, 332, 333, 711, 712, 713, 714, 601, 602, 603, 604, 1239, 1240, 1241, 1242, 1243] (by decide +kernel) (by decide +kernel)
set_option maxRecDepth 20000 in
theorem gL_law_X7_neededBy : GoodIn wsL_law (wsV RL 255 RX7 yX7_neededBy wsX7_neededBy) := goodIn_app (goodIn_of _ (by decide +kernel)) ggL_law_X7_neededBy
set_option maxRecDepth 20000 in
theorem ggL_law_L_waiting : GoodIn wsL_law wsL_waiting := goodIn_ca (goodIn_r _ [1007, 137, 1008, 1009, 1010, 2, 1011, 16, 142, 143, 144, 145, 146, 147, 148, 149, 1012, 810, 811, 15, 812, 32, 81, 813, 814, 815, 31, 816, 53, 57, 1236, 1237, 1238, 1244, 1245, 1246, 1247, 1248, 1249, 1250, 1251, 1252, 1253, 1254, 1264, 1265, 1266, 1267, 1268, 1269] (by decide +kernel) (by decide +kernel)) (goodIn_sub (fun _ h => List.mem_append_left _ (List.mem_append_left _ (List.mem_append_left _ (List.mem_append_left _ (List.mem_append_right _ h))))) (by decide +kernel))
set_option maxRecDepth 20000 in
theorem gL_law_L_waiting : GoodIn wsL_law (va_wsS RL 256 yL_waiting wsL_waiting) := goodIn_app (goodIn_of _ (by decide +kernel)) ggL_law_L_waiting
set_option maxRecDepth 20000 in
theorem ggL_law_X7_waiting : GoodIn wsL_law wsX7_waiting := goodIn_r _ [1016, 194, 197, 126, 198, 199, 5, 200, 428, 429, 430, 431, 432, 433, 434, 435, 326, 327, 328, 329, 829, 830, 831, 832, 1239, 1240, 1241, 1242, 1243] (by decide +kernel) (by decide +kernel)
set_option maxRecDepth 20000 in
theorem gL_law_X7_waiting : GoodIn wsL_law (wsV RL 258 RX7 yX7_waiting wsX7_waiting) := goodIn_app (goodIn_of _ (by decide +kernel)) ggL_law_X7_waiting
set_option maxRecDepth 20000 in
theorem ggL_law_X6_reclaim : GoodIn wsL_law wsX6_reclaim := goodIn_r _ [1020, 21, 16, 150, 151, 152, 20, 153, 75, 154, 155, 156, 157, 158, 159, 160, 161, 162, 15, 163, 28, 32, 36, 40, 42, 164, 165, 166, 167, 80, 81, 82, 83, 84, 85, 168, 169, 170, 27, 171, 46, 172, 47, 48, 49, 90, 91, 173, 174, 175, 31, 176, 53, 177, 54, 55, 56, 57, 58, 178, 179, 180, 35, 181, 62, 182, 63, 183, 184, 185, 39, 186, 68, 69, 187, 1021, 1022, 1023, 1024, 1025, 1026, 234, 1027, 1028, 1029, 1030, 927, 891, 892, 893, 894, 895, 896, 897, 1031, 1032, 1033, 1034, 1035, 101, 102, 103, 104, 105, 106, 107, 1236, 1237, 1238, 1255, 1256, 1257, 1244, 1245, 1246, 1247, 1248, 1249, 1250, 1251, 1252, 1253, 1254, 1258, 1259, 1260, 1261, 1262, 1263, 1264, 1265, 1266, 1267, 1268, 1269, 1270, 1271, 1272, 1273] (by decide +kernel) (by decide +kernel)
set_option maxRecDepth 20000 in
theorem gL_law_X6_reclaim : GoodIn wsL_law (wsV RL 259 RX6 yX6_reclaim wsX6_reclaim) := goodIn_app (goodIn_of _ (by decide +kernel)) ggL_law_X6_reclaim
set_option maxRecDepth 20000 in
theorem ggL_law_X7_reclaim : GoodIn wsL_law wsX7_reclaim := goodIn_r _ [1039, 197, 201, 202, 203, 5, 204, 205, 127, 126, 1040, 1041, 1042, 1043, 428, 429, 430, 431, 432, 433, 434, 435, 198, 199, 200, 326, 327, 328, 329, 829, 830, 831, 832, 314, 315, 316, 317, 298, 299, 300, 301, 906, 907, 908, 909, 1044, 1045, 1046, 1047, 310, 311, 312, 313, 1239, 1240, 1241, 1242, 1243] (by decide +kernel) (by decide +kernel)
set_option maxRecDepth 20000 in
theorem gL_law_X7_reclaim : GoodIn wsL_law (wsV RL 262 RX7 yX7_reclaim wsX7_reclaim) := goodIn_app (goodIn_of _ (by decide +kernel)) ggL_law_X7_reclaim
set_option maxRecDepth 20000 in
theorem ggL_law_X6_wouldErase : GoodIn wsL_law wsX6_wouldErase := goodIn_r _ [1051, 16, 697, 698, 1052, 1053, 1054, 15, 1055, 28, 1026, 1056, 924, 925, 926, 927, 891, 892, 893, 32, 234, 894, 895, 896, 31, 897, 53, 1057, 1058, 1059, 1060, 81, 231, 232, 158, 233, 1061, 1062, 1063, 1064, 57, 936, 1236, 1237, 1238, 1244, 1245, 1246, 1247, 1248, 1249, 1250, 1251, 1252, 1253, 1254, 1258, 1259, 1260, 1261, 1262, 1263, 1264, 1265, 1266, 1267, 1268, 1269] (by decide +kernel) (by decide +kernel)
set_option maxRecDepth 20000 in
theorem gL_law_X6_wouldErase : GoodIn wsL_law (wsV RL 263 RX6 yX6_wouldErase wsX6_wouldErase) := goodIn_app (goodIn_of _ (by decide +kernel)) ggL_law_X6_wouldErase
set_option maxRecDepth 20000 in
theorem ggL_law_X7_wouldErase : GoodIn wsL_law wsX7_wouldErase := goodIn_r _ [1068, 197, 1069, 1070, 1071, 5, 1072, 126, 1073, 1074, 1075, 1076, 298, 299, 300, 301, 941, 942, 943, 944, 906, 907, 908, 909, 326, 327, 328, 329, 829, 830, 831, 832, 1239, 1240, 1241, 1242, 1243] (by decide +kernel) (by decide +kernel)
set_option maxRecDepth 20000 in
theorem gL_law_X7_wouldErase : GoodIn wsL_law (wsV RL 266 RX7 yX7_wouldErase wsX7_wouldErase) := goodIn_app (goodIn_of _ (by decide +kernel)) ggL_law_X7_wouldErase
set_option maxRecDepth 20000 in
theorem ggL_law_L_advancesToErase : GoodIn wsL_law wsL_advancesToErase := goodIn_ca (goodIn_ca (goodIn_r _ [1079, 213, 341, 1080, 1081, 1082, 2, 1083, 16, 919, 920, 921, 922, 697, 698, 142, 143, 144, 222, 223, 224, 225, 226, 1052, 1053, 1054, 15, 1055, 28, 1026, 1056, 924, 925, 926, 927, 891, 892, 893, 32, 234, 894, 895, 896, 31, 897, 53, 347, 348, 349, 350, 351, 1057, 1058, 1059, 1060, 81, 231, 232, 158, 233, 1061, 1062, 1063, 1064, 57, 936, 1236, 1237, 1238, 1244, 1245, 1246, 1247, 1248, 1249, 1250, 1251, 1252, 1253, 1254, 1258, 1259, 1260, 1261, 1262, 1263, 1264, 1265, 1266, 1267, 1268, 1269] (by decide +kernel) (by decide +kernel)) (goodIn_sub (fun _ h => List.mem_append_left _ (List.mem_append_left _ (List.mem_append_left _ (List.mem_append_right _ h)))) (by decide +kernel))) (goodIn_sub (fun _ h => List.mem_append_left _ (List.mem_append_right _ h)) (by decide +kernel))
set_option maxRecDepth 20000 in
theorem gL_law_L_advancesToErase : GoodIn wsL_law (va_wsS RL 267 yL_advancesToErase wsL_advancesToErase) := goodIn_app (goodIn_of _ (by decide +kernel)) ggL_law_L_advancesToErase
set_option maxRecDepth 20000 in
theorem ggL_law_X7_advancesToErase : GoodIn wsL_law wsX7_advancesToErase := goodIn_r _ [1087, 197, 432, 433, 434, 5, 435, 126, 198, 199, 200, 298, 299, 300, 301, 941, 942, 943, 944, 906, 907, 908, 909, 326, 327, 328, 329, 1073, 1074, 1075, 1076, 829, 830, 831, 832, 1239, 1240, 1241, 1242, 1243] (by decide +kernel) (by decide +kernel)
set_option maxRecDepth 20000 in
theorem gL_law_X7_advancesToErase : GoodIn wsL_law (wsV RL 269 RX7 yX7_advancesToErase wsX7_advancesToErase) := goodIn_app (goodIn_of _ (by decide +kernel)) ggL_law_X7_advancesToErase
set_option maxRecDepth 20000 in
theorem ggL_law_L_relocate : GoodIn wsL_law wsL_relocate := goodIn_ca (goodIn_ca (goodIn_r _ [1090, 213, 214, 1091, 1092, 1093, 2, 1094, 16, 697, 917, 21, 919, 920, 921, 922, 698, 142, 143, 144, 222, 223, 224, 225, 226, 243, 244, 245, 246, 247, 923, 924, 925, 15, 926, 927, 891, 892, 893, 32, 28, 234, 894, 895, 896, 31, 897, 53, 1095, 1096, 1097, 1098, 239, 240, 241, 27, 242, 49, 91, 48, 235, 236, 237, 238, 90, 46, 150, 151, 152, 20, 153, 75, 154, 155, 156, 157, 158, 159, 160, 161, 162, 163, 36, 40, 42, 164, 165, 166, 167, 80, 81, 82, 83, 84, 85, 168, 169, 170, 171, 172, 47, 173, 174, 175, 176, 177, 54, 55, 56, 57, 58, 178, 179, 180, 35, 181, 62, 182, 63, 183, 184, 185, 39, 186, 68, 69, 187, 1099, 1100, 1101, 1102, 961, 413, 414, 415, 1103, 1104, 1105, 1106, 1107, 1108, 960, 252, 253, 254, 255, 256, 257, 258, 259, 260, 285, 105, 106, 107, 1109, 1110, 1111, 1112, 273, 274, 275, 276, 277, 278, 279, 280, 281, 282, 283, 284, 1236, 1237, 1238, 1244, 1245, 1246, 1247, 1248, 1249, 1250, 1251, 1252, 1253, 1254, 1258, 1259, 1260, 1261, 1262, 1263, 1264, 1265, 1266, 1267, 1268, 1269, 1255, 1256, 1257, 1270, 1271, 1272, 1273] (by decide +kernel) (by decide +kernel)) (goodIn_sub (fun _ h => List.mem_append_left _ (List.mem_append_left _ (List.mem_append_left _ (List.mem_append_right _ h)))) (by decide +kernel))) (goodIn_sub (fun _ h => List.mem_append_left _ (List.mem_append_left _ (List.mem_append_right _ h))) (by decide +kernel))
set_option maxRecDepth 20000 in
theorem gL_law_L_relocate : GoodIn wsL_law (va_wsS RL 270 yL_relocate wsL_relocate) := goodIn_app (goodIn_of _ (by decide +kernel)) ggL_law_L_relocate
set_option maxRecDepth 20000 in
theorem ggL_law_X7_relocate : GoodIn wsL_law wsX7_relocate := goodIn_r _ [1116, 197, 432, 433, 434, 5, 435, 126, 198, 199, 200, 298, 299, 300, 301, 1117, 1118, 1119, 1120, 941, 942, 943, 944, 906, 907, 908, 909, 326, 327, 328, 329, 393, 394, 395, 396, 294, 295, 296, 297, 201, 202, 203, 204, 205, 127, 1121, 1122, 1123, 1124, 1125, 1126, 1127, 1128, 322, 323, 324, 325, 330, 331, 332, 333, 302, 303, 304, 305, 306, 307, 308, 309, 310, 311, 312, 313, 314, 315, 316, 317, 334, 335, 336, 337, 1239, 1240, 1241, 1242, 1243] (by decide +kernel) (by decide +kernel)
set_option maxRecDepth 20000 in
theorem gL_law_X7_relocate : GoodIn wsL_law (wsV RL 272 RX7 yX7_relocate wsX7_relocate) := goodIn_app (goodIn_of _ (by decide +kernel)) ggL_law_X7_relocate
set_option maxRecDepth 20000 in
theorem ggL_law_L_victim : GoodIn wsL_law wsL_victim := goodIn_ca (goodIn_ca (goodIn_r _ [1131, 137, 341, 1132, 1133, 1134, 2, 1135, 16, 142, 143, 144, 145, 146, 147, 148, 149, 1136, 1137, 1138, 15, 1139, 28, 1025, 1026, 234, 1056, 924, 925, 926, 927, 891, 892, 893, 32, 894, 895, 896, 31, 897, 53, 1140, 1141, 1142, 1143, 1144, 929, 930, 931, 83, 932, 933, 934, 935, 56, 936, 232, 158, 233, 347, 348, 349, 350, 351, 1236, 1237, 1238, 1244, 1245, 1246, 1247, 1248, 1249, 1250, 1251, 1252, 1253, 1254, 1258, 1259, 1260, 1261, 1262, 1263, 1264, 1265, 1266, 1267, 1268, 1269] (by decide +kernel) (by decide +kernel)) (goodIn_sub (fun _ h => List.mem_append_left _ (List.mem_append_left _ (List.mem_append_left _ (List.mem_append_left _ (List.mem_append_right _ h))))) (by decide +kernel))) (goodIn_sub (fun _ h => List.mem_append_left _ (List.mem_append_right _ h)) (by decide +kernel))
set_option maxRecDepth 20000 in
theorem gL_law_L_victim : GoodIn wsL_law (va_wsS RL 273 yL_victim wsL_victim) := goodIn_app (goodIn_of _ (by decide +kernel)) ggL_law_L_victim
set_option maxRecDepth 20000 in
theorem ggL_law_X7_victim : GoodIn wsL_law wsX7_victim := goodIn_r _ [1148, 194, 197, 198, 199, 5, 200, 1149, 1150, 1151, 1152, 126, 298, 299, 300, 301, 941, 942, 943, 944, 906, 907, 908, 909, 326, 327, 328, 329, 1153, 1154, 1155, 1156, 945, 946, 947, 948, 1239, 1240, 1241, 1242, 1243] (by decide +kernel) (by decide +kernel)
set_option maxRecDepth 20000 in
theorem gL_law_X7_victim : GoodIn wsL_law (wsV RL 275 RX7 yX7_victim wsX7_victim) := goodIn_app (goodIn_of _ (by decide +kernel)) ggL_law_X7_victim
set_option maxRecDepth 20000 in
theorem ggL_law_L_relocationsFor : GoodIn wsL_law wsL_relocationsFor := goodIn_ca (goodIn_ca (goodIn_r _ [1159, 137, 341, 1160, 1161, 1162, 2, 1163, 17, 16, 142, 143, 144, 145, 146, 147, 148, 149, 1164, 161, 162, 15, 163, 28, 32, 36, 40, 42, 164, 165, 166, 167, 80, 81, 82, 83, 84, 85, 168, 169, 170, 27, 171, 46, 172, 47, 48, 49, 90, 91, 173, 174, 175, 31, 176, 53, 177, 54, 55, 56, 57, 58, 178, 179, 180, 35, 181, 62, 182, 63, 183, 184, 185, 39, 186, 68, 69, 187, 1165, 1166, 1167, 1168, 1169, 1022, 1023, 1024, 1025, 1026, 234, 1027, 1028, 1029, 1030, 927, 891, 892, 893, 894, 895, 896, 897, 1031, 1032, 1033, 1034, 1035, 101, 102, 103, 104, 105, 106, 107, 1170, 228, 229, 230, 231, 232, 158, 233, 235, 236, 237, 238, 239, 240, 241, 242, 1171, 1137, 1138, 1139, 1056, 924, 925, 926, 1140, 1141, 1142, 1143, 1144, 929, 930, 931, 932, 933, 934, 935, 936, 1172, 1096, 1097, 1098, 1173, 1100, 1101, 1102, 961, 413, 414, 415, 1103, 1104, 1105, 1106, 1107, 1108, 960, 252, 253, 254, 255, 256, 257, 258, 259, 260, 285, 1109, 1110, 1111, 1112, 273, 274, 275, 276, 277, 278, 279, 280, 281, 282, 283, 284, 347, 348, 349, 350, 351, 1236, 1237, 1238, 1244, 1245, 1246, 1247, 1248, 1249, 1250, 1251, 1252, 1253, 1254, 1258, 1259, 1260, 1261, 1262, 1263, 1264, 1265, 1266, 1267, 1268, 1269, 1270, 1271, 1272, 1273] (by decide +kernel) (by decide +kernel)) (goodIn_sub (fun _ h => List.mem_append_left _ (List.mem_append_left _ (List.mem_append_left _ (List.mem_append_left _ (List.mem_append_right _ h))))) (by decide +kernel))) (goodIn_sub (fun _ h => List.mem_append_left _ (List.mem_append_right _ h)) (by decide +kernel))
set_option maxRecDepth 20000 in
theorem gL_law_L_relocationsFor : GoodIn wsL_law (va_wsS RL 276 yL_relocationsFor wsL_relocationsFor) := goodIn_app (goodIn_of _ (by decide +kernel)) ggL_law_L_relocationsFor
set_option maxRecDepth 20000 in
theorem ggL_law_X7_relocationsFor : GoodIn wsL_law wsX7_relocationsFor := goodIn_r _ [1177, 194, 1178, 197, 128, 126, 198, 199, 5, 200, 1179, 1180, 1181, 1182, 605, 606, 607, 608, 609, 610, 611, 612, 601, 602, 603, 604, 613, 614, 615, 616, 617, 618, 619, 620, 621, 622, 623, 1040, 1041, 1042, 1043, 428, 429, 430, 431, 432, 433, 434, 435, 326, 327, 328, 329, 829, 830, 831, 832, 314, 315, 316, 317, 298, 299, 300, 301, 906, 907, 908, 909, 1044, 1045, 1046, 1047, 310, 311, 312, 313, 389, 390, 391, 392, 294, 295, 296, 297, 393, 394, 395, 396, 1149, 1150, 1151, 1152, 941, 942, 943, 944, 1153, 1154, 1155, 1156, 945, 946, 947, 948, 1117, 1118, 1119, 1120, 1121, 1122, 1123, 1124, 1125, 1126, 1127, 1128, 322, 323, 324, 325, 330, 331, 332, 333, 302, 303, 304, 305, 306, 307, 308, 309, 334, 335, 336, 337, 1239, 1240, 1241, 1242, 1243] (by decide +kernel) (by decide +kernel)
set_option maxRecDepth 20000 in
theorem gL_law_X7_relocationsFor : GoodIn wsL_law (wsV RL 278 RX7 yX7_relocationsFor wsX7_relocationsFor) := goodIn_app (goodIn_of _ (by decide +kernel)) ggL_law_X7_relocationsFor
set_option maxRecDepth 20000 in
theorem ggL_law_X6_regainable : GoodIn wsL_law wsX6_regainable := goodIn_r _ [1186, 16, 697, 698, 699, 923, 924, 925, 15, 926, 927, 891, 892, 893, 32, 28, 234, 894, 895, 896, 31, 897, 53, 1236, 1237, 1238, 1244, 1245, 1246, 1247, 1248, 1249, 1250, 1251, 1252, 1253, 1254, 1258, 1259, 1260, 1261, 1262, 1263, 1264, 1265, 1266, 1267, 1268, 1269] (by decide +kernel) (by decide +kernel)
set_option maxRecDepth 20000 in
theorem gL_law_X6_regainable : GoodIn wsL_law (wsV RL 279 RX6 yX6_regainable wsX6_regainable) := goodIn_app (goodIn_of _ (by decide +kernel)) ggL_law_X6_regainable
set_option maxRecDepth 20000 in
theorem ggL_law_X7_regainable : GoodIn wsL_law wsX7_regainable := goodIn_r _ [1190, 197, 126, 902, 903, 904, 5, 905, 906, 907, 908, 909, 326, 327, 328, 329, 1239, 1240, 1241, 1242, 1243] (by decide +kernel) (by decide +kernel)
set_option maxRecDepth 20000 in
theorem gL_law_X7_regainable : GoodIn wsL_law (wsV RL 282 RX7 yX7_regainable wsX7_regainable) := goodIn_app (goodIn_of _ (by decide +kernel)) ggL_law_X7_regainable
set_option maxRecDepth 20000 in
theorem ggL_law_X6_regainableNow : GoodIn wsL_law wsX6_regainableNow := goodIn_r _ [1194, 16, 697, 698, 699, 1052, 1053, 1054, 15, 1055, 28, 1026, 1056, 924, 925, 926, 927, 891, 892, 893, 32, 234, 894, 895, 896, 31, 897, 53, 1236, 1237, 1238, 1244, 1245, 1246, 1247, 1248, 1249, 1250, 1251, 1252, 1253, 1254, 1258, 1259, 1260, 1261, 1262, 1263, 1264, 1265, 1266, 1267, 1268, 1269] (by decide +kernel) (by decide +kernel)
set_option maxRecDepth 20000 in
theorem gL_law_X6_regainableNow : GoodIn wsL_law (wsV RL 283 RX6 yX6_regainableNow wsX6_regainableNow) := goodIn_app (goodIn_of _ (by decide +kernel)) ggL_law_X6_regainableNow
set_option maxRecDepth 20000 in
theorem ggL_law_X7_regainableNow : GoodIn wsL_law wsX7_regainableNow := goodIn_r _ [1198, 197, 126, 1069, 1070, 1071, 5, 1072, 1073, 1074, 1075, 1076, 298, 299, 300, 301, 941, 942, 943, 944, 906, 907, 908, 909, 326, 327, 328, 329, 829, 830, 831, 832, 1239, 1240, 1241, 1242, 1243] (by decide +kernel) (by decide +kernel)
set_option maxRecDepth 20000 in
theorem gL_law_X7_regainableNow : GoodIn wsL_law (wsV RL 286 RX7 yX7_regainableNow wsX7_regainableNow) := goodIn_app (goodIn_of _ (by decide +kernel)) ggL_law_X7_regainableNow
set_option maxRecDepth 20000 in
theorem ggL_law_L_amplification : GoodIn wsL_law wsL_amplification := goodIn_ca (goodIn_r _ [1201, 341, 1202, 1203, 1204, 2, 1205, 16, 875, 876, 347, 348, 349, 350, 351, 962, 963, 964, 965, 966, 967, 1236, 1237, 1238, 1244, 1245, 1246, 1247, 1248, 1249, 1250, 1251, 1252, 1253, 1254] (by decide +kernel) (by decide +kernel)) (goodIn_sub (fun _ h => List.mem_append_left _ (List.mem_append_right _ h)) (by decide +kernel))
set_option maxRecDepth 20000 in
theorem gL_law_L_amplification : GoodIn wsL_law (va_wsS RL 287 yL_amplification wsL_amplification) := goodIn_app (goodIn_of _ (by decide +kernel)) ggL_law_L_amplification
set_option maxRecDepth 20000 in
theorem ggL_law_X7_amplification : GoodIn wsL_law wsX7_amplification := goodIn_r _ [1209, 126, 197, 972, 973, 5, 974, 1239, 1240, 1241, 1242, 1243] (by decide +kernel) (by decide +kernel)
set_option maxRecDepth 20000 in
theorem gL_law_X7_amplification : GoodIn wsL_law (wsV RL 290 RX7 yX7_amplification wsX7_amplification) := goodIn_app (goodIn_of _ (by decide +kernel)) ggL_law_X7_amplification
set_option maxRecDepth 20000 in
theorem ggL_law_X6_wearGap : GoodIn wsL_law wsX6_wearGap := goodIn_r _ [1213, 16, 697, 918, 698, 1214, 157, 158, 159, 1215, 232, 233, 1236, 1237, 1238, 1244, 1245, 1246, 1247, 1248, 1249, 1250, 1251, 1252, 1253, 1254, 1258, 1259, 1260, 1261, 1262, 1263] (by decide +kernel) (by decide +kernel)
set_option maxRecDepth 20000 in
theorem gL_law_X6_wearGap : GoodIn wsL_law (wsV RL 291 RX6 yX6_wearGap wsX6_wearGap) := goodIn_app (goodIn_of _ (by decide +kernel)) ggL_law_X6_wearGap
set_option maxRecDepth 20000 in
theorem ggL_law_X7_wearGap : GoodIn wsL_law wsX7_wearGap := goodIn_r _ [1219, 197, 126, 298, 299, 300, 5, 301, 1239, 1240, 1241, 1242, 1243] (by decide +kernel) (by decide +kernel)
set_option maxRecDepth 20000 in
theorem gL_law_X7_wearGap : GoodIn wsL_law (wsV RL 294 RX7 yX7_wearGap wsX7_wearGap) := goodIn_app (goodIn_of _ (by decide +kernel)) ggL_law_X7_wearGap
set_option maxRecDepth 20000 in
theorem ggL_law_L_undo : GoodIn wsL_law wsL_undo := goodIn_ca (goodIn_r _ [1222, 214, 1223, 1224, 1225, 2, 1226, 21, 1227, 16, 243, 244, 245, 246, 247, 1228, 1229, 1230, 20, 1231, 154, 155, 75, 160, 161, 162, 15, 163, 28, 32, 36, 40, 42, 164, 165, 166, 167, 80, 81, 82, 83, 84, 85, 168, 169, 170, 27, 171, 46, 172, 47, 48, 49, 90, 91, 173, 174, 175, 31, 176, 53, 177, 54, 55, 56, 57, 58, 178, 179, 180, 35, 181, 62, 182, 63, 183, 184, 185, 39, 186, 68, 69, 187, 1236, 1237, 1238, 1255, 1256, 1257, 1244, 1245, 1246, 1247, 1248, 1249, 1250, 1251, 1252, 1253, 1254, 1258, 1259, 1260, 1261, 1262, 1263, 1264, 1265, 1266, 1267, 1268, 1269, 1270, 1271, 1272, 1273] (by decide +kernel) (by decide +kernel)) (goodIn_sub (fun _ h => List.mem_append_left _ (List.mem_append_left _ (List.mem_append_right _ h))) (by decide +kernel))
set_option maxRecDepth 20000 in
theorem gL_law_L_undo : GoodIn wsL_law (va_wsS RL 295 yL_undo wsL_undo) := goodIn_app (goodIn_of _ (by decide +kernel)) ggL_law_L_undo
set_option maxRecDepth 20000 in
theorem ggL_law_X7_undo : GoodIn wsL_law wsX7_undo := goodIn_r _ [1235, 205, 197, 126, 127, 1239, 1240, 1241, 1242, 1243] (by decide +kernel) (by decide +kernel)
set_option maxRecDepth 20000 in
theorem gL_law_X7_undo : GoodIn wsL_law (wsV RL 297 RX7 yX7_undo wsX7_undo) := goodIn_app (goodIn_of _ (by decide +kernel)) ggL_law_X7_undo
theorem dL_law_0 : decode cL_law 0 = .ok (.new 8, 3) := by decide +kernel
theorem dL_law_3 : decode cL_law 3 = .ok (.dup, 1) := by decide +kernel
theorem dL_law_4 : decode cL_law 4 = .ok (.invokespecial 137, 3) := by decide +kernel
theorem dL_law_7 : decode cL_law 7 = .ok (.astore_n 1, 1) := by decide +kernel
theorem dL_law_8 : decode cL_law 8 = .ok (.new 138, 3) := by decide +kernel
theorem dL_law_11 : decode cL_law 11 = .ok (.dup, 1) := by decide +kernel
theorem dL_law_12 : decode cL_law 12 = .ok (.invokespecial 140, 3) := by decide +kernel
theorem dL_law_15 : decode cL_law 15 = .ok (.astore_n 2, 1) := by decide +kernel
theorem dL_law_16 : decode cL_law 16 = .ok (.iconst 1, 1) := by decide +kernel
theorem dL_law_17 : decode cL_law 17 = .ok (.newarray .long, 2) := by decide +kernel
theorem dL_law_19 : decode cL_law 19 = .ok (.astore_n 3, 1) := by decide +kernel
theorem dL_law_20 : decode cL_law 20 = .ok (.iconst 0, 1) := by decide +kernel
theorem dL_law_21 : decode cL_law 21 = .ok (.istore 4, 2) := by decide +kernel
theorem dL_law_23 : decode cL_law 23 = .ok (.iload 4, 2) := by decide +kernel
theorem dL_law_25 : decode cL_law 25 = .ok (.aload_n 0, 1) := by decide +kernel
theorem dL_law_26 : decode cL_law 26 = .ok (.arraylength, 1) := by decide +kernel
theorem dL_law_27 : decode cL_law 27 = .ok (.iconst 4, 1) := by decide +kernel
theorem dL_law_28 : decode cL_law 28 = .ok (.isub, 1) := by decide +kernel
theorem dL_law_29 : decode cL_law 29 = .ok (.if_icmp .gt 2601, 3) := by decide +kernel
theorem dL_law_32 : decode cL_law 32 = .ok (.aload_n 0, 1) := by decide +kernel
theorem dL_law_33 : decode cL_law 33 = .ok (.iload 4, 2) := by decide +kernel
theorem dL_law_35 : decode cL_law 35 = .ok (.iaload, 1) := by decide +kernel
theorem dL_law_36 : decode cL_law 36 = .ok (.bipush 63, 2) := by decide +kernel
theorem dL_law_38 : decode cL_law 38 = .ok (.iand, 1) := by decide +kernel
theorem dL_law_39 : decode cL_law 39 = .ok (.tableswitch 2585 0 45 #[197, 257, 325, 381, 437, 493, 506, 562, 630, 686, 742, 798, 866, 922, 990, 1046, 1102, 1158, 1214, 1282, 1350, 1418, 1486, 1499, 1555, 1611, 1624, 1668, 1724, 1780, 1836, 1904, 1988, 2056, 2112, 2168, 2181, 2194, 2250, 2306, 2362, 2430, 2443, 2456, 2528, 2541], 197) := by decide +kernel
theorem dL_law_236 : decode cL_law 236 = .ok (.aload_n 1, 1) := by decide +kernel
theorem dL_law_237 : decode cL_law 237 = .ok (.aload_n 0, 1) := by decide +kernel
theorem dL_law_238 : decode cL_law 238 = .ok (.iload 4, 2) := by decide +kernel
theorem dL_law_240 : decode cL_law 240 = .ok (.iconst 1, 1) := by decide +kernel
theorem dL_law_241 : decode cL_law 241 = .ok (.iadd, 1) := by decide +kernel
theorem dL_law_242 : decode cL_law 242 = .ok (.iaload, 1) := by decide +kernel
theorem dL_law_243 : decode cL_law 243 = .ok (.aload_n 0, 1) := by decide +kernel
theorem dL_law_244 : decode cL_law 244 = .ok (.iload 4, 2) := by decide +kernel
theorem dL_law_246 : decode cL_law 246 = .ok (.iconst 2, 1) := by decide +kernel
theorem dL_law_247 : decode cL_law 247 = .ok (.iadd, 1) := by decide +kernel
theorem dL_law_248 : decode cL_law 248 = .ok (.iaload, 1) := by decide +kernel
theorem dL_law_249 : decode cL_law 249 = .ok (.aload_n 0, 1) := by decide +kernel
theorem dL_law_250 : decode cL_law 250 = .ok (.iload 4, 2) := by decide +kernel
theorem dL_law_252 : decode cL_law 252 = .ok (.iconst 3, 1) := by decide +kernel
theorem dL_law_253 : decode cL_law 253 = .ok (.iadd, 1) := by decide +kernel
theorem dL_law_254 : decode cL_law 254 = .ok (.iaload, 1) := by decide +kernel
theorem dL_law_255 : decode cL_law 255 = .ok (.invokestatic 141, 3) := by decide +kernel
theorem dL_law_258 : decode cL_law 258 = .ok (.istore 5, 2) := by decide +kernel
theorem dL_law_260 : decode cL_law 260 = .ok (.aload_n 2, 1) := by decide +kernel
theorem dL_law_261 : decode cL_law 261 = .ok (.aload_n 0, 1) := by decide +kernel
theorem dL_law_262 : decode cL_law 262 = .ok (.iload 4, 2) := by decide +kernel
theorem dL_law_264 : decode cL_law 264 = .ok (.iconst 1, 1) := by decide +kernel
theorem dL_law_265 : decode cL_law 265 = .ok (.iadd, 1) := by decide +kernel
theorem dL_law_266 : decode cL_law 266 = .ok (.iaload, 1) := by decide +kernel
theorem dL_law_267 : decode cL_law 267 = .ok (.aload_n 0, 1) := by decide +kernel
theorem dL_law_268 : decode cL_law 268 = .ok (.iload 4, 2) := by decide +kernel
theorem dL_law_270 : decode cL_law 270 = .ok (.iconst 2, 1) := by decide +kernel
theorem dL_law_271 : decode cL_law 271 = .ok (.iadd, 1) := by decide +kernel
theorem dL_law_272 : decode cL_law 272 = .ok (.iaload, 1) := by decide +kernel
theorem dL_law_273 : decode cL_law 273 = .ok (.aload_n 0, 1) := by decide +kernel
theorem dL_law_274 : decode cL_law 274 = .ok (.iload 4, 2) := by decide +kernel
theorem dL_law_276 : decode cL_law 276 = .ok (.iconst 3, 1) := by decide +kernel
theorem dL_law_277 : decode cL_law 277 = .ok (.iadd, 1) := by decide +kernel
theorem dL_law_278 : decode cL_law 278 = .ok (.iaload, 1) := by decide +kernel
theorem dL_law_279 : decode cL_law 279 = .ok (.invokevirtual 146, 3) := by decide +kernel
theorem dL_law_282 : decode cL_law 282 = .ok (.aload_n 2, 1) := by decide +kernel
theorem dL_law_283 : decode cL_law 283 = .ok (.invokevirtual 147, 3) := by decide +kernel
theorem dL_law_286 : decode cL_law 286 = .ok (.iload 5, 2) := by decide +kernel
theorem dL_law_288 : decode cL_law 288 = .ok (.if_icmp .eq 5, 3) := by decide +kernel
theorem dL_law_291 : decode cL_law 291 = .ok (.iconst 0, 1) := by decide +kernel
theorem dL_law_292 : decode cL_law 292 = .ok (.ireturn, 1) := by decide +kernel
theorem dL_law_293 : decode cL_law 293 = .ok (.goto 2331, 3) := by decide +kernel
theorem dL_law_296 : decode cL_law 296 = .ok (.aload_n 1, 1) := by decide +kernel
theorem dL_law_297 : decode cL_law 297 = .ok (.aload_n 0, 1) := by decide +kernel
theorem dL_law_298 : decode cL_law 298 = .ok (.iload 4, 2) := by decide +kernel
theorem dL_law_300 : decode cL_law 300 = .ok (.iconst 1, 1) := by decide +kernel
theorem dL_law_301 : decode cL_law 301 = .ok (.iadd, 1) := by decide +kernel
theorem dL_law_302 : decode cL_law 302 = .ok (.iaload, 1) := by decide +kernel
theorem dL_law_303 : decode cL_law 303 = .ok (.aload_n 0, 1) := by decide +kernel
theorem dL_law_304 : decode cL_law 304 = .ok (.iload 4, 2) := by decide +kernel
theorem dL_law_306 : decode cL_law 306 = .ok (.iconst 2, 1) := by decide +kernel
theorem dL_law_307 : decode cL_law 307 = .ok (.iadd, 1) := by decide +kernel
theorem dL_law_308 : decode cL_law 308 = .ok (.iaload, 1) := by decide +kernel
theorem dL_law_309 : decode cL_law 309 = .ok (.aload_n 3, 1) := by decide +kernel
theorem dL_law_310 : decode cL_law 310 = .ok (.invokestatic 150, 3) := by decide +kernel
theorem dL_law_313 : decode cL_law 313 = .ok (.istore 5, 2) := by decide +kernel
theorem dL_law_315 : decode cL_law 315 = .ok (.aload_n 2, 1) := by decide +kernel
theorem dL_law_316 : decode cL_law 316 = .ok (.aload_n 0, 1) := by decide +kernel
theorem dL_law_317 : decode cL_law 317 = .ok (.iload 4, 2) := by decide +kernel
theorem dL_law_319 : decode cL_law 319 = .ok (.iconst 1, 1) := by decide +kernel
theorem dL_law_320 : decode cL_law 320 = .ok (.iadd, 1) := by decide +kernel
theorem dL_law_321 : decode cL_law 321 = .ok (.iaload, 1) := by decide +kernel
theorem dL_law_322 : decode cL_law 322 = .ok (.aload_n 0, 1) := by decide +kernel
theorem dL_law_323 : decode cL_law 323 = .ok (.iload 4, 2) := by decide +kernel
theorem dL_law_325 : decode cL_law 325 = .ok (.iconst 2, 1) := by decide +kernel
theorem dL_law_326 : decode cL_law 326 = .ok (.iadd, 1) := by decide +kernel
theorem dL_law_327 : decode cL_law 327 = .ok (.iaload, 1) := by decide +kernel
theorem dL_law_328 : decode cL_law 328 = .ok (.invokevirtual 153, 3) := by decide +kernel
theorem dL_law_331 : decode cL_law 331 = .ok (.istore 6, 2) := by decide +kernel
theorem dL_law_333 : decode cL_law 333 = .ok (.aload_n 2, 1) := by decide +kernel
theorem dL_law_334 : decode cL_law 334 = .ok (.invokevirtual 147, 3) := by decide +kernel
theorem dL_law_337 : decode cL_law 337 = .ok (.iload 5, 2) := by decide +kernel
theorem dL_law_339 : decode cL_law 339 = .ok (.if_icmp .eq 5, 3) := by decide +kernel
theorem dL_law_342 : decode cL_law 342 = .ok (.iconst 0, 1) := by decide +kernel
theorem dL_law_343 : decode cL_law 343 = .ok (.ireturn, 1) := by decide +kernel
theorem dL_law_344 : decode cL_law 344 = .ok (.iload 5, 2) := by decide +kernel
theorem dL_law_346 : decode cL_law 346 = .ok (.ifCond .ne 15, 3) := by decide +kernel
theorem dL_law_349 : decode cL_law 349 = .ok (.aload_n 3, 1) := by decide +kernel
theorem dL_law_350 : decode cL_law 350 = .ok (.iconst 0, 1) := by decide +kernel
theorem dL_law_351 : decode cL_law 351 = .ok (.laload, 1) := by decide +kernel
theorem dL_law_352 : decode cL_law 352 = .ok (.iload 6, 2) := by decide +kernel
theorem dL_law_354 : decode cL_law 354 = .ok (.i2l, 1) := by decide +kernel
theorem dL_law_355 : decode cL_law 355 = .ok (.lcmp, 1) := by decide +kernel
theorem dL_law_356 : decode cL_law 356 = .ok (.ifCond .eq 5, 3) := by decide +kernel
theorem dL_law_359 : decode cL_law 359 = .ok (.iconst 0, 1) := by decide +kernel
theorem dL_law_360 : decode cL_law 360 = .ok (.ireturn, 1) := by decide +kernel
theorem dL_law_361 : decode cL_law 361 = .ok (.goto 2263, 3) := by decide +kernel
theorem dL_law_364 : decode cL_law 364 = .ok (.aload_n 1, 1) := by decide +kernel
theorem dL_law_365 : decode cL_law 365 = .ok (.aload_n 0, 1) := by decide +kernel
theorem dL_law_366 : decode cL_law 366 = .ok (.iload 4, 2) := by decide +kernel
theorem dL_law_368 : decode cL_law 368 = .ok (.iconst 1, 1) := by decide +kernel
theorem dL_law_369 : decode cL_law 369 = .ok (.iadd, 1) := by decide +kernel
theorem dL_law_370 : decode cL_law 370 = .ok (.iaload, 1) := by decide +kernel
theorem dL_law_371 : decode cL_law 371 = .ok (.aload_n 3, 1) := by decide +kernel
theorem dL_law_372 : decode cL_law 372 = .ok (.invokestatic 154, 3) := by decide +kernel
theorem dL_law_375 : decode cL_law 375 = .ok (.istore 5, 2) := by decide +kernel
theorem dL_law_377 : decode cL_law 377 = .ok (.aload_n 2, 1) := by decide +kernel
theorem dL_law_378 : decode cL_law 378 = .ok (.aload_n 0, 1) := by decide +kernel
theorem dL_law_379 : decode cL_law 379 = .ok (.iload 4, 2) := by decide +kernel
theorem dL_law_381 : decode cL_law 381 = .ok (.iconst 1, 1) := by decide +kernel
theorem dL_law_382 : decode cL_law 382 = .ok (.iadd, 1) := by decide +kernel
theorem dL_law_383 : decode cL_law 383 = .ok (.iaload, 1) := by decide +kernel
theorem dL_law_384 : decode cL_law 384 = .ok (.invokevirtual 157, 3) := by decide +kernel
theorem dL_law_387 : decode cL_law 387 = .ok (.istore 6, 2) := by decide +kernel
theorem dL_law_389 : decode cL_law 389 = .ok (.aload_n 2, 1) := by decide +kernel
theorem dL_law_390 : decode cL_law 390 = .ok (.invokevirtual 147, 3) := by decide +kernel
theorem dL_law_393 : decode cL_law 393 = .ok (.iload 5, 2) := by decide +kernel
theorem dL_law_395 : decode cL_law 395 = .ok (.if_icmp .eq 5, 3) := by decide +kernel
theorem dL_law_398 : decode cL_law 398 = .ok (.iconst 0, 1) := by decide +kernel
theorem dL_law_399 : decode cL_law 399 = .ok (.ireturn, 1) := by decide +kernel
theorem dL_law_400 : decode cL_law 400 = .ok (.iload 5, 2) := by decide +kernel
theorem dL_law_402 : decode cL_law 402 = .ok (.ifCond .ne 15, 3) := by decide +kernel
theorem dL_law_405 : decode cL_law 405 = .ok (.aload_n 3, 1) := by decide +kernel
theorem dL_law_406 : decode cL_law 406 = .ok (.iconst 0, 1) := by decide +kernel
theorem dL_law_407 : decode cL_law 407 = .ok (.laload, 1) := by decide +kernel
theorem dL_law_408 : decode cL_law 408 = .ok (.iload 6, 2) := by decide +kernel
theorem dL_law_410 : decode cL_law 410 = .ok (.i2l, 1) := by decide +kernel
theorem dL_law_411 : decode cL_law 411 = .ok (.lcmp, 1) := by decide +kernel
theorem dL_law_412 : decode cL_law 412 = .ok (.ifCond .eq 5, 3) := by decide +kernel
theorem dL_law_415 : decode cL_law 415 = .ok (.iconst 0, 1) := by decide +kernel
theorem dL_law_416 : decode cL_law 416 = .ok (.ireturn, 1) := by decide +kernel
theorem dL_law_417 : decode cL_law 417 = .ok (.goto 2207, 3) := by decide +kernel
theorem dL_law_420 : decode cL_law 420 = .ok (.aload_n 1, 1) := by decide +kernel
theorem dL_law_421 : decode cL_law 421 = .ok (.aload_n 0, 1) := by decide +kernel
theorem dL_law_422 : decode cL_law 422 = .ok (.iload 4, 2) := by decide +kernel
theorem dL_law_424 : decode cL_law 424 = .ok (.iconst 1, 1) := by decide +kernel
theorem dL_law_425 : decode cL_law 425 = .ok (.iadd, 1) := by decide +kernel
theorem dL_law_426 : decode cL_law 426 = .ok (.iaload, 1) := by decide +kernel
theorem dL_law_427 : decode cL_law 427 = .ok (.aload_n 3, 1) := by decide +kernel
theorem dL_law_428 : decode cL_law 428 = .ok (.invokestatic 158, 3) := by decide +kernel
theorem dL_law_431 : decode cL_law 431 = .ok (.istore 5, 2) := by decide +kernel
theorem dL_law_433 : decode cL_law 433 = .ok (.aload_n 2, 1) := by decide +kernel
theorem dL_law_434 : decode cL_law 434 = .ok (.aload_n 0, 1) := by decide +kernel
theorem dL_law_435 : decode cL_law 435 = .ok (.iload 4, 2) := by decide +kernel
theorem dL_law_437 : decode cL_law 437 = .ok (.iconst 1, 1) := by decide +kernel
theorem dL_law_438 : decode cL_law 438 = .ok (.iadd, 1) := by decide +kernel
theorem dL_law_439 : decode cL_law 439 = .ok (.iaload, 1) := by decide +kernel
theorem dL_law_440 : decode cL_law 440 = .ok (.invokevirtual 160, 3) := by decide +kernel
theorem dL_law_443 : decode cL_law 443 = .ok (.istore 6, 2) := by decide +kernel
theorem dL_law_445 : decode cL_law 445 = .ok (.aload_n 2, 1) := by decide +kernel
theorem dL_law_446 : decode cL_law 446 = .ok (.invokevirtual 147, 3) := by decide +kernel
theorem dL_law_449 : decode cL_law 449 = .ok (.iload 5, 2) := by decide +kernel
theorem dL_law_451 : decode cL_law 451 = .ok (.if_icmp .eq 5, 3) := by decide +kernel
theorem dL_law_454 : decode cL_law 454 = .ok (.iconst 0, 1) := by decide +kernel
theorem dL_law_455 : decode cL_law 455 = .ok (.ireturn, 1) := by decide +kernel
theorem dL_law_456 : decode cL_law 456 = .ok (.iload 5, 2) := by decide +kernel
theorem dL_law_458 : decode cL_law 458 = .ok (.ifCond .ne 15, 3) := by decide +kernel
theorem dL_law_461 : decode cL_law 461 = .ok (.aload_n 3, 1) := by decide +kernel
theorem dL_law_462 : decode cL_law 462 = .ok (.iconst 0, 1) := by decide +kernel
theorem dL_law_463 : decode cL_law 463 = .ok (.laload, 1) := by decide +kernel
theorem dL_law_464 : decode cL_law 464 = .ok (.iload 6, 2) := by decide +kernel
theorem dL_law_466 : decode cL_law 466 = .ok (.i2l, 1) := by decide +kernel
theorem dL_law_467 : decode cL_law 467 = .ok (.lcmp, 1) := by decide +kernel
theorem dL_law_468 : decode cL_law 468 = .ok (.ifCond .eq 5, 3) := by decide +kernel
theorem dL_law_471 : decode cL_law 471 = .ok (.iconst 0, 1) := by decide +kernel
theorem dL_law_472 : decode cL_law 472 = .ok (.ireturn, 1) := by decide +kernel
theorem dL_law_473 : decode cL_law 473 = .ok (.goto 2151, 3) := by decide +kernel
theorem dL_law_476 : decode cL_law 476 = .ok (.aload_n 1, 1) := by decide +kernel
theorem dL_law_477 : decode cL_law 477 = .ok (.aload_n 0, 1) := by decide +kernel
theorem dL_law_478 : decode cL_law 478 = .ok (.iload 4, 2) := by decide +kernel
theorem dL_law_480 : decode cL_law 480 = .ok (.iconst 1, 1) := by decide +kernel
theorem dL_law_481 : decode cL_law 481 = .ok (.iadd, 1) := by decide +kernel
theorem dL_law_482 : decode cL_law 482 = .ok (.iaload, 1) := by decide +kernel
theorem dL_law_483 : decode cL_law 483 = .ok (.aload_n 3, 1) := by decide +kernel
theorem dL_law_484 : decode cL_law 484 = .ok (.invokestatic 161, 3) := by decide +kernel
theorem dL_law_487 : decode cL_law 487 = .ok (.istore 5, 2) := by decide +kernel
theorem dL_law_489 : decode cL_law 489 = .ok (.aload_n 2, 1) := by decide +kernel
theorem dL_law_490 : decode cL_law 490 = .ok (.aload_n 0, 1) := by decide +kernel
theorem dL_law_491 : decode cL_law 491 = .ok (.iload 4, 2) := by decide +kernel
theorem dL_law_493 : decode cL_law 493 = .ok (.iconst 1, 1) := by decide +kernel
theorem dL_law_494 : decode cL_law 494 = .ok (.iadd, 1) := by decide +kernel
theorem dL_law_495 : decode cL_law 495 = .ok (.iaload, 1) := by decide +kernel
theorem dL_law_496 : decode cL_law 496 = .ok (.invokevirtual 163, 3) := by decide +kernel
theorem dL_law_499 : decode cL_law 499 = .ok (.istore 6, 2) := by decide +kernel
theorem dL_law_501 : decode cL_law 501 = .ok (.aload_n 2, 1) := by decide +kernel
theorem dL_law_502 : decode cL_law 502 = .ok (.invokevirtual 147, 3) := by decide +kernel
theorem dL_law_505 : decode cL_law 505 = .ok (.iload 5, 2) := by decide +kernel
theorem dL_law_507 : decode cL_law 507 = .ok (.if_icmp .eq 5, 3) := by decide +kernel
theorem dL_law_510 : decode cL_law 510 = .ok (.iconst 0, 1) := by decide +kernel
theorem dL_law_511 : decode cL_law 511 = .ok (.ireturn, 1) := by decide +kernel
theorem dL_law_512 : decode cL_law 512 = .ok (.iload 5, 2) := by decide +kernel
theorem dL_law_514 : decode cL_law 514 = .ok (.ifCond .ne 15, 3) := by decide +kernel
theorem dL_law_517 : decode cL_law 517 = .ok (.aload_n 3, 1) := by decide +kernel
theorem dL_law_518 : decode cL_law 518 = .ok (.iconst 0, 1) := by decide +kernel
theorem dL_law_519 : decode cL_law 519 = .ok (.laload, 1) := by decide +kernel
theorem dL_law_520 : decode cL_law 520 = .ok (.iload 6, 2) := by decide +kernel
theorem dL_law_522 : decode cL_law 522 = .ok (.i2l, 1) := by decide +kernel
theorem dL_law_523 : decode cL_law 523 = .ok (.lcmp, 1) := by decide +kernel
theorem dL_law_524 : decode cL_law 524 = .ok (.ifCond .eq 5, 3) := by decide +kernel
theorem dL_law_527 : decode cL_law 527 = .ok (.iconst 0, 1) := by decide +kernel
theorem dL_law_528 : decode cL_law 528 = .ok (.ireturn, 1) := by decide +kernel
theorem dL_law_529 : decode cL_law 529 = .ok (.goto 2095, 3) := by decide +kernel
theorem dL_law_532 : decode cL_law 532 = .ok (.aload_n 1, 1) := by decide +kernel
theorem dL_law_533 : decode cL_law 533 = .ok (.invokevirtual 164, 3) := by decide +kernel
theorem dL_law_536 : decode cL_law 536 = .ok (.aload_n 2, 1) := by decide +kernel
theorem dL_law_537 : decode cL_law 537 = .ok (.invokevirtual 167, 3) := by decide +kernel
theorem dL_law_540 : decode cL_law 540 = .ok (.if_icmp .eq 2084, 3) := by decide +kernel
theorem dL_law_543 : decode cL_law 543 = .ok (.iconst 0, 1) := by decide +kernel
theorem dL_law_544 : decode cL_law 544 = .ok (.ireturn, 1) := by decide +kernel
theorem dL_law_545 : decode cL_law 545 = .ok (.aload_n 1, 1) := by decide +kernel
theorem dL_law_546 : decode cL_law 546 = .ok (.aload_n 0, 1) := by decide +kernel
theorem dL_law_547 : decode cL_law 547 = .ok (.iload 4, 2) := by decide +kernel
theorem dL_law_549 : decode cL_law 549 = .ok (.iconst 1, 1) := by decide +kernel
theorem dL_law_550 : decode cL_law 550 = .ok (.iadd, 1) := by decide +kernel
theorem dL_law_551 : decode cL_law 551 = .ok (.iaload, 1) := by decide +kernel
theorem dL_law_552 : decode cL_law 552 = .ok (.aload_n 3, 1) := by decide +kernel
theorem dL_law_553 : decode cL_law 553 = .ok (.invokestatic 168, 3) := by decide +kernel
theorem dL_law_556 : decode cL_law 556 = .ok (.istore 5, 2) := by decide +kernel
theorem dL_law_558 : decode cL_law 558 = .ok (.aload_n 2, 1) := by decide +kernel
theorem dL_law_559 : decode cL_law 559 = .ok (.aload_n 0, 1) := by decide +kernel
theorem dL_law_560 : decode cL_law 560 = .ok (.iload 4, 2) := by decide +kernel
theorem dL_law_562 : decode cL_law 562 = .ok (.iconst 1, 1) := by decide +kernel
theorem dL_law_563 : decode cL_law 563 = .ok (.iadd, 1) := by decide +kernel
theorem dL_law_564 : decode cL_law 564 = .ok (.iaload, 1) := by decide +kernel
theorem dL_law_565 : decode cL_law 565 = .ok (.invokevirtual 170, 3) := by decide +kernel
theorem dL_law_568 : decode cL_law 568 = .ok (.istore 6, 2) := by decide +kernel
theorem dL_law_570 : decode cL_law 570 = .ok (.aload_n 2, 1) := by decide +kernel
theorem dL_law_571 : decode cL_law 571 = .ok (.invokevirtual 147, 3) := by decide +kernel
theorem dL_law_574 : decode cL_law 574 = .ok (.iload 5, 2) := by decide +kernel
theorem dL_law_576 : decode cL_law 576 = .ok (.if_icmp .eq 5, 3) := by decide +kernel
theorem dL_law_579 : decode cL_law 579 = .ok (.iconst 0, 1) := by decide +kernel
theorem dL_law_580 : decode cL_law 580 = .ok (.ireturn, 1) := by decide +kernel
theorem dL_law_581 : decode cL_law 581 = .ok (.iload 5, 2) := by decide +kernel
theorem dL_law_583 : decode cL_law 583 = .ok (.ifCond .ne 15, 3) := by decide +kernel
theorem dL_law_586 : decode cL_law 586 = .ok (.aload_n 3, 1) := by decide +kernel
theorem dL_law_587 : decode cL_law 587 = .ok (.iconst 0, 1) := by decide +kernel
theorem dL_law_588 : decode cL_law 588 = .ok (.laload, 1) := by decide +kernel
theorem dL_law_589 : decode cL_law 589 = .ok (.iload 6, 2) := by decide +kernel
theorem dL_law_591 : decode cL_law 591 = .ok (.i2l, 1) := by decide +kernel
theorem dL_law_592 : decode cL_law 592 = .ok (.lcmp, 1) := by decide +kernel
theorem dL_law_593 : decode cL_law 593 = .ok (.ifCond .eq 5, 3) := by decide +kernel
theorem dL_law_596 : decode cL_law 596 = .ok (.iconst 0, 1) := by decide +kernel
theorem dL_law_597 : decode cL_law 597 = .ok (.ireturn, 1) := by decide +kernel
theorem dL_law_598 : decode cL_law 598 = .ok (.goto 2026, 3) := by decide +kernel
theorem dL_law_601 : decode cL_law 601 = .ok (.aload_n 1, 1) := by decide +kernel
theorem dL_law_602 : decode cL_law 602 = .ok (.aload_n 0, 1) := by decide +kernel
theorem dL_law_603 : decode cL_law 603 = .ok (.iload 4, 2) := by decide +kernel
theorem dL_law_605 : decode cL_law 605 = .ok (.iconst 1, 1) := by decide +kernel
theorem dL_law_606 : decode cL_law 606 = .ok (.iadd, 1) := by decide +kernel
theorem dL_law_607 : decode cL_law 607 = .ok (.iaload, 1) := by decide +kernel
theorem dL_law_608 : decode cL_law 608 = .ok (.aload_n 0, 1) := by decide +kernel
theorem dL_law_609 : decode cL_law 609 = .ok (.iload 4, 2) := by decide +kernel
theorem dL_law_611 : decode cL_law 611 = .ok (.iconst 2, 1) := by decide +kernel
theorem dL_law_612 : decode cL_law 612 = .ok (.iadd, 1) := by decide +kernel
theorem dL_law_613 : decode cL_law 613 = .ok (.iaload, 1) := by decide +kernel
theorem dL_law_614 : decode cL_law 614 = .ok (.aload_n 3, 1) := by decide +kernel
theorem dL_law_615 : decode cL_law 615 = .ok (.invokestatic 171, 3) := by decide +kernel
theorem dL_law_618 : decode cL_law 618 = .ok (.istore 5, 2) := by decide +kernel
theorem dL_law_620 : decode cL_law 620 = .ok (.aload_n 2, 1) := by decide +kernel
theorem dL_law_621 : decode cL_law 621 = .ok (.aload_n 0, 1) := by decide +kernel
theorem dL_law_622 : decode cL_law 622 = .ok (.iload 4, 2) := by decide +kernel
theorem dL_law_624 : decode cL_law 624 = .ok (.iconst 1, 1) := by decide +kernel
theorem dL_law_625 : decode cL_law 625 = .ok (.iadd, 1) := by decide +kernel
theorem dL_law_626 : decode cL_law 626 = .ok (.iaload, 1) := by decide +kernel
theorem dL_law_627 : decode cL_law 627 = .ok (.aload_n 0, 1) := by decide +kernel
theorem dL_law_628 : decode cL_law 628 = .ok (.iload 4, 2) := by decide +kernel
theorem dL_law_630 : decode cL_law 630 = .ok (.iconst 2, 1) := by decide +kernel
theorem dL_law_631 : decode cL_law 631 = .ok (.iadd, 1) := by decide +kernel
theorem dL_law_632 : decode cL_law 632 = .ok (.iaload, 1) := by decide +kernel
theorem dL_law_633 : decode cL_law 633 = .ok (.invokevirtual 173, 3) := by decide +kernel
theorem dL_law_636 : decode cL_law 636 = .ok (.istore 6, 2) := by decide +kernel
theorem dL_law_638 : decode cL_law 638 = .ok (.aload_n 2, 1) := by decide +kernel
theorem dL_law_639 : decode cL_law 639 = .ok (.invokevirtual 147, 3) := by decide +kernel
theorem dL_law_642 : decode cL_law 642 = .ok (.iload 5, 2) := by decide +kernel
theorem dL_law_644 : decode cL_law 644 = .ok (.if_icmp .eq 5, 3) := by decide +kernel
theorem dL_law_647 : decode cL_law 647 = .ok (.iconst 0, 1) := by decide +kernel
theorem dL_law_648 : decode cL_law 648 = .ok (.ireturn, 1) := by decide +kernel
theorem dL_law_649 : decode cL_law 649 = .ok (.iload 5, 2) := by decide +kernel
theorem dL_law_651 : decode cL_law 651 = .ok (.ifCond .ne 15, 3) := by decide +kernel
theorem dL_law_654 : decode cL_law 654 = .ok (.aload_n 3, 1) := by decide +kernel
theorem dL_law_655 : decode cL_law 655 = .ok (.iconst 0, 1) := by decide +kernel
theorem dL_law_656 : decode cL_law 656 = .ok (.laload, 1) := by decide +kernel
theorem dL_law_657 : decode cL_law 657 = .ok (.iload 6, 2) := by decide +kernel
theorem dL_law_659 : decode cL_law 659 = .ok (.i2l, 1) := by decide +kernel
theorem dL_law_660 : decode cL_law 660 = .ok (.lcmp, 1) := by decide +kernel
theorem dL_law_661 : decode cL_law 661 = .ok (.ifCond .eq 5, 3) := by decide +kernel
theorem dL_law_664 : decode cL_law 664 = .ok (.iconst 0, 1) := by decide +kernel
theorem dL_law_665 : decode cL_law 665 = .ok (.ireturn, 1) := by decide +kernel
theorem dL_law_666 : decode cL_law 666 = .ok (.goto 1958, 3) := by decide +kernel
theorem dL_law_669 : decode cL_law 669 = .ok (.aload_n 1, 1) := by decide +kernel
theorem dL_law_670 : decode cL_law 670 = .ok (.aload_n 0, 1) := by decide +kernel
theorem dL_law_671 : decode cL_law 671 = .ok (.iload 4, 2) := by decide +kernel
theorem dL_law_673 : decode cL_law 673 = .ok (.iconst 1, 1) := by decide +kernel
theorem dL_law_674 : decode cL_law 674 = .ok (.iadd, 1) := by decide +kernel
theorem dL_law_675 : decode cL_law 675 = .ok (.iaload, 1) := by decide +kernel
theorem dL_law_676 : decode cL_law 676 = .ok (.aload_n 3, 1) := by decide +kernel
theorem dL_law_677 : decode cL_law 677 = .ok (.invokestatic 174, 3) := by decide +kernel
theorem dL_law_680 : decode cL_law 680 = .ok (.istore 5, 2) := by decide +kernel
theorem dL_law_682 : decode cL_law 682 = .ok (.aload_n 2, 1) := by decide +kernel
theorem dL_law_683 : decode cL_law 683 = .ok (.aload_n 0, 1) := by decide +kernel
theorem dL_law_684 : decode cL_law 684 = .ok (.iload 4, 2) := by decide +kernel
theorem dL_law_686 : decode cL_law 686 = .ok (.iconst 1, 1) := by decide +kernel
theorem dL_law_687 : decode cL_law 687 = .ok (.iadd, 1) := by decide +kernel
theorem dL_law_688 : decode cL_law 688 = .ok (.iaload, 1) := by decide +kernel
theorem dL_law_689 : decode cL_law 689 = .ok (.invokevirtual 176, 3) := by decide +kernel
theorem dL_law_692 : decode cL_law 692 = .ok (.istore 6, 2) := by decide +kernel
theorem dL_law_694 : decode cL_law 694 = .ok (.aload_n 2, 1) := by decide +kernel
theorem dL_law_695 : decode cL_law 695 = .ok (.invokevirtual 147, 3) := by decide +kernel
theorem dL_law_698 : decode cL_law 698 = .ok (.iload 5, 2) := by decide +kernel
theorem dL_law_700 : decode cL_law 700 = .ok (.if_icmp .eq 5, 3) := by decide +kernel
theorem dL_law_703 : decode cL_law 703 = .ok (.iconst 0, 1) := by decide +kernel
theorem dL_law_704 : decode cL_law 704 = .ok (.ireturn, 1) := by decide +kernel
theorem dL_law_705 : decode cL_law 705 = .ok (.iload 5, 2) := by decide +kernel
theorem dL_law_707 : decode cL_law 707 = .ok (.ifCond .ne 15, 3) := by decide +kernel
theorem dL_law_710 : decode cL_law 710 = .ok (.aload_n 3, 1) := by decide +kernel
theorem dL_law_711 : decode cL_law 711 = .ok (.iconst 0, 1) := by decide +kernel
theorem dL_law_712 : decode cL_law 712 = .ok (.laload, 1) := by decide +kernel
theorem dL_law_713 : decode cL_law 713 = .ok (.iload 6, 2) := by decide +kernel
theorem dL_law_715 : decode cL_law 715 = .ok (.i2l, 1) := by decide +kernel
theorem dL_law_716 : decode cL_law 716 = .ok (.lcmp, 1) := by decide +kernel
theorem dL_law_717 : decode cL_law 717 = .ok (.ifCond .eq 5, 3) := by decide +kernel
theorem dL_law_720 : decode cL_law 720 = .ok (.iconst 0, 1) := by decide +kernel
theorem dL_law_721 : decode cL_law 721 = .ok (.ireturn, 1) := by decide +kernel
theorem dL_law_722 : decode cL_law 722 = .ok (.goto 1902, 3) := by decide +kernel
theorem dL_law_725 : decode cL_law 725 = .ok (.aload_n 1, 1) := by decide +kernel
theorem dL_law_726 : decode cL_law 726 = .ok (.aload_n 0, 1) := by decide +kernel
theorem dL_law_727 : decode cL_law 727 = .ok (.iload 4, 2) := by decide +kernel
theorem dL_law_729 : decode cL_law 729 = .ok (.iconst 1, 1) := by decide +kernel
theorem dL_law_730 : decode cL_law 730 = .ok (.iadd, 1) := by decide +kernel
theorem dL_law_731 : decode cL_law 731 = .ok (.iaload, 1) := by decide +kernel
theorem dL_law_732 : decode cL_law 732 = .ok (.aload_n 3, 1) := by decide +kernel
theorem dL_law_733 : decode cL_law 733 = .ok (.invokestatic 177, 3) := by decide +kernel
theorem dL_law_736 : decode cL_law 736 = .ok (.istore 5, 2) := by decide +kernel
theorem dL_law_738 : decode cL_law 738 = .ok (.aload_n 2, 1) := by decide +kernel
theorem dL_law_739 : decode cL_law 739 = .ok (.aload_n 0, 1) := by decide +kernel
theorem dL_law_740 : decode cL_law 740 = .ok (.iload 4, 2) := by decide +kernel
theorem dL_law_742 : decode cL_law 742 = .ok (.iconst 1, 1) := by decide +kernel
theorem dL_law_743 : decode cL_law 743 = .ok (.iadd, 1) := by decide +kernel
theorem dL_law_744 : decode cL_law 744 = .ok (.iaload, 1) := by decide +kernel
theorem dL_law_745 : decode cL_law 745 = .ok (.invokevirtual 179, 3) := by decide +kernel
theorem dL_law_748 : decode cL_law 748 = .ok (.istore 6, 2) := by decide +kernel
theorem dL_law_750 : decode cL_law 750 = .ok (.aload_n 2, 1) := by decide +kernel
theorem dL_law_751 : decode cL_law 751 = .ok (.invokevirtual 147, 3) := by decide +kernel
theorem dL_law_754 : decode cL_law 754 = .ok (.iload 5, 2) := by decide +kernel
theorem dL_law_756 : decode cL_law 756 = .ok (.if_icmp .eq 5, 3) := by decide +kernel
theorem dL_law_759 : decode cL_law 759 = .ok (.iconst 0, 1) := by decide +kernel
theorem dL_law_760 : decode cL_law 760 = .ok (.ireturn, 1) := by decide +kernel
theorem dL_law_761 : decode cL_law 761 = .ok (.iload 5, 2) := by decide +kernel
theorem dL_law_763 : decode cL_law 763 = .ok (.ifCond .ne 15, 3) := by decide +kernel
theorem dL_law_766 : decode cL_law 766 = .ok (.aload_n 3, 1) := by decide +kernel
theorem dL_law_767 : decode cL_law 767 = .ok (.iconst 0, 1) := by decide +kernel
theorem dL_law_768 : decode cL_law 768 = .ok (.laload, 1) := by decide +kernel
theorem dL_law_769 : decode cL_law 769 = .ok (.iload 6, 2) := by decide +kernel
theorem dL_law_771 : decode cL_law 771 = .ok (.i2l, 1) := by decide +kernel
theorem dL_law_772 : decode cL_law 772 = .ok (.lcmp, 1) := by decide +kernel
theorem dL_law_773 : decode cL_law 773 = .ok (.ifCond .eq 5, 3) := by decide +kernel
theorem dL_law_776 : decode cL_law 776 = .ok (.iconst 0, 1) := by decide +kernel
theorem dL_law_777 : decode cL_law 777 = .ok (.ireturn, 1) := by decide +kernel
theorem dL_law_778 : decode cL_law 778 = .ok (.goto 1846, 3) := by decide +kernel
theorem dL_law_781 : decode cL_law 781 = .ok (.aload_n 1, 1) := by decide +kernel
theorem dL_law_782 : decode cL_law 782 = .ok (.aload_n 0, 1) := by decide +kernel
theorem dL_law_783 : decode cL_law 783 = .ok (.iload 4, 2) := by decide +kernel
theorem dL_law_785 : decode cL_law 785 = .ok (.iconst 1, 1) := by decide +kernel
theorem dL_law_786 : decode cL_law 786 = .ok (.iadd, 1) := by decide +kernel
theorem dL_law_787 : decode cL_law 787 = .ok (.iaload, 1) := by decide +kernel
theorem dL_law_788 : decode cL_law 788 = .ok (.aload_n 3, 1) := by decide +kernel
theorem dL_law_789 : decode cL_law 789 = .ok (.invokestatic 180, 3) := by decide +kernel
theorem dL_law_792 : decode cL_law 792 = .ok (.istore 5, 2) := by decide +kernel
theorem dL_law_794 : decode cL_law 794 = .ok (.aload_n 2, 1) := by decide +kernel
theorem dL_law_795 : decode cL_law 795 = .ok (.aload_n 0, 1) := by decide +kernel
theorem dL_law_796 : decode cL_law 796 = .ok (.iload 4, 2) := by decide +kernel
theorem dL_law_798 : decode cL_law 798 = .ok (.iconst 1, 1) := by decide +kernel
theorem dL_law_799 : decode cL_law 799 = .ok (.iadd, 1) := by decide +kernel
theorem dL_law_800 : decode cL_law 800 = .ok (.iaload, 1) := by decide +kernel
theorem dL_law_801 : decode cL_law 801 = .ok (.invokevirtual 182, 3) := by decide +kernel
theorem dL_law_804 : decode cL_law 804 = .ok (.istore 6, 2) := by decide +kernel
theorem dL_law_806 : decode cL_law 806 = .ok (.aload_n 2, 1) := by decide +kernel
theorem dL_law_807 : decode cL_law 807 = .ok (.invokevirtual 147, 3) := by decide +kernel
theorem dL_law_810 : decode cL_law 810 = .ok (.iload 5, 2) := by decide +kernel
theorem dL_law_812 : decode cL_law 812 = .ok (.if_icmp .eq 5, 3) := by decide +kernel
theorem dL_law_815 : decode cL_law 815 = .ok (.iconst 0, 1) := by decide +kernel
theorem dL_law_816 : decode cL_law 816 = .ok (.ireturn, 1) := by decide +kernel
theorem dL_law_817 : decode cL_law 817 = .ok (.iload 5, 2) := by decide +kernel
theorem dL_law_819 : decode cL_law 819 = .ok (.ifCond .ne 15, 3) := by decide +kernel
theorem dL_law_822 : decode cL_law 822 = .ok (.aload_n 3, 1) := by decide +kernel
theorem dL_law_823 : decode cL_law 823 = .ok (.iconst 0, 1) := by decide +kernel
theorem dL_law_824 : decode cL_law 824 = .ok (.laload, 1) := by decide +kernel
theorem dL_law_825 : decode cL_law 825 = .ok (.iload 6, 2) := by decide +kernel
theorem dL_law_827 : decode cL_law 827 = .ok (.i2l, 1) := by decide +kernel
theorem dL_law_828 : decode cL_law 828 = .ok (.lcmp, 1) := by decide +kernel
theorem dL_law_829 : decode cL_law 829 = .ok (.ifCond .eq 5, 3) := by decide +kernel
theorem dL_law_832 : decode cL_law 832 = .ok (.iconst 0, 1) := by decide +kernel
theorem dL_law_833 : decode cL_law 833 = .ok (.ireturn, 1) := by decide +kernel
theorem dL_law_834 : decode cL_law 834 = .ok (.goto 1790, 3) := by decide +kernel
theorem dL_law_837 : decode cL_law 837 = .ok (.aload_n 1, 1) := by decide +kernel
theorem dL_law_838 : decode cL_law 838 = .ok (.aload_n 0, 1) := by decide +kernel
theorem dL_law_839 : decode cL_law 839 = .ok (.iload 4, 2) := by decide +kernel
theorem dL_law_841 : decode cL_law 841 = .ok (.iconst 1, 1) := by decide +kernel
theorem dL_law_842 : decode cL_law 842 = .ok (.iadd, 1) := by decide +kernel
theorem dL_law_843 : decode cL_law 843 = .ok (.iaload, 1) := by decide +kernel
theorem dL_law_844 : decode cL_law 844 = .ok (.aload_n 0, 1) := by decide +kernel
theorem dL_law_845 : decode cL_law 845 = .ok (.iload 4, 2) := by decide +kernel
theorem dL_law_847 : decode cL_law 847 = .ok (.iconst 2, 1) := by decide +kernel
theorem dL_law_848 : decode cL_law 848 = .ok (.iadd, 1) := by decide +kernel
theorem dL_law_849 : decode cL_law 849 = .ok (.iaload, 1) := by decide +kernel
theorem dL_law_850 : decode cL_law 850 = .ok (.aload_n 3, 1) := by decide +kernel
theorem dL_law_851 : decode cL_law 851 = .ok (.invokestatic 183, 3) := by decide +kernel
theorem dL_law_854 : decode cL_law 854 = .ok (.istore 5, 2) := by decide +kernel
theorem dL_law_856 : decode cL_law 856 = .ok (.aload_n 2, 1) := by decide +kernel
theorem dL_law_857 : decode cL_law 857 = .ok (.aload_n 0, 1) := by decide +kernel
theorem dL_law_858 : decode cL_law 858 = .ok (.iload 4, 2) := by decide +kernel
theorem dL_law_860 : decode cL_law 860 = .ok (.iconst 1, 1) := by decide +kernel
theorem dL_law_861 : decode cL_law 861 = .ok (.iadd, 1) := by decide +kernel
theorem dL_law_862 : decode cL_law 862 = .ok (.iaload, 1) := by decide +kernel
theorem dL_law_863 : decode cL_law 863 = .ok (.aload_n 0, 1) := by decide +kernel
theorem dL_law_864 : decode cL_law 864 = .ok (.iload 4, 2) := by decide +kernel
theorem dL_law_866 : decode cL_law 866 = .ok (.iconst 2, 1) := by decide +kernel
theorem dL_law_867 : decode cL_law 867 = .ok (.iadd, 1) := by decide +kernel
theorem dL_law_868 : decode cL_law 868 = .ok (.iaload, 1) := by decide +kernel
theorem dL_law_869 : decode cL_law 869 = .ok (.invokevirtual 185, 3) := by decide +kernel
theorem dL_law_872 : decode cL_law 872 = .ok (.istore 6, 2) := by decide +kernel
theorem dL_law_874 : decode cL_law 874 = .ok (.aload_n 2, 1) := by decide +kernel
theorem dL_law_875 : decode cL_law 875 = .ok (.invokevirtual 147, 3) := by decide +kernel
theorem dL_law_878 : decode cL_law 878 = .ok (.iload 5, 2) := by decide +kernel
theorem dL_law_880 : decode cL_law 880 = .ok (.if_icmp .eq 5, 3) := by decide +kernel
theorem dL_law_883 : decode cL_law 883 = .ok (.iconst 0, 1) := by decide +kernel
theorem dL_law_884 : decode cL_law 884 = .ok (.ireturn, 1) := by decide +kernel
theorem dL_law_885 : decode cL_law 885 = .ok (.iload 5, 2) := by decide +kernel
theorem dL_law_887 : decode cL_law 887 = .ok (.ifCond .ne 15, 3) := by decide +kernel
theorem dL_law_890 : decode cL_law 890 = .ok (.aload_n 3, 1) := by decide +kernel
theorem dL_law_891 : decode cL_law 891 = .ok (.iconst 0, 1) := by decide +kernel
theorem dL_law_892 : decode cL_law 892 = .ok (.laload, 1) := by decide +kernel
theorem dL_law_893 : decode cL_law 893 = .ok (.iload 6, 2) := by decide +kernel
theorem dL_law_895 : decode cL_law 895 = .ok (.i2l, 1) := by decide +kernel
theorem dL_law_896 : decode cL_law 896 = .ok (.lcmp, 1) := by decide +kernel
theorem dL_law_897 : decode cL_law 897 = .ok (.ifCond .eq 5, 3) := by decide +kernel
theorem dL_law_900 : decode cL_law 900 = .ok (.iconst 0, 1) := by decide +kernel
theorem dL_law_901 : decode cL_law 901 = .ok (.ireturn, 1) := by decide +kernel
theorem dL_law_902 : decode cL_law 902 = .ok (.goto 1722, 3) := by decide +kernel
theorem dL_law_905 : decode cL_law 905 = .ok (.aload_n 1, 1) := by decide +kernel
theorem dL_law_906 : decode cL_law 906 = .ok (.aload_n 0, 1) := by decide +kernel
theorem dL_law_907 : decode cL_law 907 = .ok (.iload 4, 2) := by decide +kernel
theorem dL_law_909 : decode cL_law 909 = .ok (.iconst 1, 1) := by decide +kernel
theorem dL_law_910 : decode cL_law 910 = .ok (.iadd, 1) := by decide +kernel
theorem dL_law_911 : decode cL_law 911 = .ok (.iaload, 1) := by decide +kernel
theorem dL_law_912 : decode cL_law 912 = .ok (.aload_n 3, 1) := by decide +kernel
theorem dL_law_913 : decode cL_law 913 = .ok (.invokestatic 186, 3) := by decide +kernel
theorem dL_law_916 : decode cL_law 916 = .ok (.istore 5, 2) := by decide +kernel
theorem dL_law_918 : decode cL_law 918 = .ok (.aload_n 2, 1) := by decide +kernel
theorem dL_law_919 : decode cL_law 919 = .ok (.aload_n 0, 1) := by decide +kernel
theorem dL_law_920 : decode cL_law 920 = .ok (.iload 4, 2) := by decide +kernel
theorem dL_law_922 : decode cL_law 922 = .ok (.iconst 1, 1) := by decide +kernel
theorem dL_law_923 : decode cL_law 923 = .ok (.iadd, 1) := by decide +kernel
theorem dL_law_924 : decode cL_law 924 = .ok (.iaload, 1) := by decide +kernel
theorem dL_law_925 : decode cL_law 925 = .ok (.invokevirtual 188, 3) := by decide +kernel
theorem dL_law_928 : decode cL_law 928 = .ok (.istore 6, 2) := by decide +kernel
theorem dL_law_930 : decode cL_law 930 = .ok (.aload_n 2, 1) := by decide +kernel
theorem dL_law_931 : decode cL_law 931 = .ok (.invokevirtual 147, 3) := by decide +kernel
theorem dL_law_934 : decode cL_law 934 = .ok (.iload 5, 2) := by decide +kernel
theorem dL_law_936 : decode cL_law 936 = .ok (.if_icmp .eq 5, 3) := by decide +kernel
theorem dL_law_939 : decode cL_law 939 = .ok (.iconst 0, 1) := by decide +kernel
theorem dL_law_940 : decode cL_law 940 = .ok (.ireturn, 1) := by decide +kernel
theorem dL_law_941 : decode cL_law 941 = .ok (.iload 5, 2) := by decide +kernel
theorem dL_law_943 : decode cL_law 943 = .ok (.ifCond .ne 15, 3) := by decide +kernel
theorem dL_law_946 : decode cL_law 946 = .ok (.aload_n 3, 1) := by decide +kernel
theorem dL_law_947 : decode cL_law 947 = .ok (.iconst 0, 1) := by decide +kernel
theorem dL_law_948 : decode cL_law 948 = .ok (.laload, 1) := by decide +kernel
theorem dL_law_949 : decode cL_law 949 = .ok (.iload 6, 2) := by decide +kernel
theorem dL_law_951 : decode cL_law 951 = .ok (.i2l, 1) := by decide +kernel
theorem dL_law_952 : decode cL_law 952 = .ok (.lcmp, 1) := by decide +kernel
theorem dL_law_953 : decode cL_law 953 = .ok (.ifCond .eq 5, 3) := by decide +kernel
theorem dL_law_956 : decode cL_law 956 = .ok (.iconst 0, 1) := by decide +kernel
theorem dL_law_957 : decode cL_law 957 = .ok (.ireturn, 1) := by decide +kernel
theorem dL_law_958 : decode cL_law 958 = .ok (.goto 1666, 3) := by decide +kernel
theorem dL_law_961 : decode cL_law 961 = .ok (.aload_n 1, 1) := by decide +kernel
theorem dL_law_962 : decode cL_law 962 = .ok (.aload_n 0, 1) := by decide +kernel
theorem dL_law_963 : decode cL_law 963 = .ok (.iload 4, 2) := by decide +kernel
theorem dL_law_965 : decode cL_law 965 = .ok (.iconst 1, 1) := by decide +kernel
theorem dL_law_966 : decode cL_law 966 = .ok (.iadd, 1) := by decide +kernel
theorem dL_law_967 : decode cL_law 967 = .ok (.iaload, 1) := by decide +kernel
theorem dL_law_968 : decode cL_law 968 = .ok (.aload_n 0, 1) := by decide +kernel
theorem dL_law_969 : decode cL_law 969 = .ok (.iload 4, 2) := by decide +kernel
theorem dL_law_971 : decode cL_law 971 = .ok (.iconst 2, 1) := by decide +kernel
theorem dL_law_972 : decode cL_law 972 = .ok (.iadd, 1) := by decide +kernel
theorem dL_law_973 : decode cL_law 973 = .ok (.iaload, 1) := by decide +kernel
theorem dL_law_974 : decode cL_law 974 = .ok (.aload_n 3, 1) := by decide +kernel
theorem dL_law_975 : decode cL_law 975 = .ok (.invokestatic 189, 3) := by decide +kernel
theorem dL_law_978 : decode cL_law 978 = .ok (.istore 5, 2) := by decide +kernel
theorem dL_law_980 : decode cL_law 980 = .ok (.aload_n 2, 1) := by decide +kernel
theorem dL_law_981 : decode cL_law 981 = .ok (.aload_n 0, 1) := by decide +kernel
theorem dL_law_982 : decode cL_law 982 = .ok (.iload 4, 2) := by decide +kernel
theorem dL_law_984 : decode cL_law 984 = .ok (.iconst 1, 1) := by decide +kernel
theorem dL_law_985 : decode cL_law 985 = .ok (.iadd, 1) := by decide +kernel
theorem dL_law_986 : decode cL_law 986 = .ok (.iaload, 1) := by decide +kernel
theorem dL_law_987 : decode cL_law 987 = .ok (.aload_n 0, 1) := by decide +kernel
theorem dL_law_988 : decode cL_law 988 = .ok (.iload 4, 2) := by decide +kernel
theorem dL_law_990 : decode cL_law 990 = .ok (.iconst 2, 1) := by decide +kernel
theorem dL_law_991 : decode cL_law 991 = .ok (.iadd, 1) := by decide +kernel
theorem dL_law_992 : decode cL_law 992 = .ok (.iaload, 1) := by decide +kernel
theorem dL_law_993 : decode cL_law 993 = .ok (.invokevirtual 191, 3) := by decide +kernel
theorem dL_law_996 : decode cL_law 996 = .ok (.istore 6, 2) := by decide +kernel
theorem dL_law_998 : decode cL_law 998 = .ok (.aload_n 2, 1) := by decide +kernel
theorem dL_law_999 : decode cL_law 999 = .ok (.invokevirtual 147, 3) := by decide +kernel
theorem dL_law_1002 : decode cL_law 1002 = .ok (.iload 5, 2) := by decide +kernel
theorem dL_law_1004 : decode cL_law 1004 = .ok (.if_icmp .eq 5, 3) := by decide +kernel
theorem dL_law_1007 : decode cL_law 1007 = .ok (.iconst 0, 1) := by decide +kernel
theorem dL_law_1008 : decode cL_law 1008 = .ok (.ireturn, 1) := by decide +kernel
theorem dL_law_1009 : decode cL_law 1009 = .ok (.iload 5, 2) := by decide +kernel
theorem dL_law_1011 : decode cL_law 1011 = .ok (.ifCond .ne 15, 3) := by decide +kernel
theorem dL_law_1014 : decode cL_law 1014 = .ok (.aload_n 3, 1) := by decide +kernel
theorem dL_law_1015 : decode cL_law 1015 = .ok (.iconst 0, 1) := by decide +kernel
theorem dL_law_1016 : decode cL_law 1016 = .ok (.laload, 1) := by decide +kernel
theorem dL_law_1017 : decode cL_law 1017 = .ok (.iload 6, 2) := by decide +kernel
theorem dL_law_1019 : decode cL_law 1019 = .ok (.i2l, 1) := by decide +kernel
theorem dL_law_1020 : decode cL_law 1020 = .ok (.lcmp, 1) := by decide +kernel
theorem dL_law_1021 : decode cL_law 1021 = .ok (.ifCond .eq 5, 3) := by decide +kernel
theorem dL_law_1024 : decode cL_law 1024 = .ok (.iconst 0, 1) := by decide +kernel
theorem dL_law_1025 : decode cL_law 1025 = .ok (.ireturn, 1) := by decide +kernel
theorem dL_law_1026 : decode cL_law 1026 = .ok (.goto 1598, 3) := by decide +kernel
theorem dL_law_1029 : decode cL_law 1029 = .ok (.aload_n 1, 1) := by decide +kernel
theorem dL_law_1030 : decode cL_law 1030 = .ok (.aload_n 0, 1) := by decide +kernel
theorem dL_law_1031 : decode cL_law 1031 = .ok (.iload 4, 2) := by decide +kernel
theorem dL_law_1033 : decode cL_law 1033 = .ok (.iconst 1, 1) := by decide +kernel
theorem dL_law_1034 : decode cL_law 1034 = .ok (.iadd, 1) := by decide +kernel
theorem dL_law_1035 : decode cL_law 1035 = .ok (.iaload, 1) := by decide +kernel
theorem dL_law_1036 : decode cL_law 1036 = .ok (.aload_n 3, 1) := by decide +kernel
theorem dL_law_1037 : decode cL_law 1037 = .ok (.invokestatic 192, 3) := by decide +kernel
theorem dL_law_1040 : decode cL_law 1040 = .ok (.istore 5, 2) := by decide +kernel
theorem dL_law_1042 : decode cL_law 1042 = .ok (.aload_n 2, 1) := by decide +kernel
theorem dL_law_1043 : decode cL_law 1043 = .ok (.aload_n 0, 1) := by decide +kernel
theorem dL_law_1044 : decode cL_law 1044 = .ok (.iload 4, 2) := by decide +kernel
theorem dL_law_1046 : decode cL_law 1046 = .ok (.iconst 1, 1) := by decide +kernel
theorem dL_law_1047 : decode cL_law 1047 = .ok (.iadd, 1) := by decide +kernel
theorem dL_law_1048 : decode cL_law 1048 = .ok (.iaload, 1) := by decide +kernel
theorem dL_law_1049 : decode cL_law 1049 = .ok (.invokevirtual 194, 3) := by decide +kernel
theorem dL_law_1052 : decode cL_law 1052 = .ok (.istore 6, 2) := by decide +kernel
theorem dL_law_1054 : decode cL_law 1054 = .ok (.aload_n 2, 1) := by decide +kernel
theorem dL_law_1055 : decode cL_law 1055 = .ok (.invokevirtual 147, 3) := by decide +kernel
theorem dL_law_1058 : decode cL_law 1058 = .ok (.iload 5, 2) := by decide +kernel
theorem dL_law_1060 : decode cL_law 1060 = .ok (.if_icmp .eq 5, 3) := by decide +kernel
theorem dL_law_1063 : decode cL_law 1063 = .ok (.iconst 0, 1) := by decide +kernel
theorem dL_law_1064 : decode cL_law 1064 = .ok (.ireturn, 1) := by decide +kernel
theorem dL_law_1065 : decode cL_law 1065 = .ok (.iload 5, 2) := by decide +kernel
theorem dL_law_1067 : decode cL_law 1067 = .ok (.ifCond .ne 15, 3) := by decide +kernel
theorem dL_law_1070 : decode cL_law 1070 = .ok (.aload_n 3, 1) := by decide +kernel
theorem dL_law_1071 : decode cL_law 1071 = .ok (.iconst 0, 1) := by decide +kernel
theorem dL_law_1072 : decode cL_law 1072 = .ok (.laload, 1) := by decide +kernel
theorem dL_law_1073 : decode cL_law 1073 = .ok (.iload 6, 2) := by decide +kernel
theorem dL_law_1075 : decode cL_law 1075 = .ok (.i2l, 1) := by decide +kernel
theorem dL_law_1076 : decode cL_law 1076 = .ok (.lcmp, 1) := by decide +kernel
theorem dL_law_1077 : decode cL_law 1077 = .ok (.ifCond .eq 5, 3) := by decide +kernel
theorem dL_law_1080 : decode cL_law 1080 = .ok (.iconst 0, 1) := by decide +kernel
theorem dL_law_1081 : decode cL_law 1081 = .ok (.ireturn, 1) := by decide +kernel
theorem dL_law_1082 : decode cL_law 1082 = .ok (.goto 1542, 3) := by decide +kernel
theorem dL_law_1085 : decode cL_law 1085 = .ok (.aload_n 1, 1) := by decide +kernel
theorem dL_law_1086 : decode cL_law 1086 = .ok (.aload_n 0, 1) := by decide +kernel
theorem dL_law_1087 : decode cL_law 1087 = .ok (.iload 4, 2) := by decide +kernel
theorem dL_law_1089 : decode cL_law 1089 = .ok (.iconst 1, 1) := by decide +kernel
theorem dL_law_1090 : decode cL_law 1090 = .ok (.iadd, 1) := by decide +kernel
theorem dL_law_1091 : decode cL_law 1091 = .ok (.iaload, 1) := by decide +kernel
theorem dL_law_1092 : decode cL_law 1092 = .ok (.aload_n 3, 1) := by decide +kernel
theorem dL_law_1093 : decode cL_law 1093 = .ok (.invokestatic 195, 3) := by decide +kernel
theorem dL_law_1096 : decode cL_law 1096 = .ok (.istore 5, 2) := by decide +kernel
theorem dL_law_1098 : decode cL_law 1098 = .ok (.aload_n 2, 1) := by decide +kernel
theorem dL_law_1099 : decode cL_law 1099 = .ok (.aload_n 0, 1) := by decide +kernel
theorem dL_law_1100 : decode cL_law 1100 = .ok (.iload 4, 2) := by decide +kernel
theorem dL_law_1102 : decode cL_law 1102 = .ok (.iconst 1, 1) := by decide +kernel
theorem dL_law_1103 : decode cL_law 1103 = .ok (.iadd, 1) := by decide +kernel
theorem dL_law_1104 : decode cL_law 1104 = .ok (.iaload, 1) := by decide +kernel
theorem dL_law_1105 : decode cL_law 1105 = .ok (.invokevirtual 197, 3) := by decide +kernel
theorem dL_law_1108 : decode cL_law 1108 = .ok (.istore 6, 2) := by decide +kernel
theorem dL_law_1110 : decode cL_law 1110 = .ok (.aload_n 2, 1) := by decide +kernel
theorem dL_law_1111 : decode cL_law 1111 = .ok (.invokevirtual 147, 3) := by decide +kernel
theorem dL_law_1114 : decode cL_law 1114 = .ok (.iload 5, 2) := by decide +kernel
theorem dL_law_1116 : decode cL_law 1116 = .ok (.if_icmp .eq 5, 3) := by decide +kernel
theorem dL_law_1119 : decode cL_law 1119 = .ok (.iconst 0, 1) := by decide +kernel
theorem dL_law_1120 : decode cL_law 1120 = .ok (.ireturn, 1) := by decide +kernel
theorem dL_law_1121 : decode cL_law 1121 = .ok (.iload 5, 2) := by decide +kernel
theorem dL_law_1123 : decode cL_law 1123 = .ok (.ifCond .ne 15, 3) := by decide +kernel
theorem dL_law_1126 : decode cL_law 1126 = .ok (.aload_n 3, 1) := by decide +kernel
theorem dL_law_1127 : decode cL_law 1127 = .ok (.iconst 0, 1) := by decide +kernel
theorem dL_law_1128 : decode cL_law 1128 = .ok (.laload, 1) := by decide +kernel
theorem dL_law_1129 : decode cL_law 1129 = .ok (.iload 6, 2) := by decide +kernel
theorem dL_law_1131 : decode cL_law 1131 = .ok (.i2l, 1) := by decide +kernel
theorem dL_law_1132 : decode cL_law 1132 = .ok (.lcmp, 1) := by decide +kernel
theorem dL_law_1133 : decode cL_law 1133 = .ok (.ifCond .eq 5, 3) := by decide +kernel
theorem dL_law_1136 : decode cL_law 1136 = .ok (.iconst 0, 1) := by decide +kernel
theorem dL_law_1137 : decode cL_law 1137 = .ok (.ireturn, 1) := by decide +kernel
theorem dL_law_1138 : decode cL_law 1138 = .ok (.goto 1486, 3) := by decide +kernel
theorem dL_law_1141 : decode cL_law 1141 = .ok (.aload_n 1, 1) := by decide +kernel
theorem dL_law_1142 : decode cL_law 1142 = .ok (.aload_n 0, 1) := by decide +kernel
theorem dL_law_1143 : decode cL_law 1143 = .ok (.iload 4, 2) := by decide +kernel
theorem dL_law_1145 : decode cL_law 1145 = .ok (.iconst 1, 1) := by decide +kernel
theorem dL_law_1146 : decode cL_law 1146 = .ok (.iadd, 1) := by decide +kernel
theorem dL_law_1147 : decode cL_law 1147 = .ok (.iaload, 1) := by decide +kernel
theorem dL_law_1148 : decode cL_law 1148 = .ok (.aload_n 3, 1) := by decide +kernel
theorem dL_law_1149 : decode cL_law 1149 = .ok (.invokestatic 198, 3) := by decide +kernel
theorem dL_law_1152 : decode cL_law 1152 = .ok (.istore 5, 2) := by decide +kernel
theorem dL_law_1154 : decode cL_law 1154 = .ok (.aload_n 2, 1) := by decide +kernel
theorem dL_law_1155 : decode cL_law 1155 = .ok (.aload_n 0, 1) := by decide +kernel
theorem dL_law_1156 : decode cL_law 1156 = .ok (.iload 4, 2) := by decide +kernel
theorem dL_law_1158 : decode cL_law 1158 = .ok (.iconst 1, 1) := by decide +kernel
theorem dL_law_1159 : decode cL_law 1159 = .ok (.iadd, 1) := by decide +kernel
theorem dL_law_1160 : decode cL_law 1160 = .ok (.iaload, 1) := by decide +kernel
theorem dL_law_1161 : decode cL_law 1161 = .ok (.invokevirtual 200, 3) := by decide +kernel
theorem dL_law_1164 : decode cL_law 1164 = .ok (.istore 6, 2) := by decide +kernel
theorem dL_law_1166 : decode cL_law 1166 = .ok (.aload_n 2, 1) := by decide +kernel
theorem dL_law_1167 : decode cL_law 1167 = .ok (.invokevirtual 147, 3) := by decide +kernel
theorem dL_law_1170 : decode cL_law 1170 = .ok (.iload 5, 2) := by decide +kernel
theorem dL_law_1172 : decode cL_law 1172 = .ok (.if_icmp .eq 5, 3) := by decide +kernel
theorem dL_law_1175 : decode cL_law 1175 = .ok (.iconst 0, 1) := by decide +kernel
theorem dL_law_1176 : decode cL_law 1176 = .ok (.ireturn, 1) := by decide +kernel
theorem dL_law_1177 : decode cL_law 1177 = .ok (.iload 5, 2) := by decide +kernel
theorem dL_law_1179 : decode cL_law 1179 = .ok (.ifCond .ne 15, 3) := by decide +kernel
theorem dL_law_1182 : decode cL_law 1182 = .ok (.aload_n 3, 1) := by decide +kernel
theorem dL_law_1183 : decode cL_law 1183 = .ok (.iconst 0, 1) := by decide +kernel
theorem dL_law_1184 : decode cL_law 1184 = .ok (.laload, 1) := by decide +kernel
theorem dL_law_1185 : decode cL_law 1185 = .ok (.iload 6, 2) := by decide +kernel
theorem dL_law_1187 : decode cL_law 1187 = .ok (.i2l, 1) := by decide +kernel
theorem dL_law_1188 : decode cL_law 1188 = .ok (.lcmp, 1) := by decide +kernel
theorem dL_law_1189 : decode cL_law 1189 = .ok (.ifCond .eq 5, 3) := by decide +kernel
theorem dL_law_1192 : decode cL_law 1192 = .ok (.iconst 0, 1) := by decide +kernel
theorem dL_law_1193 : decode cL_law 1193 = .ok (.ireturn, 1) := by decide +kernel
theorem dL_law_1194 : decode cL_law 1194 = .ok (.goto 1430, 3) := by decide +kernel
theorem dL_law_1197 : decode cL_law 1197 = .ok (.aload_n 1, 1) := by decide +kernel
theorem dL_law_1198 : decode cL_law 1198 = .ok (.aload_n 0, 1) := by decide +kernel
theorem dL_law_1199 : decode cL_law 1199 = .ok (.iload 4, 2) := by decide +kernel
theorem dL_law_1201 : decode cL_law 1201 = .ok (.iconst 1, 1) := by decide +kernel
theorem dL_law_1202 : decode cL_law 1202 = .ok (.iadd, 1) := by decide +kernel
theorem dL_law_1203 : decode cL_law 1203 = .ok (.iaload, 1) := by decide +kernel
theorem dL_law_1204 : decode cL_law 1204 = .ok (.aload_n 3, 1) := by decide +kernel
theorem dL_law_1205 : decode cL_law 1205 = .ok (.invokestatic 201, 3) := by decide +kernel
theorem dL_law_1208 : decode cL_law 1208 = .ok (.istore 5, 2) := by decide +kernel
theorem dL_law_1210 : decode cL_law 1210 = .ok (.aload_n 2, 1) := by decide +kernel
theorem dL_law_1211 : decode cL_law 1211 = .ok (.aload_n 0, 1) := by decide +kernel
theorem dL_law_1212 : decode cL_law 1212 = .ok (.iload 4, 2) := by decide +kernel
theorem dL_law_1214 : decode cL_law 1214 = .ok (.iconst 1, 1) := by decide +kernel
theorem dL_law_1215 : decode cL_law 1215 = .ok (.iadd, 1) := by decide +kernel
theorem dL_law_1216 : decode cL_law 1216 = .ok (.iaload, 1) := by decide +kernel
theorem dL_law_1217 : decode cL_law 1217 = .ok (.invokevirtual 203, 3) := by decide +kernel
theorem dL_law_1220 : decode cL_law 1220 = .ok (.istore 6, 2) := by decide +kernel
theorem dL_law_1222 : decode cL_law 1222 = .ok (.aload_n 2, 1) := by decide +kernel
theorem dL_law_1223 : decode cL_law 1223 = .ok (.invokevirtual 147, 3) := by decide +kernel
theorem dL_law_1226 : decode cL_law 1226 = .ok (.iload 5, 2) := by decide +kernel
theorem dL_law_1228 : decode cL_law 1228 = .ok (.if_icmp .eq 5, 3) := by decide +kernel
theorem dL_law_1231 : decode cL_law 1231 = .ok (.iconst 0, 1) := by decide +kernel
theorem dL_law_1232 : decode cL_law 1232 = .ok (.ireturn, 1) := by decide +kernel
theorem dL_law_1233 : decode cL_law 1233 = .ok (.iload 5, 2) := by decide +kernel
theorem dL_law_1235 : decode cL_law 1235 = .ok (.ifCond .ne 15, 3) := by decide +kernel
theorem dL_law_1238 : decode cL_law 1238 = .ok (.aload_n 3, 1) := by decide +kernel
theorem dL_law_1239 : decode cL_law 1239 = .ok (.iconst 0, 1) := by decide +kernel
theorem dL_law_1240 : decode cL_law 1240 = .ok (.laload, 1) := by decide +kernel
theorem dL_law_1241 : decode cL_law 1241 = .ok (.iload 6, 2) := by decide +kernel
theorem dL_law_1243 : decode cL_law 1243 = .ok (.i2l, 1) := by decide +kernel
theorem dL_law_1244 : decode cL_law 1244 = .ok (.lcmp, 1) := by decide +kernel
theorem dL_law_1245 : decode cL_law 1245 = .ok (.ifCond .eq 5, 3) := by decide +kernel
theorem dL_law_1248 : decode cL_law 1248 = .ok (.iconst 0, 1) := by decide +kernel
theorem dL_law_1249 : decode cL_law 1249 = .ok (.ireturn, 1) := by decide +kernel
theorem dL_law_1250 : decode cL_law 1250 = .ok (.goto 1374, 3) := by decide +kernel
theorem dL_law_1253 : decode cL_law 1253 = .ok (.aload_n 1, 1) := by decide +kernel
theorem dL_law_1254 : decode cL_law 1254 = .ok (.aload_n 0, 1) := by decide +kernel
theorem dL_law_1255 : decode cL_law 1255 = .ok (.iload 4, 2) := by decide +kernel
theorem dL_law_1257 : decode cL_law 1257 = .ok (.iconst 1, 1) := by decide +kernel
theorem dL_law_1258 : decode cL_law 1258 = .ok (.iadd, 1) := by decide +kernel
theorem dL_law_1259 : decode cL_law 1259 = .ok (.iaload, 1) := by decide +kernel
theorem dL_law_1260 : decode cL_law 1260 = .ok (.aload_n 0, 1) := by decide +kernel
theorem dL_law_1261 : decode cL_law 1261 = .ok (.iload 4, 2) := by decide +kernel
theorem dL_law_1263 : decode cL_law 1263 = .ok (.iconst 2, 1) := by decide +kernel
theorem dL_law_1264 : decode cL_law 1264 = .ok (.iadd, 1) := by decide +kernel
theorem dL_law_1265 : decode cL_law 1265 = .ok (.iaload, 1) := by decide +kernel
theorem dL_law_1266 : decode cL_law 1266 = .ok (.aload_n 3, 1) := by decide +kernel
theorem dL_law_1267 : decode cL_law 1267 = .ok (.invokestatic 204, 3) := by decide +kernel
theorem dL_law_1270 : decode cL_law 1270 = .ok (.istore 5, 2) := by decide +kernel
theorem dL_law_1272 : decode cL_law 1272 = .ok (.aload_n 2, 1) := by decide +kernel
theorem dL_law_1273 : decode cL_law 1273 = .ok (.aload_n 0, 1) := by decide +kernel
theorem dL_law_1274 : decode cL_law 1274 = .ok (.iload 4, 2) := by decide +kernel
theorem dL_law_1276 : decode cL_law 1276 = .ok (.iconst 1, 1) := by decide +kernel
theorem dL_law_1277 : decode cL_law 1277 = .ok (.iadd, 1) := by decide +kernel
theorem dL_law_1278 : decode cL_law 1278 = .ok (.iaload, 1) := by decide +kernel
theorem dL_law_1279 : decode cL_law 1279 = .ok (.aload_n 0, 1) := by decide +kernel
theorem dL_law_1280 : decode cL_law 1280 = .ok (.iload 4, 2) := by decide +kernel
theorem dL_law_1282 : decode cL_law 1282 = .ok (.iconst 2, 1) := by decide +kernel
theorem dL_law_1283 : decode cL_law 1283 = .ok (.iadd, 1) := by decide +kernel
theorem dL_law_1284 : decode cL_law 1284 = .ok (.iaload, 1) := by decide +kernel
theorem dL_law_1285 : decode cL_law 1285 = .ok (.invokevirtual 206, 3) := by decide +kernel
theorem dL_law_1288 : decode cL_law 1288 = .ok (.istore 6, 2) := by decide +kernel
theorem dL_law_1290 : decode cL_law 1290 = .ok (.aload_n 2, 1) := by decide +kernel
theorem dL_law_1291 : decode cL_law 1291 = .ok (.invokevirtual 147, 3) := by decide +kernel
theorem dL_law_1294 : decode cL_law 1294 = .ok (.iload 5, 2) := by decide +kernel
theorem dL_law_1296 : decode cL_law 1296 = .ok (.if_icmp .eq 5, 3) := by decide +kernel
theorem dL_law_1299 : decode cL_law 1299 = .ok (.iconst 0, 1) := by decide +kernel
theorem dL_law_1300 : decode cL_law 1300 = .ok (.ireturn, 1) := by decide +kernel
theorem dL_law_1301 : decode cL_law 1301 = .ok (.iload 5, 2) := by decide +kernel
theorem dL_law_1303 : decode cL_law 1303 = .ok (.ifCond .ne 15, 3) := by decide +kernel
theorem dL_law_1306 : decode cL_law 1306 = .ok (.aload_n 3, 1) := by decide +kernel
theorem dL_law_1307 : decode cL_law 1307 = .ok (.iconst 0, 1) := by decide +kernel
theorem dL_law_1308 : decode cL_law 1308 = .ok (.laload, 1) := by decide +kernel
theorem dL_law_1309 : decode cL_law 1309 = .ok (.iload 6, 2) := by decide +kernel
theorem dL_law_1311 : decode cL_law 1311 = .ok (.i2l, 1) := by decide +kernel
theorem dL_law_1312 : decode cL_law 1312 = .ok (.lcmp, 1) := by decide +kernel
theorem dL_law_1313 : decode cL_law 1313 = .ok (.ifCond .eq 5, 3) := by decide +kernel
theorem dL_law_1316 : decode cL_law 1316 = .ok (.iconst 0, 1) := by decide +kernel
theorem dL_law_1317 : decode cL_law 1317 = .ok (.ireturn, 1) := by decide +kernel
theorem dL_law_1318 : decode cL_law 1318 = .ok (.goto 1306, 3) := by decide +kernel
theorem dL_law_1321 : decode cL_law 1321 = .ok (.aload_n 1, 1) := by decide +kernel
theorem dL_law_1322 : decode cL_law 1322 = .ok (.aload_n 0, 1) := by decide +kernel
theorem dL_law_1323 : decode cL_law 1323 = .ok (.iload 4, 2) := by decide +kernel
theorem dL_law_1325 : decode cL_law 1325 = .ok (.iconst 1, 1) := by decide +kernel
theorem dL_law_1326 : decode cL_law 1326 = .ok (.iadd, 1) := by decide +kernel
theorem dL_law_1327 : decode cL_law 1327 = .ok (.iaload, 1) := by decide +kernel
theorem dL_law_1328 : decode cL_law 1328 = .ok (.aload_n 0, 1) := by decide +kernel
theorem dL_law_1329 : decode cL_law 1329 = .ok (.iload 4, 2) := by decide +kernel
theorem dL_law_1331 : decode cL_law 1331 = .ok (.iconst 2, 1) := by decide +kernel
theorem dL_law_1332 : decode cL_law 1332 = .ok (.iadd, 1) := by decide +kernel
theorem dL_law_1333 : decode cL_law 1333 = .ok (.iaload, 1) := by decide +kernel
theorem dL_law_1334 : decode cL_law 1334 = .ok (.aload_n 3, 1) := by decide +kernel
theorem dL_law_1335 : decode cL_law 1335 = .ok (.invokestatic 207, 3) := by decide +kernel
theorem dL_law_1338 : decode cL_law 1338 = .ok (.istore 5, 2) := by decide +kernel
theorem dL_law_1340 : decode cL_law 1340 = .ok (.aload_n 2, 1) := by decide +kernel
theorem dL_law_1341 : decode cL_law 1341 = .ok (.aload_n 0, 1) := by decide +kernel
theorem dL_law_1342 : decode cL_law 1342 = .ok (.iload 4, 2) := by decide +kernel
theorem dL_law_1344 : decode cL_law 1344 = .ok (.iconst 1, 1) := by decide +kernel
theorem dL_law_1345 : decode cL_law 1345 = .ok (.iadd, 1) := by decide +kernel
theorem dL_law_1346 : decode cL_law 1346 = .ok (.iaload, 1) := by decide +kernel
theorem dL_law_1347 : decode cL_law 1347 = .ok (.aload_n 0, 1) := by decide +kernel
theorem dL_law_1348 : decode cL_law 1348 = .ok (.iload 4, 2) := by decide +kernel
theorem dL_law_1350 : decode cL_law 1350 = .ok (.iconst 2, 1) := by decide +kernel
theorem dL_law_1351 : decode cL_law 1351 = .ok (.iadd, 1) := by decide +kernel
theorem dL_law_1352 : decode cL_law 1352 = .ok (.iaload, 1) := by decide +kernel
theorem dL_law_1353 : decode cL_law 1353 = .ok (.invokevirtual 209, 3) := by decide +kernel
theorem dL_law_1356 : decode cL_law 1356 = .ok (.istore 6, 2) := by decide +kernel
theorem dL_law_1358 : decode cL_law 1358 = .ok (.aload_n 2, 1) := by decide +kernel
theorem dL_law_1359 : decode cL_law 1359 = .ok (.invokevirtual 147, 3) := by decide +kernel
theorem dL_law_1362 : decode cL_law 1362 = .ok (.iload 5, 2) := by decide +kernel
theorem dL_law_1364 : decode cL_law 1364 = .ok (.if_icmp .eq 5, 3) := by decide +kernel
theorem dL_law_1367 : decode cL_law 1367 = .ok (.iconst 0, 1) := by decide +kernel
theorem dL_law_1368 : decode cL_law 1368 = .ok (.ireturn, 1) := by decide +kernel
theorem dL_law_1369 : decode cL_law 1369 = .ok (.iload 5, 2) := by decide +kernel
theorem dL_law_1371 : decode cL_law 1371 = .ok (.ifCond .ne 15, 3) := by decide +kernel
theorem dL_law_1374 : decode cL_law 1374 = .ok (.aload_n 3, 1) := by decide +kernel
theorem dL_law_1375 : decode cL_law 1375 = .ok (.iconst 0, 1) := by decide +kernel
theorem dL_law_1376 : decode cL_law 1376 = .ok (.laload, 1) := by decide +kernel
theorem dL_law_1377 : decode cL_law 1377 = .ok (.iload 6, 2) := by decide +kernel
theorem dL_law_1379 : decode cL_law 1379 = .ok (.i2l, 1) := by decide +kernel
theorem dL_law_1380 : decode cL_law 1380 = .ok (.lcmp, 1) := by decide +kernel
theorem dL_law_1381 : decode cL_law 1381 = .ok (.ifCond .eq 5, 3) := by decide +kernel
theorem dL_law_1384 : decode cL_law 1384 = .ok (.iconst 0, 1) := by decide +kernel
theorem dL_law_1385 : decode cL_law 1385 = .ok (.ireturn, 1) := by decide +kernel
theorem dL_law_1386 : decode cL_law 1386 = .ok (.goto 1238, 3) := by decide +kernel
theorem dL_law_1389 : decode cL_law 1389 = .ok (.aload_n 1, 1) := by decide +kernel
theorem dL_law_1390 : decode cL_law 1390 = .ok (.aload_n 0, 1) := by decide +kernel
theorem dL_law_1391 : decode cL_law 1391 = .ok (.iload 4, 2) := by decide +kernel
theorem dL_law_1393 : decode cL_law 1393 = .ok (.iconst 1, 1) := by decide +kernel
theorem dL_law_1394 : decode cL_law 1394 = .ok (.iadd, 1) := by decide +kernel
theorem dL_law_1395 : decode cL_law 1395 = .ok (.iaload, 1) := by decide +kernel
theorem dL_law_1396 : decode cL_law 1396 = .ok (.aload_n 0, 1) := by decide +kernel
theorem dL_law_1397 : decode cL_law 1397 = .ok (.iload 4, 2) := by decide +kernel
theorem dL_law_1399 : decode cL_law 1399 = .ok (.iconst 2, 1) := by decide +kernel
theorem dL_law_1400 : decode cL_law 1400 = .ok (.iadd, 1) := by decide +kernel
theorem dL_law_1401 : decode cL_law 1401 = .ok (.iaload, 1) := by decide +kernel
theorem dL_law_1402 : decode cL_law 1402 = .ok (.aload_n 3, 1) := by decide +kernel
theorem dL_law_1403 : decode cL_law 1403 = .ok (.invokestatic 210, 3) := by decide +kernel
theorem dL_law_1406 : decode cL_law 1406 = .ok (.istore 5, 2) := by decide +kernel
theorem dL_law_1408 : decode cL_law 1408 = .ok (.aload_n 2, 1) := by decide +kernel
theorem dL_law_1409 : decode cL_law 1409 = .ok (.aload_n 0, 1) := by decide +kernel
theorem dL_law_1410 : decode cL_law 1410 = .ok (.iload 4, 2) := by decide +kernel
theorem dL_law_1412 : decode cL_law 1412 = .ok (.iconst 1, 1) := by decide +kernel
theorem dL_law_1413 : decode cL_law 1413 = .ok (.iadd, 1) := by decide +kernel
theorem dL_law_1414 : decode cL_law 1414 = .ok (.iaload, 1) := by decide +kernel
theorem dL_law_1415 : decode cL_law 1415 = .ok (.aload_n 0, 1) := by decide +kernel
theorem dL_law_1416 : decode cL_law 1416 = .ok (.iload 4, 2) := by decide +kernel
theorem dL_law_1418 : decode cL_law 1418 = .ok (.iconst 2, 1) := by decide +kernel
theorem dL_law_1419 : decode cL_law 1419 = .ok (.iadd, 1) := by decide +kernel
theorem dL_law_1420 : decode cL_law 1420 = .ok (.iaload, 1) := by decide +kernel
theorem dL_law_1421 : decode cL_law 1421 = .ok (.invokevirtual 212, 3) := by decide +kernel
theorem dL_law_1424 : decode cL_law 1424 = .ok (.istore 6, 2) := by decide +kernel
theorem dL_law_1426 : decode cL_law 1426 = .ok (.aload_n 2, 1) := by decide +kernel
theorem dL_law_1427 : decode cL_law 1427 = .ok (.invokevirtual 147, 3) := by decide +kernel
theorem dL_law_1430 : decode cL_law 1430 = .ok (.iload 5, 2) := by decide +kernel
theorem dL_law_1432 : decode cL_law 1432 = .ok (.if_icmp .eq 5, 3) := by decide +kernel
theorem dL_law_1435 : decode cL_law 1435 = .ok (.iconst 0, 1) := by decide +kernel
theorem dL_law_1436 : decode cL_law 1436 = .ok (.ireturn, 1) := by decide +kernel
theorem dL_law_1437 : decode cL_law 1437 = .ok (.iload 5, 2) := by decide +kernel
theorem dL_law_1439 : decode cL_law 1439 = .ok (.ifCond .ne 15, 3) := by decide +kernel
theorem dL_law_1442 : decode cL_law 1442 = .ok (.aload_n 3, 1) := by decide +kernel
theorem dL_law_1443 : decode cL_law 1443 = .ok (.iconst 0, 1) := by decide +kernel
theorem dL_law_1444 : decode cL_law 1444 = .ok (.laload, 1) := by decide +kernel
theorem dL_law_1445 : decode cL_law 1445 = .ok (.iload 6, 2) := by decide +kernel
theorem dL_law_1447 : decode cL_law 1447 = .ok (.i2l, 1) := by decide +kernel
theorem dL_law_1448 : decode cL_law 1448 = .ok (.lcmp, 1) := by decide +kernel
theorem dL_law_1449 : decode cL_law 1449 = .ok (.ifCond .eq 5, 3) := by decide +kernel
theorem dL_law_1452 : decode cL_law 1452 = .ok (.iconst 0, 1) := by decide +kernel
theorem dL_law_1453 : decode cL_law 1453 = .ok (.ireturn, 1) := by decide +kernel
theorem dL_law_1454 : decode cL_law 1454 = .ok (.goto 1170, 3) := by decide +kernel
theorem dL_law_1457 : decode cL_law 1457 = .ok (.aload_n 1, 1) := by decide +kernel
theorem dL_law_1458 : decode cL_law 1458 = .ok (.aload_n 0, 1) := by decide +kernel
theorem dL_law_1459 : decode cL_law 1459 = .ok (.iload 4, 2) := by decide +kernel
theorem dL_law_1461 : decode cL_law 1461 = .ok (.iconst 1, 1) := by decide +kernel
theorem dL_law_1462 : decode cL_law 1462 = .ok (.iadd, 1) := by decide +kernel
theorem dL_law_1463 : decode cL_law 1463 = .ok (.iaload, 1) := by decide +kernel
theorem dL_law_1464 : decode cL_law 1464 = .ok (.aload_n 0, 1) := by decide +kernel
theorem dL_law_1465 : decode cL_law 1465 = .ok (.iload 4, 2) := by decide +kernel
theorem dL_law_1467 : decode cL_law 1467 = .ok (.iconst 2, 1) := by decide +kernel
theorem dL_law_1468 : decode cL_law 1468 = .ok (.iadd, 1) := by decide +kernel
theorem dL_law_1469 : decode cL_law 1469 = .ok (.iaload, 1) := by decide +kernel
theorem dL_law_1470 : decode cL_law 1470 = .ok (.aload_n 3, 1) := by decide +kernel
theorem dL_law_1471 : decode cL_law 1471 = .ok (.invokestatic 213, 3) := by decide +kernel
theorem dL_law_1474 : decode cL_law 1474 = .ok (.istore 5, 2) := by decide +kernel
theorem dL_law_1476 : decode cL_law 1476 = .ok (.aload_n 2, 1) := by decide +kernel
theorem dL_law_1477 : decode cL_law 1477 = .ok (.aload_n 0, 1) := by decide +kernel
theorem dL_law_1478 : decode cL_law 1478 = .ok (.iload 4, 2) := by decide +kernel
theorem dL_law_1480 : decode cL_law 1480 = .ok (.iconst 1, 1) := by decide +kernel
theorem dL_law_1481 : decode cL_law 1481 = .ok (.iadd, 1) := by decide +kernel
theorem dL_law_1482 : decode cL_law 1482 = .ok (.iaload, 1) := by decide +kernel
theorem dL_law_1483 : decode cL_law 1483 = .ok (.aload_n 0, 1) := by decide +kernel
theorem dL_law_1484 : decode cL_law 1484 = .ok (.iload 4, 2) := by decide +kernel
theorem dL_law_1486 : decode cL_law 1486 = .ok (.iconst 2, 1) := by decide +kernel
theorem dL_law_1487 : decode cL_law 1487 = .ok (.iadd, 1) := by decide +kernel
theorem dL_law_1488 : decode cL_law 1488 = .ok (.iaload, 1) := by decide +kernel
theorem dL_law_1489 : decode cL_law 1489 = .ok (.invokevirtual 215, 3) := by decide +kernel
theorem dL_law_1492 : decode cL_law 1492 = .ok (.istore 6, 2) := by decide +kernel
theorem dL_law_1494 : decode cL_law 1494 = .ok (.aload_n 2, 1) := by decide +kernel
theorem dL_law_1495 : decode cL_law 1495 = .ok (.invokevirtual 147, 3) := by decide +kernel
theorem dL_law_1498 : decode cL_law 1498 = .ok (.iload 5, 2) := by decide +kernel
theorem dL_law_1500 : decode cL_law 1500 = .ok (.if_icmp .eq 5, 3) := by decide +kernel
theorem dL_law_1503 : decode cL_law 1503 = .ok (.iconst 0, 1) := by decide +kernel
theorem dL_law_1504 : decode cL_law 1504 = .ok (.ireturn, 1) := by decide +kernel
theorem dL_law_1505 : decode cL_law 1505 = .ok (.iload 5, 2) := by decide +kernel
theorem dL_law_1507 : decode cL_law 1507 = .ok (.ifCond .ne 15, 3) := by decide +kernel
theorem dL_law_1510 : decode cL_law 1510 = .ok (.aload_n 3, 1) := by decide +kernel
theorem dL_law_1511 : decode cL_law 1511 = .ok (.iconst 0, 1) := by decide +kernel
theorem dL_law_1512 : decode cL_law 1512 = .ok (.laload, 1) := by decide +kernel
theorem dL_law_1513 : decode cL_law 1513 = .ok (.iload 6, 2) := by decide +kernel
theorem dL_law_1515 : decode cL_law 1515 = .ok (.i2l, 1) := by decide +kernel
theorem dL_law_1516 : decode cL_law 1516 = .ok (.lcmp, 1) := by decide +kernel
theorem dL_law_1517 : decode cL_law 1517 = .ok (.ifCond .eq 5, 3) := by decide +kernel
theorem dL_law_1520 : decode cL_law 1520 = .ok (.iconst 0, 1) := by decide +kernel
theorem dL_law_1521 : decode cL_law 1521 = .ok (.ireturn, 1) := by decide +kernel
theorem dL_law_1522 : decode cL_law 1522 = .ok (.goto 1102, 3) := by decide +kernel
theorem dL_law_1525 : decode cL_law 1525 = .ok (.aload_n 1, 1) := by decide +kernel
theorem dL_law_1526 : decode cL_law 1526 = .ok (.invokevirtual 216, 3) := by decide +kernel
theorem dL_law_1529 : decode cL_law 1529 = .ok (.aload_n 2, 1) := by decide +kernel
theorem dL_law_1530 : decode cL_law 1530 = .ok (.invokevirtual 219, 3) := by decide +kernel
theorem dL_law_1533 : decode cL_law 1533 = .ok (.if_icmp .eq 1091, 3) := by decide +kernel
theorem dL_law_1536 : decode cL_law 1536 = .ok (.iconst 0, 1) := by decide +kernel
theorem dL_law_1537 : decode cL_law 1537 = .ok (.ireturn, 1) := by decide +kernel
theorem dL_law_1538 : decode cL_law 1538 = .ok (.aload_n 1, 1) := by decide +kernel
theorem dL_law_1539 : decode cL_law 1539 = .ok (.aload_n 0, 1) := by decide +kernel
theorem dL_law_1540 : decode cL_law 1540 = .ok (.iload 4, 2) := by decide +kernel
theorem dL_law_1542 : decode cL_law 1542 = .ok (.iconst 1, 1) := by decide +kernel
theorem dL_law_1543 : decode cL_law 1543 = .ok (.iadd, 1) := by decide +kernel
theorem dL_law_1544 : decode cL_law 1544 = .ok (.iaload, 1) := by decide +kernel
theorem dL_law_1545 : decode cL_law 1545 = .ok (.aload_n 3, 1) := by decide +kernel
theorem dL_law_1546 : decode cL_law 1546 = .ok (.invokestatic 220, 3) := by decide +kernel
theorem dL_law_1549 : decode cL_law 1549 = .ok (.istore 5, 2) := by decide +kernel
theorem dL_law_1551 : decode cL_law 1551 = .ok (.aload_n 2, 1) := by decide +kernel
theorem dL_law_1552 : decode cL_law 1552 = .ok (.aload_n 0, 1) := by decide +kernel
theorem dL_law_1553 : decode cL_law 1553 = .ok (.iload 4, 2) := by decide +kernel
theorem dL_law_1555 : decode cL_law 1555 = .ok (.iconst 1, 1) := by decide +kernel
theorem dL_law_1556 : decode cL_law 1556 = .ok (.iadd, 1) := by decide +kernel
theorem dL_law_1557 : decode cL_law 1557 = .ok (.iaload, 1) := by decide +kernel
theorem dL_law_1558 : decode cL_law 1558 = .ok (.invokevirtual 222, 3) := by decide +kernel
theorem dL_law_1561 : decode cL_law 1561 = .ok (.istore 6, 2) := by decide +kernel
theorem dL_law_1563 : decode cL_law 1563 = .ok (.aload_n 2, 1) := by decide +kernel
theorem dL_law_1564 : decode cL_law 1564 = .ok (.invokevirtual 147, 3) := by decide +kernel
theorem dL_law_1567 : decode cL_law 1567 = .ok (.iload 5, 2) := by decide +kernel
theorem dL_law_1569 : decode cL_law 1569 = .ok (.if_icmp .eq 5, 3) := by decide +kernel
theorem dL_law_1572 : decode cL_law 1572 = .ok (.iconst 0, 1) := by decide +kernel
theorem dL_law_1573 : decode cL_law 1573 = .ok (.ireturn, 1) := by decide +kernel
theorem dL_law_1574 : decode cL_law 1574 = .ok (.iload 5, 2) := by decide +kernel
theorem dL_law_1576 : decode cL_law 1576 = .ok (.ifCond .ne 15, 3) := by decide +kernel
theorem dL_law_1579 : decode cL_law 1579 = .ok (.aload_n 3, 1) := by decide +kernel
theorem dL_law_1580 : decode cL_law 1580 = .ok (.iconst 0, 1) := by decide +kernel
theorem dL_law_1581 : decode cL_law 1581 = .ok (.laload, 1) := by decide +kernel
theorem dL_law_1582 : decode cL_law 1582 = .ok (.iload 6, 2) := by decide +kernel
theorem dL_law_1584 : decode cL_law 1584 = .ok (.i2l, 1) := by decide +kernel
theorem dL_law_1585 : decode cL_law 1585 = .ok (.lcmp, 1) := by decide +kernel
theorem dL_law_1586 : decode cL_law 1586 = .ok (.ifCond .eq 5, 3) := by decide +kernel
theorem dL_law_1589 : decode cL_law 1589 = .ok (.iconst 0, 1) := by decide +kernel
theorem dL_law_1590 : decode cL_law 1590 = .ok (.ireturn, 1) := by decide +kernel
theorem dL_law_1591 : decode cL_law 1591 = .ok (.goto 1033, 3) := by decide +kernel
theorem dL_law_1594 : decode cL_law 1594 = .ok (.aload_n 1, 1) := by decide +kernel
theorem dL_law_1595 : decode cL_law 1595 = .ok (.aload_n 0, 1) := by decide +kernel
theorem dL_law_1596 : decode cL_law 1596 = .ok (.iload 4, 2) := by decide +kernel
theorem dL_law_1598 : decode cL_law 1598 = .ok (.iconst 1, 1) := by decide +kernel
theorem dL_law_1599 : decode cL_law 1599 = .ok (.iadd, 1) := by decide +kernel
theorem dL_law_1600 : decode cL_law 1600 = .ok (.iaload, 1) := by decide +kernel
theorem dL_law_1601 : decode cL_law 1601 = .ok (.aload_n 3, 1) := by decide +kernel
theorem dL_law_1602 : decode cL_law 1602 = .ok (.invokestatic 223, 3) := by decide +kernel
theorem dL_law_1605 : decode cL_law 1605 = .ok (.istore 5, 2) := by decide +kernel
theorem dL_law_1607 : decode cL_law 1607 = .ok (.aload_n 2, 1) := by decide +kernel
theorem dL_law_1608 : decode cL_law 1608 = .ok (.aload_n 0, 1) := by decide +kernel
theorem dL_law_1609 : decode cL_law 1609 = .ok (.iload 4, 2) := by decide +kernel
theorem dL_law_1611 : decode cL_law 1611 = .ok (.iconst 1, 1) := by decide +kernel
theorem dL_law_1612 : decode cL_law 1612 = .ok (.iadd, 1) := by decide +kernel
theorem dL_law_1613 : decode cL_law 1613 = .ok (.iaload, 1) := by decide +kernel
theorem dL_law_1614 : decode cL_law 1614 = .ok (.invokevirtual 225, 3) := by decide +kernel
theorem dL_law_1617 : decode cL_law 1617 = .ok (.istore 6, 2) := by decide +kernel
theorem dL_law_1619 : decode cL_law 1619 = .ok (.aload_n 2, 1) := by decide +kernel
theorem dL_law_1620 : decode cL_law 1620 = .ok (.invokevirtual 147, 3) := by decide +kernel
theorem dL_law_1623 : decode cL_law 1623 = .ok (.iload 5, 2) := by decide +kernel
theorem dL_law_1625 : decode cL_law 1625 = .ok (.if_icmp .eq 5, 3) := by decide +kernel
theorem dL_law_1628 : decode cL_law 1628 = .ok (.iconst 0, 1) := by decide +kernel
theorem dL_law_1629 : decode cL_law 1629 = .ok (.ireturn, 1) := by decide +kernel
theorem dL_law_1630 : decode cL_law 1630 = .ok (.iload 5, 2) := by decide +kernel
theorem dL_law_1632 : decode cL_law 1632 = .ok (.ifCond .ne 15, 3) := by decide +kernel
theorem dL_law_1635 : decode cL_law 1635 = .ok (.aload_n 3, 1) := by decide +kernel
theorem dL_law_1636 : decode cL_law 1636 = .ok (.iconst 0, 1) := by decide +kernel
theorem dL_law_1637 : decode cL_law 1637 = .ok (.laload, 1) := by decide +kernel
theorem dL_law_1638 : decode cL_law 1638 = .ok (.iload 6, 2) := by decide +kernel
theorem dL_law_1640 : decode cL_law 1640 = .ok (.i2l, 1) := by decide +kernel
theorem dL_law_1641 : decode cL_law 1641 = .ok (.lcmp, 1) := by decide +kernel
theorem dL_law_1642 : decode cL_law 1642 = .ok (.ifCond .eq 5, 3) := by decide +kernel
theorem dL_law_1645 : decode cL_law 1645 = .ok (.iconst 0, 1) := by decide +kernel
theorem dL_law_1646 : decode cL_law 1646 = .ok (.ireturn, 1) := by decide +kernel
theorem dL_law_1647 : decode cL_law 1647 = .ok (.goto 977, 3) := by decide +kernel
theorem dL_law_1650 : decode cL_law 1650 = .ok (.aload_n 1, 1) := by decide +kernel
theorem dL_law_1651 : decode cL_law 1651 = .ok (.invokevirtual 226, 3) := by decide +kernel
theorem dL_law_1654 : decode cL_law 1654 = .ok (.aload_n 2, 1) := by decide +kernel
theorem dL_law_1655 : decode cL_law 1655 = .ok (.invokevirtual 229, 3) := by decide +kernel
theorem dL_law_1658 : decode cL_law 1658 = .ok (.if_icmp .eq 966, 3) := by decide +kernel
theorem dL_law_1661 : decode cL_law 1661 = .ok (.iconst 0, 1) := by decide +kernel
theorem dL_law_1662 : decode cL_law 1662 = .ok (.ireturn, 1) := by decide +kernel
theorem dL_law_1663 : decode cL_law 1663 = .ok (.aload_n 1, 1) := by decide +kernel
theorem dL_law_1664 : decode cL_law 1664 = .ok (.aload_n 3, 1) := by decide +kernel
theorem dL_law_1665 : decode cL_law 1665 = .ok (.invokestatic 230, 3) := by decide +kernel
theorem dL_law_1668 : decode cL_law 1668 = .ok (.istore 5, 2) := by decide +kernel
theorem dL_law_1670 : decode cL_law 1670 = .ok (.aload_n 2, 1) := by decide +kernel
theorem dL_law_1671 : decode cL_law 1671 = .ok (.invokevirtual 233, 3) := by decide +kernel
theorem dL_law_1674 : decode cL_law 1674 = .ok (.istore 6, 2) := by decide +kernel
theorem dL_law_1676 : decode cL_law 1676 = .ok (.aload_n 2, 1) := by decide +kernel
theorem dL_law_1677 : decode cL_law 1677 = .ok (.invokevirtual 147, 3) := by decide +kernel
theorem dL_law_1680 : decode cL_law 1680 = .ok (.iload 5, 2) := by decide +kernel
theorem dL_law_1682 : decode cL_law 1682 = .ok (.if_icmp .eq 5, 3) := by decide +kernel
theorem dL_law_1685 : decode cL_law 1685 = .ok (.iconst 0, 1) := by decide +kernel
theorem dL_law_1686 : decode cL_law 1686 = .ok (.ireturn, 1) := by decide +kernel
theorem dL_law_1687 : decode cL_law 1687 = .ok (.iload 5, 2) := by decide +kernel
theorem dL_law_1689 : decode cL_law 1689 = .ok (.ifCond .ne 15, 3) := by decide +kernel
theorem dL_law_1692 : decode cL_law 1692 = .ok (.aload_n 3, 1) := by decide +kernel
theorem dL_law_1693 : decode cL_law 1693 = .ok (.iconst 0, 1) := by decide +kernel
theorem dL_law_1694 : decode cL_law 1694 = .ok (.laload, 1) := by decide +kernel
theorem dL_law_1695 : decode cL_law 1695 = .ok (.iload 6, 2) := by decide +kernel
theorem dL_law_1697 : decode cL_law 1697 = .ok (.i2l, 1) := by decide +kernel
theorem dL_law_1698 : decode cL_law 1698 = .ok (.lcmp, 1) := by decide +kernel
theorem dL_law_1699 : decode cL_law 1699 = .ok (.ifCond .eq 5, 3) := by decide +kernel
theorem dL_law_1702 : decode cL_law 1702 = .ok (.iconst 0, 1) := by decide +kernel
theorem dL_law_1703 : decode cL_law 1703 = .ok (.ireturn, 1) := by decide +kernel
theorem dL_law_1704 : decode cL_law 1704 = .ok (.goto 920, 3) := by decide +kernel
theorem dL_law_1707 : decode cL_law 1707 = .ok (.aload_n 1, 1) := by decide +kernel
theorem dL_law_1708 : decode cL_law 1708 = .ok (.aload_n 0, 1) := by decide +kernel
theorem dL_law_1709 : decode cL_law 1709 = .ok (.iload 4, 2) := by decide +kernel
theorem dL_law_1711 : decode cL_law 1711 = .ok (.iconst 1, 1) := by decide +kernel
theorem dL_law_1712 : decode cL_law 1712 = .ok (.iadd, 1) := by decide +kernel
theorem dL_law_1713 : decode cL_law 1713 = .ok (.iaload, 1) := by decide +kernel
theorem dL_law_1714 : decode cL_law 1714 = .ok (.aload_n 3, 1) := by decide +kernel
theorem dL_law_1715 : decode cL_law 1715 = .ok (.invokestatic 234, 3) := by decide +kernel
theorem dL_law_1718 : decode cL_law 1718 = .ok (.istore 5, 2) := by decide +kernel
theorem dL_law_1720 : decode cL_law 1720 = .ok (.aload_n 2, 1) := by decide +kernel
theorem dL_law_1721 : decode cL_law 1721 = .ok (.aload_n 0, 1) := by decide +kernel
theorem dL_law_1722 : decode cL_law 1722 = .ok (.iload 4, 2) := by decide +kernel
theorem dL_law_1724 : decode cL_law 1724 = .ok (.iconst 1, 1) := by decide +kernel
theorem dL_law_1725 : decode cL_law 1725 = .ok (.iadd, 1) := by decide +kernel
theorem dL_law_1726 : decode cL_law 1726 = .ok (.iaload, 1) := by decide +kernel
theorem dL_law_1727 : decode cL_law 1727 = .ok (.invokevirtual 236, 3) := by decide +kernel
theorem dL_law_1730 : decode cL_law 1730 = .ok (.istore 6, 2) := by decide +kernel
theorem dL_law_1732 : decode cL_law 1732 = .ok (.aload_n 2, 1) := by decide +kernel
theorem dL_law_1733 : decode cL_law 1733 = .ok (.invokevirtual 147, 3) := by decide +kernel
theorem dL_law_1736 : decode cL_law 1736 = .ok (.iload 5, 2) := by decide +kernel
theorem dL_law_1738 : decode cL_law 1738 = .ok (.if_icmp .eq 5, 3) := by decide +kernel
theorem dL_law_1741 : decode cL_law 1741 = .ok (.iconst 0, 1) := by decide +kernel
theorem dL_law_1742 : decode cL_law 1742 = .ok (.ireturn, 1) := by decide +kernel
theorem dL_law_1743 : decode cL_law 1743 = .ok (.iload 5, 2) := by decide +kernel
theorem dL_law_1745 : decode cL_law 1745 = .ok (.ifCond .ne 15, 3) := by decide +kernel
theorem dL_law_1748 : decode cL_law 1748 = .ok (.aload_n 3, 1) := by decide +kernel
theorem dL_law_1749 : decode cL_law 1749 = .ok (.iconst 0, 1) := by decide +kernel
theorem dL_law_1750 : decode cL_law 1750 = .ok (.laload, 1) := by decide +kernel
theorem dL_law_1751 : decode cL_law 1751 = .ok (.iload 6, 2) := by decide +kernel
theorem dL_law_1753 : decode cL_law 1753 = .ok (.i2l, 1) := by decide +kernel
theorem dL_law_1754 : decode cL_law 1754 = .ok (.lcmp, 1) := by decide +kernel
theorem dL_law_1755 : decode cL_law 1755 = .ok (.ifCond .eq 5, 3) := by decide +kernel
theorem dL_law_1758 : decode cL_law 1758 = .ok (.iconst 0, 1) := by decide +kernel
theorem dL_law_1759 : decode cL_law 1759 = .ok (.ireturn, 1) := by decide +kernel
theorem dL_law_1760 : decode cL_law 1760 = .ok (.goto 864, 3) := by decide +kernel
theorem dL_law_1763 : decode cL_law 1763 = .ok (.aload_n 1, 1) := by decide +kernel
theorem dL_law_1764 : decode cL_law 1764 = .ok (.aload_n 0, 1) := by decide +kernel
theorem dL_law_1765 : decode cL_law 1765 = .ok (.iload 4, 2) := by decide +kernel
theorem dL_law_1767 : decode cL_law 1767 = .ok (.iconst 1, 1) := by decide +kernel
theorem dL_law_1768 : decode cL_law 1768 = .ok (.iadd, 1) := by decide +kernel
theorem dL_law_1769 : decode cL_law 1769 = .ok (.iaload, 1) := by decide +kernel
theorem dL_law_1770 : decode cL_law 1770 = .ok (.aload_n 3, 1) := by decide +kernel
theorem dL_law_1771 : decode cL_law 1771 = .ok (.invokestatic 237, 3) := by decide +kernel
theorem dL_law_1774 : decode cL_law 1774 = .ok (.istore 5, 2) := by decide +kernel
theorem dL_law_1776 : decode cL_law 1776 = .ok (.aload_n 2, 1) := by decide +kernel
theorem dL_law_1777 : decode cL_law 1777 = .ok (.aload_n 0, 1) := by decide +kernel
theorem dL_law_1778 : decode cL_law 1778 = .ok (.iload 4, 2) := by decide +kernel
theorem dL_law_1780 : decode cL_law 1780 = .ok (.iconst 1, 1) := by decide +kernel
theorem dL_law_1781 : decode cL_law 1781 = .ok (.iadd, 1) := by decide +kernel
theorem dL_law_1782 : decode cL_law 1782 = .ok (.iaload, 1) := by decide +kernel
theorem dL_law_1783 : decode cL_law 1783 = .ok (.invokevirtual 239, 3) := by decide +kernel
theorem dL_law_1786 : decode cL_law 1786 = .ok (.istore 6, 2) := by decide +kernel
theorem dL_law_1788 : decode cL_law 1788 = .ok (.aload_n 2, 1) := by decide +kernel
theorem dL_law_1789 : decode cL_law 1789 = .ok (.invokevirtual 147, 3) := by decide +kernel
theorem dL_law_1792 : decode cL_law 1792 = .ok (.iload 5, 2) := by decide +kernel
theorem dL_law_1794 : decode cL_law 1794 = .ok (.if_icmp .eq 5, 3) := by decide +kernel
theorem dL_law_1797 : decode cL_law 1797 = .ok (.iconst 0, 1) := by decide +kernel
theorem dL_law_1798 : decode cL_law 1798 = .ok (.ireturn, 1) := by decide +kernel
theorem dL_law_1799 : decode cL_law 1799 = .ok (.iload 5, 2) := by decide +kernel
theorem dL_law_1801 : decode cL_law 1801 = .ok (.ifCond .ne 15, 3) := by decide +kernel
theorem dL_law_1804 : decode cL_law 1804 = .ok (.aload_n 3, 1) := by decide +kernel
theorem dL_law_1805 : decode cL_law 1805 = .ok (.iconst 0, 1) := by decide +kernel
theorem dL_law_1806 : decode cL_law 1806 = .ok (.laload, 1) := by decide +kernel
theorem dL_law_1807 : decode cL_law 1807 = .ok (.iload 6, 2) := by decide +kernel
theorem dL_law_1809 : decode cL_law 1809 = .ok (.i2l, 1) := by decide +kernel
theorem dL_law_1810 : decode cL_law 1810 = .ok (.lcmp, 1) := by decide +kernel
theorem dL_law_1811 : decode cL_law 1811 = .ok (.ifCond .eq 5, 3) := by decide +kernel
theorem dL_law_1814 : decode cL_law 1814 = .ok (.iconst 0, 1) := by decide +kernel
theorem dL_law_1815 : decode cL_law 1815 = .ok (.ireturn, 1) := by decide +kernel
theorem dL_law_1816 : decode cL_law 1816 = .ok (.goto 808, 3) := by decide +kernel
theorem dL_law_1819 : decode cL_law 1819 = .ok (.aload_n 1, 1) := by decide +kernel
theorem dL_law_1820 : decode cL_law 1820 = .ok (.aload_n 0, 1) := by decide +kernel
theorem dL_law_1821 : decode cL_law 1821 = .ok (.iload 4, 2) := by decide +kernel
theorem dL_law_1823 : decode cL_law 1823 = .ok (.iconst 1, 1) := by decide +kernel
theorem dL_law_1824 : decode cL_law 1824 = .ok (.iadd, 1) := by decide +kernel
theorem dL_law_1825 : decode cL_law 1825 = .ok (.iaload, 1) := by decide +kernel
theorem dL_law_1826 : decode cL_law 1826 = .ok (.aload_n 3, 1) := by decide +kernel
theorem dL_law_1827 : decode cL_law 1827 = .ok (.invokestatic 240, 3) := by decide +kernel
theorem dL_law_1830 : decode cL_law 1830 = .ok (.istore 5, 2) := by decide +kernel
theorem dL_law_1832 : decode cL_law 1832 = .ok (.aload_n 2, 1) := by decide +kernel
theorem dL_law_1833 : decode cL_law 1833 = .ok (.aload_n 0, 1) := by decide +kernel
theorem dL_law_1834 : decode cL_law 1834 = .ok (.iload 4, 2) := by decide +kernel
theorem dL_law_1836 : decode cL_law 1836 = .ok (.iconst 1, 1) := by decide +kernel
theorem dL_law_1837 : decode cL_law 1837 = .ok (.iadd, 1) := by decide +kernel
theorem dL_law_1838 : decode cL_law 1838 = .ok (.iaload, 1) := by decide +kernel
theorem dL_law_1839 : decode cL_law 1839 = .ok (.invokevirtual 242, 3) := by decide +kernel
theorem dL_law_1842 : decode cL_law 1842 = .ok (.istore 6, 2) := by decide +kernel
theorem dL_law_1844 : decode cL_law 1844 = .ok (.aload_n 2, 1) := by decide +kernel
theorem dL_law_1845 : decode cL_law 1845 = .ok (.invokevirtual 147, 3) := by decide +kernel
theorem dL_law_1848 : decode cL_law 1848 = .ok (.iload 5, 2) := by decide +kernel
theorem dL_law_1850 : decode cL_law 1850 = .ok (.if_icmp .eq 5, 3) := by decide +kernel
theorem dL_law_1853 : decode cL_law 1853 = .ok (.iconst 0, 1) := by decide +kernel
theorem dL_law_1854 : decode cL_law 1854 = .ok (.ireturn, 1) := by decide +kernel
theorem dL_law_1855 : decode cL_law 1855 = .ok (.iload 5, 2) := by decide +kernel
theorem dL_law_1857 : decode cL_law 1857 = .ok (.ifCond .ne 15, 3) := by decide +kernel
theorem dL_law_1860 : decode cL_law 1860 = .ok (.aload_n 3, 1) := by decide +kernel
theorem dL_law_1861 : decode cL_law 1861 = .ok (.iconst 0, 1) := by decide +kernel
theorem dL_law_1862 : decode cL_law 1862 = .ok (.laload, 1) := by decide +kernel
theorem dL_law_1863 : decode cL_law 1863 = .ok (.iload 6, 2) := by decide +kernel
theorem dL_law_1865 : decode cL_law 1865 = .ok (.i2l, 1) := by decide +kernel
theorem dL_law_1866 : decode cL_law 1866 = .ok (.lcmp, 1) := by decide +kernel
theorem dL_law_1867 : decode cL_law 1867 = .ok (.ifCond .eq 5, 3) := by decide +kernel
theorem dL_law_1870 : decode cL_law 1870 = .ok (.iconst 0, 1) := by decide +kernel
theorem dL_law_1871 : decode cL_law 1871 = .ok (.ireturn, 1) := by decide +kernel
theorem dL_law_1872 : decode cL_law 1872 = .ok (.goto 752, 3) := by decide +kernel
theorem dL_law_1875 : decode cL_law 1875 = .ok (.aload_n 1, 1) := by decide +kernel
theorem dL_law_1876 : decode cL_law 1876 = .ok (.aload_n 0, 1) := by decide +kernel
theorem dL_law_1877 : decode cL_law 1877 = .ok (.iload 4, 2) := by decide +kernel
theorem dL_law_1879 : decode cL_law 1879 = .ok (.iconst 1, 1) := by decide +kernel
theorem dL_law_1880 : decode cL_law 1880 = .ok (.iadd, 1) := by decide +kernel
theorem dL_law_1881 : decode cL_law 1881 = .ok (.iaload, 1) := by decide +kernel
theorem dL_law_1882 : decode cL_law 1882 = .ok (.aload_n 0, 1) := by decide +kernel
theorem dL_law_1883 : decode cL_law 1883 = .ok (.iload 4, 2) := by decide +kernel
theorem dL_law_1885 : decode cL_law 1885 = .ok (.iconst 2, 1) := by decide +kernel
theorem dL_law_1886 : decode cL_law 1886 = .ok (.iadd, 1) := by decide +kernel
theorem dL_law_1887 : decode cL_law 1887 = .ok (.iaload, 1) := by decide +kernel
theorem dL_law_1888 : decode cL_law 1888 = .ok (.aload_n 3, 1) := by decide +kernel
theorem dL_law_1889 : decode cL_law 1889 = .ok (.invokestatic 243, 3) := by decide +kernel
theorem dL_law_1892 : decode cL_law 1892 = .ok (.istore 5, 2) := by decide +kernel
theorem dL_law_1894 : decode cL_law 1894 = .ok (.aload_n 2, 1) := by decide +kernel
theorem dL_law_1895 : decode cL_law 1895 = .ok (.aload_n 0, 1) := by decide +kernel
theorem dL_law_1896 : decode cL_law 1896 = .ok (.iload 4, 2) := by decide +kernel
theorem dL_law_1898 : decode cL_law 1898 = .ok (.iconst 1, 1) := by decide +kernel
theorem dL_law_1899 : decode cL_law 1899 = .ok (.iadd, 1) := by decide +kernel
theorem dL_law_1900 : decode cL_law 1900 = .ok (.iaload, 1) := by decide +kernel
theorem dL_law_1901 : decode cL_law 1901 = .ok (.aload_n 0, 1) := by decide +kernel
theorem dL_law_1902 : decode cL_law 1902 = .ok (.iload 4, 2) := by decide +kernel
theorem dL_law_1904 : decode cL_law 1904 = .ok (.iconst 2, 1) := by decide +kernel
theorem dL_law_1905 : decode cL_law 1905 = .ok (.iadd, 1) := by decide +kernel
theorem dL_law_1906 : decode cL_law 1906 = .ok (.iaload, 1) := by decide +kernel
theorem dL_law_1907 : decode cL_law 1907 = .ok (.invokevirtual 245, 3) := by decide +kernel
theorem dL_law_1910 : decode cL_law 1910 = .ok (.istore 6, 2) := by decide +kernel
theorem dL_law_1912 : decode cL_law 1912 = .ok (.aload_n 2, 1) := by decide +kernel
theorem dL_law_1913 : decode cL_law 1913 = .ok (.invokevirtual 147, 3) := by decide +kernel
theorem dL_law_1916 : decode cL_law 1916 = .ok (.iload 5, 2) := by decide +kernel
theorem dL_law_1918 : decode cL_law 1918 = .ok (.if_icmp .eq 5, 3) := by decide +kernel
theorem dL_law_1921 : decode cL_law 1921 = .ok (.iconst 0, 1) := by decide +kernel
theorem dL_law_1922 : decode cL_law 1922 = .ok (.ireturn, 1) := by decide +kernel
theorem dL_law_1923 : decode cL_law 1923 = .ok (.iload 5, 2) := by decide +kernel
theorem dL_law_1925 : decode cL_law 1925 = .ok (.ifCond .ne 15, 3) := by decide +kernel
theorem dL_law_1928 : decode cL_law 1928 = .ok (.aload_n 3, 1) := by decide +kernel
theorem dL_law_1929 : decode cL_law 1929 = .ok (.iconst 0, 1) := by decide +kernel
theorem dL_law_1930 : decode cL_law 1930 = .ok (.laload, 1) := by decide +kernel
theorem dL_law_1931 : decode cL_law 1931 = .ok (.iload 6, 2) := by decide +kernel
theorem dL_law_1933 : decode cL_law 1933 = .ok (.i2l, 1) := by decide +kernel
theorem dL_law_1934 : decode cL_law 1934 = .ok (.lcmp, 1) := by decide +kernel
theorem dL_law_1935 : decode cL_law 1935 = .ok (.ifCond .eq 5, 3) := by decide +kernel
theorem dL_law_1938 : decode cL_law 1938 = .ok (.iconst 0, 1) := by decide +kernel
theorem dL_law_1939 : decode cL_law 1939 = .ok (.ireturn, 1) := by decide +kernel
theorem dL_law_1940 : decode cL_law 1940 = .ok (.goto 684, 3) := by decide +kernel
theorem dL_law_1943 : decode cL_law 1943 = .ok (.aload_n 1, 1) := by decide +kernel
theorem dL_law_1944 : decode cL_law 1944 = .ok (.aload_n 0, 1) := by decide +kernel
theorem dL_law_1945 : decode cL_law 1945 = .ok (.iload 4, 2) := by decide +kernel
theorem dL_law_1947 : decode cL_law 1947 = .ok (.iconst 1, 1) := by decide +kernel
theorem dL_law_1948 : decode cL_law 1948 = .ok (.iadd, 1) := by decide +kernel
theorem dL_law_1949 : decode cL_law 1949 = .ok (.iaload, 1) := by decide +kernel
theorem dL_law_1950 : decode cL_law 1950 = .ok (.aload_n 0, 1) := by decide +kernel
theorem dL_law_1951 : decode cL_law 1951 = .ok (.iload 4, 2) := by decide +kernel
theorem dL_law_1953 : decode cL_law 1953 = .ok (.iconst 2, 1) := by decide +kernel
theorem dL_law_1954 : decode cL_law 1954 = .ok (.iadd, 1) := by decide +kernel
theorem dL_law_1955 : decode cL_law 1955 = .ok (.iaload, 1) := by decide +kernel
theorem dL_law_1956 : decode cL_law 1956 = .ok (.ifCond .eq 7, 3) := by decide +kernel
theorem dL_law_1959 : decode cL_law 1959 = .ok (.iconst 1, 1) := by decide +kernel
theorem dL_law_1960 : decode cL_law 1960 = .ok (.goto 4, 3) := by decide +kernel
theorem dL_law_1963 : decode cL_law 1963 = .ok (.iconst 0, 1) := by decide +kernel
theorem dL_law_1964 : decode cL_law 1964 = .ok (.aload_n 3, 1) := by decide +kernel
theorem dL_law_1965 : decode cL_law 1965 = .ok (.invokestatic 246, 3) := by decide +kernel
theorem dL_law_1968 : decode cL_law 1968 = .ok (.istore 5, 2) := by decide +kernel
theorem dL_law_1970 : decode cL_law 1970 = .ok (.aload_n 2, 1) := by decide +kernel
theorem dL_law_1971 : decode cL_law 1971 = .ok (.aload_n 0, 1) := by decide +kernel
theorem dL_law_1972 : decode cL_law 1972 = .ok (.iload 4, 2) := by decide +kernel
theorem dL_law_1974 : decode cL_law 1974 = .ok (.iconst 1, 1) := by decide +kernel
theorem dL_law_1975 : decode cL_law 1975 = .ok (.iadd, 1) := by decide +kernel
theorem dL_law_1976 : decode cL_law 1976 = .ok (.iaload, 1) := by decide +kernel
theorem dL_law_1977 : decode cL_law 1977 = .ok (.aload_n 0, 1) := by decide +kernel
theorem dL_law_1978 : decode cL_law 1978 = .ok (.iload 4, 2) := by decide +kernel
theorem dL_law_1980 : decode cL_law 1980 = .ok (.iconst 2, 1) := by decide +kernel
theorem dL_law_1981 : decode cL_law 1981 = .ok (.iadd, 1) := by decide +kernel
theorem dL_law_1982 : decode cL_law 1982 = .ok (.iaload, 1) := by decide +kernel
theorem dL_law_1983 : decode cL_law 1983 = .ok (.ifCond .eq 7, 3) := by decide +kernel
theorem dL_law_1986 : decode cL_law 1986 = .ok (.iconst 1, 1) := by decide +kernel
theorem dL_law_1987 : decode cL_law 1987 = .ok (.goto 4, 3) := by decide +kernel
theorem dL_law_1990 : decode cL_law 1990 = .ok (.iconst 0, 1) := by decide +kernel
theorem dL_law_1991 : decode cL_law 1991 = .ok (.invokevirtual 249, 3) := by decide +kernel
theorem dL_law_1994 : decode cL_law 1994 = .ok (.istore 6, 2) := by decide +kernel
theorem dL_law_1996 : decode cL_law 1996 = .ok (.aload_n 2, 1) := by decide +kernel
theorem dL_law_1997 : decode cL_law 1997 = .ok (.invokevirtual 147, 3) := by decide +kernel
theorem dL_law_2000 : decode cL_law 2000 = .ok (.iload 5, 2) := by decide +kernel
theorem dL_law_2002 : decode cL_law 2002 = .ok (.if_icmp .eq 5, 3) := by decide +kernel
theorem dL_law_2005 : decode cL_law 2005 = .ok (.iconst 0, 1) := by decide +kernel
theorem dL_law_2006 : decode cL_law 2006 = .ok (.ireturn, 1) := by decide +kernel
theorem dL_law_2007 : decode cL_law 2007 = .ok (.iload 5, 2) := by decide +kernel
theorem dL_law_2009 : decode cL_law 2009 = .ok (.ifCond .ne 15, 3) := by decide +kernel
theorem dL_law_2012 : decode cL_law 2012 = .ok (.aload_n 3, 1) := by decide +kernel
theorem dL_law_2013 : decode cL_law 2013 = .ok (.iconst 0, 1) := by decide +kernel
theorem dL_law_2014 : decode cL_law 2014 = .ok (.laload, 1) := by decide +kernel
theorem dL_law_2015 : decode cL_law 2015 = .ok (.iload 6, 2) := by decide +kernel
theorem dL_law_2017 : decode cL_law 2017 = .ok (.i2l, 1) := by decide +kernel
theorem dL_law_2018 : decode cL_law 2018 = .ok (.lcmp, 1) := by decide +kernel
theorem dL_law_2019 : decode cL_law 2019 = .ok (.ifCond .eq 5, 3) := by decide +kernel
theorem dL_law_2022 : decode cL_law 2022 = .ok (.iconst 0, 1) := by decide +kernel
theorem dL_law_2023 : decode cL_law 2023 = .ok (.ireturn, 1) := by decide +kernel
theorem dL_law_2024 : decode cL_law 2024 = .ok (.goto 600, 3) := by decide +kernel
theorem dL_law_2027 : decode cL_law 2027 = .ok (.aload_n 1, 1) := by decide +kernel
theorem dL_law_2028 : decode cL_law 2028 = .ok (.aload_n 0, 1) := by decide +kernel
theorem dL_law_2029 : decode cL_law 2029 = .ok (.iload 4, 2) := by decide +kernel
theorem dL_law_2031 : decode cL_law 2031 = .ok (.iconst 1, 1) := by decide +kernel
theorem dL_law_2032 : decode cL_law 2032 = .ok (.iadd, 1) := by decide +kernel
theorem dL_law_2033 : decode cL_law 2033 = .ok (.iaload, 1) := by decide +kernel
theorem dL_law_2034 : decode cL_law 2034 = .ok (.aload_n 0, 1) := by decide +kernel
theorem dL_law_2035 : decode cL_law 2035 = .ok (.iload 4, 2) := by decide +kernel
theorem dL_law_2037 : decode cL_law 2037 = .ok (.iconst 2, 1) := by decide +kernel
theorem dL_law_2038 : decode cL_law 2038 = .ok (.iadd, 1) := by decide +kernel
theorem dL_law_2039 : decode cL_law 2039 = .ok (.iaload, 1) := by decide +kernel
theorem dL_law_2040 : decode cL_law 2040 = .ok (.aload_n 3, 1) := by decide +kernel
theorem dL_law_2041 : decode cL_law 2041 = .ok (.invokestatic 250, 3) := by decide +kernel
theorem dL_law_2044 : decode cL_law 2044 = .ok (.istore 5, 2) := by decide +kernel
theorem dL_law_2046 : decode cL_law 2046 = .ok (.aload_n 2, 1) := by decide +kernel
theorem dL_law_2047 : decode cL_law 2047 = .ok (.aload_n 0, 1) := by decide +kernel
theorem dL_law_2048 : decode cL_law 2048 = .ok (.iload 4, 2) := by decide +kernel
theorem dL_law_2050 : decode cL_law 2050 = .ok (.iconst 1, 1) := by decide +kernel
theorem dL_law_2051 : decode cL_law 2051 = .ok (.iadd, 1) := by decide +kernel
theorem dL_law_2052 : decode cL_law 2052 = .ok (.iaload, 1) := by decide +kernel
theorem dL_law_2053 : decode cL_law 2053 = .ok (.aload_n 0, 1) := by decide +kernel
theorem dL_law_2054 : decode cL_law 2054 = .ok (.iload 4, 2) := by decide +kernel
theorem dL_law_2056 : decode cL_law 2056 = .ok (.iconst 2, 1) := by decide +kernel
theorem dL_law_2057 : decode cL_law 2057 = .ok (.iadd, 1) := by decide +kernel
theorem dL_law_2058 : decode cL_law 2058 = .ok (.iaload, 1) := by decide +kernel
theorem dL_law_2059 : decode cL_law 2059 = .ok (.invokevirtual 252, 3) := by decide +kernel
theorem dL_law_2062 : decode cL_law 2062 = .ok (.istore 6, 2) := by decide +kernel
theorem dL_law_2064 : decode cL_law 2064 = .ok (.aload_n 2, 1) := by decide +kernel
theorem dL_law_2065 : decode cL_law 2065 = .ok (.invokevirtual 147, 3) := by decide +kernel
theorem dL_law_2068 : decode cL_law 2068 = .ok (.iload 5, 2) := by decide +kernel
theorem dL_law_2070 : decode cL_law 2070 = .ok (.if_icmp .eq 5, 3) := by decide +kernel
theorem dL_law_2073 : decode cL_law 2073 = .ok (.iconst 0, 1) := by decide +kernel
theorem dL_law_2074 : decode cL_law 2074 = .ok (.ireturn, 1) := by decide +kernel
theorem dL_law_2075 : decode cL_law 2075 = .ok (.iload 5, 2) := by decide +kernel
theorem dL_law_2077 : decode cL_law 2077 = .ok (.ifCond .ne 15, 3) := by decide +kernel
theorem dL_law_2080 : decode cL_law 2080 = .ok (.aload_n 3, 1) := by decide +kernel
theorem dL_law_2081 : decode cL_law 2081 = .ok (.iconst 0, 1) := by decide +kernel
theorem dL_law_2082 : decode cL_law 2082 = .ok (.laload, 1) := by decide +kernel
theorem dL_law_2083 : decode cL_law 2083 = .ok (.iload 6, 2) := by decide +kernel
theorem dL_law_2085 : decode cL_law 2085 = .ok (.i2l, 1) := by decide +kernel
theorem dL_law_2086 : decode cL_law 2086 = .ok (.lcmp, 1) := by decide +kernel
theorem dL_law_2087 : decode cL_law 2087 = .ok (.ifCond .eq 5, 3) := by decide +kernel
theorem dL_law_2090 : decode cL_law 2090 = .ok (.iconst 0, 1) := by decide +kernel
theorem dL_law_2091 : decode cL_law 2091 = .ok (.ireturn, 1) := by decide +kernel
theorem dL_law_2092 : decode cL_law 2092 = .ok (.goto 532, 3) := by decide +kernel
theorem dL_law_2095 : decode cL_law 2095 = .ok (.aload_n 1, 1) := by decide +kernel
theorem dL_law_2096 : decode cL_law 2096 = .ok (.aload_n 0, 1) := by decide +kernel
theorem dL_law_2097 : decode cL_law 2097 = .ok (.iload 4, 2) := by decide +kernel
theorem dL_law_2099 : decode cL_law 2099 = .ok (.iconst 1, 1) := by decide +kernel
theorem dL_law_2100 : decode cL_law 2100 = .ok (.iadd, 1) := by decide +kernel
theorem dL_law_2101 : decode cL_law 2101 = .ok (.iaload, 1) := by decide +kernel
theorem dL_law_2102 : decode cL_law 2102 = .ok (.aload_n 3, 1) := by decide +kernel
theorem dL_law_2103 : decode cL_law 2103 = .ok (.invokestatic 253, 3) := by decide +kernel
theorem dL_law_2106 : decode cL_law 2106 = .ok (.istore 5, 2) := by decide +kernel
theorem dL_law_2108 : decode cL_law 2108 = .ok (.aload_n 2, 1) := by decide +kernel
theorem dL_law_2109 : decode cL_law 2109 = .ok (.aload_n 0, 1) := by decide +kernel
theorem dL_law_2110 : decode cL_law 2110 = .ok (.iload 4, 2) := by decide +kernel
theorem dL_law_2112 : decode cL_law 2112 = .ok (.iconst 1, 1) := by decide +kernel
theorem dL_law_2113 : decode cL_law 2113 = .ok (.iadd, 1) := by decide +kernel
theorem dL_law_2114 : decode cL_law 2114 = .ok (.iaload, 1) := by decide +kernel
theorem dL_law_2115 : decode cL_law 2115 = .ok (.invokevirtual 255, 3) := by decide +kernel
theorem dL_law_2118 : decode cL_law 2118 = .ok (.istore 6, 2) := by decide +kernel
theorem dL_law_2120 : decode cL_law 2120 = .ok (.aload_n 2, 1) := by decide +kernel
theorem dL_law_2121 : decode cL_law 2121 = .ok (.invokevirtual 147, 3) := by decide +kernel
theorem dL_law_2124 : decode cL_law 2124 = .ok (.iload 5, 2) := by decide +kernel
theorem dL_law_2126 : decode cL_law 2126 = .ok (.if_icmp .eq 5, 3) := by decide +kernel
theorem dL_law_2129 : decode cL_law 2129 = .ok (.iconst 0, 1) := by decide +kernel
theorem dL_law_2130 : decode cL_law 2130 = .ok (.ireturn, 1) := by decide +kernel
theorem dL_law_2131 : decode cL_law 2131 = .ok (.iload 5, 2) := by decide +kernel
theorem dL_law_2133 : decode cL_law 2133 = .ok (.ifCond .ne 15, 3) := by decide +kernel
theorem dL_law_2136 : decode cL_law 2136 = .ok (.aload_n 3, 1) := by decide +kernel
theorem dL_law_2137 : decode cL_law 2137 = .ok (.iconst 0, 1) := by decide +kernel
theorem dL_law_2138 : decode cL_law 2138 = .ok (.laload, 1) := by decide +kernel
theorem dL_law_2139 : decode cL_law 2139 = .ok (.iload 6, 2) := by decide +kernel
theorem dL_law_2141 : decode cL_law 2141 = .ok (.i2l, 1) := by decide +kernel
theorem dL_law_2142 : decode cL_law 2142 = .ok (.lcmp, 1) := by decide +kernel
theorem dL_law_2143 : decode cL_law 2143 = .ok (.ifCond .eq 5, 3) := by decide +kernel
theorem dL_law_2146 : decode cL_law 2146 = .ok (.iconst 0, 1) := by decide +kernel
theorem dL_law_2147 : decode cL_law 2147 = .ok (.ireturn, 1) := by decide +kernel
theorem dL_law_2148 : decode cL_law 2148 = .ok (.goto 476, 3) := by decide +kernel
theorem dL_law_2151 : decode cL_law 2151 = .ok (.aload_n 1, 1) := by decide +kernel
theorem dL_law_2152 : decode cL_law 2152 = .ok (.aload_n 0, 1) := by decide +kernel
theorem dL_law_2153 : decode cL_law 2153 = .ok (.iload 4, 2) := by decide +kernel
theorem dL_law_2155 : decode cL_law 2155 = .ok (.iconst 1, 1) := by decide +kernel
theorem dL_law_2156 : decode cL_law 2156 = .ok (.iadd, 1) := by decide +kernel
theorem dL_law_2157 : decode cL_law 2157 = .ok (.iaload, 1) := by decide +kernel
theorem dL_law_2158 : decode cL_law 2158 = .ok (.aload_n 3, 1) := by decide +kernel
theorem dL_law_2159 : decode cL_law 2159 = .ok (.invokestatic 256, 3) := by decide +kernel
theorem dL_law_2162 : decode cL_law 2162 = .ok (.istore 5, 2) := by decide +kernel
theorem dL_law_2164 : decode cL_law 2164 = .ok (.aload_n 2, 1) := by decide +kernel
theorem dL_law_2165 : decode cL_law 2165 = .ok (.aload_n 0, 1) := by decide +kernel
theorem dL_law_2166 : decode cL_law 2166 = .ok (.iload 4, 2) := by decide +kernel
theorem dL_law_2168 : decode cL_law 2168 = .ok (.iconst 1, 1) := by decide +kernel
theorem dL_law_2169 : decode cL_law 2169 = .ok (.iadd, 1) := by decide +kernel
theorem dL_law_2170 : decode cL_law 2170 = .ok (.iaload, 1) := by decide +kernel
theorem dL_law_2171 : decode cL_law 2171 = .ok (.invokevirtual 258, 3) := by decide +kernel
theorem dL_law_2174 : decode cL_law 2174 = .ok (.istore 6, 2) := by decide +kernel
theorem dL_law_2176 : decode cL_law 2176 = .ok (.aload_n 2, 1) := by decide +kernel
theorem dL_law_2177 : decode cL_law 2177 = .ok (.invokevirtual 147, 3) := by decide +kernel
theorem dL_law_2180 : decode cL_law 2180 = .ok (.iload 5, 2) := by decide +kernel
theorem dL_law_2182 : decode cL_law 2182 = .ok (.if_icmp .eq 5, 3) := by decide +kernel
theorem dL_law_2185 : decode cL_law 2185 = .ok (.iconst 0, 1) := by decide +kernel
theorem dL_law_2186 : decode cL_law 2186 = .ok (.ireturn, 1) := by decide +kernel
theorem dL_law_2187 : decode cL_law 2187 = .ok (.iload 5, 2) := by decide +kernel
theorem dL_law_2189 : decode cL_law 2189 = .ok (.ifCond .ne 15, 3) := by decide +kernel
theorem dL_law_2192 : decode cL_law 2192 = .ok (.aload_n 3, 1) := by decide +kernel
theorem dL_law_2193 : decode cL_law 2193 = .ok (.iconst 0, 1) := by decide +kernel
theorem dL_law_2194 : decode cL_law 2194 = .ok (.laload, 1) := by decide +kernel
theorem dL_law_2195 : decode cL_law 2195 = .ok (.iload 6, 2) := by decide +kernel
theorem dL_law_2197 : decode cL_law 2197 = .ok (.i2l, 1) := by decide +kernel
theorem dL_law_2198 : decode cL_law 2198 = .ok (.lcmp, 1) := by decide +kernel
theorem dL_law_2199 : decode cL_law 2199 = .ok (.ifCond .eq 5, 3) := by decide +kernel
theorem dL_law_2202 : decode cL_law 2202 = .ok (.iconst 0, 1) := by decide +kernel
theorem dL_law_2203 : decode cL_law 2203 = .ok (.ireturn, 1) := by decide +kernel
theorem dL_law_2204 : decode cL_law 2204 = .ok (.goto 420, 3) := by decide +kernel
theorem dL_law_2207 : decode cL_law 2207 = .ok (.aload_n 1, 1) := by decide +kernel
theorem dL_law_2208 : decode cL_law 2208 = .ok (.invokevirtual 259, 3) := by decide +kernel
theorem dL_law_2211 : decode cL_law 2211 = .ok (.aload_n 2, 1) := by decide +kernel
theorem dL_law_2212 : decode cL_law 2212 = .ok (.invokevirtual 262, 3) := by decide +kernel
theorem dL_law_2215 : decode cL_law 2215 = .ok (.if_icmp .eq 409, 3) := by decide +kernel
theorem dL_law_2218 : decode cL_law 2218 = .ok (.iconst 0, 1) := by decide +kernel
theorem dL_law_2219 : decode cL_law 2219 = .ok (.ireturn, 1) := by decide +kernel
theorem dL_law_2220 : decode cL_law 2220 = .ok (.aload_n 1, 1) := by decide +kernel
theorem dL_law_2221 : decode cL_law 2221 = .ok (.invokevirtual 263, 3) := by decide +kernel
theorem dL_law_2224 : decode cL_law 2224 = .ok (.aload_n 2, 1) := by decide +kernel
theorem dL_law_2225 : decode cL_law 2225 = .ok (.invokevirtual 266, 3) := by decide +kernel
theorem dL_law_2228 : decode cL_law 2228 = .ok (.if_icmp .eq 396, 3) := by decide +kernel
theorem dL_law_2231 : decode cL_law 2231 = .ok (.iconst 0, 1) := by decide +kernel
theorem dL_law_2232 : decode cL_law 2232 = .ok (.ireturn, 1) := by decide +kernel
theorem dL_law_2233 : decode cL_law 2233 = .ok (.aload_n 1, 1) := by decide +kernel
theorem dL_law_2234 : decode cL_law 2234 = .ok (.aload_n 0, 1) := by decide +kernel
theorem dL_law_2235 : decode cL_law 2235 = .ok (.iload 4, 2) := by decide +kernel
theorem dL_law_2237 : decode cL_law 2237 = .ok (.iconst 1, 1) := by decide +kernel
theorem dL_law_2238 : decode cL_law 2238 = .ok (.iadd, 1) := by decide +kernel
theorem dL_law_2239 : decode cL_law 2239 = .ok (.iaload, 1) := by decide +kernel
theorem dL_law_2240 : decode cL_law 2240 = .ok (.aload_n 3, 1) := by decide +kernel
theorem dL_law_2241 : decode cL_law 2241 = .ok (.invokestatic 267, 3) := by decide +kernel
theorem dL_law_2244 : decode cL_law 2244 = .ok (.istore 5, 2) := by decide +kernel
theorem dL_law_2246 : decode cL_law 2246 = .ok (.aload_n 2, 1) := by decide +kernel
theorem dL_law_2247 : decode cL_law 2247 = .ok (.aload_n 0, 1) := by decide +kernel
theorem dL_law_2248 : decode cL_law 2248 = .ok (.iload 4, 2) := by decide +kernel
theorem dL_law_2250 : decode cL_law 2250 = .ok (.iconst 1, 1) := by decide +kernel
theorem dL_law_2251 : decode cL_law 2251 = .ok (.iadd, 1) := by decide +kernel
theorem dL_law_2252 : decode cL_law 2252 = .ok (.iaload, 1) := by decide +kernel
theorem dL_law_2253 : decode cL_law 2253 = .ok (.invokevirtual 269, 3) := by decide +kernel
theorem dL_law_2256 : decode cL_law 2256 = .ok (.istore 6, 2) := by decide +kernel
theorem dL_law_2258 : decode cL_law 2258 = .ok (.aload_n 2, 1) := by decide +kernel
theorem dL_law_2259 : decode cL_law 2259 = .ok (.invokevirtual 147, 3) := by decide +kernel
theorem dL_law_2262 : decode cL_law 2262 = .ok (.iload 5, 2) := by decide +kernel
theorem dL_law_2264 : decode cL_law 2264 = .ok (.if_icmp .eq 5, 3) := by decide +kernel
theorem dL_law_2267 : decode cL_law 2267 = .ok (.iconst 0, 1) := by decide +kernel
theorem dL_law_2268 : decode cL_law 2268 = .ok (.ireturn, 1) := by decide +kernel
theorem dL_law_2269 : decode cL_law 2269 = .ok (.iload 5, 2) := by decide +kernel
theorem dL_law_2271 : decode cL_law 2271 = .ok (.ifCond .ne 15, 3) := by decide +kernel
theorem dL_law_2274 : decode cL_law 2274 = .ok (.aload_n 3, 1) := by decide +kernel
theorem dL_law_2275 : decode cL_law 2275 = .ok (.iconst 0, 1) := by decide +kernel
theorem dL_law_2276 : decode cL_law 2276 = .ok (.laload, 1) := by decide +kernel
theorem dL_law_2277 : decode cL_law 2277 = .ok (.iload 6, 2) := by decide +kernel
theorem dL_law_2279 : decode cL_law 2279 = .ok (.i2l, 1) := by decide +kernel
theorem dL_law_2280 : decode cL_law 2280 = .ok (.lcmp, 1) := by decide +kernel
theorem dL_law_2281 : decode cL_law 2281 = .ok (.ifCond .eq 5, 3) := by decide +kernel
theorem dL_law_2284 : decode cL_law 2284 = .ok (.iconst 0, 1) := by decide +kernel
theorem dL_law_2285 : decode cL_law 2285 = .ok (.ireturn, 1) := by decide +kernel
theorem dL_law_2286 : decode cL_law 2286 = .ok (.goto 338, 3) := by decide +kernel
theorem dL_law_2289 : decode cL_law 2289 = .ok (.aload_n 1, 1) := by decide +kernel
theorem dL_law_2290 : decode cL_law 2290 = .ok (.aload_n 0, 1) := by decide +kernel
theorem dL_law_2291 : decode cL_law 2291 = .ok (.iload 4, 2) := by decide +kernel
theorem dL_law_2293 : decode cL_law 2293 = .ok (.iconst 1, 1) := by decide +kernel
theorem dL_law_2294 : decode cL_law 2294 = .ok (.iadd, 1) := by decide +kernel
theorem dL_law_2295 : decode cL_law 2295 = .ok (.iaload, 1) := by decide +kernel
theorem dL_law_2296 : decode cL_law 2296 = .ok (.aload_n 3, 1) := by decide +kernel
theorem dL_law_2297 : decode cL_law 2297 = .ok (.invokestatic 270, 3) := by decide +kernel
theorem dL_law_2300 : decode cL_law 2300 = .ok (.istore 5, 2) := by decide +kernel
theorem dL_law_2302 : decode cL_law 2302 = .ok (.aload_n 2, 1) := by decide +kernel
theorem dL_law_2303 : decode cL_law 2303 = .ok (.aload_n 0, 1) := by decide +kernel
theorem dL_law_2304 : decode cL_law 2304 = .ok (.iload 4, 2) := by decide +kernel
theorem dL_law_2306 : decode cL_law 2306 = .ok (.iconst 1, 1) := by decide +kernel
theorem dL_law_2307 : decode cL_law 2307 = .ok (.iadd, 1) := by decide +kernel
theorem dL_law_2308 : decode cL_law 2308 = .ok (.iaload, 1) := by decide +kernel
theorem dL_law_2309 : decode cL_law 2309 = .ok (.invokevirtual 272, 3) := by decide +kernel
theorem dL_law_2312 : decode cL_law 2312 = .ok (.istore 6, 2) := by decide +kernel
theorem dL_law_2314 : decode cL_law 2314 = .ok (.aload_n 2, 1) := by decide +kernel
theorem dL_law_2315 : decode cL_law 2315 = .ok (.invokevirtual 147, 3) := by decide +kernel
theorem dL_law_2318 : decode cL_law 2318 = .ok (.iload 5, 2) := by decide +kernel
theorem dL_law_2320 : decode cL_law 2320 = .ok (.if_icmp .eq 5, 3) := by decide +kernel
theorem dL_law_2323 : decode cL_law 2323 = .ok (.iconst 0, 1) := by decide +kernel
theorem dL_law_2324 : decode cL_law 2324 = .ok (.ireturn, 1) := by decide +kernel
theorem dL_law_2325 : decode cL_law 2325 = .ok (.iload 5, 2) := by decide +kernel
theorem dL_law_2327 : decode cL_law 2327 = .ok (.ifCond .ne 15, 3) := by decide +kernel
theorem dL_law_2330 : decode cL_law 2330 = .ok (.aload_n 3, 1) := by decide +kernel
theorem dL_law_2331 : decode cL_law 2331 = .ok (.iconst 0, 1) := by decide +kernel
theorem dL_law_2332 : decode cL_law 2332 = .ok (.laload, 1) := by decide +kernel
theorem dL_law_2333 : decode cL_law 2333 = .ok (.iload 6, 2) := by decide +kernel
theorem dL_law_2335 : decode cL_law 2335 = .ok (.i2l, 1) := by decide +kernel
theorem dL_law_2336 : decode cL_law 2336 = .ok (.lcmp, 1) := by decide +kernel
theorem dL_law_2337 : decode cL_law 2337 = .ok (.ifCond .eq 5, 3) := by decide +kernel
theorem dL_law_2340 : decode cL_law 2340 = .ok (.iconst 0, 1) := by decide +kernel
theorem dL_law_2341 : decode cL_law 2341 = .ok (.ireturn, 1) := by decide +kernel
theorem dL_law_2342 : decode cL_law 2342 = .ok (.goto 282, 3) := by decide +kernel
theorem dL_law_2345 : decode cL_law 2345 = .ok (.aload_n 1, 1) := by decide +kernel
theorem dL_law_2346 : decode cL_law 2346 = .ok (.aload_n 0, 1) := by decide +kernel
theorem dL_law_2347 : decode cL_law 2347 = .ok (.iload 4, 2) := by decide +kernel
theorem dL_law_2349 : decode cL_law 2349 = .ok (.iconst 1, 1) := by decide +kernel
theorem dL_law_2350 : decode cL_law 2350 = .ok (.iadd, 1) := by decide +kernel
theorem dL_law_2351 : decode cL_law 2351 = .ok (.iaload, 1) := by decide +kernel
theorem dL_law_2352 : decode cL_law 2352 = .ok (.aload_n 3, 1) := by decide +kernel
theorem dL_law_2353 : decode cL_law 2353 = .ok (.invokestatic 273, 3) := by decide +kernel
theorem dL_law_2356 : decode cL_law 2356 = .ok (.istore 5, 2) := by decide +kernel
theorem dL_law_2358 : decode cL_law 2358 = .ok (.aload_n 2, 1) := by decide +kernel
theorem dL_law_2359 : decode cL_law 2359 = .ok (.aload_n 0, 1) := by decide +kernel
theorem dL_law_2360 : decode cL_law 2360 = .ok (.iload 4, 2) := by decide +kernel
theorem dL_law_2362 : decode cL_law 2362 = .ok (.iconst 1, 1) := by decide +kernel
theorem dL_law_2363 : decode cL_law 2363 = .ok (.iadd, 1) := by decide +kernel
theorem dL_law_2364 : decode cL_law 2364 = .ok (.iaload, 1) := by decide +kernel
theorem dL_law_2365 : decode cL_law 2365 = .ok (.invokevirtual 275, 3) := by decide +kernel
theorem dL_law_2368 : decode cL_law 2368 = .ok (.istore 6, 2) := by decide +kernel
theorem dL_law_2370 : decode cL_law 2370 = .ok (.aload_n 2, 1) := by decide +kernel
theorem dL_law_2371 : decode cL_law 2371 = .ok (.invokevirtual 147, 3) := by decide +kernel
theorem dL_law_2374 : decode cL_law 2374 = .ok (.iload 5, 2) := by decide +kernel
theorem dL_law_2376 : decode cL_law 2376 = .ok (.if_icmp .eq 5, 3) := by decide +kernel
theorem dL_law_2379 : decode cL_law 2379 = .ok (.iconst 0, 1) := by decide +kernel
theorem dL_law_2380 : decode cL_law 2380 = .ok (.ireturn, 1) := by decide +kernel
theorem dL_law_2381 : decode cL_law 2381 = .ok (.iload 5, 2) := by decide +kernel
theorem dL_law_2383 : decode cL_law 2383 = .ok (.ifCond .ne 15, 3) := by decide +kernel
theorem dL_law_2386 : decode cL_law 2386 = .ok (.aload_n 3, 1) := by decide +kernel
theorem dL_law_2387 : decode cL_law 2387 = .ok (.iconst 0, 1) := by decide +kernel
theorem dL_law_2388 : decode cL_law 2388 = .ok (.laload, 1) := by decide +kernel
theorem dL_law_2389 : decode cL_law 2389 = .ok (.iload 6, 2) := by decide +kernel
theorem dL_law_2391 : decode cL_law 2391 = .ok (.i2l, 1) := by decide +kernel
theorem dL_law_2392 : decode cL_law 2392 = .ok (.lcmp, 1) := by decide +kernel
theorem dL_law_2393 : decode cL_law 2393 = .ok (.ifCond .eq 5, 3) := by decide +kernel
theorem dL_law_2396 : decode cL_law 2396 = .ok (.iconst 0, 1) := by decide +kernel
theorem dL_law_2397 : decode cL_law 2397 = .ok (.ireturn, 1) := by decide +kernel
theorem dL_law_2398 : decode cL_law 2398 = .ok (.goto 226, 3) := by decide +kernel
theorem dL_law_2401 : decode cL_law 2401 = .ok (.aload_n 1, 1) := by decide +kernel
theorem dL_law_2402 : decode cL_law 2402 = .ok (.aload_n 0, 1) := by decide +kernel
theorem dL_law_2403 : decode cL_law 2403 = .ok (.iload 4, 2) := by decide +kernel
theorem dL_law_2405 : decode cL_law 2405 = .ok (.iconst 1, 1) := by decide +kernel
theorem dL_law_2406 : decode cL_law 2406 = .ok (.iadd, 1) := by decide +kernel
theorem dL_law_2407 : decode cL_law 2407 = .ok (.iaload, 1) := by decide +kernel
theorem dL_law_2408 : decode cL_law 2408 = .ok (.aload_n 0, 1) := by decide +kernel
theorem dL_law_2409 : decode cL_law 2409 = .ok (.iload 4, 2) := by decide +kernel
theorem dL_law_2411 : decode cL_law 2411 = .ok (.iconst 2, 1) := by decide +kernel
theorem dL_law_2412 : decode cL_law 2412 = .ok (.iadd, 1) := by decide +kernel
theorem dL_law_2413 : decode cL_law 2413 = .ok (.iaload, 1) := by decide +kernel
theorem dL_law_2414 : decode cL_law 2414 = .ok (.aload_n 3, 1) := by decide +kernel
theorem dL_law_2415 : decode cL_law 2415 = .ok (.invokestatic 276, 3) := by decide +kernel
theorem dL_law_2418 : decode cL_law 2418 = .ok (.istore 5, 2) := by decide +kernel
theorem dL_law_2420 : decode cL_law 2420 = .ok (.aload_n 2, 1) := by decide +kernel
theorem dL_law_2421 : decode cL_law 2421 = .ok (.aload_n 0, 1) := by decide +kernel
theorem dL_law_2422 : decode cL_law 2422 = .ok (.iload 4, 2) := by decide +kernel
theorem dL_law_2424 : decode cL_law 2424 = .ok (.iconst 1, 1) := by decide +kernel
theorem dL_law_2425 : decode cL_law 2425 = .ok (.iadd, 1) := by decide +kernel
theorem dL_law_2426 : decode cL_law 2426 = .ok (.iaload, 1) := by decide +kernel
theorem dL_law_2427 : decode cL_law 2427 = .ok (.aload_n 0, 1) := by decide +kernel
theorem dL_law_2428 : decode cL_law 2428 = .ok (.iload 4, 2) := by decide +kernel
theorem dL_law_2430 : decode cL_law 2430 = .ok (.iconst 2, 1) := by decide +kernel
theorem dL_law_2431 : decode cL_law 2431 = .ok (.iadd, 1) := by decide +kernel
theorem dL_law_2432 : decode cL_law 2432 = .ok (.iaload, 1) := by decide +kernel
theorem dL_law_2433 : decode cL_law 2433 = .ok (.invokevirtual 278, 3) := by decide +kernel
theorem dL_law_2436 : decode cL_law 2436 = .ok (.istore 6, 2) := by decide +kernel
theorem dL_law_2438 : decode cL_law 2438 = .ok (.aload_n 2, 1) := by decide +kernel
theorem dL_law_2439 : decode cL_law 2439 = .ok (.invokevirtual 147, 3) := by decide +kernel
theorem dL_law_2442 : decode cL_law 2442 = .ok (.iload 5, 2) := by decide +kernel
theorem dL_law_2444 : decode cL_law 2444 = .ok (.if_icmp .eq 5, 3) := by decide +kernel
theorem dL_law_2447 : decode cL_law 2447 = .ok (.iconst 0, 1) := by decide +kernel
theorem dL_law_2448 : decode cL_law 2448 = .ok (.ireturn, 1) := by decide +kernel
theorem dL_law_2449 : decode cL_law 2449 = .ok (.iload 5, 2) := by decide +kernel
theorem dL_law_2451 : decode cL_law 2451 = .ok (.ifCond .ne 15, 3) := by decide +kernel
theorem dL_law_2454 : decode cL_law 2454 = .ok (.aload_n 3, 1) := by decide +kernel
theorem dL_law_2455 : decode cL_law 2455 = .ok (.iconst 0, 1) := by decide +kernel
theorem dL_law_2456 : decode cL_law 2456 = .ok (.laload, 1) := by decide +kernel
theorem dL_law_2457 : decode cL_law 2457 = .ok (.iload 6, 2) := by decide +kernel
theorem dL_law_2459 : decode cL_law 2459 = .ok (.i2l, 1) := by decide +kernel
theorem dL_law_2460 : decode cL_law 2460 = .ok (.lcmp, 1) := by decide +kernel
theorem dL_law_2461 : decode cL_law 2461 = .ok (.ifCond .eq 5, 3) := by decide +kernel
theorem dL_law_2464 : decode cL_law 2464 = .ok (.iconst 0, 1) := by decide +kernel
theorem dL_law_2465 : decode cL_law 2465 = .ok (.ireturn, 1) := by decide +kernel
theorem dL_law_2466 : decode cL_law 2466 = .ok (.goto 158, 3) := by decide +kernel
theorem dL_law_2469 : decode cL_law 2469 = .ok (.aload_n 1, 1) := by decide +kernel
theorem dL_law_2470 : decode cL_law 2470 = .ok (.invokevirtual 279, 3) := by decide +kernel
theorem dL_law_2473 : decode cL_law 2473 = .ok (.aload_n 2, 1) := by decide +kernel
theorem dL_law_2474 : decode cL_law 2474 = .ok (.invokevirtual 282, 3) := by decide +kernel
theorem dL_law_2477 : decode cL_law 2477 = .ok (.if_icmp .eq 147, 3) := by decide +kernel
theorem dL_law_2480 : decode cL_law 2480 = .ok (.iconst 0, 1) := by decide +kernel
theorem dL_law_2481 : decode cL_law 2481 = .ok (.ireturn, 1) := by decide +kernel
theorem dL_law_2482 : decode cL_law 2482 = .ok (.aload_n 1, 1) := by decide +kernel
theorem dL_law_2483 : decode cL_law 2483 = .ok (.invokevirtual 283, 3) := by decide +kernel
theorem dL_law_2486 : decode cL_law 2486 = .ok (.aload_n 2, 1) := by decide +kernel
theorem dL_law_2487 : decode cL_law 2487 = .ok (.invokevirtual 286, 3) := by decide +kernel
theorem dL_law_2490 : decode cL_law 2490 = .ok (.if_icmp .eq 134, 3) := by decide +kernel
theorem dL_law_2493 : decode cL_law 2493 = .ok (.iconst 0, 1) := by decide +kernel
theorem dL_law_2494 : decode cL_law 2494 = .ok (.ireturn, 1) := by decide +kernel
theorem dL_law_2495 : decode cL_law 2495 = .ok (.aload_n 1, 1) := by decide +kernel
theorem dL_law_2496 : decode cL_law 2496 = .ok (.aload_n 0, 1) := by decide +kernel
theorem dL_law_2497 : decode cL_law 2497 = .ok (.iload 4, 2) := by decide +kernel
theorem dL_law_2499 : decode cL_law 2499 = .ok (.iconst 1, 1) := by decide +kernel
theorem dL_law_2500 : decode cL_law 2500 = .ok (.iadd, 1) := by decide +kernel
theorem dL_law_2501 : decode cL_law 2501 = .ok (.iaload, 1) := by decide +kernel
theorem dL_law_2502 : decode cL_law 2502 = .ok (.ifCond .eq 7, 3) := by decide +kernel
theorem dL_law_2505 : decode cL_law 2505 = .ok (.iconst 1, 1) := by decide +kernel
theorem dL_law_2506 : decode cL_law 2506 = .ok (.goto 4, 3) := by decide +kernel
theorem dL_law_2509 : decode cL_law 2509 = .ok (.iconst 0, 1) := by decide +kernel
theorem dL_law_2510 : decode cL_law 2510 = .ok (.aload_n 3, 1) := by decide +kernel
theorem dL_law_2511 : decode cL_law 2511 = .ok (.invokestatic 287, 3) := by decide +kernel
theorem dL_law_2514 : decode cL_law 2514 = .ok (.istore 5, 2) := by decide +kernel
theorem dL_law_2516 : decode cL_law 2516 = .ok (.aload_n 2, 1) := by decide +kernel
theorem dL_law_2517 : decode cL_law 2517 = .ok (.aload_n 0, 1) := by decide +kernel
theorem dL_law_2518 : decode cL_law 2518 = .ok (.iload 4, 2) := by decide +kernel
theorem dL_law_2520 : decode cL_law 2520 = .ok (.iconst 1, 1) := by decide +kernel
theorem dL_law_2521 : decode cL_law 2521 = .ok (.iadd, 1) := by decide +kernel
theorem dL_law_2522 : decode cL_law 2522 = .ok (.iaload, 1) := by decide +kernel
theorem dL_law_2523 : decode cL_law 2523 = .ok (.ifCond .eq 7, 3) := by decide +kernel
theorem dL_law_2526 : decode cL_law 2526 = .ok (.iconst 1, 1) := by decide +kernel
theorem dL_law_2527 : decode cL_law 2527 = .ok (.goto 4, 3) := by decide +kernel
theorem dL_law_2530 : decode cL_law 2530 = .ok (.iconst 0, 1) := by decide +kernel
theorem dL_law_2531 : decode cL_law 2531 = .ok (.invokevirtual 290, 3) := by decide +kernel
theorem dL_law_2534 : decode cL_law 2534 = .ok (.istore 6, 2) := by decide +kernel
theorem dL_law_2536 : decode cL_law 2536 = .ok (.aload_n 2, 1) := by decide +kernel
theorem dL_law_2537 : decode cL_law 2537 = .ok (.invokevirtual 147, 3) := by decide +kernel
theorem dL_law_2540 : decode cL_law 2540 = .ok (.iload 5, 2) := by decide +kernel
theorem dL_law_2542 : decode cL_law 2542 = .ok (.if_icmp .eq 5, 3) := by decide +kernel
theorem dL_law_2545 : decode cL_law 2545 = .ok (.iconst 0, 1) := by decide +kernel
theorem dL_law_2546 : decode cL_law 2546 = .ok (.ireturn, 1) := by decide +kernel
theorem dL_law_2547 : decode cL_law 2547 = .ok (.iload 5, 2) := by decide +kernel
theorem dL_law_2549 : decode cL_law 2549 = .ok (.ifCond .ne 15, 3) := by decide +kernel
theorem dL_law_2552 : decode cL_law 2552 = .ok (.aload_n 3, 1) := by decide +kernel
theorem dL_law_2553 : decode cL_law 2553 = .ok (.iconst 0, 1) := by decide +kernel
theorem dL_law_2554 : decode cL_law 2554 = .ok (.laload, 1) := by decide +kernel
theorem dL_law_2555 : decode cL_law 2555 = .ok (.iload 6, 2) := by decide +kernel
theorem dL_law_2557 : decode cL_law 2557 = .ok (.i2l, 1) := by decide +kernel
theorem dL_law_2558 : decode cL_law 2558 = .ok (.lcmp, 1) := by decide +kernel
theorem dL_law_2559 : decode cL_law 2559 = .ok (.ifCond .eq 5, 3) := by decide +kernel
theorem dL_law_2562 : decode cL_law 2562 = .ok (.iconst 0, 1) := by decide +kernel
theorem dL_law_2563 : decode cL_law 2563 = .ok (.ireturn, 1) := by decide +kernel
theorem dL_law_2564 : decode cL_law 2564 = .ok (.goto 60, 3) := by decide +kernel
theorem dL_law_2567 : decode cL_law 2567 = .ok (.aload_n 1, 1) := by decide +kernel
theorem dL_law_2568 : decode cL_law 2568 = .ok (.invokevirtual 291, 3) := by decide +kernel
theorem dL_law_2571 : decode cL_law 2571 = .ok (.aload_n 2, 1) := by decide +kernel
theorem dL_law_2572 : decode cL_law 2572 = .ok (.invokevirtual 294, 3) := by decide +kernel
theorem dL_law_2575 : decode cL_law 2575 = .ok (.if_icmp .eq 49, 3) := by decide +kernel
theorem dL_law_2578 : decode cL_law 2578 = .ok (.iconst 0, 1) := by decide +kernel
theorem dL_law_2579 : decode cL_law 2579 = .ok (.ireturn, 1) := by decide +kernel
theorem dL_law_2580 : decode cL_law 2580 = .ok (.aload_n 1, 1) := by decide +kernel
theorem dL_law_2581 : decode cL_law 2581 = .ok (.aload_n 3, 1) := by decide +kernel
theorem dL_law_2582 : decode cL_law 2582 = .ok (.invokestatic 295, 3) := by decide +kernel
theorem dL_law_2585 : decode cL_law 2585 = .ok (.istore 5, 2) := by decide +kernel
theorem dL_law_2587 : decode cL_law 2587 = .ok (.aload_n 2, 1) := by decide +kernel
theorem dL_law_2588 : decode cL_law 2588 = .ok (.invokevirtual 297, 3) := by decide +kernel
theorem dL_law_2591 : decode cL_law 2591 = .ok (.istore 6, 2) := by decide +kernel
theorem dL_law_2593 : decode cL_law 2593 = .ok (.aload_n 2, 1) := by decide +kernel
theorem dL_law_2594 : decode cL_law 2594 = .ok (.invokevirtual 147, 3) := by decide +kernel
theorem dL_law_2597 : decode cL_law 2597 = .ok (.iload 5, 2) := by decide +kernel
theorem dL_law_2599 : decode cL_law 2599 = .ok (.if_icmp .eq 5, 3) := by decide +kernel
theorem dL_law_2602 : decode cL_law 2602 = .ok (.iconst 0, 1) := by decide +kernel
theorem dL_law_2603 : decode cL_law 2603 = .ok (.ireturn, 1) := by decide +kernel
theorem dL_law_2604 : decode cL_law 2604 = .ok (.iload 5, 2) := by decide +kernel
theorem dL_law_2606 : decode cL_law 2606 = .ok (.ifCond .ne 15, 3) := by decide +kernel
theorem dL_law_2609 : decode cL_law 2609 = .ok (.aload_n 3, 1) := by decide +kernel
theorem dL_law_2610 : decode cL_law 2610 = .ok (.iconst 0, 1) := by decide +kernel
theorem dL_law_2611 : decode cL_law 2611 = .ok (.laload, 1) := by decide +kernel
theorem dL_law_2612 : decode cL_law 2612 = .ok (.iload 6, 2) := by decide +kernel
theorem dL_law_2614 : decode cL_law 2614 = .ok (.i2l, 1) := by decide +kernel
theorem dL_law_2615 : decode cL_law 2615 = .ok (.lcmp, 1) := by decide +kernel
theorem dL_law_2616 : decode cL_law 2616 = .ok (.ifCond .eq 5, 3) := by decide +kernel
theorem dL_law_2619 : decode cL_law 2619 = .ok (.iconst 0, 1) := by decide +kernel
theorem dL_law_2620 : decode cL_law 2620 = .ok (.ireturn, 1) := by decide +kernel
theorem dL_law_2621 : decode cL_law 2621 = .ok (.goto 3, 3) := by decide +kernel
theorem dL_law_2624 : decode cL_law 2624 = .ok (.iinc 4 4, 3) := by decide +kernel
theorem dL_law_2627 : decode cL_law 2627 = .ok (.goto (-2604), 3) := by decide +kernel
theorem dL_law_2630 : decode cL_law 2630 = .ok (.iconst 1, 1) := by decide +kernel
theorem dL_law_2631 : decode cL_law 2631 = .ok (.ireturn, 1) := by decide +kernel
