theorem goodIn_cons {big ws : List Cond} {c : Cond} (h : GoodIn big [c]) (k : GoodIn big ws) : GoodIn big (c :: ws) := fun w hw => (List.mem_cons.mp hw).elim (fun e => h w (List.mem_singleton.mpr e)) (k w)
set_option maxRecDepth 100000 in
theorem zg_wsX4_init_r1 : GoodIn wsL_law wsX4_init_r1 := goodIn_r _ [8, 9, 10, 11, 12, 13, 14, 15, 16, 17, 18, 19, 20, 21, 22, 23, 24, 25, 26, 27, 28, 29, 30, 31] rfl (by decide +kernel)
set_option maxRecDepth 100000 in
theorem zg_wsX4_init_r2 : GoodIn wsL_law wsX4_init_r2 := goodIn_r _ [3, 32, 33, 34, 35, 36, 37, 38, 39, 40, 41, 42, 43, 44, 45, 2, 46, 47, 48, 49, 50, 51, 52, 53] rfl (by decide +kernel)
set_option maxRecDepth 100000 in
theorem zg_wsX4_init_r3 : GoodIn wsL_law wsX4_init_r3 := goodIn_r _ [54, 55, 56, 57, 58, 59, 60, 61, 62, 63, 64, 65, 66, 67, 68, 69] rfl (by decide +kernel)
theorem zg_wsX00 : GoodIn wsL_law wsX00 := goodIn_sub inlX0 (by decide +kernel)
theorem zg_wsX40 : GoodIn wsL_law wsX40 := goodIn_sub inlX4 (by decide +kernel)
theorem zg_wsX10 : GoodIn wsL_law wsX10 := goodIn_sub inlX1 (by decide +kernel)
theorem zg_wsX30 : GoodIn wsL_law wsX30 := goodIn_sub inlX3 (by decide +kernel)
theorem zg_wsX20 : GoodIn wsL_law wsX20 := goodIn_sub inlX2 (by decide +kernel)
set_option maxRecDepth 100000 in
theorem ggL_law_X4_init : GoodIn wsL_law wsX4_init := (goodIn_cons (goodIn_r _ [7] rfl (by decide +kernel)) (goodIn_app (goodIn_app (goodIn_app (goodIn_app (goodIn_app (goodIn_app zg_wsX4_init_r1 (goodIn_app zg_wsX4_init_r2 zg_wsX4_init_r3)) zg_wsX00) zg_wsX40) zg_wsX10) zg_wsX30) zg_wsX20))
set_option maxRecDepth 100000 in
theorem gL_law_X4_init : GoodIn wsL_law (wsX4_init) := ggL_law_X4_init
set_option maxRecDepth 100000 in
theorem zg_wsX4_pupil_r1 : GoodIn wsL_law wsX4_pupil_r1 := goodIn_r _ [74, 75, 76, 2, 77, 15, 14, 78, 79, 80, 13, 81, 32, 33, 34, 35, 36, 37, 38, 39, 40, 41, 42, 43] rfl (by decide +kernel)
set_option maxRecDepth 100000 in
theorem zg_wsX4_pupil_r2 : GoodIn wsL_law wsX4_pupil_r2 := goodIn_r _ [44, 82, 83, 84, 85, 86, 87, 88, 89, 90, 91, 92, 93, 94, 95, 96, 97, 98, 99, 100, 101, 102, 103, 104] rfl (by decide +kernel)
set_option maxRecDepth 100000 in
theorem zg_wsX4_pupil_r3 : GoodIn wsL_law wsX4_pupil_r3 := goodIn_r _ [105, 106, 19, 107, 108, 109, 18, 110, 111, 54, 112, 113, 114, 115, 116] rfl (by decide +kernel)
set_option maxRecDepth 100000 in
theorem ggL_law_X4_pupil : GoodIn wsL_law wsX4_pupil := (goodIn_cons (goodIn_r _ [73] rfl (by decide +kernel)) (goodIn_app (goodIn_app (goodIn_app (goodIn_app zg_wsX4_pupil_r1 (goodIn_app zg_wsX4_pupil_r2 zg_wsX4_pupil_r3)) zg_wsX40) zg_wsX00) zg_wsX10))
set_option maxRecDepth 100000 in
theorem gL_law_X4_pupil : GoodIn wsL_law (wsV RL 88 RX4 yX4_pupil wsX4_pupil) := goodIn_app (goodIn_of _ (by decide +kernel)) ggL_law_X4_pupil
set_option maxRecDepth 100000 in
theorem ggL_law_L_cell : GoodIn wsL_law wsL_cell := (goodIn_cons (goodIn_r _ [120] rfl (by decide +kernel)) (goodIn_r _ [121] rfl (by decide +kernel)))
set_option maxRecDepth 100000 in
theorem gL_law_L_cell : GoodIn wsL_law (va_wsS RL 125 yL_cell wsL_cell) := goodIn_app (goodIn_of _ (by decide +kernel)) ggL_law_L_cell
set_option maxRecDepth 100000 in
theorem zg_wsL_isActed_r1 : GoodIn wsL_law wsL_isActed_r1 := goodIn_r _ [125, 126, 127, 70, 71, 72, 2, 73, 74, 75, 76, 77, 15, 14, 78, 79, 80, 13, 81, 32, 33, 34, 35, 36] rfl (by decide +kernel)
set_option maxRecDepth 100000 in
theorem zg_wsL_isActed_r2 : GoodIn wsL_law wsL_isActed_r2 := goodIn_r _ [37, 38, 39, 40, 41, 42, 43, 44, 82, 83, 84, 85, 86, 87, 88, 89, 90, 91, 92, 93, 94, 95, 96, 97] rfl (by decide +kernel)
set_option maxRecDepth 100000 in
theorem zg_wsL_isActed_r3 : GoodIn wsL_law wsL_isActed_r3 := goodIn_r _ [98, 99, 100, 101, 102, 103, 104, 105, 106, 19, 107, 108, 109, 18, 110, 111, 54, 112, 113, 114, 115, 116, 128, 129] rfl (by decide +kernel)
set_option maxRecDepth 100000 in
theorem zg_wsL_isActed_r4 : GoodIn wsL_law wsL_isActed_r4 := goodIn_r _ [119, 130, 131, 132, 133, 134, 135, 136, 137, 138, 139, 140, 141, 142, 143, 144, 145, 146, 147, 148, 149, 150, 151, 152] rfl (by decide +kernel)
set_option maxRecDepth 100000 in
theorem zg_wsL_isActed_r5 : GoodIn wsL_law wsL_isActed_r5 := goodIn_r _ [153, 154, 155, 156, 157, 158, 159, 160, 161, 162, 163, 164, 165, 166, 167, 168, 169, 170, 171, 172, 173, 174, 175, 176] rfl (by decide +kernel)
set_option maxRecDepth 100000 in
theorem zg_wsL_isActed_r6 : GoodIn wsL_law wsL_isActed_r6 := goodIn_r _ [177, 178, 179, 180, 181, 182, 183, 184, 185, 186, 47, 48, 187, 188, 189, 190, 191, 192, 193, 194, 195, 196, 197, 198] rfl (by decide +kernel)
set_option maxRecDepth 100000 in
theorem zg_wsL_isActed_r7 : GoodIn wsL_law wsL_isActed_r7 := goodIn_r _ [199, 200, 201, 202, 203, 204, 205, 206, 207, 208, 209, 210, 211, 212, 213, 214, 215, 216, 217, 218, 219, 220, 221, 222] rfl (by decide +kernel)
set_option maxRecDepth 100000 in
theorem zg_wsL_isActed_r8 : GoodIn wsL_law wsL_isActed_r8 := goodIn_r _ [223, 224, 225, 226, 227, 228, 229, 230, 3, 231, 232, 233, 234, 235, 236, 237, 238, 239, 240, 241, 242, 243, 23, 244] rfl (by decide +kernel)
set_option maxRecDepth 100000 in
theorem zg_wsL_isActed_r9 : GoodIn wsL_law wsL_isActed_r9 := goodIn_r _ [245, 246, 22, 247, 248, 249, 250, 251, 252, 253, 63, 254, 255, 256, 257, 60, 258, 259, 260, 261, 262, 263, 61, 62] rfl (by decide +kernel)
set_option maxRecDepth 100000 in
theorem zg_wsL_isActed_r10 : GoodIn wsL_law wsL_isActed_r10 := goodIn_r _ [264, 265, 266, 267, 268, 269, 270, 271, 272, 273, 274, 275, 276, 277, 278, 279, 280, 281, 282, 283, 284, 285, 286, 287] rfl (by decide +kernel)
set_option maxRecDepth 100000 in
theorem zg_wsL_isActed_r11 : GoodIn wsL_law wsL_isActed_r11 := goodIn_r _ [288, 289, 290, 291, 292, 293, 294, 295, 296, 297, 298, 299, 300, 301, 302, 303, 304, 305, 306, 307, 308, 309, 310, 311] rfl (by decide +kernel)
set_option maxRecDepth 100000 in
theorem zg_wsL_isActed_r12 : GoodIn wsL_law wsL_isActed_r12 := goodIn_r _ [312, 313, 314, 315, 316, 317, 318, 319, 320, 321, 322, 323, 324, 325, 326, 327, 328, 329, 330, 331, 332, 333, 334, 335] rfl (by decide +kernel)
set_option maxRecDepth 100000 in
theorem zg_wsL_isActed_r13 : GoodIn wsL_law wsL_isActed_r13 := goodIn_r _ [336, 337, 338, 339, 340, 341, 342, 343, 344, 345, 346, 347] rfl (by decide +kernel)
set_option maxRecDepth 100000 in
theorem ggL_law_L_isActed : GoodIn wsL_law wsL_isActed := (goodIn_cons (goodIn_r _ [124] rfl (by decide +kernel)) (goodIn_app (goodIn_app (goodIn_app (goodIn_app (goodIn_app zg_wsL_isActed_r1 (goodIn_app zg_wsL_isActed_r2 (goodIn_app zg_wsL_isActed_r3 (goodIn_app zg_wsL_isActed_r4 (goodIn_app zg_wsL_isActed_r5 (goodIn_app zg_wsL_isActed_r6 (goodIn_app zg_wsL_isActed_r7 (goodIn_app zg_wsL_isActed_r8 (goodIn_app zg_wsL_isActed_r9 (goodIn_app zg_wsL_isActed_r10 (goodIn_app zg_wsL_isActed_r11 (goodIn_app zg_wsL_isActed_r12 zg_wsL_isActed_r13)))))))))))) zg_wsX40) zg_wsX00) zg_wsX10) zg_wsX30))
set_option maxRecDepth 100000 in
theorem gL_law_L_isActed : GoodIn wsL_law (va_wsS RL 129 yL_isActed wsL_isActed) := goodIn_app (goodIn_of _ (by decide +kernel)) ggL_law_L_isActed
set_option maxRecDepth 100000 in
theorem zg_wsL_areLots_r1 : GoodIn wsL_law wsL_areLots_r1 := goodIn_r _ [126, 351, 352, 353, 354, 2, 355, 356, 14, 357, 358, 98, 99, 13, 100, 32, 359, 360, 361, 362, 39, 40, 41, 42] rfl (by decide +kernel)
set_option maxRecDepth 100000 in
theorem zg_wsL_areLots_r2 : GoodIn wsL_law wsL_areLots_r2 := goodIn_r _ [43, 44, 177, 178, 137, 138, 119, 139, 134, 135, 136, 234, 235, 236, 231, 232, 233, 190, 191, 192, 363, 364, 365, 366] rfl (by decide +kernel)
set_option maxRecDepth 100000 in
theorem zg_wsL_areLots_r3 : GoodIn wsL_law wsL_areLots_r3 := goodIn_r _ [19, 27, 367, 170, 171, 172, 97, 173, 174, 175, 176, 368, 369, 370, 371, 179, 180, 181, 182, 36, 372, 373, 374, 18] rfl (by decide +kernel)
set_option maxRecDepth 100000 in
theorem zg_wsL_areLots_r4 : GoodIn wsL_law wsL_areLots_r4 := goodIn_r _ [375, 111, 376, 377, 378, 26, 379, 380] rfl (by decide +kernel)
set_option maxRecDepth 100000 in
theorem ggL_law_L_areLots : GoodIn wsL_law wsL_areLots := (goodIn_cons (goodIn_r _ [350] rfl (by decide +kernel)) (goodIn_app (goodIn_app (goodIn_app (goodIn_app (goodIn_app zg_wsL_areLots_r1 (goodIn_app zg_wsL_areLots_r2 (goodIn_app zg_wsL_areLots_r3 zg_wsL_areLots_r4))) zg_wsX40) zg_wsX00) zg_wsX10) zg_wsX20))
set_option maxRecDepth 100000 in
theorem gL_law_L_areLots : GoodIn wsL_law (va_wsS RL 133 yL_areLots wsL_areLots) := goodIn_app (goodIn_of _ (by decide +kernel)) ggL_law_L_areLots
set_option maxRecDepth 100000 in
theorem zg_wsL_arePupils_r1 : GoodIn wsL_law wsL_arePupils_r1 := goodIn_r _ [126, 351, 384, 385, 386, 2, 387, 14, 356, 388, 158, 159, 13, 160, 97, 98, 99, 100, 32, 389, 390, 391, 392, 33] rfl (by decide +kernel)
set_option maxRecDepth 100000 in
theorem zg_wsL_arePupils_r2 : GoodIn wsL_law wsL_arePupils_r2 := goodIn_r _ [34, 35, 393, 37, 38, 169, 170, 171, 172, 42, 173, 174, 175, 176, 39, 40, 41, 177, 178, 394, 395, 396, 397, 179] rfl (by decide +kernel)
set_option maxRecDepth 100000 in
theorem zg_wsL_arePupils_r3 : GoodIn wsL_law wsL_arePupils_r3 := goodIn_r _ [180, 181, 182, 36, 398, 399, 400, 401, 357, 358, 402, 403, 404, 405, 406, 407, 119, 408, 234, 235, 236, 137, 138, 139] rfl (by decide +kernel)
set_option maxRecDepth 100000 in
theorem zg_wsL_arePupils_r4 : GoodIn wsL_law wsL_arePupils_r4 := goodIn_r _ [131, 132, 133, 134, 135, 136, 231, 232, 233, 190, 191, 192, 409, 410, 411, 412, 413, 414, 415, 416, 417, 418, 86, 419] rfl (by decide +kernel)
set_option maxRecDepth 100000 in
theorem zg_wsL_arePupils_r5 : GoodIn wsL_law wsL_arePupils_r5 := goodIn_r _ [208, 85, 87, 336, 337, 338, 339, 43, 420, 421, 422, 423, 424, 163, 164, 425, 166, 167, 168, 128, 129, 130, 363, 364] rfl (by decide +kernel)
set_option maxRecDepth 100000 in
theorem zg_wsL_arePupils_r6 : GoodIn wsL_law wsL_arePupils_r6 := goodIn_r _ [365, 366, 19, 27, 367, 368, 369, 370, 371, 372, 373, 374, 18, 375, 111, 376, 377, 378, 26, 379, 380] rfl (by decide +kernel)
set_option maxRecDepth 100000 in
theorem ggL_law_L_arePupils : GoodIn wsL_law wsL_arePupils := (goodIn_cons (goodIn_r _ [383] rfl (by decide +kernel)) (goodIn_app (goodIn_app (goodIn_app (goodIn_app (goodIn_app zg_wsL_arePupils_r1 (goodIn_app zg_wsL_arePupils_r2 (goodIn_app zg_wsL_arePupils_r3 (goodIn_app zg_wsL_arePupils_r4 (goodIn_app zg_wsL_arePupils_r5 zg_wsL_arePupils_r6))))) zg_wsX40) zg_wsX00) zg_wsX10) zg_wsX20))
set_option maxRecDepth 100000 in
theorem gL_law_L_arePupils : GoodIn wsL_law (va_wsS RL 137 yL_arePupils wsL_arePupils) := goodIn_app (goodIn_of _ (by decide +kernel)) ggL_law_L_arePupils
set_option maxRecDepth 100000 in
theorem zg_wsL_areRings_r1 : GoodIn wsL_law wsL_areRings_r1 := goodIn_r _ [126, 351, 429, 430, 431, 2, 432, 356, 23, 14, 357, 433, 161, 162, 434, 251, 252, 22, 253, 249, 63, 254, 255, 256] rfl (by decide +kernel)
set_option maxRecDepth 100000 in
theorem zg_wsL_areRings_r2 : GoodIn wsL_law wsL_areRings_r2 := goodIn_r _ [257, 60, 258, 98, 99, 13, 100, 32, 259, 174, 175, 176, 39, 40, 41, 177, 178, 101, 102, 260, 261, 262, 263, 61] rfl (by decide +kernel)
set_option maxRecDepth 100000 in
theorem zg_wsL_areRings_r3 : GoodIn wsL_law wsL_areRings_r3 := goodIn_r _ [62, 47, 48, 264, 265, 266, 267, 268, 269, 270, 271, 272, 273, 274, 275, 276, 277, 278, 279, 435, 436, 437, 438, 439] rfl (by decide +kernel)
set_option maxRecDepth 100000 in
theorem zg_wsL_areRings_r4 : GoodIn wsL_law wsL_areRings_r4 := goodIn_r _ [440, 441, 442, 443, 444, 281, 282, 283, 284, 85, 86, 87, 285, 286, 287, 288, 228, 229, 119, 230, 3, 134, 135, 136] rfl (by decide +kernel)
set_option maxRecDepth 100000 in
theorem zg_wsL_areRings_r5 : GoodIn wsL_law wsL_areRings_r5 := goodIn_r _ [231, 232, 233, 234, 235, 236, 237, 238, 239, 140, 141, 142, 137, 138, 139, 445, 446, 447, 448, 388, 158, 159, 160, 97] rfl (by decide +kernel)
set_option maxRecDepth 100000 in
theorem zg_wsL_areRings_r6 : GoodIn wsL_law wsL_areRings_r6 := goodIn_r _ [367, 170, 171, 172, 42, 173] rfl (by decide +kernel)
set_option maxRecDepth 100000 in
theorem ggL_law_L_areRings : GoodIn wsL_law wsL_areRings := (goodIn_cons (goodIn_r _ [428] rfl (by decide +kernel)) (goodIn_app (goodIn_app (goodIn_app (goodIn_app zg_wsL_areRings_r1 (goodIn_app zg_wsL_areRings_r2 (goodIn_app zg_wsL_areRings_r3 (goodIn_app zg_wsL_areRings_r4 (goodIn_app zg_wsL_areRings_r5 zg_wsL_areRings_r6))))) zg_wsX40) zg_wsX30) zg_wsX00))
set_option maxRecDepth 100000 in
theorem gL_law_L_areRings : GoodIn wsL_law (va_wsS RL 141 yL_areRings wsL_areRings) := goodIn_app (goodIn_of _ (by decide +kernel)) ggL_law_L_areRings
