set_option maxRecDepth 20000 in
theorem ggL_law_X4_init : GoodIn wsL_law wsX4_init := goodIn_r _ [8, 9, 10, 11, 12, 13, 14, 15, 16, 17, 18, 19, 20, 21, 22, 23, 24, 25, 26, 27, 28, 29, 30, 31, 32, 33, 34, 35, 36, 37, 38, 39, 40, 41, 42, 43, 44, 45, 46, 47, 2, 48, 49, 50, 51, 52, 53, 54, 55, 56, 57, 58, 59, 60, 61, 62, 63, 64, 65, 66, 67, 68, 69, 70, 71, 812, 813, 814, 815, 816, 817, 818, 819, 820, 821, 822, 823, 824, 789, 790, 791, 792, 793, 825, 826, 827, 828, 829, 830, 831, 832, 833, 834, 835, 836, 837, 838, 839] (by decide +kernel) (by decide +kernel)
set_option maxRecDepth 20000 in
theorem gL_law_X4_init : GoodIn wsL_law (wsX4_init) := ggL_law_X4_init
set_option maxRecDepth 20000 in
theorem ggL_law_X5_init : GoodIn wsL_law wsX5_init := goodIn_r _ [74, 75, 10, 11, 33, 76, 77, 78, 79, 80, 81, 82, 83, 84, 794, 795, 796, 797, 798, 799, 800, 801, 802, 803, 804, 805, 806, 807, 808, 809, 810, 811] (by decide +kernel) (by decide +kernel)
set_option maxRecDepth 20000 in
theorem gL_law_X5_init : GoodIn wsL_law (wsX5_init) := ggL_law_X5_init
set_option maxRecDepth 20000 in
theorem ggL_law_X4_pupil : GoodIn wsL_law wsX4_pupil := goodIn_r _ [88, 89, 90, 91, 2, 92, 16, 15, 93, 94, 95, 14, 96, 34, 35, 36, 37, 38, 39, 40, 41, 42, 43, 44, 45, 46, 97, 98, 99, 100, 101, 102, 103, 104, 105, 106, 107, 108, 109, 110, 111, 112, 113, 114, 115, 116, 117, 118, 119, 120, 121, 20, 122, 123, 124, 19, 125, 126, 56, 127, 128, 129, 130, 131, 789, 790, 791, 792, 793, 812, 813, 814, 815, 816, 817, 818, 819, 820, 821, 822, 823, 824, 825, 826] (by decide +kernel) (by decide +kernel)
set_option maxRecDepth 20000 in
theorem gL_law_X4_pupil : GoodIn wsL_law (wsV RL 13 RX4 yX4_pupil wsX4_pupil) := goodIn_app (goodIn_of _ (by decide +kernel)) ggL_law_X4_pupil
set_option maxRecDepth 20000 in
theorem ggL_law_X5_pupil : GoodIn wsL_law wsX5_pupil := goodIn_r _ [135, 76, 136, 137, 138, 139, 5, 140, 141, 142, 77, 794, 795, 796, 797, 798, 799, 800, 801, 802, 803, 804, 805, 806, 807, 808, 809, 810, 811] (by decide +kernel) (by decide +kernel)
set_option maxRecDepth 20000 in
theorem gL_law_X5_pupil : GoodIn wsL_law (wsV RL 17 RX5 yX5_pupil wsX5_pupil) := goodIn_app (goodIn_of _ (by decide +kernel)) ggL_law_X5_pupil
set_option maxRecDepth 20000 in
theorem ggL_law_X4_lend : GoodIn wsL_law wsX4_lend := goodIn_r _ [146, 89, 90, 91, 2, 92, 16, 15, 93, 94, 95, 14, 96, 34, 35, 36, 37, 38, 39, 40, 41, 42, 43, 44, 45, 46, 97, 98, 99, 100, 101, 102, 103, 104, 105, 106, 147, 148, 149, 150, 151, 152, 111, 153, 154, 155, 156, 157, 158, 159, 160, 112, 113, 114, 115, 161, 162, 163, 164, 165, 166, 167, 168, 169, 170, 171, 172, 173, 174, 175, 176, 177, 178, 179, 180, 181, 182, 183, 184, 185, 186, 49, 50, 116, 117, 118, 119, 120, 121, 20, 122, 123, 124, 19, 125, 126, 56, 127, 128, 129, 130, 131, 789, 790, 791, 792, 793, 812, 813, 814, 815, 816, 817, 818, 819, 820, 821, 822, 823, 824, 825, 826] (by decide +kernel) (by decide +kernel)
set_option maxRecDepth 20000 in
theorem gL_law_X4_lend : GoodIn wsL_law (wsV RL 18 RX4 yX4_lend wsX4_lend) := goodIn_app (goodIn_of _ (by decide +kernel)) ggL_law_X4_lend
set_option maxRecDepth 20000 in
theorem ggL_law_X5_lend : GoodIn wsL_law wsX5_lend := goodIn_r _ [190, 191, 192, 76, 136, 193, 194, 195, 5, 196, 197, 198, 199, 200, 201, 202, 203, 204, 205, 206, 207, 208, 209, 210, 211, 212, 213, 214, 215, 216, 217, 218, 219, 220, 221, 137, 138, 139, 140, 141, 142, 77, 222, 223, 224, 225, 226, 227, 228, 229, 230, 231, 232, 233, 794, 795, 796, 797, 798, 799, 800, 801, 802, 803, 804, 805, 806, 807, 808, 809, 810, 811] (by decide +kernel) (by decide +kernel)
set_option maxRecDepth 20000 in
theorem gL_law_X5_lend : GoodIn wsL_law (wsV RL 22 RX5 yX5_lend wsX5_lend) := goodIn_app (goodIn_of _ (by decide +kernel)) ggL_law_X5_lend
set_option maxRecDepth 20000 in
theorem ggL_law_X4_fulfil : GoodIn wsL_law wsX4_fulfil := goodIn_r _ [237, 89, 90, 91, 2, 92, 16, 15, 93, 94, 95, 14, 96, 34, 35, 36, 37, 38, 39, 40, 41, 42, 43, 44, 45, 46, 97, 98, 99, 100, 101, 102, 103, 104, 105, 106, 238, 239, 240, 241, 151, 152, 153, 154, 155, 156, 157, 158, 159, 160, 112, 113, 114, 115, 161, 162, 163, 164, 169, 170, 171, 172, 173, 174, 175, 176, 177, 178, 242, 243, 244, 245, 246, 247, 248, 249, 250, 116, 117, 251, 252, 253, 254, 49, 50, 118, 119, 120, 121, 20, 122, 123, 124, 19, 125, 126, 56, 127, 128, 129, 130, 131, 789, 790, 791, 792, 793, 812, 813, 814, 815, 816, 817, 818, 819, 820, 821, 822, 823, 824, 825, 826] (by decide +kernel) (by decide +kernel)
set_option maxRecDepth 20000 in
theorem gL_law_X4_fulfil : GoodIn wsL_law (wsV RL 23 RX4 yX4_fulfil wsX4_fulfil) := goodIn_app (goodIn_of _ (by decide +kernel)) ggL_law_X4_fulfil
set_option maxRecDepth 20000 in
theorem ggL_law_X5_fulfil : GoodIn wsL_law wsX5_fulfil := goodIn_r _ [258, 191, 192, 76, 193, 194, 195, 5, 196, 197, 198, 199, 200, 201, 202, 203, 204, 205, 206, 230, 231, 232, 233, 215, 216, 217, 218, 137, 138, 139, 140, 141, 142, 77, 259, 260, 261, 262, 263, 264, 265, 266, 267, 222, 223, 224, 225, 268, 269, 270, 271, 219, 220, 221, 226, 227, 228, 229, 794, 795, 796, 797, 798, 799, 800, 801, 802, 803, 804, 805, 806, 807, 808, 809, 810, 811] (by decide +kernel) (by decide +kernel)
set_option maxRecDepth 20000 in
theorem gL_law_X5_fulfil : GoodIn wsL_law (wsV RL 26 RX5 yX5_fulfil wsX5_fulfil) := goodIn_app (goodIn_of _ (by decide +kernel)) ggL_law_X5_fulfil
set_option maxRecDepth 20000 in
theorem ggL_law_X4_guarantee : GoodIn wsL_law wsX4_guarantee := goodIn_r _ [275, 89, 90, 91, 2, 92, 16, 15, 93, 94, 95, 14, 96, 34, 35, 36, 37, 38, 39, 40, 41, 42, 43, 44, 45, 46, 97, 98, 99, 100, 101, 102, 103, 104, 105, 106, 276, 277, 278, 279, 151, 157, 158, 159, 160, 112, 113, 114, 115, 153, 154, 155, 156, 177, 178, 49, 50, 118, 119, 120, 121, 20, 122, 123, 124, 19, 125, 126, 56, 127, 128, 129, 130, 131, 789, 790, 791, 792, 793, 812, 813, 814, 815, 816, 817, 818, 819, 820, 821, 822, 823, 824, 825, 826] (by decide +kernel) (by decide +kernel)
set_option maxRecDepth 20000 in
theorem gL_law_X4_guarantee : GoodIn wsL_law (wsV RL 27 RX4 yX4_guarantee wsX4_guarantee) := goodIn_app (goodIn_of _ (by decide +kernel)) ggL_law_X4_guarantee
set_option maxRecDepth 20000 in
theorem ggL_law_X5_guarantee : GoodIn wsL_law wsX5_guarantee := goodIn_r _ [283, 191, 76, 197, 198, 199, 5, 200, 201, 202, 203, 137, 138, 139, 140, 141, 142, 77, 219, 220, 221, 794, 795, 796, 797, 798, 799, 800, 801, 802, 803, 804, 805, 806, 807, 808, 809, 810, 811] (by decide +kernel) (by decide +kernel)
set_option maxRecDepth 20000 in
theorem gL_law_X5_guarantee : GoodIn wsL_law (wsV RL 31 RX5 yX5_guarantee wsX5_guarantee) := goodIn_app (goodIn_of _ (by decide +kernel)) ggL_law_X5_guarantee
set_option maxRecDepth 20000 in
theorem ggL_law_X4_weeks : GoodIn wsL_law wsX4_weeks := goodIn_r _ [287, 89, 90, 91, 2, 92, 16, 15, 93, 94, 95, 14, 96, 34, 35, 36, 37, 38, 39, 40, 41, 42, 43, 44, 45, 46, 97, 98, 99, 100, 101, 102, 103, 104, 105, 106, 288, 289, 290, 291, 151, 111, 112, 113, 114, 115, 292, 293, 294, 295, 116, 117, 296, 297, 298, 299, 300, 301, 302, 303, 177, 178, 304, 305, 306, 307, 179, 180, 181, 182, 49, 50, 308, 309, 310, 311, 251, 252, 253, 254, 118, 119, 120, 121, 20, 122, 123, 124, 19, 125, 126, 56, 127, 128, 129, 130, 131, 789, 790, 791, 792, 793, 812, 813, 814, 815, 816, 817, 818, 819, 820, 821, 822, 823, 824, 825, 826] (by decide +kernel) (by decide +kernel)
set_option maxRecDepth 20000 in
theorem gL_law_X4_weeks : GoodIn wsL_law (wsV RL 32 RX4 yX4_weeks wsX4_weeks) := goodIn_app (goodIn_of _ (by decide +kernel)) ggL_law_X4_weeks
set_option maxRecDepth 20000 in
theorem ggL_law_X5_weeks : GoodIn wsL_law wsX5_weeks := goodIn_r _ [315, 191, 76, 136, 201, 202, 5, 203, 137, 138, 139, 140, 141, 142, 77, 316, 317, 318, 319, 215, 216, 217, 218, 222, 223, 224, 225, 320, 321, 322, 323, 219, 220, 221, 226, 227, 228, 229, 268, 269, 270, 271, 794, 795, 796, 797, 798, 799, 800, 801, 802, 803, 804, 805, 806, 807, 808, 809, 810, 811] (by decide +kernel) (by decide +kernel)
set_option maxRecDepth 20000 in
theorem gL_law_X5_weeks : GoodIn wsL_law (wsV RL 36 RX5 yX5_weeks wsX5_weeks) := goodIn_app (goodIn_of _ (by decide +kernel)) ggL_law_X5_weeks
set_option maxRecDepth 20000 in
theorem ggL_law_X4_holiday : GoodIn wsL_law wsX4_holiday := goodIn_r _ [327, 89, 90, 91, 2, 92, 16, 15, 93, 94, 95, 14, 96, 34, 35, 36, 37, 38, 39, 40, 41, 42, 43, 44, 45, 46, 97, 98, 99, 100, 101, 102, 103, 104, 105, 106, 328, 329, 330, 331, 112, 113, 114, 115, 49, 50, 118, 119, 120, 121, 20, 122, 123, 124, 19, 125, 126, 56, 127, 128, 129, 130, 131, 789, 790, 791, 792, 793, 812, 813, 814, 815, 816, 817, 818, 819, 820, 821, 822, 823, 824, 825, 826] (by decide +kernel) (by decide +kernel)
set_option maxRecDepth 20000 in
theorem gL_law_X4_holiday : GoodIn wsL_law (wsV RL 37 RX4 yX4_holiday wsX4_holiday) := goodIn_app (goodIn_of _ (by decide +kernel)) ggL_law_X4_holiday
set_option maxRecDepth 20000 in
theorem ggL_law_X5_holiday : GoodIn wsL_law wsX5_holiday := goodIn_r _ [335, 76, 137, 138, 139, 5, 140, 141, 142, 77, 794, 795, 796, 797, 798, 799, 800, 801, 802, 803, 804, 805, 806, 807, 808, 809, 810, 811] (by decide +kernel) (by decide +kernel)
set_option maxRecDepth 20000 in
theorem gL_law_X5_holiday : GoodIn wsL_law (wsV RL 41 RX5 yX5_holiday wsX5_holiday) := goodIn_app (goodIn_of _ (by decide +kernel)) ggL_law_X5_holiday
set_option maxRecDepth 20000 in
theorem ggL_law_X4_clear : GoodIn wsL_law wsX4_clear := goodIn_r _ [339, 24, 89, 90, 91, 2, 92, 16, 15, 93, 94, 95, 14, 96, 34, 35, 36, 37, 38, 39, 40, 41, 42, 43, 44, 45, 46, 97, 98, 99, 100, 101, 102, 103, 104, 105, 106, 340, 341, 342, 23, 343, 344, 345, 161, 162, 346, 347, 348, 349, 65, 350, 351, 352, 353, 62, 354, 113, 114, 115, 355, 174, 175, 176, 177, 178, 116, 117, 356, 357, 358, 359, 63, 64, 49, 50, 360, 361, 362, 363, 364, 365, 366, 367, 368, 369, 370, 371, 372, 373, 374, 375, 376, 377, 378, 379, 380, 381, 382, 383, 384, 385, 243, 244, 245, 246, 247, 248, 249, 250, 112, 173, 251, 252, 253, 254, 386, 387, 388, 389, 390, 391, 392, 393, 118, 119, 120, 121, 20, 122, 123, 124, 19, 125, 126, 56, 127, 128, 129, 130, 131, 789, 790, 791, 792, 793, 812, 813, 814, 815, 816, 817, 818, 819, 820, 821, 822, 823, 824, 827, 828, 829, 830, 831, 825, 826] (by decide +kernel) (by decide +kernel)
set_option maxRecDepth 20000 in
theorem gL_law_X4_clear : GoodIn wsL_law (wsV RL 42 RX4 yX4_clear wsX4_clear) := goodIn_app (goodIn_of _ (by decide +kernel)) ggL_law_X4_clear
set_option maxRecDepth 20000 in
theorem ggL_law_X5_clear : GoodIn wsL_law wsX5_clear := goodIn_r _ [397, 191, 204, 205, 5, 206, 201, 202, 203, 137, 138, 139, 140, 141, 142, 77, 76, 398, 399, 400, 401, 83, 402, 403, 404, 405, 81, 82, 406, 407, 408, 409, 215, 216, 217, 218, 410, 411, 412, 413, 414, 415, 416, 417, 418, 419, 420, 230, 231, 232, 233, 259, 260, 261, 262, 263, 264, 265, 266, 267, 222, 223, 224, 225, 268, 269, 270, 271, 219, 220, 221, 794, 795, 796, 797, 798, 799, 800, 801, 802, 803, 804, 805, 806, 807, 808, 809, 810, 811] (by decide +kernel) (by decide +kernel)
set_option maxRecDepth 20000 in
theorem gL_law_X5_clear : GoodIn wsL_law (wsV RL 45 RX5 yX5_clear wsX5_clear) := goodIn_app (goodIn_of _ (by decide +kernel)) ggL_law_X5_clear
set_option maxRecDepth 20000 in
theorem ggL_law_X4_set : GoodIn wsL_law wsX4_set := goodIn_r _ [424, 89, 90, 91, 2, 92, 16, 15, 93, 94, 95, 14, 96, 34, 35, 36, 37, 38, 39, 40, 41, 42, 43, 44, 45, 46, 97, 98, 99, 100, 101, 102, 103, 104, 105, 106, 425, 426, 427, 428, 151, 429, 430, 112, 113, 114, 115, 49, 50, 118, 119, 120, 121, 20, 122, 123, 124, 19, 125, 126, 56, 127, 128, 129, 130, 131, 789, 790, 791, 792, 793, 812, 813, 814, 815, 816, 817, 818, 819, 820, 821, 822, 823, 824, 825, 826] (by decide +kernel) (by decide +kernel)
set_option maxRecDepth 20000 in
theorem gL_law_X4_set : GoodIn wsL_law (wsV RL 46 RX4 yX4_set wsX4_set) := goodIn_app (goodIn_of _ (by decide +kernel)) ggL_law_X4_set
set_option maxRecDepth 20000 in
theorem ggL_law_X5_set : GoodIn wsL_law wsX5_set := goodIn_r _ [434, 191, 76, 201, 202, 5, 203, 137, 138, 139, 140, 141, 142, 77, 794, 795, 796, 797, 798, 799, 800, 801, 802, 803, 804, 805, 806, 807, 808, 809, 810, 811] (by decide +kernel) (by decide +kernel)
set_option maxRecDepth 20000 in
theorem gL_law_X5_set : GoodIn wsL_law (wsV RL 49 RX5 yX5_set wsX5_set) := goodIn_app (goodIn_of _ (by decide +kernel)) ggL_law_X5_set
set_option maxRecDepth 20000 in
theorem ggL_law_X4_pupilOf : GoodIn wsL_law wsX4_pupilOf := goodIn_r _ [438, 15, 439, 440, 158, 159, 14, 160, 112, 113, 114, 115, 34, 441, 442, 443, 444, 35, 36, 37, 445, 39, 40, 169, 170, 171, 172, 44, 173, 174, 175, 176, 41, 42, 43, 177, 2, 178, 446, 447, 448, 449, 179, 180, 181, 182, 38, 789, 790, 791, 792, 793, 812, 813, 814, 815, 816, 817, 818, 819, 820, 821, 822, 823, 824] (by decide +kernel) (by decide +kernel)
set_option maxRecDepth 20000 in
theorem gL_law_X4_pupilOf : GoodIn wsL_law (wsV RL 50 RX4 yX4_pupilOf wsX4_pupilOf) := goodIn_app (goodIn_of _ (by decide +kernel)) ggL_law_X4_pupilOf
set_option maxRecDepth 20000 in
theorem ggL_law_X5_pupilOf : GoodIn wsL_law wsX5_pupilOf := goodIn_r _ [453, 191, 76, 267, 197, 198, 199, 5, 200, 201, 202, 203, 211, 212, 213, 214, 215, 216, 217, 218, 454, 455, 456, 457, 219, 220, 221, 794, 795, 796, 797, 798, 799, 800, 801, 802, 803, 804, 805, 806, 807, 808, 809, 810, 811] (by decide +kernel) (by decide +kernel)
set_option maxRecDepth 20000 in
theorem gL_law_X5_pupilOf : GoodIn wsL_law (wsV RL 53 RX5 yX5_pupilOf wsX5_pupilOf) := goodIn_app (goodIn_of _ (by decide +kernel)) ggL_law_X5_pupilOf
set_option maxRecDepth 20000 in
theorem ggL_law_X4_owes : GoodIn wsL_law wsX4_owes := goodIn_r _ [461, 15, 439, 440, 158, 159, 14, 160, 112, 113, 114, 115, 34, 462, 161, 2, 162, 463, 170, 171, 172, 44, 173, 174, 175, 176, 41, 42, 43, 177, 178, 789, 790, 791, 792, 793, 812, 813, 814, 815, 816, 817, 818, 819, 820, 821, 822, 823, 824] (by decide +kernel) (by decide +kernel)
set_option maxRecDepth 20000 in
theorem gL_law_X4_owes : GoodIn wsL_law (wsV RL 54 RX4 yX4_owes wsX4_owes) := goodIn_app (goodIn_of _ (by decide +kernel)) ggL_law_X4_owes
set_option maxRecDepth 20000 in
theorem ggL_law_X5_owes : GoodIn wsL_law wsX5_owes := goodIn_r _ [467, 191, 197, 198, 199, 5, 200, 76, 201, 202, 203, 204, 205, 206, 230, 231, 232, 233, 215, 216, 217, 218, 794, 795, 796, 797, 798, 799, 800, 801, 802, 803, 804, 805, 806, 807, 808, 809, 810, 811] (by decide +kernel) (by decide +kernel)
set_option maxRecDepth 20000 in
theorem gL_law_X5_owes : GoodIn wsL_law (wsV RL 58 RX5 yX5_owes wsX5_owes) := goodIn_app (goodIn_of _ (by decide +kernel)) ggL_law_X5_owes
set_option maxRecDepth 20000 in
theorem ggL_law_X4_lot : GoodIn wsL_law wsX4_lot := goodIn_r _ [471, 439, 15, 472, 473, 113, 114, 14, 115, 34, 474, 475, 476, 477, 41, 42, 43, 44, 45, 46, 177, 2, 178, 789, 790, 791, 792, 793, 812, 813, 814, 815, 816, 817, 818, 819, 820, 821, 822, 823, 824] (by decide +kernel) (by decide +kernel)
set_option maxRecDepth 20000 in
theorem gL_law_X4_lot : GoodIn wsL_law (wsV RL 59 RX4 yX4_lot wsX4_lot) := goodIn_app (goodIn_of _ (by decide +kernel)) ggL_law_X4_lot
set_option maxRecDepth 20000 in
theorem ggL_law_X5_lot : GoodIn wsL_law wsX5_lot := goodIn_r _ [481, 191, 76, 267, 201, 202, 5, 203, 215, 216, 217, 218, 794, 795, 796, 797, 798, 799, 800, 801, 802, 803, 804, 805, 806, 807, 808, 809, 810, 811] (by decide +kernel) (by decide +kernel)
set_option maxRecDepth 20000 in
theorem gL_law_X5_lot : GoodIn wsL_law (wsV RL 62 RX5 yX5_lot wsX5_lot) := goodIn_app (goodIn_of _ (by decide +kernel)) ggL_law_X5_lot
set_option maxRecDepth 20000 in
theorem ggL_law_X4_why : GoodIn wsL_law wsX4_why := goodIn_r _ [485, 15, 439, 440, 158, 159, 14, 160, 112, 113, 114, 115, 34, 486, 163, 2, 164, 487, 166, 167, 168, 37, 169, 170, 171, 172, 44, 173, 174, 175, 176, 41, 42, 43, 177, 178, 179, 180, 181, 182, 38, 789, 790, 791, 792, 793, 812, 813, 814, 815, 816, 817, 818, 819, 820, 821, 822, 823, 824] (by decide +kernel) (by decide +kernel)
set_option maxRecDepth 20000 in
theorem gL_law_X4_why : GoodIn wsL_law (wsV RL 63 RX4 yX4_why wsX4_why) := goodIn_app (goodIn_of _ (by decide +kernel)) ggL_law_X4_why
set_option maxRecDepth 20000 in
theorem ggL_law_X5_why : GoodIn wsL_law wsX5_why := goodIn_r _ [491, 191, 197, 198, 199, 5, 200, 76, 201, 202, 203, 207, 208, 209, 210, 211, 212, 213, 214, 215, 216, 217, 218, 219, 220, 221, 794, 795, 796, 797, 798, 799, 800, 801, 802, 803, 804, 805, 806, 807, 808, 809, 810, 811] (by decide +kernel) (by decide +kernel)
set_option maxRecDepth 20000 in
theorem gL_law_X5_why : GoodIn wsL_law (wsV RL 66 RX5 yX5_why wsX5_why) := goodIn_app (goodIn_of _ (by decide +kernel)) ggL_law_X5_why
set_option maxRecDepth 20000 in
theorem ggL_law_X4_ring : GoodIn wsL_law wsX4_ring := goodIn_r _ [495, 439, 24, 15, 472, 462, 161, 2, 162, 496, 347, 348, 23, 349, 345, 65, 350, 351, 352, 353, 62, 354, 113, 114, 14, 115, 34, 355, 174, 175, 176, 41, 42, 43, 177, 178, 116, 117, 356, 357, 358, 359, 63, 64, 49, 50, 360, 361, 362, 363, 364, 365, 366, 367, 368, 369, 370, 371, 372, 373, 374, 375, 497, 498, 499, 500, 501, 789, 790, 791, 792, 793, 827, 828, 829, 830, 831, 812, 813, 814, 815, 816, 817, 818, 819, 820, 821, 822, 823, 824] (by decide +kernel) (by decide +kernel)
set_option maxRecDepth 20000 in
theorem gL_law_X4_ring : GoodIn wsL_law (wsV RL 67 RX4 yX4_ring wsX4_ring) := goodIn_app (goodIn_of _ (by decide +kernel)) ggL_law_X4_ring
set_option maxRecDepth 20000 in
theorem ggL_law_X5_ring : GoodIn wsL_law wsX5_ring := goodIn_r _ [505, 191, 83, 267, 204, 205, 5, 206, 201, 202, 203, 402, 403, 404, 405, 81, 82, 406, 407, 408, 409, 76, 215, 216, 217, 218, 410, 411, 412, 413, 414, 415, 416, 794, 795, 796, 797, 798, 799, 800, 801, 802, 803, 804, 805, 806, 807, 808, 809, 810, 811] (by decide +kernel) (by decide +kernel)
set_option maxRecDepth 20000 in
theorem gL_law_X5_ring : GoodIn wsL_law (wsV RL 70 RX5 yX5_ring wsX5_ring) := goodIn_app (goodIn_of _ (by decide +kernel)) ggL_law_X5_ring
set_option maxRecDepth 20000 in
theorem ggL_law_X4_amount : GoodIn wsL_law wsX4_amount := goodIn_r _ [509, 439, 24, 15, 472, 462, 161, 2, 162, 496, 347, 348, 23, 349, 345, 65, 350, 351, 352, 353, 62, 354, 113, 114, 14, 115, 34, 355, 174, 175, 176, 41, 42, 43, 177, 178, 116, 117, 356, 357, 358, 359, 63, 64, 49, 50, 360, 361, 362, 363, 364, 365, 366, 367, 368, 369, 370, 371, 372, 373, 374, 375, 510, 377, 378, 379, 380, 100, 101, 102, 381, 382, 383, 384, 789, 790, 791, 792, 793, 827, 828, 829, 830, 831, 812, 813, 814, 815, 816, 817, 818, 819, 820, 821, 822, 823, 824] (by decide +kernel) (by decide +kernel)
set_option maxRecDepth 20000 in
theorem gL_law_X4_amount : GoodIn wsL_law (wsV RL 71 RX4 yX4_amount wsX4_amount) := goodIn_app (goodIn_of _ (by decide +kernel)) ggL_law_X4_amount
set_option maxRecDepth 20000 in
theorem ggL_law_X5_amount : GoodIn wsL_law wsX5_amount := goodIn_r _ [514, 191, 267, 204, 205, 5, 206, 201, 202, 203, 402, 403, 404, 405, 83, 81, 82, 406, 407, 408, 409, 76, 215, 216, 217, 218, 410, 411, 412, 413, 414, 415, 416, 417, 418, 419, 420, 230, 231, 232, 233, 794, 795, 796, 797, 798, 799, 800, 801, 802, 803, 804, 805, 806, 807, 808, 809, 810, 811] (by decide +kernel) (by decide +kernel)
set_option maxRecDepth 20000 in
theorem gL_law_X5_amount : GoodIn wsL_law (wsV RL 74 RX5 yX5_amount wsX5_amount) := goodIn_app (goodIn_of _ (by decide +kernel)) ggL_law_X5_amount
set_option maxRecDepth 20000 in
theorem ggL_law_X4_ifCleared : GoodIn wsL_law wsX4_ifCleared := goodIn_r _ [518, 439, 24, 16, 15, 462, 161, 2, 162, 89, 90, 91, 92, 93, 94, 95, 14, 96, 34, 35, 36, 37, 38, 39, 40, 41, 42, 43, 44, 45, 46, 97, 98, 99, 100, 101, 102, 103, 104, 105, 106, 340, 341, 342, 23, 343, 344, 345, 346, 347, 348, 349, 65, 350, 351, 352, 353, 62, 354, 113, 114, 115, 355, 174, 175, 176, 177, 178, 116, 117, 356, 357, 358, 359, 63, 64, 49, 50, 360, 361, 362, 363, 364, 365, 366, 367, 368, 369, 370, 371, 372, 373, 374, 375, 376, 377, 378, 379, 380, 381, 382, 383, 384, 385, 243, 244, 245, 246, 247, 248, 249, 250, 112, 173, 251, 252, 253, 254, 386, 387, 388, 389, 390, 391, 392, 393, 473, 789, 790, 791, 792, 793, 812, 813, 814, 815, 816, 817, 818, 819, 820, 821, 822, 823, 824, 827, 828, 829, 830, 831] (by decide +kernel) (by decide +kernel)
set_option maxRecDepth 20000 in
theorem gL_law_X4_ifCleared : GoodIn wsL_law (wsV RL 75 RX4 yX4_ifCleared wsX4_ifCleared) := goodIn_app (goodIn_of _ (by decide +kernel)) ggL_law_X4_ifCleared
set_option maxRecDepth 20000 in
theorem ggL_law_X5_ifCleared : GoodIn wsL_law wsX5_ifCleared := goodIn_r _ [522, 191, 76, 79, 204, 205, 5, 206, 201, 202, 203, 523, 524, 525, 398, 399, 400, 401, 83, 402, 403, 404, 405, 81, 82, 406, 407, 408, 409, 215, 216, 217, 218, 410, 411, 412, 413, 414, 415, 416, 417, 418, 419, 420, 230, 231, 232, 233, 259, 260, 261, 262, 263, 264, 265, 266, 267, 222, 223, 224, 225, 268, 269, 270, 271, 219, 220, 221, 794, 795, 796, 797, 798, 799, 800, 801, 802, 803, 804, 805, 806, 807, 808, 809, 810, 811] (by decide +kernel) (by decide +kernel)
set_option maxRecDepth 20000 in
theorem gL_law_X5_ifCleared : GoodIn wsL_law (wsV RL 78 RX5 yX5_ifCleared wsX5_ifCleared) := goodIn_app (goodIn_of _ (by decide +kernel)) ggL_law_X5_ifCleared
set_option maxRecDepth 20000 in
theorem ggL_law_X4_chain : GoodIn wsL_law wsX4_chain := goodIn_r _ [529, 15, 439, 24, 472, 530, 154, 155, 14, 156, 157, 158, 159, 160, 112, 113, 114, 115, 34, 462, 161, 2, 162, 531, 532, 533, 23, 534, 63, 350, 351, 352, 353, 62, 354, 355, 174, 175, 176, 41, 42, 43, 177, 178, 116, 117, 356, 357, 358, 359, 64, 49, 50, 360, 361, 362, 363, 789, 790, 791, 792, 793, 812, 813, 814, 815, 816, 817, 818, 819, 820, 821, 822, 823, 824, 827, 828, 829, 830, 831] (by decide +kernel) (by decide +kernel)
set_option maxRecDepth 20000 in
theorem gL_law_X4_chain : GoodIn wsL_law (wsV RL 79 RX4 yX4_chain wsX4_chain) := goodIn_app (goodIn_of _ (by decide +kernel)) ggL_law_X4_chain
set_option maxRecDepth 20000 in
theorem ggL_law_X5_chain : GoodIn wsL_law wsX5_chain := goodIn_r _ [538, 191, 81, 267, 193, 194, 195, 5, 196, 197, 198, 199, 200, 76, 201, 202, 203, 204, 205, 206, 406, 407, 408, 409, 215, 216, 217, 218, 794, 795, 796, 797, 798, 799, 800, 801, 802, 803, 804, 805, 806, 807, 808, 809, 810, 811] (by decide +kernel) (by decide +kernel)
set_option maxRecDepth 20000 in
theorem gL_law_X5_chain : GoodIn wsL_law (wsV RL 82 RX5 yX5_chain wsX5_chain) := goodIn_app (goodIn_of _ (by decide +kernel)) ggL_law_X5_chain
set_option maxRecDepth 20000 in
theorem ggL_law_X4_deepest : GoodIn wsL_law wsX4_deepest := goodIn_r _ [542, 439, 472, 15, 462, 161, 2, 162, 473, 113, 114, 14, 115, 34, 463, 170, 171, 172, 44, 112, 173, 174, 175, 176, 41, 42, 43, 177, 178, 789, 790, 791, 792, 793, 812, 813, 814, 815, 816, 817, 818, 819, 820, 821, 822, 823, 824] (by decide +kernel) (by decide +kernel)
set_option maxRecDepth 20000 in
theorem gL_law_X4_deepest : GoodIn wsL_law (wsV RL 83 RX4 yX4_deepest wsX4_deepest) := goodIn_app (goodIn_of _ (by decide +kernel)) ggL_law_X4_deepest
set_option maxRecDepth 20000 in
theorem ggL_law_X5_deepest : GoodIn wsL_law wsX5_deepest := goodIn_r _ [546, 191, 267, 76, 204, 205, 5, 206, 201, 202, 203, 215, 216, 217, 218, 794, 795, 796, 797, 798, 799, 800, 801, 802, 803, 804, 805, 806, 807, 808, 809, 810, 811] (by decide +kernel) (by decide +kernel)
set_option maxRecDepth 20000 in
theorem gL_law_X5_deepest : GoodIn wsL_law (wsV RL 86 RX5 yX5_deepest wsX5_deepest) := goodIn_app (goodIn_of _ (by decide +kernel)) ggL_law_X5_deepest
set_option maxRecDepth 20000 in
theorem ggL_law_X4_spoilsIn : GoodIn wsL_law wsX4_spoilsIn := goodIn_r _ [550, 15, 439, 472, 440, 158, 159, 14, 160, 112, 113, 114, 115, 34, 551, 552, 553, 554, 555, 556, 101, 557, 246, 100, 102, 173, 174, 175, 176, 41, 42, 43, 300, 301, 302, 303, 45, 177, 2, 178, 789, 790, 791, 792, 793, 812, 813, 814, 815, 816, 817, 818, 819, 820, 821, 822, 823, 824] (by decide +kernel) (by decide +kernel)
set_option maxRecDepth 20000 in
theorem gL_law_X4_spoilsIn : GoodIn wsL_law (wsV RL 87 RX4 yX4_spoilsIn wsX4_spoilsIn) := goodIn_app (goodIn_of _ (by decide +kernel)) ggL_law_X4_spoilsIn
set_option maxRecDepth 20000 in
theorem ggL_law_X5_spoilsIn : GoodIn wsL_law wsX5_spoilsIn := goodIn_r _ [561, 191, 267, 76, 197, 198, 199, 5, 200, 201, 202, 203, 215, 216, 217, 218, 794, 795, 796, 797, 798, 799, 800, 801, 802, 803, 804, 805, 806, 807, 808, 809, 810, 811] (by decide +kernel) (by decide +kernel)
set_option maxRecDepth 20000 in
theorem gL_law_X5_spoilsIn : GoodIn wsL_law (wsV RL 90 RX5 yX5_spoilsIn wsX5_spoilsIn) := goodIn_app (goodIn_of _ (by decide +kernel)) ggL_law_X5_spoilsIn
set_option maxRecDepth 20000 in
theorem ggL_law_X4_richest : GoodIn wsL_law wsX4_richest := goodIn_r _ [565, 439, 15, 472, 473, 113, 114, 14, 115, 34, 566, 567, 568, 569, 446, 447, 448, 449, 169, 170, 171, 172, 44, 112, 173, 174, 175, 176, 41, 42, 43, 177, 2, 178, 789, 790, 791, 792, 793, 812, 813, 814, 815, 816, 817, 818, 819, 820, 821, 822, 823, 824] (by decide +kernel) (by decide +kernel)
set_option maxRecDepth 20000 in
theorem gL_law_X4_richest : GoodIn wsL_law (wsV RL 91 RX4 yX4_richest wsX4_richest) := goodIn_app (goodIn_of _ (by decide +kernel)) ggL_law_X4_richest
set_option maxRecDepth 20000 in
theorem ggL_law_X5_richest : GoodIn wsL_law wsX5_richest := goodIn_r _ [573, 191, 76, 267, 454, 455, 456, 5, 457, 211, 212, 213, 214, 215, 216, 217, 218, 794, 795, 796, 797, 798, 799, 800, 801, 802, 803, 804, 805, 806, 807, 808, 809, 810, 811] (by decide +kernel) (by decide +kernel)
set_option maxRecDepth 20000 in
theorem gL_law_X5_richest : GoodIn wsL_law (wsV RL 94 RX5 yX5_richest wsX5_richest) := goodIn_app (goodIn_of _ (by decide +kernel)) ggL_law_X5_richest
set_option maxRecDepth 20000 in
theorem ggL_law_X4_mean : GoodIn wsL_law wsX4_mean := goodIn_r _ [577, 15, 472, 463, 170, 171, 14, 172, 44, 112, 113, 114, 115, 34, 173, 174, 175, 176, 41, 42, 43, 177, 2, 178, 578, 579, 580, 581, 45, 582, 583, 584, 585, 789, 790, 791, 792, 793, 812, 813, 814, 815, 816, 817, 818, 819, 820, 821, 822, 823, 824] (by decide +kernel) (by decide +kernel)
set_option maxRecDepth 20000 in
theorem gL_law_X4_mean : GoodIn wsL_law (wsV RL 95 RX4 yX4_mean wsX4_mean) := goodIn_app (goodIn_of _ (by decide +kernel)) ggL_law_X4_mean
set_option maxRecDepth 20000 in
theorem ggL_law_X5_mean : GoodIn wsL_law wsX5_mean := goodIn_r _ [589, 76, 267, 215, 216, 217, 5, 218, 590, 591, 592, 593, 594, 595, 596, 597, 598, 599, 600, 601, 602, 603, 604, 605, 794, 795, 796, 797, 798, 799, 800, 801, 802, 803, 804, 805, 806, 807, 808, 809, 810, 811] (by decide +kernel) (by decide +kernel)
set_option maxRecDepth 20000 in
theorem gL_law_X5_mean : GoodIn wsL_law (wsV RL 98 RX5 yX5_mean wsX5_mean) := goodIn_app (goodIn_of _ (by decide +kernel)) ggL_law_X5_mean
set_option maxRecDepth 20000 in
theorem ggL_law_X4_count : GoodIn wsL_law wsX4_count := goodIn_r _ [609, 439, 15, 20, 28, 463, 170, 171, 14, 172, 44, 112, 113, 114, 115, 34, 173, 174, 175, 176, 41, 42, 43, 177, 2, 178, 610, 611, 612, 613, 179, 180, 181, 182, 38, 614, 615, 616, 19, 617, 126, 618, 619, 620, 27, 621, 622, 473, 789, 790, 791, 792, 793, 812, 813, 814, 815, 816, 817, 818, 819, 820, 821, 822, 823, 824, 825, 826, 832, 833, 834, 835, 836, 837, 838, 839] (by decide +kernel) (by decide +kernel)
set_option maxRecDepth 20000 in
theorem gL_law_X4_count : GoodIn wsL_law (wsV RL 99 RX4 yX4_count wsX4_count) := goodIn_app (goodIn_of _ (by decide +kernel)) ggL_law_X4_count
set_option maxRecDepth 20000 in
theorem ggL_law_X5_count : GoodIn wsL_law wsX5_count := goodIn_r _ [626, 76, 142, 627, 191, 590, 591, 592, 5, 593, 215, 216, 217, 218, 628, 629, 630, 631, 219, 220, 221, 794, 795, 796, 797, 798, 799, 800, 801, 802, 803, 804, 805, 806, 807, 808, 809, 810, 811] (by decide +kernel) (by decide +kernel)
set_option maxRecDepth 20000 in
theorem gL_law_X5_count : GoodIn wsL_law (wsV RL 102 RX5 yX5_count wsX5_count) := goodIn_app (goodIn_of _ (by decide +kernel)) ggL_law_X5_count
set_option maxRecDepth 20000 in
theorem ggL_law_X4_undo : GoodIn wsL_law wsX4_undo := goodIn_r _ [635, 20, 15, 636, 637, 638, 19, 639, 126, 56, 640, 131, 94, 95, 14, 96, 34, 35, 36, 37, 38, 39, 40, 41, 42, 43, 44, 45, 46, 97, 2, 98, 99, 100, 101, 102, 103, 104, 105, 106, 789, 790, 791, 792, 793, 825, 826, 812, 813, 814, 815, 816, 817, 818, 819, 820, 821, 822, 823, 824] (by decide +kernel) (by decide +kernel)
set_option maxRecDepth 20000 in
theorem gL_law_X4_undo : GoodIn wsL_law (wsV RL 103 RX4 yX4_undo wsX4_undo) := goodIn_app (goodIn_of _ (by decide +kernel)) ggL_law_X4_undo
set_option maxRecDepth 20000 in
theorem ggL_law_X5_undo : GoodIn wsL_law wsX5_undo := goodIn_r _ [644, 142, 192, 76, 77, 794, 795, 796, 797, 798, 799, 800, 801, 802, 803, 804, 805, 806, 807, 808, 809, 810, 811] (by decide +kernel) (by decide +kernel)
set_option maxRecDepth 20000 in
theorem gL_law_X5_undo : GoodIn wsL_law (wsV RL 106 RX5 yX5_undo wsX5_undo) := goodIn_app (goodIn_of _ (by decide +kernel)) ggL_law_X5_undo
set_option maxRecDepth 20000 in
theorem ggL_law_X4_type : GoodIn wsL_law wsX4_type := goodIn_r _ [648, 28, 649, 650, 651, 27, 652, 653, 622, 654, 70, 49, 2, 50, 789, 790, 791, 792, 793, 832, 833, 834, 835, 836, 837, 838, 839] (by decide +kernel) (by decide +kernel)
set_option maxRecDepth 20000 in
theorem gL_law_X4_type : GoodIn wsL_law (wsV RL 107 RX4 yX4_type wsX4_type) := goodIn_app (goodIn_of _ (by decide +kernel)) ggL_law_X4_type
set_option maxRecDepth 20000 in
theorem ggL_law_X5_type : GoodIn wsL_law wsX5_type := goodIn_r _ [658, 191, 627, 136, 80, 201, 202, 5, 203, 794, 795, 796, 797, 798, 799, 800, 801, 802, 803, 804, 805, 806, 807, 808, 809, 810, 811] (by decide +kernel) (by decide +kernel)
set_option maxRecDepth 20000 in
theorem gL_law_X5_type : GoodIn wsL_law (wsV RL 110 RX5 yX5_type wsX5_type) := goodIn_app (goodIn_of _ (by decide +kernel)) ggL_law_X5_type
set_option maxRecDepth 20000 in
theorem ggL_law_X4_clearText : GoodIn wsL_law wsX4_clearText := goodIn_r _ [662, 28, 663, 664, 665, 27, 666, 622, 789, 790, 791, 792, 793, 832, 833, 834, 835, 836, 837, 838, 839] (by decide +kernel) (by decide +kernel)
set_option maxRecDepth 20000 in
theorem gL_law_X4_clearText : GoodIn wsL_law (wsV RL 111 RX4 yX4_clearText wsX4_clearText) := goodIn_app (goodIn_of _ (by decide +kernel)) ggL_law_X4_clearText
set_option maxRecDepth 20000 in
theorem ggL_law_X5_clearText : GoodIn wsL_law wsX5_clearText := goodIn_r _ [670, 627, 794, 795, 796, 797, 798, 799, 800, 801, 802, 803, 804, 805, 806, 807, 808, 809, 810, 811] (by decide +kernel) (by decide +kernel)
set_option maxRecDepth 20000 in
theorem gL_law_X5_clearText : GoodIn wsL_law (wsV RL 114 RX5 yX5_clearText wsX5_clearText) := goodIn_app (goodIn_of _ (by decide +kernel)) ggL_law_X5_clearText
set_option maxRecDepth 20000 in
theorem ggL_law_X4_fault : GoodIn wsL_law wsX4_fault := goodIn_r _ [674, 439, 28, 24, 472, 89, 90, 91, 2, 92, 16, 15, 93, 94, 95, 14, 96, 34, 35, 36, 37, 38, 39, 40, 41, 42, 43, 44, 45, 46, 97, 98, 99, 100, 101, 102, 103, 104, 105, 106, 675, 676, 677, 27, 678, 679, 622, 680, 681, 682, 683, 684, 685, 686, 687, 688, 70, 177, 178, 689, 690, 691, 692, 693, 694, 695, 696, 697, 698, 699, 71, 700, 701, 702, 49, 50, 703, 704, 705, 706, 707, 708, 709, 710, 711, 712, 713, 714, 148, 149, 150, 151, 152, 111, 153, 154, 155, 156, 157, 158, 159, 160, 112, 113, 114, 115, 161, 162, 163, 164, 165, 166, 167, 168, 169, 170, 171, 172, 173, 174, 175, 176, 179, 180, 181, 182, 183, 184, 185, 186, 116, 117, 715, 239, 240, 241, 242, 243, 244, 245, 246, 247, 248, 249, 250, 251, 252, 253, 254, 716, 277, 278, 279, 717, 341, 342, 23, 343, 344, 345, 346, 347, 348, 349, 65, 350, 351, 352, 353, 62, 354, 355, 356, 357, 358, 359, 63, 64, 360, 361, 362, 363, 364, 365, 366, 367, 368, 369, 370, 371, 372, 373, 374, 375, 376, 377, 378, 379, 380, 381, 382, 383, 384, 385, 386, 387, 388, 389, 390, 391, 392, 393, 718, 289, 290, 291, 292, 293, 294, 295, 296, 297, 298, 299, 300, 301, 302, 303, 304, 305, 306, 307, 308, 309, 310, 311, 719, 720, 329, 330, 331, 721, 722, 723, 724, 725, 726, 727, 728, 729, 730, 731, 732, 789, 790, 791, 792, 793, 812, 813, 814, 815, 816, 817, 818, 819, 820, 821, 822, 823, 824, 832, 833, 834, 835, 836, 837, 838, 839, 827, 828, 829, 830, 831] (by decide +kernel) (by decide +kernel)
set_option maxRecDepth 20000 in
theorem gL_law_X4_fault : GoodIn wsL_law (wsV RL 115 RX4 yX4_fault wsX4_fault) := goodIn_app (goodIn_of _ (by decide +kernel)) ggL_law_X4_fault
set_option maxRecDepth 20000 in
theorem ggL_law_X5_fault : GoodIn wsL_law wsX5_fault := goodIn_r _ [736, 191, 76, 78, 267, 737, 738, 739, 201, 202, 5, 203, 523, 524, 525, 740, 741, 742, 743, 141, 744, 745, 627, 746, 747, 748, 749, 80, 750, 751, 752, 753, 754, 755, 756, 757, 758, 759, 760, 761, 84, 762, 763, 764, 765, 766, 767, 768, 769, 770, 188, 189, 190, 192, 136, 193, 194, 195, 196, 197, 198, 199, 200, 204, 205, 206, 207, 208, 209, 210, 211, 212, 213, 214, 215, 216, 217, 218, 219, 220, 221, 137, 138, 139, 140, 142, 77, 222, 223, 224, 225, 226, 227, 228, 229, 230, 231, 232, 233, 771, 256, 257, 258, 259, 260, 261, 262, 263, 264, 265, 266, 268, 269, 270, 271, 772, 281, 282, 283, 773, 395, 396, 397, 398, 399, 400, 401, 83, 402, 403, 404, 405, 81, 82, 406, 407, 408, 409, 410, 411, 412, 413, 414, 415, 416, 417, 418, 419, 420, 774, 313, 314, 315, 316, 317, 318, 319, 320, 321, 322, 323, 775, 333, 334, 335, 794, 795, 796, 797, 798, 799, 800, 801, 802, 803, 804, 805, 806, 807, 808, 809, 810, 811] (by decide +kernel) (by decide +kernel)
set_option maxRecDepth 20000 in
theorem gL_law_X5_fault : GoodIn wsL_law (wsV RL 118 RX5 yX5_fault wsX5_fault) := goodIn_app (goodIn_of _ (by decide +kernel)) ggL_law_X5_fault
set_option maxRecDepth 20000 in
theorem ggL_law_X4_play : GoodIn wsL_law wsX4_play := goodIn_r _ [779, 28, 24, 780, 89, 90, 91, 2, 92, 16, 15, 93, 94, 95, 14, 96, 34, 35, 36, 37, 38, 39, 40, 41, 42, 43, 44, 45, 46, 97, 98, 99, 100, 101, 102, 103, 104, 105, 106, 675, 676, 677, 27, 678, 679, 622, 680, 681, 682, 683, 684, 685, 686, 687, 688, 70, 177, 178, 689, 690, 691, 692, 693, 694, 695, 696, 697, 698, 699, 71, 700, 701, 702, 49, 50, 703, 704, 705, 706, 707, 708, 709, 710, 711, 712, 713, 714, 148, 149, 150, 151, 152, 111, 153, 154, 155, 156, 157, 158, 159, 160, 112, 113, 114, 115, 161, 162, 163, 164, 165, 166, 167, 168, 169, 170, 171, 172, 173, 174, 175, 176, 179, 180, 181, 182, 183, 184, 185, 186, 116, 117, 715, 239, 240, 241, 242, 243, 244, 245, 246, 247, 248, 249, 250, 251, 252, 253, 254, 716, 277, 278, 279, 717, 341, 342, 23, 343, 344, 345, 346, 347, 348, 349, 65, 350, 351, 352, 353, 62, 354, 355, 356, 357, 358, 359, 63, 64, 360, 361, 362, 363, 364, 365, 366, 367, 368, 369, 370, 371, 372, 373, 374, 375, 376, 377, 378, 379, 380, 381, 382, 383, 384, 385, 386, 387, 388, 389, 390, 391, 392, 393, 718, 289, 290, 291, 292, 293, 294, 295, 296, 297, 298, 299, 300, 301, 302, 303, 304, 305, 306, 307, 308, 309, 310, 311, 719, 720, 329, 330, 331, 781, 782, 783, 784, 118, 119, 120, 121, 20, 122, 123, 124, 19, 125, 126, 56, 127, 128, 129, 130, 131, 789, 790, 791, 792, 793, 812, 813, 814, 815, 816, 817, 818, 819, 820, 821, 822, 823, 824, 832, 833, 834, 835, 836, 837, 838, 839, 827, 828, 829, 830, 831, 825, 826] (by decide +kernel) (by decide +kernel)
set_option maxRecDepth 20000 in
theorem gL_law_X4_play : GoodIn wsL_law (wsV RL 119 RX4 yX4_play wsX4_play) := goodIn_app (goodIn_of _ (by decide +kernel)) ggL_law_X4_play
set_option maxRecDepth 20000 in
theorem ggL_law_X5_play : GoodIn wsL_law wsX5_play := goodIn_r _ [788, 76, 78, 192, 745, 267, 523, 524, 5, 525, 740, 741, 742, 743, 141, 744, 737, 627, 738, 739, 746, 747, 748, 749, 80, 750, 751, 752, 753, 754, 201, 202, 203, 755, 756, 757, 758, 759, 760, 761, 84, 762, 763, 764, 765, 766, 767, 768, 769, 770, 188, 189, 190, 191, 136, 193, 194, 195, 196, 197, 198, 199, 200, 204, 205, 206, 207, 208, 209, 210, 211, 212, 213, 214, 215, 216, 217, 218, 219, 220, 221, 137, 138, 139, 140, 142, 77, 222, 223, 224, 225, 226, 227, 228, 229, 230, 231, 232, 233, 771, 256, 257, 258, 259, 260, 261, 262, 263, 264, 265, 266, 268, 269, 270, 271, 772, 281, 282, 283, 773, 395, 396, 397, 398, 399, 400, 401, 83, 402, 403, 404, 405, 81, 82, 406, 407, 408, 409, 410, 411, 412, 413, 414, 415, 416, 417, 418, 419, 420, 774, 313, 314, 315, 316, 317, 318, 319, 320, 321, 322, 323, 775, 333, 334, 335, 794, 795, 796, 797, 798, 799, 800, 801, 802, 803, 804, 805, 806, 807, 808, 809, 810, 811] (by decide +kernel) (by decide +kernel)
set_option maxRecDepth 20000 in
theorem gL_law_X5_play : GoodIn wsL_law (wsV RL 122 RX5 yX5_play wsX5_play) := goodIn_app (goodIn_of _ (by decide +kernel)) ggL_law_X5_play
