/-! ===== the law, rows 3 ===== -/
set_option maxRecDepth 20000 in
theorem ggL_law_X6_init : GoodIn wsL_law wsX6_init := goodIn_r _ [9, 10, 11, 12, 13, 14, 15, 16, 17, 18, 19, 20, 21, 22, 23, 24, 25, 26, 27, 28, 29, 30, 31, 32, 33, 34, 35, 36, 37, 38, 39, 40, 41, 42, 43, 44, 45, 46, 47, 48, 49, 50, 51, 52, 53, 54, 55, 56, 57, 58, 59, 802, 803, 804, 805, 806, 807, 808, 809, 842, 843, 844, 845, 846, 847, 848, 849, 850] rfl (by decide +kernel)
set_option maxRecDepth 20000 in
theorem gL_law_X6_init : GoodIn wsL_law (wsX6_init) := ggL_law_X6_init
set_option maxRecDepth 20000 in
theorem ggL_law_X7_init : GoodIn wsL_law wsX7_init := goodIn_r _ [62, 63, 11, 12, 55, 64, 65, 66, 67, 68, 69, 70, 71, 72, 73, 74, 75, 76, 77, 78, 79, 80, 81, 82, 83, 84, 85, 86, 87, 88, 89, 90, 91, 810, 811, 812, 813, 814, 815, 816, 817, 818, 819, 820, 821, 822, 823, 824, 825, 826, 827, 828, 829, 830, 831, 832, 833, 834, 835, 836, 837, 838, 839, 840, 841] rfl (by decide +kernel)
set_option maxRecDepth 20000 in
theorem gL_law_X7_init : GoodIn wsL_law (wsX7_init) := ggL_law_X7_init
set_option maxRecDepth 20000 in
theorem ggL_law_L_open : GoodIn wsL_law wsL_open := goodIn_ca (goodIn_ca (goodIn_ca (goodIn_r _ [95, 96, 97, 98, 99, 2, 100, 101, 102, 23, 103, 104, 25, 105, 106, 107, 108, 109, 110, 111, 14, 112, 113, 114, 115, 116, 117, 118, 119, 120, 24, 121, 122, 123, 124, 21, 125, 126, 127, 20, 128, 129, 130, 131, 132, 133, 134, 135, 136, 27, 137, 48, 138, 139, 140, 141, 142, 143, 144, 145, 146, 147, 148, 149, 150, 151, 152, 153, 154, 155, 156, 11, 12, 157, 158, 159, 160, 161, 162, 163, 164, 165, 166, 34, 167, 168, 169, 170, 171, 172, 173, 174, 175, 176, 177, 178, 33, 179, 180, 181, 182, 183, 184, 185, 186, 187, 188, 189, 190, 191, 192, 193, 194, 195, 196, 197, 198, 199, 200, 201, 202, 203, 204, 205, 206, 207, 208, 209, 210, 211, 212, 213, 214, 215, 216, 217, 218, 16, 17, 219, 220, 221, 222, 223, 224, 225, 226, 227, 228, 29, 229, 54, 56, 58, 230, 231, 232, 233, 234, 235, 236, 237, 238, 239, 240, 241, 242, 243, 244, 245, 246, 247, 248, 249, 250, 251, 252, 802, 803, 804, 805, 806, 807, 808, 809, 845, 846, 847, 842, 843, 844, 851, 852, 853, 854, 848, 849, 850] rfl (by decide +kernel)) (goodIn_sub (fun _ h => List.mem_append_left _ (List.mem_append_left _ (List.mem_append_right _ h))) (by decide +kernel))) (goodIn_sub (fun _ h => List.mem_append_left _ (List.mem_append_right _ h)) (by decide +kernel))) (goodIn_sub (fun _ h => List.mem_append_right _ h) (by decide +kernel))
set_option maxRecDepth 20000 in
theorem gL_law_L_open : GoodIn wsL_law (va_wsS RL 78 yL_open wsL_open) := goodIn_app (goodIn_of _ (by decide +kernel)) ggL_law_L_open
set_option maxRecDepth 20000 in
theorem ggL_law_X7_open : GoodIn wsL_law wsX7_open := goodIn_r _ [256, 64, 257, 67, 258, 65, 66, 259, 260, 261, 5, 262, 263, 264, 265, 266, 267, 268, 269, 270, 271, 272, 273, 274, 275, 276, 277, 278, 279, 280, 281, 282, 283, 284, 285, 286, 81, 82, 83, 84, 287, 288, 289, 290, 291, 292, 293, 294, 75, 69, 77, 71, 76, 70, 78, 72, 79, 73, 80, 74, 810, 811, 812, 813, 814, 815, 816, 817, 818, 819, 820, 821, 822, 823, 824, 825, 826, 827, 828, 829, 830, 831, 832, 833, 834, 835, 836, 837, 838, 839, 840, 841] rfl (by decide +kernel)
set_option maxRecDepth 20000 in
theorem gL_law_X7_open : GoodIn wsL_law (wsV RL 83 RX7 yX7_open wsX7_open) := goodIn_app (goodIn_of _ (by decide +kernel)) ggL_law_X7_open
set_option maxRecDepth 20000 in
theorem ggL_law_X7_thrown : GoodIn wsL_law wsX7_thrown := goodIn_r _ [298, 274, 810, 811, 812, 813, 814, 815, 816, 817, 818, 819, 820, 821, 822, 823, 824, 825, 826, 827, 828, 829, 830, 831, 832, 833, 834, 835, 836, 837, 838, 839, 840, 841] rfl (by decide +kernel)
set_option maxRecDepth 20000 in
theorem gL_law_X7_thrown : GoodIn wsL_law (wsV RL 84 RX7 yX7_thrown wsX7_thrown) := goodIn_app (goodIn_of _ (by decide +kernel)) ggL_law_X7_thrown
set_option maxRecDepth 20000 in
theorem ggL_law_L_close : GoodIn wsL_law wsL_close := goodIn_ca (goodIn_ca (goodIn_r _ [301, 96, 302, 303, 304, 2, 305, 101, 102, 103, 21, 306, 307, 106, 107, 108, 109, 110, 111, 14, 308, 309, 310, 311, 121, 122, 123, 124, 125, 126, 127, 20, 128, 129, 312, 313, 314, 315, 104, 23, 134, 135, 136, 27, 137, 48, 316, 237, 238, 239, 240, 241, 242, 243, 244, 245, 246, 247, 248, 249, 250, 251, 34, 317, 318, 319, 152, 320, 157, 321, 322, 323, 324, 217, 218, 17, 16, 219, 220, 221, 222, 223, 224, 225, 159, 226, 227, 228, 29, 229, 54, 56, 58, 230, 231, 232, 233, 234, 165, 166, 235, 236, 252, 162, 163, 164, 167, 168, 169, 170, 171, 172, 173, 174, 175, 176, 177, 178, 33, 179, 180, 181, 182, 183, 184, 185, 186, 187, 188, 189, 190, 191, 192, 193, 194, 195, 196, 197, 198, 199, 200, 201, 202, 203, 204, 205, 206, 207, 208, 209, 210, 211, 212, 325, 326, 327, 328, 329, 330, 331, 332, 333, 334, 335, 336, 160, 213, 214, 215, 216, 337, 338, 339, 340, 24, 138, 139, 140, 141, 130, 131, 132, 133, 142, 143, 144, 145, 105, 146, 147, 148, 149, 150, 151, 153, 154, 155, 156, 11, 12, 158, 161, 845, 846, 847, 802, 803, 804, 805, 806, 807, 808, 809, 851, 852, 853, 854, 842, 843, 844, 848, 849, 850] rfl (by decide +kernel)) (goodIn_sub (fun _ h => List.mem_append_left _ (List.mem_append_left _ (List.mem_append_right _ h))) (by decide +kernel))) (goodIn_sub (fun _ h => List.mem_append_left _ (List.mem_append_right _ h)) (by decide +kernel))
set_option maxRecDepth 20000 in
theorem gL_law_L_close : GoodIn wsL_law (va_wsS RL 88 yL_close wsL_close) := goodIn_app (goodIn_of _ (by decide +kernel)) ggL_law_L_close
set_option maxRecDepth 20000 in
theorem ggL_law_X7_close : GoodIn wsL_law wsX7_close := goodIn_r _ [344, 64, 258, 81, 260, 261, 5, 262, 263, 264, 265, 345, 346, 347, 348, 65, 257, 266, 267, 268, 269, 270, 271, 272, 273, 274, 349, 350, 351, 352, 84, 353, 354, 355, 356, 83, 82, 67, 357, 358, 359, 360, 69, 75, 71, 77, 70, 76, 72, 78, 73, 79, 74, 80, 361, 362, 363, 364, 365, 366, 367, 368, 287, 288, 289, 290, 291, 292, 293, 294, 275, 276, 277, 278, 279, 280, 281, 282, 66, 283, 284, 285, 286, 810, 811, 812, 813, 814, 815, 816, 817, 818, 819, 820, 821, 822, 823, 824, 825, 826, 827, 828, 829, 830, 831, 832, 833, 834, 835, 836, 837, 838, 839, 840, 841] rfl (by decide +kernel)
set_option maxRecDepth 20000 in
theorem gL_law_X7_close : GoodIn wsL_law (wsV RL 91 RX7 yX7_close wsX7_close) := goodIn_app (goodIn_of _ (by decide +kernel)) ggL_law_X7_close
set_option maxRecDepth 20000 in
theorem ggL_law_L_state : GoodIn wsL_law wsL_state := goodIn_ca (goodIn_r _ [371, 96, 372, 373, 374, 2, 375, 103, 106, 107, 108, 109, 110, 111, 14, 845, 846, 847, 802, 803, 804, 805, 806, 807, 808, 809] rfl (by decide +kernel)) (goodIn_sub (fun _ h => List.mem_append_left _ (List.mem_append_right _ h)) (by decide +kernel))
set_option maxRecDepth 20000 in
theorem gL_law_L_state : GoodIn wsL_law (va_wsS RL 92 yL_state wsL_state) := goodIn_app (goodIn_of _ (by decide +kernel)) ggL_law_L_state
set_option maxRecDepth 20000 in
theorem ggL_law_X7_state : GoodIn wsL_law wsX7_state := goodIn_r _ [379, 64, 260, 261, 5, 262, 263, 264, 265, 270, 271, 272, 273, 274, 810, 811, 812, 813, 814, 815, 816, 817, 818, 819, 820, 821, 822, 823, 824, 825, 826, 827, 828, 829, 830, 831, 832, 833, 834, 835, 836, 837, 838, 839, 840, 841] rfl (by decide +kernel)
set_option maxRecDepth 20000 in
theorem gL_law_X7_state : GoodIn wsL_law (wsV RL 94 RX7 yX7_state wsX7_state) := goodIn_app (goodIn_of _ (by decide +kernel)) ggL_law_X7_state
set_option maxRecDepth 20000 in
theorem ggL_law_X6_version : GoodIn wsL_law wsX6_version := goodIn_r _ [383, 23, 802, 803, 804, 805, 806, 807, 808, 809] rfl (by decide +kernel)
set_option maxRecDepth 20000 in
theorem gL_law_X6_version : GoodIn wsL_law (wsV RL 95 RX6 yX6_version wsX6_version) := goodIn_app (goodIn_of _ (by decide +kernel)) ggL_law_X6_version
set_option maxRecDepth 20000 in
theorem ggL_law_X7_version : GoodIn wsL_law wsX7_version := goodIn_r _ [387, 274, 257, 810, 811, 812, 813, 814, 815, 816, 817, 818, 819, 820, 821, 822, 823, 824, 825, 826, 827, 828, 829, 830, 831, 832, 833, 834, 835, 836, 837, 838, 839, 840, 841] rfl (by decide +kernel)
set_option maxRecDepth 20000 in
theorem gL_law_X7_version : GoodIn wsL_law (wsV RL 98 RX7 yX7_version wsX7_version) := goodIn_app (goodIn_of _ (by decide +kernel)) ggL_law_X7_version
set_option maxRecDepth 20000 in
theorem ggL_law_X6_upgrade : GoodIn wsL_law wsX6_upgrade := goodIn_r _ [391, 24, 802, 803, 804, 805, 806, 807, 808, 809] rfl (by decide +kernel)
set_option maxRecDepth 20000 in
theorem gL_law_X6_upgrade : GoodIn wsL_law (wsV RL 99 RX6 yX6_upgrade wsX6_upgrade) := goodIn_app (goodIn_of _ (by decide +kernel)) ggL_law_X6_upgrade
set_option maxRecDepth 20000 in
theorem ggL_law_X7_upgrade : GoodIn wsL_law wsX7_upgrade := goodIn_r _ [395, 274, 67, 810, 811, 812, 813, 814, 815, 816, 817, 818, 819, 820, 821, 822, 823, 824, 825, 826, 827, 828, 829, 830, 831, 832, 833, 834, 835, 836, 837, 838, 839, 840, 841] rfl (by decide +kernel)
set_option maxRecDepth 20000 in
theorem gL_law_X7_upgrade : GoodIn wsL_law (wsV RL 102 RX7 yX7_upgrade wsX7_upgrade) := goodIn_app (goodIn_of _ (by decide +kernel)) ggL_law_X7_upgrade
set_option maxRecDepth 20000 in
theorem ggL_law_L_makeStore : GoodIn wsL_law wsL_makeStore := goodIn_ca (goodIn_ca (goodIn_r _ [398, 96, 399, 400, 401, 2, 402, 110, 111, 101, 102, 16, 403, 404, 405, 406, 407, 21, 306, 125, 126, 127, 20, 128, 129, 316, 237, 238, 239, 240, 241, 242, 243, 244, 245, 246, 247, 248, 249, 250, 251, 34, 408, 409, 410, 411, 24, 802, 803, 804, 805, 806, 807, 808, 809, 848, 849, 850, 842, 843, 844] rfl (by decide +kernel)) (goodIn_sub (fun _ h => List.mem_append_left _ (List.mem_append_right _ h)) (by decide +kernel))) (goodIn_sub (fun _ h => List.mem_append_left _ (List.mem_append_left _ (List.mem_append_right _ h))) (by decide +kernel))
set_option maxRecDepth 20000 in
theorem gL_law_L_makeStore : GoodIn wsL_law (va_wsS RL 103 yL_makeStore wsL_makeStore) := goodIn_app (goodIn_of _ (by decide +kernel)) ggL_law_L_makeStore
set_option maxRecDepth 20000 in
theorem ggL_law_X7_makeStore : GoodIn wsL_law wsX7_makeStore := goodIn_r _ [415, 67, 69, 71, 70, 416, 417, 418, 5, 419, 258, 263, 264, 265, 270, 271, 272, 273, 274, 810, 811, 812, 813, 814, 815, 816, 817, 818, 819, 820, 821, 822, 823, 824, 825, 826, 827, 828, 829, 830, 831, 832, 833, 834, 835, 836, 837, 838, 839, 840, 841] rfl (by decide +kernel)
set_option maxRecDepth 20000 in
theorem gL_law_X7_makeStore : GoodIn wsL_law (wsV RL 106 RX7 yX7_makeStore wsX7_makeStore) := goodIn_app (goodIn_of _ (by decide +kernel)) ggL_law_X7_makeStore
set_option maxRecDepth 20000 in
theorem ggL_law_L_deleteStore : GoodIn wsL_law wsL_deleteStore := goodIn_ca (goodIn_ca (goodIn_r _ [422, 96, 423, 424, 425, 2, 426, 404, 405, 406, 407, 110, 111, 21, 306, 125, 126, 127, 20, 128, 129, 316, 237, 238, 239, 240, 241, 242, 243, 244, 245, 246, 247, 248, 249, 250, 251, 34, 427, 428, 429, 430, 16, 403, 408, 409, 410, 411, 101, 102, 24, 431, 432, 433, 29, 434, 58, 235, 435, 436, 437, 438, 54, 56, 231, 232, 233, 234, 165, 166, 802, 803, 804, 805, 806, 807, 808, 809, 842, 843, 844, 848, 849, 850] rfl (by decide +kernel)) (goodIn_sub (fun _ h => List.mem_append_left _ (List.mem_append_right _ h)) (by decide +kernel))) (goodIn_sub (fun _ h => List.mem_append_left _ (List.mem_append_left _ (List.mem_append_right _ h))) (by decide +kernel))
set_option maxRecDepth 20000 in
theorem gL_law_L_deleteStore : GoodIn wsL_law (va_wsS RL 107 yL_deleteStore wsL_deleteStore) := goodIn_app (goodIn_of _ (by decide +kernel)) ggL_law_L_deleteStore
set_option maxRecDepth 20000 in
theorem ggL_law_X7_deleteStore : GoodIn wsL_law wsX7_deleteStore := goodIn_r _ [442, 67, 71, 69, 416, 417, 418, 5, 419, 258, 263, 264, 265, 443, 444, 445, 446, 270, 271, 272, 273, 274, 810, 811, 812, 813, 814, 815, 816, 817, 818, 819, 820, 821, 822, 823, 824, 825, 826, 827, 828, 829, 830, 831, 832, 833, 834, 835, 836, 837, 838, 839, 840, 841] rfl (by decide +kernel)
set_option maxRecDepth 20000 in
theorem gL_law_X7_deleteStore : GoodIn wsL_law (wsV RL 109 RX7 yX7_deleteStore wsX7_deleteStore) := goodIn_app (goodIn_of _ (by decide +kernel)) ggL_law_X7_deleteStore
set_option maxRecDepth 20000 in
theorem ggL_law_L_makeIndex : GoodIn wsL_law wsL_makeIndex := goodIn_ca (goodIn_ca (goodIn_r _ [449, 96, 450, 451, 452, 2, 453, 110, 111, 101, 102, 404, 405, 406, 407, 21, 306, 125, 126, 127, 20, 128, 129, 316, 237, 238, 239, 240, 241, 242, 243, 244, 245, 246, 247, 248, 249, 250, 251, 34, 427, 428, 429, 430, 16, 403, 408, 409, 410, 411, 24, 454, 455, 456, 29, 457, 56, 458, 459, 460, 461, 58, 230, 235, 236, 462, 463, 464, 465, 466, 467, 468, 469, 470, 471, 472, 473, 474, 475, 476, 477, 802, 803, 804, 805, 806, 807, 808, 809, 842, 843, 844, 848, 849, 850, 855, 856, 857, 858] rfl (by decide +kernel)) (goodIn_sub (fun _ h => List.mem_append_left _ (List.mem_append_right _ h)) (by decide +kernel))) (goodIn_sub (fun _ h => List.mem_append_left _ (List.mem_append_left _ (List.mem_append_right _ h))) (by decide +kernel))
set_option maxRecDepth 20000 in
theorem gL_law_L_makeIndex : GoodIn wsL_law (va_wsS RL 110 yL_makeIndex wsL_makeIndex) := goodIn_app (goodIn_of _ (by decide +kernel)) ggL_law_L_makeIndex
set_option maxRecDepth 20000 in
theorem ggL_law_X7_makeIndex : GoodIn wsL_law wsX7_makeIndex := goodIn_r _ [481, 67, 70, 416, 417, 418, 5, 419, 258, 263, 264, 265, 443, 444, 445, 446, 69, 482, 483, 484, 485, 71, 74, 270, 271, 272, 273, 274, 810, 811, 812, 813, 814, 815, 816, 817, 818, 819, 820, 821, 822, 823, 824, 825, 826, 827, 828, 829, 830, 831, 832, 833, 834, 835, 836, 837, 838, 839, 840, 841] rfl (by decide +kernel)
set_option maxRecDepth 20000 in
theorem gL_law_X7_makeIndex : GoodIn wsL_law (wsV RL 113 RX7 yX7_makeIndex wsX7_makeIndex) := goodIn_app (goodIn_of _ (by decide +kernel)) ggL_law_X7_makeIndex
set_option maxRecDepth 20000 in
theorem ggL_law_L_begin : GoodIn wsL_law wsL_begin := goodIn_ca (goodIn_ca (goodIn_ca (goodIn_r _ [488, 96, 489, 490, 491, 2, 492, 110, 111, 101, 102, 103, 21, 150, 151, 152, 106, 107, 108, 109, 14, 493, 494, 495, 496, 16, 403, 112, 113, 114, 115, 116, 121, 122, 123, 124, 125, 126, 127, 20, 128, 129, 153, 154, 155, 156, 11, 12, 157, 158, 159, 160, 161, 162, 163, 164, 165, 166, 34, 167, 168, 169, 170, 171, 172, 173, 174, 175, 176, 177, 178, 33, 179, 180, 181, 182, 183, 184, 185, 186, 187, 188, 189, 190, 191, 192, 193, 194, 195, 196, 197, 198, 199, 200, 201, 202, 203, 204, 205, 206, 207, 208, 209, 210, 211, 212, 325, 326, 327, 328, 306, 217, 316, 237, 238, 239, 240, 241, 242, 243, 244, 245, 246, 247, 248, 249, 250, 251, 329, 330, 331, 332, 317, 318, 319, 320, 333, 334, 335, 336, 213, 214, 215, 216, 218, 17, 219, 220, 221, 222, 223, 224, 225, 226, 227, 228, 29, 229, 54, 56, 58, 230, 231, 232, 233, 234, 235, 236, 252, 845, 846, 847, 802, 803, 804, 805, 806, 807, 808, 809, 851, 852, 853, 854, 848, 849, 850, 842, 843, 844] rfl (by decide +kernel)) (goodIn_sub (fun _ h => List.mem_append_left _ (List.mem_append_right _ h)) (by decide +kernel))) (goodIn_sub (fun _ h => List.mem_append_left _ (List.mem_append_left _ (List.mem_append_right _ h))) (by decide +kernel))) (goodIn_sub (fun _ h => List.mem_append_right _ h) (by decide +kernel))
set_option maxRecDepth 20000 in
theorem gL_law_L_begin : GoodIn wsL_law (va_wsS RL 114 yL_begin wsL_begin) := goodIn_app (goodIn_of _ (by decide +kernel)) ggL_law_L_begin
