theorem inX0 : ∀ w ∈ wsX00, w ∈ lw_tbl := by decide +kernel
theorem inX1 : ∀ w ∈ wsX10, w ∈ lw_tbl := fun w h => wsL_law_in w (inlX1 w h)
theorem inX2 : ∀ w ∈ wsX20, w ∈ lw_tbl := fun w h => wsL_law_in w (inlX2 w h)
theorem inX3 : ∀ w ∈ wsX30, w ∈ lw_tbl := fun w h => wsL_law_in w (inlX3 w h)
theorem inX4 : ∀ w ∈ wsX40, w ∈ lw_tbl := by decide +kernel
theorem inX5 : ∀ w ∈ wsX50, w ∈ lw_tbl := fun w h => wsL_law_in w (inlX5 w h)
theorem inX6 : ∀ w ∈ wsX60, w ∈ lw_tbl := by decide +kernel
theorem inX7 : ∀ w ∈ wsX70, w ∈ lw_tbl := fun w h => wsL_law_in w (inlX7 w h)
theorem inX8 : ∀ w ∈ wsX80, w ∈ lw_tbl := fun w h => wsL_law_in w (inlX8 w h)
theorem inX9 : ∀ w ∈ wsX90, w ∈ lw_tbl := fun w h => wsL_law_in w (inlX9 w h)
theorem inX10 : ∀ w ∈ wsX100, w ∈ lw_tbl := fun w h => wsL_law_in w (inlX10 w h)
theorem inJ6 : ∀ w ∈ wsJ60, w ∈ lw_tbl := by decide +kernel
theorem inJ9 : ∀ w ∈ wsJ90, w ∈ lw_tbl := by decide +kernel
set_option maxRecDepth 20000 in
theorem ggL_law_X9_init : GoodIn wsL_law wsX9_init := goodIn_r _ [8, 9, 10, 11, 12, 13, 14, 15, 16, 17, 18, 19, 20, 21, 22, 23, 24, 25, 26, 27, 28, 29, 30, 31, 32, 33, 34, 35, 36, 37, 38, 39, 40, 41, 42, 43, 44, 45, 46, 47, 48, 49, 50, 51, 52, 53, 54, 55, 56, 57, 58, 59, 60, 61, 62, 63, 64, 65, 66, 67, 68, 69, 70, 71, 72, 73, 74, 75, 76, 77, 78, 79, 80, 81, 82, 83, 84, 85, 86, 87, 88, 89, 90, 91, 92, 93, 94, 95, 96, 97, 98, 768, 769, 770, 771, 772, 773, 731, 732, 733, 734, 735, 736, 737, 738, 739, 740, 774, 775, 776, 777, 778, 779, 780, 781, 782, 783, 784, 785, 786, 787, 788, 789, 790, 791, 792, 793] (by decide +kernel) (by decide +kernel)
set_option maxRecDepth 20000 in
theorem gL_law_X9_init : GoodIn wsL_law (wsX9_init) := ggL_law_X9_init
set_option maxRecDepth 20000 in
theorem ggL_law_X10_init : GoodIn wsL_law wsX10_init := goodIn_r _ [101, 102, 10, 11, 103, 43, 104, 105, 106, 107, 108, 65, 109, 110, 111, 112, 113, 114, 115, 116, 117, 741, 742, 743, 744, 745, 746, 747, 748, 749, 750, 751, 752, 753, 754, 755, 756, 757, 758, 759, 760, 761, 762, 763, 764, 765, 766, 767] (by decide +kernel) (by decide +kernel)
set_option maxRecDepth 20000 in
theorem gL_law_X10_init : GoodIn wsL_law (wsX10_init) := ggL_law_X10_init
set_option maxRecDepth 20000 in
theorem ggL_law_X9_feed : GoodIn wsL_law wsX9_feed := goodIn_r _ [121, 122, 15, 123, 14, 124, 125, 49, 44, 126, 731, 732, 733, 734, 735, 736, 737, 738, 739, 740, 768, 769, 770, 771, 772, 773] (by decide +kernel) (by decide +kernel)
set_option maxRecDepth 20000 in
theorem gL_law_X9_feed : GoodIn wsL_law (wsV RL 13 RX9 yX9_feed wsX9_feed) := goodIn_app (goodIn_of _ (by decide +kernel)) ggL_law_X9_feed
set_option maxRecDepth 20000 in
theorem ggL_law_X10_feed : GoodIn wsL_law wsX10_feed := goodIn_r _ [130, 131, 132, 133, 134, 112, 135, 136, 5, 137, 741, 742, 743, 744, 745, 746, 747, 748, 749, 750, 751, 752, 753, 754, 755, 756, 757, 758, 759, 760, 761, 762, 763, 764, 765, 766, 767] (by decide +kernel) (by decide +kernel)
set_option maxRecDepth 20000 in
theorem gL_law_X10_feed : GoodIn wsL_law (wsV RL 17 RX10 yX10_feed wsX10_feed) := goodIn_app (goodIn_of _ (by decide +kernel)) ggL_law_X10_feed
set_option maxRecDepth 20000 in
theorem ggL_law_X9_tell : GoodIn wsL_law wsX9_tell := goodIn_r _ [141, 15, 39, 23, 36, 142, 14, 143, 144, 145, 146, 147, 49, 148, 76, 77, 78, 149, 150, 151, 152, 153, 154, 155, 156, 157, 44, 158, 159, 160, 161, 162, 163, 164, 165, 166, 167, 168, 46, 47, 48, 169, 170, 171, 2, 172, 19, 37, 173, 18, 174, 175, 53, 54, 59, 60, 176, 177, 178, 179, 180, 181, 182, 183, 184, 68, 22, 69, 70, 71, 731, 732, 733, 734, 735, 736, 737, 738, 739, 740, 768, 769, 770, 771, 772, 773, 774, 775, 776, 777, 778, 779, 780] (by decide +kernel) (by decide +kernel)
set_option maxRecDepth 20000 in
theorem gL_law_X9_tell : GoodIn wsL_law (wsV RL 18 RX9 yX9_tell wsX9_tell) := goodIn_app (goodIn_of _ (by decide +kernel)) ggL_law_X9_tell
set_option maxRecDepth 20000 in
theorem ggL_law_X10_tell : GoodIn wsL_law wsX10_tell := goodIn_r _ [188, 133, 113, 189, 103, 190, 191, 192, 193, 194, 195, 5, 196, 112, 197, 198, 199, 200, 201, 202, 203, 204, 205, 135, 136, 137, 206, 207, 208, 209, 210, 104, 105, 741, 742, 743, 744, 745, 746, 747, 748, 749, 750, 751, 752, 753, 754, 755, 756, 757, 758, 759, 760, 761, 762, 763, 764, 765, 766, 767] (by decide +kernel) (by decide +kernel)
set_option maxRecDepth 20000 in
theorem gL_law_X10_tell : GoodIn wsL_law (wsV RL 22 RX10 yX10_tell wsX10_tell) := goodIn_app (goodIn_of _ (by decide +kernel)) ggL_law_X10_tell
set_option maxRecDepth 20000 in
theorem ggL_law_X9_fault : GoodIn wsL_law wsX9_fault := goodIn_r _ [214, 39, 731, 732, 733, 734, 735, 736, 737, 738, 739, 740] (by decide +kernel) (by decide +kernel)
set_option maxRecDepth 20000 in
theorem gL_law_X9_fault : GoodIn wsL_law (wsV RL 23 RX9 yX9_fault wsX9_fault) := goodIn_app (goodIn_of _ (by decide +kernel)) ggL_law_X9_fault
set_option maxRecDepth 20000 in
theorem ggL_law_X10_fault : GoodIn wsL_law wsX10_fault := goodIn_r _ [218, 113, 741, 742, 743, 744, 745, 746, 747, 748, 749, 750, 751, 752, 753, 754, 755, 756, 757, 758, 759, 760, 761, 762, 763, 764, 765, 766, 767] (by decide +kernel) (by decide +kernel)
set_option maxRecDepth 20000 in
theorem gL_law_X10_fault : GoodIn wsL_law (wsV RL 26 RX10 yX10_fault wsX10_fault) := goodIn_app (goodIn_of _ (by decide +kernel)) ggL_law_X10_fault
set_option maxRecDepth 20000 in
theorem ggL_law_X9_told : GoodIn wsL_law wsX9_told := goodIn_r _ [222, 36, 37, 27, 31, 15, 23, 19, 122, 223, 224, 225, 226, 227, 228, 229, 230, 26, 231, 232, 83, 84, 82, 233, 183, 167, 184, 234, 235, 236, 237, 81, 80, 238, 239, 240, 241, 242, 79, 243, 244, 245, 166, 168, 246, 247, 248, 249, 250, 251, 252, 253, 254, 255, 256, 257, 258, 259, 260, 261, 262, 263, 264, 265, 266, 267, 268, 269, 270, 271, 272, 273, 274, 2, 275, 276, 277, 278, 279, 280, 281, 282, 283, 284, 285, 286, 287, 288, 289, 290, 177, 77, 178, 291, 292, 293, 294, 295, 296, 297, 298, 299, 300, 301, 76, 78, 302, 30, 303, 304, 90, 91, 92, 305, 306, 307, 308, 89, 309, 310, 311, 312, 313, 314, 315, 316, 731, 732, 733, 734, 735, 736, 737, 738, 739, 740, 768, 769, 770, 771, 772, 773, 778, 779, 780, 774, 775, 776, 777, 781, 782, 783, 784, 785, 786, 787, 788, 789, 790] (by decide +kernel) (by decide +kernel)
set_option maxRecDepth 20000 in
theorem gL_law_X9_told : GoodIn wsL_law (wsV RL 27 RX9 yX9_told wsX9_told) := goodIn_app (goodIn_of _ (by decide +kernel)) ggL_law_X9_told
set_option maxRecDepth 20000 in
theorem ggL_law_X10_told : GoodIn wsL_law wsX10_told := goodIn_r _ [320, 103, 191, 133, 192, 210, 132, 321, 322, 5, 323, 324, 325, 326, 327, 328, 329, 330, 331, 332, 333, 334, 335, 336, 337, 338, 115, 116, 117, 114, 197, 198, 199, 339, 340, 341, 342, 343, 344, 345, 346, 347, 348, 349, 350, 351, 352, 353, 354, 355, 356, 357, 358, 359, 360, 361, 362, 363, 364, 365, 366, 367, 368, 369, 370, 371, 372, 373, 374, 375, 376, 377, 378, 379, 380, 381, 382, 383, 384, 385, 386, 387, 388, 389, 390, 391, 392, 393, 394, 395, 396, 397, 398, 399, 400, 401, 402, 403, 404, 405, 406, 407, 408, 409, 410, 741, 742, 743, 744, 745, 746, 747, 748, 749, 750, 751, 752, 753, 754, 755, 756, 757, 758, 759, 760, 761, 762, 763, 764, 765, 766, 767] (by decide +kernel) (by decide +kernel)
set_option maxRecDepth 20000 in
theorem gL_law_X10_told : GoodIn wsL_law (wsV RL 30 RX10 yX10_told wsX10_told) := goodIn_app (goodIn_of _ (by decide +kernel)) ggL_law_X10_told
set_option maxRecDepth 20000 in
theorem ggL_law_X9_tiling : GoodIn wsL_law wsX9_tiling := goodIn_r _ [414, 27, 36, 37, 415, 122, 230, 26, 231, 232, 83, 84, 82, 233, 224, 225, 226, 227, 228, 229, 183, 167, 184, 234, 235, 236, 237, 81, 80, 238, 239, 240, 241, 242, 79, 243, 244, 245, 166, 168, 246, 247, 248, 249, 250, 251, 252, 253, 254, 255, 256, 416, 417, 418, 223, 257, 258, 259, 731, 732, 733, 734, 735, 736, 737, 738, 739, 740, 781, 782, 783, 784, 785, 786] (by decide +kernel) (by decide +kernel)
set_option maxRecDepth 20000 in
theorem gL_law_X9_tiling : GoodIn wsL_law (wsV RL 31 RX9 yX9_tiling wsX9_tiling) := goodIn_app (goodIn_of _ (by decide +kernel)) ggL_law_X9_tiling
set_option maxRecDepth 20000 in
theorem ggL_law_X10_tiling : GoodIn wsL_law wsX10_tiling := goodIn_r _ [422, 423, 424, 132, 114, 103, 425, 426, 427, 5, 428, 328, 329, 330, 331, 332, 333, 334, 191, 335, 336, 337, 338, 115, 116, 117, 321, 322, 323, 197, 198, 199, 339, 340, 341, 342, 343, 344, 345, 346, 347, 348, 349, 350, 351, 352, 353, 354, 355, 135, 136, 137, 356, 357, 358, 741, 742, 743, 744, 745, 746, 747, 748, 749, 750, 751, 752, 753, 754, 755, 756, 757, 758, 759, 760, 761, 762, 763, 764, 765, 766, 767] (by decide +kernel) (by decide +kernel)
set_option maxRecDepth 20000 in
theorem gL_law_X10_tiling : GoodIn wsL_law (wsV RL 35 RX10 yX10_tiling wsX10_tiling) := goodIn_app (goodIn_of _ (by decide +kernel)) ggL_law_X10_tiling
set_option maxRecDepth 20000 in
theorem ggL_law_X9_who : GoodIn wsL_law wsX9_who := goodIn_r _ [432, 27, 36, 37, 415, 433, 434, 435, 2, 436, 230, 26, 231, 232, 83, 84, 82, 233, 224, 225, 226, 227, 228, 229, 183, 167, 184, 234, 235, 236, 237, 81, 80, 238, 239, 240, 241, 242, 79, 243, 244, 245, 166, 168, 246, 247, 248, 249, 250, 251, 252, 253, 254, 255, 256, 416, 417, 418, 437, 438, 439, 440, 441, 442, 443, 444, 298, 259, 445, 731, 732, 733, 734, 735, 736, 737, 738, 739, 740, 781, 782, 783, 784, 785, 786] (by decide +kernel) (by decide +kernel)
set_option maxRecDepth 20000 in
theorem gL_law_X9_who : GoodIn wsL_law (wsV RL 36 RX9 yX9_who wsX9_who) := goodIn_app (goodIn_of _ (by decide +kernel)) ggL_law_X9_who
set_option maxRecDepth 20000 in
theorem ggL_law_X10_who : GoodIn wsL_law wsX10_who := goodIn_r _ [449, 423, 114, 191, 103, 425, 426, 427, 5, 428, 328, 329, 330, 331, 332, 333, 334, 335, 336, 337, 338, 115, 116, 117, 321, 322, 323, 197, 198, 199, 339, 340, 341, 342, 343, 344, 345, 346, 347, 348, 349, 350, 351, 352, 353, 354, 355, 135, 136, 137, 450, 451, 452, 453, 741, 742, 743, 744, 745, 746, 747, 748, 749, 750, 751, 752, 753, 754, 755, 756, 757, 758, 759, 760, 761, 762, 763, 764, 765, 766, 767] (by decide +kernel) (by decide +kernel)
set_option maxRecDepth 20000 in
theorem gL_law_X10_who : GoodIn wsL_law (wsV RL 39 RX10 yX10_who wsX10_who) := goodIn_app (goodIn_of _ (by decide +kernel)) ggL_law_X10_who
set_option maxRecDepth 20000 in
theorem ggL_law_X9_gap : GoodIn wsL_law wsX9_gap := goodIn_r _ [457, 36, 37, 292, 167, 293, 294, 224, 225, 226, 227, 228, 229, 295, 296, 297, 298, 238, 239, 731, 732, 733, 734, 735, 736, 737, 738, 739, 740] (by decide +kernel) (by decide +kernel)
set_option maxRecDepth 20000 in
theorem gL_law_X9_gap : GoodIn wsL_law (wsV RL 40 RX9 yX9_gap wsX9_gap) := goodIn_app (goodIn_of _ (by decide +kernel)) ggL_law_X9_gap
set_option maxRecDepth 20000 in
theorem ggL_law_X10_gap : GoodIn wsL_law wsX10_gap := goodIn_r _ [461, 191, 321, 322, 5, 323, 135, 136, 137, 385, 386, 387, 388, 103, 389, 390, 391, 392, 339, 340, 341, 342, 343, 344, 741, 742, 743, 744, 745, 746, 747, 748, 749, 750, 751, 752, 753, 754, 755, 756, 757, 758, 759, 760, 761, 762, 763, 764, 765, 766, 767] (by decide +kernel) (by decide +kernel)
set_option maxRecDepth 20000 in
theorem gL_law_X10_gap : GoodIn wsL_law (wsV RL 43 RX10 yX10_gap wsX10_gap) := goodIn_app (goodIn_of _ (by decide +kernel)) ggL_law_X10_gap
set_option maxRecDepth 20000 in
theorem ggL_law_X9_shared : GoodIn wsL_law wsX9_shared := goodIn_r _ [465, 122, 37, 36, 250, 167, 251, 252, 183, 184, 245, 166, 168, 223, 224, 225, 226, 227, 228, 229, 731, 732, 733, 734, 735, 736, 737, 738, 739, 740] (by decide +kernel) (by decide +kernel)
set_option maxRecDepth 20000 in
theorem gL_law_X9_shared : GoodIn wsL_law (wsV RL 44 RX9 yX9_shared wsX9_shared) := goodIn_app (goodIn_of _ (by decide +kernel)) ggL_law_X9_shared
