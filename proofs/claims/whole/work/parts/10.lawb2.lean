set_option maxRecDepth 20000 in
theorem ggL_law_X10_shared : GoodIn wsL_law wsX10_shared := goodIn_r _ [469, 470, 191, 103, 132, 135, 136, 5, 137, 345, 346, 347, 197, 198, 199, 321, 322, 323, 741, 742, 743, 744, 745, 746, 747, 748, 749, 750, 751, 752, 753, 754, 755, 756, 757, 758, 759, 760, 761, 762, 763, 764, 765, 766, 767] (by decide +kernel) (by decide +kernel)
set_option maxRecDepth 20000 in
theorem gL_law_X10_shared : GoodIn wsL_law (wsV RL 47 RX10 yX10_shared wsX10_shared) := goodIn_app (goodIn_of _ (by decide +kernel)) ggL_law_X10_shared
set_option maxRecDepth 20000 in
theorem ggL_law_X9_necklaces : GoodIn wsL_law wsX9_necklaces := goodIn_r _ [474, 36, 122, 475, 476, 477, 478, 479, 480, 481, 482, 483, 183, 167, 184, 484, 485, 486, 487, 488, 489, 490, 491, 492, 493, 494, 495, 496, 731, 732, 733, 734, 735, 736, 737, 738, 739, 740] (by decide +kernel) (by decide +kernel)
set_option maxRecDepth 20000 in
theorem gL_law_X9_necklaces : GoodIn wsL_law (wsV RL 48 RX9 yX9_necklaces wsX9_necklaces) := goodIn_app (goodIn_of _ (by decide +kernel)) ggL_law_X9_necklaces
set_option maxRecDepth 20000 in
theorem ggL_law_X10_necklaces : GoodIn wsL_law wsX10_necklaces := goodIn_r _ [500, 103, 132, 424, 135, 136, 5, 137, 501, 502, 503, 504, 505, 506, 507, 508, 509, 510, 511, 512, 741, 742, 743, 744, 745, 746, 747, 748, 749, 750, 751, 752, 753, 754, 755, 756, 757, 758, 759, 760, 761, 762, 763, 764, 765, 766, 767] (by decide +kernel) (by decide +kernel)
set_option maxRecDepth 20000 in
theorem gL_law_X10_necklaces : GoodIn wsL_law (wsV RL 51 RX10 yX10_necklaces wsX10_necklaces) := goodIn_app (goodIn_of _ (by decide +kernel)) ggL_law_X10_necklaces
set_option maxRecDepth 20000 in
theorem ggL_law_X9_kin : GoodIn wsL_law wsX9_kin := goodIn_r _ [516, 415, 35, 36, 517, 37, 518, 519, 520, 2, 521, 263, 261, 264, 265, 260, 262, 238, 167, 239, 266, 267, 268, 269, 270, 271, 250, 251, 252, 183, 184, 245, 166, 168, 243, 244, 440, 441, 442, 443, 444, 298, 731, 732, 733, 734, 735, 736, 737, 738, 739, 740, 791, 792, 793] (by decide +kernel) (by decide +kernel)
set_option maxRecDepth 20000 in
theorem gL_law_X9_kin : GoodIn wsL_law (wsV RL 52 RX9 yX9_kin wsX9_kin) := goodIn_app (goodIn_of _ (by decide +kernel)) ggL_law_X9_kin
set_option maxRecDepth 20000 in
theorem ggL_law_X10_kin : GoodIn wsL_law wsX10_kin := goodIn_r _ [525, 423, 109, 106, 103, 526, 107, 191, 135, 136, 5, 137, 197, 198, 199, 396, 397, 398, 345, 346, 347, 527, 528, 529, 342, 343, 344, 741, 742, 743, 744, 745, 746, 747, 748, 749, 750, 751, 752, 753, 754, 755, 756, 757, 758, 759, 760, 761, 762, 763, 764, 765, 766, 767] (by decide +kernel) (by decide +kernel)
set_option maxRecDepth 20000 in
theorem gL_law_X10_kin : GoodIn wsL_law (wsV RL 55 RX10 yX10_kin wsX10_kin) := goodIn_app (goodIn_of _ (by decide +kernel)) ggL_law_X10_kin
set_option maxRecDepth 20000 in
theorem ggL_law_X9_steady : GoodIn wsL_law wsX9_steady := goodIn_r _ [533, 122, 534, 535] (by decide +kernel) (by decide +kernel)
set_option maxRecDepth 20000 in
theorem gL_law_X9_steady : GoodIn wsL_law (wsV RL 56 RX9 yX9_steady wsX9_steady) := goodIn_app (goodIn_of _ (by decide +kernel)) ggL_law_X9_steady
set_option maxRecDepth 20000 in
theorem ggL_law_X10_steady : GoodIn wsL_law wsX10_steady := goodIn_r _ [539, 540, 541, 132, 542, 135, 136, 5, 137] (by decide +kernel) (by decide +kernel)
set_option maxRecDepth 20000 in
theorem gL_law_X10_steady : GoodIn wsL_law (wsV RL 59 RX10 yX10_steady wsX10_steady) := goodIn_app (goodIn_of _ (by decide +kernel)) ggL_law_X10_steady
set_option maxRecDepth 20000 in
theorem ggL_law_X9_strike : GoodIn wsL_law wsX9_strike := goodIn_r _ [546, 415, 36, 37, 433, 434, 435, 2, 436, 169, 170, 171, 172, 19, 173, 18, 174, 175, 53, 54, 59, 60, 176, 177, 77, 178, 179, 180, 181, 182, 183, 167, 184, 238, 239, 731, 732, 733, 734, 735, 736, 737, 738, 739, 740, 774, 775, 776, 777] (by decide +kernel) (by decide +kernel)
set_option maxRecDepth 20000 in
theorem gL_law_X9_strike : GoodIn wsL_law (wsV RL 60 RX9 yX9_strike wsX9_strike) := goodIn_app (goodIn_of _ (by decide +kernel)) ggL_law_X9_strike
set_option maxRecDepth 20000 in
theorem ggL_law_X10_strike : GoodIn wsL_law wsX10_strike := goodIn_r _ [550, 423, 191, 450, 451, 452, 5, 453, 103, 135, 136, 137, 551, 552, 553, 554, 206, 207, 208, 209, 210, 104, 105, 342, 343, 344, 741, 742, 743, 744, 745, 746, 747, 748, 749, 750, 751, 752, 753, 754, 755, 756, 757, 758, 759, 760, 761, 762, 763, 764, 765, 766, 767] (by decide +kernel) (by decide +kernel)
set_option maxRecDepth 20000 in
theorem gL_law_X10_strike : GoodIn wsL_law (wsV RL 63 RX10 yX10_strike wsX10_strike) := goodIn_app (goodIn_of _ (by decide +kernel)) ggL_law_X10_strike
set_option maxRecDepth 20000 in
theorem ggL_law_X9_even : GoodIn wsL_law wsX9_even := goodIn_r _ [558, 36, 122, 280, 167, 281, 252, 183, 184, 169, 170, 171, 2, 172, 19, 37, 173, 18, 174, 175, 53, 54, 59, 60, 176, 177, 77, 178, 179, 180, 181, 182, 731, 732, 733, 734, 735, 736, 737, 738, 739, 740, 774, 775, 776, 777] (by decide +kernel) (by decide +kernel)
set_option maxRecDepth 20000 in
theorem gL_law_X9_even : GoodIn wsL_law (wsV RL 64 RX9 yX9_even wsX9_even) := goodIn_app (goodIn_of _ (by decide +kernel)) ggL_law_X9_even
set_option maxRecDepth 20000 in
theorem ggL_law_X10_even : GoodIn wsL_law wsX10_even := goodIn_r _ [562, 103, 132, 135, 136, 5, 137, 393, 394, 395, 551, 552, 553, 554, 191, 206, 207, 208, 209, 210, 104, 105, 741, 742, 743, 744, 745, 746, 747, 748, 749, 750, 751, 752, 753, 754, 755, 756, 757, 758, 759, 760, 761, 762, 763, 764, 765, 766, 767] (by decide +kernel) (by decide +kernel)
set_option maxRecDepth 20000 in
theorem gL_law_X10_even : GoodIn wsL_law (wsV RL 67 RX10 yX10_even wsX10_even) := goodIn_app (goodIn_of _ (by decide +kernel)) ggL_law_X10_even
set_option maxRecDepth 20000 in
theorem ggL_law_X9_turn : GoodIn wsL_law wsX9_turn := goodIn_r _ [566, 122, 36, 37, 250, 167, 251, 252, 183, 184, 245, 166, 168, 169, 170, 171, 2, 172, 19, 173, 18, 174, 175, 53, 54, 59, 60, 176, 177, 77, 178, 179, 180, 181, 182, 731, 732, 733, 734, 735, 736, 737, 738, 739, 740, 774, 775, 776, 777] (by decide +kernel) (by decide +kernel)
set_option maxRecDepth 20000 in
theorem gL_law_X9_turn : GoodIn wsL_law (wsV RL 68 RX9 yX9_turn wsX9_turn) := goodIn_app (goodIn_of _ (by decide +kernel)) ggL_law_X9_turn
set_option maxRecDepth 20000 in
theorem ggL_law_X10_turn : GoodIn wsL_law wsX10_turn := goodIn_r _ [570, 470, 191, 103, 132, 135, 136, 5, 137, 345, 346, 347, 197, 198, 199, 551, 552, 553, 554, 206, 207, 208, 209, 210, 104, 105, 741, 742, 743, 744, 745, 746, 747, 748, 749, 750, 751, 752, 753, 754, 755, 756, 757, 758, 759, 760, 761, 762, 763, 764, 765, 766, 767] (by decide +kernel) (by decide +kernel)
set_option maxRecDepth 20000 in
theorem gL_law_X10_turn : GoodIn wsL_law (wsV RL 71 RX10 yX10_turn wsX10_turn) := goodIn_app (goodIn_of _ (by decide +kernel)) ggL_law_X10_turn
set_option maxRecDepth 20000 in
theorem ggL_law_X9_over : GoodIn wsL_law wsX9_over := goodIn_r _ [574, 36, 37, 243, 167, 244, 245, 166, 168, 169, 170, 171, 2, 172, 19, 173, 18, 174, 175, 53, 54, 59, 60, 176, 177, 77, 178, 179, 180, 181, 182, 183, 184, 731, 732, 733, 734, 735, 736, 737, 738, 739, 740, 774, 775, 776, 777] (by decide +kernel) (by decide +kernel)
set_option maxRecDepth 20000 in
theorem gL_law_X9_over : GoodIn wsL_law (wsV RL 72 RX9 yX9_over wsX9_over) := goodIn_app (goodIn_of _ (by decide +kernel)) ggL_law_X9_over
set_option maxRecDepth 20000 in
theorem ggL_law_X10_over : GoodIn wsL_law wsX10_over := goodIn_r _ [578, 191, 103, 197, 198, 5, 199, 551, 552, 553, 554, 206, 207, 208, 209, 210, 104, 105, 741, 742, 743, 744, 745, 746, 747, 748, 749, 750, 751, 752, 753, 754, 755, 756, 757, 758, 759, 760, 761, 762, 763, 764, 765, 766, 767] (by decide +kernel) (by decide +kernel)
set_option maxRecDepth 20000 in
theorem gL_law_X10_over : GoodIn wsL_law (wsV RL 75 RX10 yX10_over wsX10_over) := goodIn_app (goodIn_of _ (by decide +kernel)) ggL_law_X10_over
set_option maxRecDepth 20000 in
theorem ggL_law_X9_behind : GoodIn wsL_law wsX9_behind := goodIn_r _ [582, 36, 37, 440, 167, 441, 442, 443, 444, 298, 238, 239, 252, 183, 184, 169, 170, 171, 2, 172, 19, 173, 18, 174, 175, 53, 54, 59, 60, 176, 177, 77, 178, 179, 180, 181, 182, 731, 732, 733, 734, 735, 736, 737, 738, 739, 740, 774, 775, 776, 777] (by decide +kernel) (by decide +kernel)
set_option maxRecDepth 20000 in
theorem gL_law_X9_behind : GoodIn wsL_law (wsV RL 76 RX9 yX9_behind wsX9_behind) := goodIn_app (goodIn_of _ (by decide +kernel)) ggL_law_X9_behind
set_option maxRecDepth 20000 in
theorem ggL_law_X10_behind : GoodIn wsL_law wsX10_behind := goodIn_r _ [586, 191, 103, 527, 528, 5, 529, 342, 343, 344, 551, 552, 553, 554, 206, 207, 208, 209, 210, 104, 105, 741, 742, 743, 744, 745, 746, 747, 748, 749, 750, 751, 752, 753, 754, 755, 756, 757, 758, 759, 760, 761, 762, 763, 764, 765, 766, 767] (by decide +kernel) (by decide +kernel)
set_option maxRecDepth 20000 in
theorem gL_law_X10_behind : GoodIn wsL_law (wsV RL 79 RX10 yX10_behind wsX10_behind) := goodIn_app (goodIn_of _ (by decide +kernel)) ggL_law_X10_behind
set_option maxRecDepth 20000 in
theorem ggL_law_X9_stretch : GoodIn wsL_law wsX9_stretch := goodIn_r _ [590, 122, 36, 517, 37, 166, 167, 168, 443, 444, 298, 238, 239, 252, 183, 184, 169, 170, 171, 2, 172, 19, 173, 18, 174, 175, 53, 54, 59, 60, 176, 177, 77, 178, 179, 180, 181, 182, 731, 732, 733, 734, 735, 736, 737, 738, 739, 740, 774, 775, 776, 777] (by decide +kernel) (by decide +kernel)
set_option maxRecDepth 20000 in
theorem gL_law_X9_stretch : GoodIn wsL_law (wsV RL 80 RX9 yX9_stretch wsX9_stretch) := goodIn_app (goodIn_of _ (by decide +kernel)) ggL_law_X9_stretch
set_option maxRecDepth 20000 in
theorem ggL_law_X10_stretch : GoodIn wsL_law wsX10_stretch := goodIn_r _ [594, 470, 132, 103, 526, 191, 135, 136, 5, 137, 504, 505, 506, 342, 343, 344, 551, 552, 553, 554, 206, 207, 208, 209, 210, 104, 105, 741, 742, 743, 744, 745, 746, 747, 748, 749, 750, 751, 752, 753, 754, 755, 756, 757, 758, 759, 760, 761, 762, 763, 764, 765, 766, 767] (by decide +kernel) (by decide +kernel)
set_option maxRecDepth 20000 in
theorem gL_law_X10_stretch : GoodIn wsL_law (wsV RL 83 RX10 yX10_stretch wsX10_stretch) := goodIn_app (goodIn_of _ (by decide +kernel)) ggL_law_X10_stretch
set_option maxRecDepth 20000 in
theorem ggL_law_X9_twice : GoodIn wsL_law wsX9_twice := goodIn_r _ [598, 36, 599, 37, 169, 170, 171, 2, 172, 19, 173, 18, 174, 175, 53, 54, 59, 60, 176, 177, 77, 178, 179, 180, 181, 182, 183, 167, 184, 731, 732, 733, 734, 735, 736, 737, 738, 739, 740, 774, 775, 776, 777] (by decide +kernel) (by decide +kernel)
set_option maxRecDepth 20000 in
theorem gL_law_X9_twice : GoodIn wsL_law (wsV RL 84 RX9 yX9_twice wsX9_twice) := goodIn_app (goodIn_of _ (by decide +kernel)) ggL_law_X9_twice
