set_option maxRecDepth 20000 in
theorem gL_law_X10_who : GoodIn wsL_law (wsV RL 39 RX10 yX10_who wsX10_who) := goodIn_app (goodIn_of _ (by decide +kernel)) ggL_law_X10_who
set_option maxRecDepth 20000 in
theorem ggL_law_X9_gap : GoodIn wsL_law wsX9_gap := goodIn_r _ [448, 36, 37, 283, 162, 284, 285, 215, 216, 217, 218, 219, 220, 286, 287, 288, 289, 229, 230, 722, 723, 724, 725, 726, 727, 728, 729, 730, 731] (by decide +kernel) (by decide +kernel)
set_option maxRecDepth 20000 in
theorem gL_law_X9_gap : GoodIn wsL_law (wsV RL 40 RX9 yX9_gap wsX9_gap) := goodIn_app (goodIn_of _ (by decide +kernel)) ggL_law_X9_gap
set_option maxRecDepth 20000 in
theorem ggL_law_X10_gap : GoodIn wsL_law wsX10_gap := goodIn_r _ [452, 182, 312, 313, 5, 314, 131, 132, 133, 376, 377, 378, 379, 99, 380, 381, 382, 383, 330, 331, 332, 333, 334, 335, 732, 733, 734, 735, 736, 737, 738, 739, 740, 741, 742, 743, 744, 745, 746, 747, 748, 749, 750, 751, 752, 753, 754, 755, 756, 757, 758] (by decide +kernel) (by decide +kernel)
set_option maxRecDepth 20000 in
theorem gL_law_X10_gap : GoodIn wsL_law (wsV RL 43 RX10 yX10_gap wsX10_gap) := goodIn_app (goodIn_of _ (by decide +kernel)) ggL_law_X10_gap
set_option maxRecDepth 20000 in
theorem ggL_law_X9_shared : GoodIn wsL_law wsX9_shared := goodIn_r _ [456, 118, 37, 36, 241, 162, 242, 243, 174, 175, 236, 161, 163, 214, 215, 216, 217, 218, 219, 220, 722, 723, 724, 725, 726, 727, 728, 729, 730, 731] (by decide +kernel) (by decide +kernel)
set_option maxRecDepth 20000 in
theorem gL_law_X9_shared : GoodIn wsL_law (wsV RL 44 RX9 yX9_shared wsX9_shared) := goodIn_app (goodIn_of _ (by decide +kernel)) ggL_law_X9_shared
set_option maxRecDepth 20000 in
theorem ggL_law_X10_shared : GoodIn wsL_law wsX10_shared := goodIn_r _ [460, 461, 182, 99, 128, 131, 132, 5, 133, 336, 337, 338, 188, 189, 190, 312, 313, 314, 732, 733, 734, 735, 736, 737, 738, 739, 740, 741, 742, 743, 744, 745, 746, 747, 748, 749, 750, 751, 752, 753, 754, 755, 756, 757, 758] (by decide +kernel) (by decide +kernel)
set_option maxRecDepth 20000 in
theorem gL_law_X10_shared : GoodIn wsL_law (wsV RL 47 RX10 yX10_shared wsX10_shared) := goodIn_app (goodIn_of _ (by decide +kernel)) ggL_law_X10_shared
set_option maxRecDepth 20000 in
theorem ggL_law_X9_necklaces : GoodIn wsL_law wsX9_necklaces := goodIn_r _ [465, 36, 118, 466, 467, 468, 469, 470, 471, 472, 473, 474, 174, 162, 175, 475, 476, 477, 478, 479, 480, 481, 482, 483, 484, 485, 486, 487, 722, 723, 724, 725, 726, 727, 728, 729, 730, 731] (by decide +kernel) (by decide +kernel)
set_option maxRecDepth 20000 in
theorem gL_law_X9_necklaces : GoodIn wsL_law (wsV RL 48 RX9 yX9_necklaces wsX9_necklaces) := goodIn_app (goodIn_of _ (by decide +kernel)) ggL_law_X9_necklaces
set_option maxRecDepth 20000 in
theorem ggL_law_X10_necklaces : GoodIn wsL_law wsX10_necklaces := goodIn_r _ [491, 99, 128, 415, 131, 132, 5, 133, 492, 493, 494, 495, 496, 497, 498, 499, 500, 501, 502, 503, 732, 733, 734, 735, 736, 737, 738, 739, 740, 741, 742, 743, 744, 745, 746, 747, 748, 749, 750, 751, 752, 753, 754, 755, 756, 757, 758] (by decide +kernel) (by decide +kernel)
set_option maxRecDepth 20000 in
theorem gL_law_X10_necklaces : GoodIn wsL_law (wsV RL 51 RX10 yX10_necklaces wsX10_necklaces) := goodIn_app (goodIn_of _ (by decide +kernel)) ggL_law_X10_necklaces
set_option maxRecDepth 20000 in
theorem ggL_law_X9_kin : GoodIn wsL_law wsX9_kin := goodIn_r _ [507, 406, 35, 36, 508, 37, 509, 510, 511, 2, 512, 254, 252, 255, 256, 251, 253, 229, 162, 230, 257, 258, 259, 260, 261, 262, 241, 242, 243, 174, 175, 236, 161, 163, 234, 235, 431, 432, 433, 434, 435, 289, 722, 723, 724, 725, 726, 727, 728, 729, 730, 731, 782, 783, 784] (by decide +kernel) (by decide +kernel)
set_option maxRecDepth 20000 in
theorem gL_law_X9_kin : GoodIn wsL_law (wsV RL 52 RX9 yX9_kin wsX9_kin) := goodIn_app (goodIn_of _ (by decide +kernel)) ggL_law_X9_kin
set_option maxRecDepth 20000 in
theorem ggL_law_X10_kin : GoodIn wsL_law wsX10_kin := goodIn_r _ [516, 414, 105, 102, 99, 517, 103, 182, 131, 132, 5, 133, 188, 189, 190, 387, 388, 389, 336, 337, 338, 518, 519, 520, 333, 334, 335, 732, 733, 734, 735, 736, 737, 738, 739, 740, 741, 742, 743, 744, 745, 746, 747, 748, 749, 750, 751, 752, 753, 754, 755, 756, 757, 758] (by decide +kernel) (by decide +kernel)
set_option maxRecDepth 20000 in
theorem gL_law_X10_kin : GoodIn wsL_law (wsV RL 55 RX10 yX10_kin wsX10_kin) := goodIn_app (goodIn_of _ (by decide +kernel)) ggL_law_X10_kin
set_option maxRecDepth 20000 in
theorem ggL_law_X9_steady : GoodIn wsL_law wsX9_steady := goodIn_r _ [524, 118, 525, 526] (by decide +kernel) (by decide +kernel)
set_option maxRecDepth 20000 in
theorem gL_law_X9_steady : GoodIn wsL_law (wsV RL 56 RX9 yX9_steady wsX9_steady) := goodIn_app (goodIn_of _ (by decide +kernel)) ggL_law_X9_steady
set_option maxRecDepth 20000 in
theorem ggL_law_X10_steady : GoodIn wsL_law wsX10_steady := goodIn_r _ [530, 531, 532, 128, 533, 131, 132, 5, 133] (by decide +kernel) (by decide +kernel)
set_option maxRecDepth 20000 in
theorem gL_law_X10_steady : GoodIn wsL_law (wsV RL 59 RX10 yX10_steady wsX10_steady) := goodIn_app (goodIn_of _ (by decide +kernel)) ggL_law_X10_steady
set_option maxRecDepth 20000 in
theorem ggL_law_X9_strike : GoodIn wsL_law wsX9_strike := goodIn_r _ [537, 406, 36, 37, 424, 425, 426, 2, 427, 164, 165, 166, 167, 19, 168, 18, 169, 170, 53, 59, 54, 60, 171, 172, 146, 173, 174, 162, 175, 229, 230, 722, 723, 724, 725, 726, 727, 728, 729, 730, 731, 765, 766, 767, 768] (by decide +kernel) (by decide +kernel)
set_option maxRecDepth 20000 in
theorem gL_law_X9_strike : GoodIn wsL_law (wsV RL 60 RX9 yX9_strike wsX9_strike) := goodIn_app (goodIn_of _ (by decide +kernel)) ggL_law_X9_strike
set_option maxRecDepth 20000 in
theorem ggL_law_X10_strike : GoodIn wsL_law wsX10_strike := goodIn_r _ [541, 414, 182, 441, 442, 443, 5, 444, 99, 131, 132, 133, 542, 543, 544, 545, 197, 198, 199, 200, 201, 100, 101, 333, 334, 335, 732, 733, 734, 735, 736, 737, 738, 739, 740, 741, 742, 743, 744, 745, 746, 747, 748, 749, 750, 751, 752, 753, 754, 755, 756, 757, 758] (by decide +kernel) (by decide +kernel)
set_option maxRecDepth 20000 in
theorem gL_law_X10_strike : GoodIn wsL_law (wsV RL 63 RX10 yX10_strike wsX10_strike) := goodIn_app (goodIn_of _ (by decide +kernel)) ggL_law_X10_strike
set_option maxRecDepth 20000 in
theorem ggL_law_X9_even : GoodIn wsL_law wsX9_even := goodIn_r _ [549, 36, 118, 271, 162, 272, 243, 174, 175, 164, 165, 166, 2, 167, 19, 37, 168, 18, 169, 170, 53, 59, 54, 60, 171, 172, 146, 173, 722, 723, 724, 725, 726, 727, 728, 729, 730, 731, 765, 766, 767, 768] (by decide +kernel) (by decide +kernel)
set_option maxRecDepth 20000 in
theorem gL_law_X9_even : GoodIn wsL_law (wsV RL 64 RX9 yX9_even wsX9_even) := goodIn_app (goodIn_of _ (by decide +kernel)) ggL_law_X9_even
set_option maxRecDepth 20000 in
theorem ggL_law_X10_even : GoodIn wsL_law wsX10_even := goodIn_r _ [553, 99, 128, 131, 132, 5, 133, 384, 385, 386, 542, 543, 544, 545, 182, 197, 198, 199, 200, 201, 100, 101, 732, 733, 734, 735, 736, 737, 738, 739, 740, 741, 742, 743, 744, 745, 746, 747, 748, 749, 750, 751, 752, 753, 754, 755, 756, 757, 758] (by decide +kernel) (by decide +kernel)
set_option maxRecDepth 20000 in
theorem gL_law_X10_even : GoodIn wsL_law (wsV RL 67 RX10 yX10_even wsX10_even) := goodIn_app (goodIn_of _ (by decide +kernel)) ggL_law_X10_even
set_option maxRecDepth 20000 in
theorem ggL_law_X9_turn : GoodIn wsL_law wsX9_turn := goodIn_r _ [557, 118, 36, 37, 241, 162, 242, 243, 174, 175, 236, 161, 163, 164, 165, 166, 2, 167, 19, 168, 18, 169, 170, 53, 59, 54, 60, 171, 172, 146, 173, 722, 723, 724, 725, 726, 727, 728, 729, 730, 731, 765, 766, 767, 768] (by decide +kernel) (by decide +kernel)
set_option maxRecDepth 20000 in
theorem gL_law_X9_turn : GoodIn wsL_law (wsV RL 68 RX9 yX9_turn wsX9_turn) := goodIn_app (goodIn_of _ (by decide +kernel)) ggL_law_X9_turn
set_option maxRecDepth 20000 in
theorem ggL_law_X10_turn : GoodIn wsL_law wsX10_turn := goodIn_r _ [561, 461, 182, 99, 128, 131, 132, 5, 133, 336, 337, 338, 188, 189, 190, 542, 543, 544, 545, 197, 198, 199, 200, 201, 100, 101, 732, 733, 734, 735, 736, 737, 738, 739, 740, 741, 742, 743, 744, 745, 746, 747, 748, 749, 750, 751, 752, 753, 754, 755, 756, 757, 758] (by decide +kernel) (by decide +kernel)
set_option maxRecDepth 20000 in
theorem gL_law_X10_turn : GoodIn wsL_law (wsV RL 71 RX10 yX10_turn wsX10_turn) := goodIn_app (goodIn_of _ (by decide +kernel)) ggL_law_X10_turn
set_option maxRecDepth 20000 in
theorem ggL_law_X9_over : GoodIn wsL_law wsX9_over := goodIn_r _ [565, 36, 37, 234, 162, 235, 236, 161, 163, 164, 165, 166, 2, 167, 19, 168, 18, 169, 170, 53, 59, 54, 60, 171, 172, 146, 173, 174, 175, 722, 723, 724, 725, 726, 727, 728, 729, 730, 731, 765, 766, 767, 768] (by decide +kernel) (by decide +kernel)
set_option maxRecDepth 20000 in
theorem gL_law_X9_over : GoodIn wsL_law (wsV RL 72 RX9 yX9_over wsX9_over) := goodIn_app (goodIn_of _ (by decide +kernel)) ggL_law_X9_over
set_option maxRecDepth 20000 in
theorem ggL_law_X10_over : GoodIn wsL_law wsX10_over := goodIn_r _ [569, 182, 99, 188, 189, 5, 190, 542, 543, 544, 545, 197, 198, 199, 200, 201, 100, 101, 732, 733, 734, 735, 736, 737, 738, 739, 740, 741, 742, 743, 744, 745, 746, 747, 748, 749, 750, 751, 752, 753, 754, 755, 756, 757, 758] (by decide +kernel) (by decide +kernel)
set_option maxRecDepth 20000 in
theorem gL_law_X10_over : GoodIn wsL_law (wsV RL 75 RX10 yX10_over wsX10_over) := goodIn_app (goodIn_of _ (by decide +kernel)) ggL_law_X10_over
set_option maxRecDepth 20000 in
theorem ggL_law_X9_behind : GoodIn wsL_law wsX9_behind := goodIn_r _ [573, 36, 37, 431, 162, 432, 433, 434, 435, 289, 229, 230, 243, 174, 175, 164, 165, 166, 2, 167, 19, 168, 18, 169, 170, 53, 59, 54, 60, 171, 172, 146, 173, 722, 723, 724, 725, 726, 727, 728, 729, 730, 731, 765, 766, 767, 768] (by decide +kernel) (by decide +kernel)
set_option maxRecDepth 20000 in
theorem gL_law_X9_behind : GoodIn wsL_law (wsV RL 76 RX9 yX9_behind wsX9_behind) := goodIn_app (goodIn_of _ (by decide +kernel)) ggL_law_X9_behind
set_option maxRecDepth 20000 in
theorem ggL_law_X10_behind : GoodIn wsL_law wsX10_behind := goodIn_r _ [577, 182, 99, 518, 519, 5, 520, 333, 334, 335, 542, 543, 544, 545, 197, 198, 199, 200, 201, 100, 101, 732, 733, 734, 735, 736, 737, 738, 739, 740, 741, 742, 743, 744, 745, 746, 747, 748, 749, 750, 751, 752, 753, 754, 755, 756, 757, 758] (by decide +kernel) (by decide +kernel)
