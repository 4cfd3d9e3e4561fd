set_option maxRecDepth 20000 in
theorem gL_law_X10_behind : GoodIn wsL_law (wsV RL 79 RX10 yX10_behind wsX10_behind) := goodIn_app (goodIn_of _ (by decide +kernel)) ggL_law_X10_behind
set_option maxRecDepth 20000 in
theorem ggL_law_X9_stretch : GoodIn wsL_law wsX9_stretch := goodIn_r _ [581, 118, 36, 508, 37, 161, 162, 163, 434, 435, 289, 229, 230, 243, 174, 175, 164, 165, 166, 2, 167, 19, 168, 18, 169, 170, 53, 59, 54, 60, 171, 172, 146, 173, 722, 723, 724, 725, 726, 727, 728, 729, 730, 731, 765, 766, 767, 768] (by decide +kernel) (by decide +kernel)
set_option maxRecDepth 20000 in
theorem gL_law_X9_stretch : GoodIn wsL_law (wsV RL 80 RX9 yX9_stretch wsX9_stretch) := goodIn_app (goodIn_of _ (by decide +kernel)) ggL_law_X9_stretch
set_option maxRecDepth 20000 in
theorem ggL_law_X10_stretch : GoodIn wsL_law wsX10_stretch := goodIn_r _ [585, 461, 128, 99, 517, 182, 131, 132, 5, 133, 495, 496, 497, 333, 334, 335, 542, 543, 544, 545, 197, 198, 199, 200, 201, 100, 101, 732, 733, 734, 735, 736, 737, 738, 739, 740, 741, 742, 743, 744, 745, 746, 747, 748, 749, 750, 751, 752, 753, 754, 755, 756, 757, 758] (by decide +kernel) (by decide +kernel)
set_option maxRecDepth 20000 in
theorem gL_law_X10_stretch : GoodIn wsL_law (wsV RL 83 RX10 yX10_stretch wsX10_stretch) := goodIn_app (goodIn_of _ (by decide +kernel)) ggL_law_X10_stretch
set_option maxRecDepth 20000 in
theorem ggL_law_X9_twice : GoodIn wsL_law wsX9_twice := goodIn_r _ [589, 36, 590, 37, 164, 165, 166, 2, 167, 19, 168, 18, 169, 170, 53, 59, 54, 60, 171, 172, 146, 173, 174, 162, 175, 722, 723, 724, 725, 726, 727, 728, 729, 730, 731, 765, 766, 767, 768] (by decide +kernel) (by decide +kernel)
set_option maxRecDepth 20000 in
theorem gL_law_X9_twice : GoodIn wsL_law (wsV RL 84 RX9 yX9_twice wsX9_twice) := goodIn_app (goodIn_of _ (by decide +kernel)) ggL_law_X9_twice
set_option maxRecDepth 20000 in
theorem ggL_law_X10_twice : GoodIn wsL_law wsX10_twice := goodIn_r _ [594, 99, 130, 182, 542, 543, 544, 5, 545, 197, 198, 199, 200, 201, 100, 101, 732, 733, 734, 735, 736, 737, 738, 739, 740, 741, 742, 743, 744, 745, 746, 747, 748, 749, 750, 751, 752, 753, 754, 755, 756, 757, 758] (by decide +kernel) (by decide +kernel)
set_option maxRecDepth 20000 in
theorem gL_law_X10_twice : GoodIn wsL_law (wsV RL 87 RX10 yX10_twice wsX10_twice) := goodIn_app (goodIn_of _ (by decide +kernel)) ggL_law_X10_twice
set_option maxRecDepth 20000 in
theorem ggL_law_X9_cycle : GoodIn wsL_law wsX9_cycle := goodIn_r _ [598, 118, 37, 161, 162, 163, 164, 165, 166, 2, 167, 19, 36, 168, 18, 169, 170, 53, 59, 54, 60, 171, 172, 146, 173, 174, 175, 214, 215, 216, 217, 218, 219, 220, 722, 723, 724, 725, 726, 727, 728, 729, 730, 731, 765, 766, 767, 768] (by decide +kernel) (by decide +kernel)
set_option maxRecDepth 20000 in
theorem gL_law_X9_cycle : GoodIn wsL_law (wsV RL 88 RX9 yX9_cycle wsX9_cycle) := goodIn_app (goodIn_of _ (by decide +kernel)) ggL_law_X9_cycle
set_option maxRecDepth 20000 in
theorem ggL_law_X10_cycle : GoodIn wsL_law wsX10_cycle := goodIn_r _ [602, 603, 128, 182, 99, 131, 132, 5, 133, 188, 189, 190, 542, 543, 544, 545, 197, 198, 199, 200, 201, 100, 101, 312, 313, 314, 732, 733, 734, 735, 736, 737, 738, 739, 740, 741, 742, 743, 744, 745, 746, 747, 748, 749, 750, 751, 752, 753, 754, 755, 756, 757, 758] (by decide +kernel) (by decide +kernel)
set_option maxRecDepth 20000 in
theorem gL_law_X10_cycle : GoodIn wsL_law (wsV RL 91 RX10 yX10_cycle wsX10_cycle) := goodIn_app (goodIn_of _ (by decide +kernel)) ggL_law_X10_cycle
set_option maxRecDepth 20000 in
theorem ggL_law_X9_drift : GoodIn wsL_law wsX9_drift := goodIn_r _ [607, 118, 37, 608, 609, 610, 2, 611, 36, 612, 613, 614, 615, 38, 616, 617, 618, 619, 174, 162, 175, 164, 165, 166, 167, 19, 168, 18, 169, 170, 53, 59, 54, 60, 171, 172, 146, 173, 241, 242, 243, 236, 161, 163, 234, 235, 431, 432, 433, 434, 435, 289, 229, 230, 722, 723, 724, 725, 726, 727, 728, 729, 730, 731, 765, 766, 767, 768] (by decide +kernel) (by decide +kernel)
set_option maxRecDepth 20000 in
theorem gL_law_X9_drift : GoodIn wsL_law (wsV RL 92 RX9 yX9_drift wsX9_drift) := goodIn_app (goodIn_of _ (by decide +kernel)) ggL_law_X9_drift
set_option maxRecDepth 20000 in
theorem ggL_law_X10_drift : GoodIn wsL_law wsX10_drift := goodIn_r _ [623, 624, 128, 182, 99, 131, 132, 5, 133, 625, 626, 627, 628, 629, 630, 631, 632, 633, 542, 543, 544, 545, 197, 198, 199, 200, 201, 100, 101, 336, 337, 338, 188, 189, 190, 634, 567, 568, 569, 635, 575, 576, 577, 518, 519, 520, 333, 334, 335, 732, 733, 734, 735, 736, 737, 738, 739, 740, 741, 742, 743, 744, 745, 746, 747, 748, 749, 750, 751, 752, 753, 754, 755, 756, 757, 758] (by decide +kernel) (by decide +kernel)
set_option maxRecDepth 20000 in
theorem gL_law_X10_drift : GoodIn wsL_law (wsV RL 95 RX10 yX10_drift wsX10_drift) := goodIn_app (goodIn_of _ (by decide +kernel)) ggL_law_X10_drift
set_option maxRecDepth 20000 in
theorem ggL_law_X9_undo : GoodIn wsL_law wsX9_undo := goodIn_r _ [639, 118, 19, 508, 36, 37, 640, 18, 641, 642, 59, 60, 174, 162, 175, 643, 644, 645, 53, 646, 647, 648, 54, 722, 723, 724, 725, 726, 727, 728, 729, 730, 731, 765, 766, 767, 768] (by decide +kernel) (by decide +kernel)
set_option maxRecDepth 20000 in
theorem gL_law_X9_undo : GoodIn wsL_law (wsV RL 96 RX9 yX9_undo wsX9_undo) := goodIn_app (goodIn_of _ (by decide +kernel)) ggL_law_X9_undo
set_option maxRecDepth 20000 in
theorem ggL_law_X10_undo : GoodIn wsL_law wsX10_undo := goodIn_r _ [652, 624, 128, 201, 517, 100, 99, 101, 182, 131, 132, 5, 133, 732, 733, 734, 735, 736, 737, 738, 739, 740, 741, 742, 743, 744, 745, 746, 747, 748, 749, 750, 751, 752, 753, 754, 755, 756, 757, 758] (by decide +kernel) (by decide +kernel)
set_option maxRecDepth 20000 in
theorem gL_law_X10_undo : GoodIn wsL_law (wsV RL 99 RX10 yX10_undo wsX10_undo) := goodIn_app (goodIn_of _ (by decide +kernel)) ggL_law_X10_undo
set_option maxRecDepth 20000 in
theorem ggL_law_X9_hear : GoodIn wsL_law wsX9_hear := goodIn_r _ [656, 406, 23, 424, 425, 426, 2, 427, 36, 657, 22, 658, 659, 71, 660, 64, 66, 722, 723, 724, 725, 726, 727, 728, 729, 730, 731, 769, 770, 771] (by decide +kernel) (by decide +kernel)
set_option maxRecDepth 20000 in
theorem gL_law_X9_hear : GoodIn wsL_law (wsV RL 100 RX9 yX9_hear wsX9_hear) := goodIn_app (goodIn_of _ (by decide +kernel)) ggL_law_X9_hear
set_option maxRecDepth 20000 in
theorem ggL_law_X10_hear : GoodIn wsL_law wsX10_hear := goodIn_r _ [664, 414, 183, 130, 106, 107, 441, 442, 443, 5, 444, 99, 131, 132, 133, 732, 733, 734, 735, 736, 737, 738, 739, 740, 741, 742, 743, 744, 745, 746, 747, 748, 749, 750, 751, 752, 753, 754, 755, 756, 757, 758] (by decide +kernel) (by decide +kernel)
set_option maxRecDepth 20000 in
theorem gL_law_X10_hear : GoodIn wsL_law (wsV RL 104 RX10 yX10_hear wsX10_hear) := goodIn_app (goodIn_of _ (by decide +kernel)) ggL_law_X10_hear
set_option maxRecDepth 20000 in
theorem ggL_law_X9_moves : GoodIn wsL_law wsX9_moves := goodIn_r _ [668, 23, 36, 37, 669, 22, 670, 671, 71, 64, 66, 161, 162, 163, 428, 429, 430, 431, 432, 433, 434, 435, 289, 229, 230, 243, 174, 175, 250, 241, 242, 236, 722, 723, 724, 725, 726, 727, 728, 729, 730, 731, 769, 770, 771] (by decide +kernel) (by decide +kernel)
set_option maxRecDepth 20000 in
theorem gL_law_X9_moves : GoodIn wsL_law (wsV RL 105 RX9 yX9_moves wsX9_moves) := goodIn_app (goodIn_of _ (by decide +kernel)) ggL_law_X9_moves
set_option maxRecDepth 20000 in
theorem ggL_law_X10_moves : GoodIn wsL_law wsX10_moves := goodIn_r _ [675, 99, 676, 677, 678, 5, 679, 182, 183, 106, 107, 336, 337, 338, 188, 189, 190, 441, 442, 443, 444, 131, 132, 133, 333, 334, 335, 732, 733, 734, 735, 736, 737, 738, 739, 740, 741, 742, 743, 744, 745, 746, 747, 748, 749, 750, 751, 752, 753, 754, 755, 756, 757, 758] (by decide +kernel) (by decide +kernel)
set_option maxRecDepth 20000 in
theorem gL_law_X10_moves : GoodIn wsL_law (wsV RL 108 RX10 yX10_moves wsX10_moves) := goodIn_app (goodIn_of _ (by decide +kernel)) ggL_law_X10_moves
set_option maxRecDepth 20000 in
theorem ggL_law_X9_listen : GoodIn wsL_law wsX9_listen := goodIn_r _ [683, 23, 36, 37, 684, 145, 146, 147, 669, 22, 670, 671, 71, 64, 66, 161, 162, 163, 428, 429, 430, 431, 432, 433, 434, 435, 289, 229, 230, 243, 174, 175, 250, 241, 242, 236, 214, 215, 216, 217, 218, 219, 220, 722, 723, 724, 725, 726, 727, 728, 729, 730, 731, 769, 770, 771] (by decide +kernel) (by decide +kernel)
set_option maxRecDepth 20000 in
theorem gL_law_X9_listen : GoodIn wsL_law (wsV RL 109 RX9 yX9_listen wsX9_listen) := goodIn_app (goodIn_of _ (by decide +kernel)) ggL_law_X9_listen
set_option maxRecDepth 20000 in
theorem ggL_law_X10_listen : GoodIn wsL_law wsX10_listen := goodIn_r _ [688, 99, 182, 689, 673, 674, 5, 675, 676, 677, 678, 679, 183, 106, 107, 336, 337, 338, 188, 189, 190, 441, 442, 443, 444, 131, 132, 133, 333, 334, 335, 312, 313, 314, 732, 733, 734, 735, 736, 737, 738, 739, 740, 741, 742, 743, 744, 745, 746, 747, 748, 749, 750, 751, 752, 753, 754, 755, 756, 757, 758] (by decide +kernel) (by decide +kernel)
set_option maxRecDepth 20000 in
theorem gL_law_X10_listen : GoodIn wsL_law (wsV RL 112 RX10 yX10_listen wsX10_listen) := goodIn_app (goodIn_of _ (by decide +kernel)) ggL_law_X10_listen
set_option maxRecDepth 20000 in
theorem ggL_law_X9_forget : GoodIn wsL_law wsX9_forget := goodIn_r _ [693, 23, 68, 22, 69, 70, 71, 722, 723, 724, 725, 726, 727, 728, 729, 730, 731, 769, 770, 771] (by decide +kernel) (by decide +kernel)
set_option maxRecDepth 20000 in
theorem gL_law_X9_forget : GoodIn wsL_law (wsV RL 113 RX9 yX9_forget wsX9_forget) := goodIn_app (goodIn_of _ (by decide +kernel)) ggL_law_X9_forget
set_option maxRecDepth 20000 in
theorem ggL_law_X10_forget : GoodIn wsL_law wsX10_forget := goodIn_r _ [697, 183, 732, 733, 734, 735, 736, 737, 738, 739, 740, 741, 742, 743, 744, 745, 746, 747, 748, 749, 750, 751, 752, 753, 754, 755, 756, 757, 758] (by decide +kernel) (by decide +kernel)
set_option maxRecDepth 20000 in
theorem gL_law_X10_forget : GoodIn wsL_law (wsV RL 116 RX10 yX10_forget wsX10_forget) := goodIn_app (goodIn_of _ (by decide +kernel)) ggL_law_X10_forget
set_option maxRecDepth 20000 in
theorem ggL_law_X9_seed : GoodIn wsL_law wsX9_seed := goodIn_r _ [701, 118, 38, 722, 723, 724, 725, 726, 727, 728, 729, 730, 731] (by decide +kernel) (by decide +kernel)
set_option maxRecDepth 20000 in
theorem gL_law_X9_seed : GoodIn wsL_law (wsV RL 117 RX9 yX9_seed wsX9_seed) := goodIn_app (goodIn_of _ (by decide +kernel)) ggL_law_X9_seed
set_option maxRecDepth 20000 in
theorem ggL_law_X10_seed : GoodIn wsL_law wsX10_seed := goodIn_r _ [705, 128, 629, 732, 733, 734, 735, 736, 737, 738, 739, 740, 741, 742, 743, 744, 745, 746, 747, 748, 749, 750, 751, 752, 753, 754, 755, 756, 757, 758] (by decide +kernel) (by decide +kernel)
