set_option maxRecDepth 20000 in
theorem ggL_law_X10_twice : GoodIn wsL_law wsX10_twice := goodIn_r _ [603, 103, 134, 191, 551, 552, 553, 5, 554, 206, 207, 208, 209, 210, 104, 105, 741, 742, 743, 744, 745, 746, 747, 748, 749, 750, 751, 752, 753, 754, 755, 756, 757, 758, 759, 760, 761, 762, 763, 764, 765, 766, 767] (by decide +kernel) (by decide +kernel)
set_option maxRecDepth 20000 in
theorem gL_law_X10_twice : GoodIn wsL_law (wsV RL 87 RX10 yX10_twice wsX10_twice) := goodIn_app (goodIn_of _ (by decide +kernel)) ggL_law_X10_twice
set_option maxRecDepth 20000 in
theorem ggL_law_X9_cycle : GoodIn wsL_law wsX9_cycle := goodIn_r _ [607, 122, 37, 166, 167, 168, 169, 170, 171, 2, 172, 19, 36, 173, 18, 174, 175, 53, 54, 59, 60, 176, 177, 77, 178, 179, 180, 181, 182, 183, 184, 223, 224, 225, 226, 227, 228, 229, 731, 732, 733, 734, 735, 736, 737, 738, 739, 740, 774, 775, 776, 777] (by decide +kernel) (by decide +kernel)
set_option maxRecDepth 20000 in
theorem gL_law_X9_cycle : GoodIn wsL_law (wsV RL 88 RX9 yX9_cycle wsX9_cycle) := goodIn_app (goodIn_of _ (by decide +kernel)) ggL_law_X9_cycle
set_option maxRecDepth 20000 in
theorem ggL_law_X10_cycle : GoodIn wsL_law wsX10_cycle := goodIn_r _ [611, 612, 132, 191, 103, 135, 136, 5, 137, 197, 198, 199, 551, 552, 553, 554, 206, 207, 208, 209, 210, 104, 105, 321, 322, 323, 741, 742, 743, 744, 745, 746, 747, 748, 749, 750, 751, 752, 753, 754, 755, 756, 757, 758, 759, 760, 761, 762, 763, 764, 765, 766, 767] (by decide +kernel) (by decide +kernel)
set_option maxRecDepth 20000 in
theorem gL_law_X10_cycle : GoodIn wsL_law (wsV RL 91 RX10 yX10_cycle wsX10_cycle) := goodIn_app (goodIn_of _ (by decide +kernel)) ggL_law_X10_cycle
set_option maxRecDepth 20000 in
theorem ggL_law_X9_drift : GoodIn wsL_law wsX9_drift := goodIn_r _ [616, 122, 37, 617, 618, 619, 2, 620, 36, 621, 622, 623, 624, 38, 625, 626, 627, 628, 183, 167, 184, 169, 170, 171, 172, 19, 173, 18, 174, 175, 53, 54, 59, 60, 176, 177, 77, 178, 179, 180, 181, 182, 250, 251, 252, 245, 166, 168, 243, 244, 440, 441, 442, 443, 444, 298, 238, 239, 731, 732, 733, 734, 735, 736, 737, 738, 739, 740, 774, 775, 776, 777] (by decide +kernel) (by decide +kernel)
set_option maxRecDepth 20000 in
theorem gL_law_X9_drift : GoodIn wsL_law (wsV RL 92 RX9 yX9_drift wsX9_drift) := goodIn_app (goodIn_of _ (by decide +kernel)) ggL_law_X9_drift
set_option maxRecDepth 20000 in
theorem ggL_law_X10_drift : GoodIn wsL_law wsX10_drift := goodIn_r _ [632, 633, 132, 191, 103, 135, 136, 5, 137, 634, 635, 636, 637, 638, 639, 640, 641, 642, 551, 552, 553, 554, 206, 207, 208, 209, 210, 104, 105, 345, 346, 347, 197, 198, 199, 643, 576, 577, 578, 644, 584, 585, 586, 527, 528, 529, 342, 343, 344, 741, 742, 743, 744, 745, 746, 747, 748, 749, 750, 751, 752, 753, 754, 755, 756, 757, 758, 759, 760, 761, 762, 763, 764, 765, 766, 767] (by decide +kernel) (by decide +kernel)
set_option maxRecDepth 20000 in
theorem gL_law_X10_drift : GoodIn wsL_law (wsV RL 95 RX10 yX10_drift wsX10_drift) := goodIn_app (goodIn_of _ (by decide +kernel)) ggL_law_X10_drift
set_option maxRecDepth 20000 in
theorem ggL_law_X9_undo : GoodIn wsL_law wsX9_undo := goodIn_r _ [648, 122, 19, 517, 36, 37, 649, 18, 650, 651, 59, 60, 652, 653, 654, 53, 179, 180, 181, 182, 183, 167, 184, 655, 656, 657, 54, 731, 732, 733, 734, 735, 736, 737, 738, 739, 740, 774, 775, 776, 777] (by decide +kernel) (by decide +kernel)
set_option maxRecDepth 20000 in
theorem gL_law_X9_undo : GoodIn wsL_law (wsV RL 96 RX9 yX9_undo wsX9_undo) := goodIn_app (goodIn_of _ (by decide +kernel)) ggL_law_X9_undo
set_option maxRecDepth 20000 in
theorem ggL_law_X10_undo : GoodIn wsL_law wsX10_undo := goodIn_r _ [661, 633, 132, 210, 526, 104, 103, 105, 191, 135, 136, 5, 137, 741, 742, 743, 744, 745, 746, 747, 748, 749, 750, 751, 752, 753, 754, 755, 756, 757, 758, 759, 760, 761, 762, 763, 764, 765, 766, 767] (by decide +kernel) (by decide +kernel)
set_option maxRecDepth 20000 in
theorem gL_law_X10_undo : GoodIn wsL_law (wsV RL 99 RX10 yX10_undo wsX10_undo) := goodIn_app (goodIn_of _ (by decide +kernel)) ggL_law_X10_undo
set_option maxRecDepth 20000 in
theorem ggL_law_X9_hear : GoodIn wsL_law wsX9_hear := goodIn_r _ [665, 415, 23, 433, 434, 435, 2, 436, 36, 666, 22, 667, 668, 71, 669, 64, 66, 731, 732, 733, 734, 735, 736, 737, 738, 739, 740, 778, 779, 780] (by decide +kernel) (by decide +kernel)
set_option maxRecDepth 20000 in
theorem gL_law_X9_hear : GoodIn wsL_law (wsV RL 100 RX9 yX9_hear wsX9_hear) := goodIn_app (goodIn_of _ (by decide +kernel)) ggL_law_X9_hear
set_option maxRecDepth 20000 in
theorem ggL_law_X10_hear : GoodIn wsL_law wsX10_hear := goodIn_r _ [673, 423, 192, 134, 110, 111, 450, 451, 452, 5, 453, 103, 135, 136, 137, 741, 742, 743, 744, 745, 746, 747, 748, 749, 750, 751, 752, 753, 754, 755, 756, 757, 758, 759, 760, 761, 762, 763, 764, 765, 766, 767] (by decide +kernel) (by decide +kernel)
set_option maxRecDepth 20000 in
theorem gL_law_X10_hear : GoodIn wsL_law (wsV RL 104 RX10 yX10_hear wsX10_hear) := goodIn_app (goodIn_of _ (by decide +kernel)) ggL_law_X10_hear
set_option maxRecDepth 20000 in
theorem ggL_law_X9_moves : GoodIn wsL_law wsX9_moves := goodIn_r _ [677, 23, 36, 37, 678, 22, 679, 680, 71, 64, 66, 166, 167, 168, 437, 438, 439, 440, 441, 442, 443, 444, 298, 238, 239, 252, 183, 184, 259, 250, 251, 245, 731, 732, 733, 734, 735, 736, 737, 738, 739, 740, 778, 779, 780] (by decide +kernel) (by decide +kernel)
set_option maxRecDepth 20000 in
theorem gL_law_X9_moves : GoodIn wsL_law (wsV RL 105 RX9 yX9_moves wsX9_moves) := goodIn_app (goodIn_of _ (by decide +kernel)) ggL_law_X9_moves
set_option maxRecDepth 20000 in
theorem ggL_law_X10_moves : GoodIn wsL_law wsX10_moves := goodIn_r _ [684, 103, 685, 686, 687, 5, 688, 191, 192, 110, 111, 345, 346, 347, 197, 198, 199, 450, 451, 452, 453, 135, 136, 137, 342, 343, 344, 741, 742, 743, 744, 745, 746, 747, 748, 749, 750, 751, 752, 753, 754, 755, 756, 757, 758, 759, 760, 761, 762, 763, 764, 765, 766, 767] (by decide +kernel) (by decide +kernel)
set_option maxRecDepth 20000 in
theorem gL_law_X10_moves : GoodIn wsL_law (wsV RL 108 RX10 yX10_moves wsX10_moves) := goodIn_app (goodIn_of _ (by decide +kernel)) ggL_law_X10_moves
set_option maxRecDepth 20000 in
theorem ggL_law_X9_listen : GoodIn wsL_law wsX9_listen := goodIn_r _ [692, 23, 36, 37, 693, 76, 77, 78, 678, 22, 679, 680, 71, 64, 66, 166, 167, 168, 437, 438, 439, 440, 441, 442, 443, 444, 298, 238, 239, 252, 183, 184, 259, 250, 251, 245, 223, 224, 225, 226, 227, 228, 229, 731, 732, 733, 734, 735, 736, 737, 738, 739, 740, 778, 779, 780] (by decide +kernel) (by decide +kernel)
set_option maxRecDepth 20000 in
theorem gL_law_X9_listen : GoodIn wsL_law (wsV RL 109 RX9 yX9_listen wsX9_listen) := goodIn_app (goodIn_of _ (by decide +kernel)) ggL_law_X9_listen
set_option maxRecDepth 20000 in
theorem ggL_law_X10_listen : GoodIn wsL_law wsX10_listen := goodIn_r _ [697, 103, 191, 698, 682, 683, 5, 684, 685, 686, 687, 688, 192, 110, 111, 345, 346, 347, 197, 198, 199, 450, 451, 452, 453, 135, 136, 137, 342, 343, 344, 321, 322, 323, 741, 742, 743, 744, 745, 746, 747, 748, 749, 750, 751, 752, 753, 754, 755, 756, 757, 758, 759, 760, 761, 762, 763, 764, 765, 766, 767] (by decide +kernel) (by decide +kernel)
set_option maxRecDepth 20000 in
theorem gL_law_X10_listen : GoodIn wsL_law (wsV RL 112 RX10 yX10_listen wsX10_listen) := goodIn_app (goodIn_of _ (by decide +kernel)) ggL_law_X10_listen
set_option maxRecDepth 20000 in
theorem ggL_law_X9_forget : GoodIn wsL_law wsX9_forget := goodIn_r _ [702, 23, 68, 22, 69, 70, 71, 731, 732, 733, 734, 735, 736, 737, 738, 739, 740, 778, 779, 780] (by decide +kernel) (by decide +kernel)
set_option maxRecDepth 20000 in
theorem gL_law_X9_forget : GoodIn wsL_law (wsV RL 113 RX9 yX9_forget wsX9_forget) := goodIn_app (goodIn_of _ (by decide +kernel)) ggL_law_X9_forget
set_option maxRecDepth 20000 in
theorem ggL_law_X10_forget : GoodIn wsL_law wsX10_forget := goodIn_r _ [706, 192, 741, 742, 743, 744, 745, 746, 747, 748, 749, 750, 751, 752, 753, 754, 755, 756, 757, 758, 759, 760, 761, 762, 763, 764, 765, 766, 767] (by decide +kernel) (by decide +kernel)
set_option maxRecDepth 20000 in
theorem gL_law_X10_forget : GoodIn wsL_law (wsV RL 116 RX10 yX10_forget wsX10_forget) := goodIn_app (goodIn_of _ (by decide +kernel)) ggL_law_X10_forget
set_option maxRecDepth 20000 in
theorem ggL_law_X9_seed : GoodIn wsL_law wsX9_seed := goodIn_r _ [710, 122, 38, 731, 732, 733, 734, 735, 736, 737, 738, 739, 740] (by decide +kernel) (by decide +kernel)
set_option maxRecDepth 20000 in
theorem gL_law_X9_seed : GoodIn wsL_law (wsV RL 117 RX9 yX9_seed wsX9_seed) := goodIn_app (goodIn_of _ (by decide +kernel)) ggL_law_X9_seed
set_option maxRecDepth 20000 in
theorem ggL_law_X10_seed : GoodIn wsL_law wsX10_seed := goodIn_r _ [714, 132, 638, 741, 742, 743, 744, 745, 746, 747, 748, 749, 750, 751, 752, 753, 754, 755, 756, 757, 758, 759, 760, 761, 762, 763, 764, 765, 766, 767] (by decide +kernel) (by decide +kernel)
set_option maxRecDepth 20000 in
theorem gL_law_X10_seed : GoodIn wsL_law (wsV RL 120 RX10 yX10_seed wsX10_seed) := goodIn_app (goodIn_of _ (by decide +kernel)) ggL_law_X10_seed
set_option maxRecDepth 20000 in
theorem ggL_law_X9_keep : GoodIn wsL_law wsX9_keep := goodIn_r _ [718, 415, 35, 36, 37, 38, 19, 518, 519, 520, 2, 521, 56, 18, 57, 58, 59, 60, 731, 732, 733, 734, 735, 736, 737, 738, 739, 740, 791, 792, 793, 774, 775, 776, 777] (by decide +kernel) (by decide +kernel)
set_option maxRecDepth 20000 in
theorem gL_law_X9_keep : GoodIn wsL_law (wsV RL 121 RX9 yX9_keep wsX9_keep) := goodIn_app (goodIn_of _ (by decide +kernel)) ggL_law_X9_keep
set_option maxRecDepth 20000 in
theorem ggL_law_X10_keep : GoodIn wsL_law wsX10_keep := goodIn_r _ [722, 423, 106, 103, 107, 191, 108, 638, 109, 210, 135, 136, 5, 137, 741, 742, 743, 744, 745, 746, 747, 748, 749, 750, 751, 752, 753, 754, 755, 756, 757, 758, 759, 760, 761, 762, 763, 764, 765, 766, 767] (by decide +kernel) (by decide +kernel)
set_option maxRecDepth 20000 in
theorem gL_law_X10_keep : GoodIn wsL_law (wsV RL 124 RX10 yX10_keep wsX10_keep) := goodIn_app (goodIn_of _ (by decide +kernel)) ggL_law_X10_keep
set_option maxRecDepth 20000 in
theorem ggL_law_X9_goBack : GoodIn wsL_law wsX9_goBack := goodIn_r _ [726, 415, 35, 517, 36, 37, 38, 19, 518, 519, 520, 2, 521, 56, 18, 57, 58, 59, 60, 731, 732, 733, 734, 735, 736, 737, 738, 739, 740, 791, 792, 793, 774, 775, 776, 777] (by decide +kernel) (by decide +kernel)
set_option maxRecDepth 20000 in
theorem gL_law_X9_goBack : GoodIn wsL_law (wsV RL 125 RX9 yX9_goBack wsX9_goBack) := goodIn_app (goodIn_of _ (by decide +kernel)) ggL_law_X9_goBack
