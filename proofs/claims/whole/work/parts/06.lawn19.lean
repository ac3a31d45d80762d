set_option maxRecDepth 20000 in
theorem ggL_law_X9_slower : GoodIn wsL_law wsX9_slower := goodIn_r _ [748, 29, 28, 50, 654, 295, 677, 678, 679, 27, 680, 78, 79, 749, 750, 751, 2, 752, 24, 727, 42, 292, 753, 754, 755, 756, 411, 412, 49, 413, 414, 415, 416, 417, 112, 613, 614, 615, 41, 616, 617, 101, 102, 103, 104, 618, 619, 620, 621, 622, 623, 624, 625, 626, 627, 628, 629, 630, 631, 632, 655, 656, 657, 658, 659, 634, 635, 636, 888, 889, 890, 891, 892, 893, 894, 895, 896, 897, 898, 899, 900, 960, 961, 962, 963, 964, 965, 966, 967, 968, 969, 970, 943, 944, 945, 939, 940, 941, 942, 955, 956, 957, 958] (by decide +kernel) (by decide +kernel)
set_option maxRecDepth 20000 in
theorem gL_law_X9_slower : GoodIn wsL_law (wsV RL 101 RX9 yX9_slower wsX9_slower) := goodIn_app (goodIn_of _ (by decide +kernel)) ggL_law_X9_slower
set_option maxRecDepth 20000 in
theorem ggL_law_X10_slower : GoodIn wsL_law wsX10_slower := goodIn_r _ [760, 267, 127, 736, 143, 144, 145, 160, 161, 5, 162, 711, 712, 713, 714, 664, 665, 666, 667, 138, 642, 643, 644, 645, 266, 141, 129, 128, 453, 454, 455, 456, 137, 139, 457, 458, 459, 460, 461, 462, 463, 464, 465, 646, 647, 648, 649, 901, 902, 903, 904, 905, 906, 907, 908, 909, 910, 911, 912, 913, 914, 915, 916, 917, 918, 919, 920, 921, 922, 923, 924, 925, 926, 927, 928, 929, 930, 931] (by decide +kernel) (by decide +kernel)
set_option maxRecDepth 20000 in
theorem gL_law_X10_slower : GoodIn wsL_law (wsV RL 104 RX10 yX10_slower wsX10_slower) := goodIn_app (goodIn_of _ (by decide +kernel)) ggL_law_X10_slower
set_option maxRecDepth 20000 in
theorem ggL_law_X9_share : GoodIn wsL_law wsX9_share := goodIn_r _ [764, 50, 654, 46, 28, 295, 296, 297, 298, 49, 299, 113, 765, 766, 767, 768, 769, 770, 771, 772, 773, 774, 45, 775, 776, 108, 777, 778, 779, 780, 781, 675, 782, 783, 784, 2, 785, 786, 787, 788, 789, 888, 889, 890, 891, 892, 893, 894, 895, 896, 897, 898, 899, 900, 960, 961, 962, 963, 964, 965, 966, 967, 968, 969, 970, 943, 944, 945, 959] (by decide +kernel) (by decide +kernel)
set_option maxRecDepth 20000 in
theorem gL_law_X9_share : GoodIn wsL_law (wsV RL 105 RX9 yX9_share wsX9_share) := goodIn_app (goodIn_of _ (by decide +kernel)) ggL_law_X9_share
set_option maxRecDepth 20000 in
theorem ggL_law_X10_share : GoodIn wsL_law wsX10_share := goodIn_r _ [793, 267, 304, 305, 306, 5, 307, 160, 161, 162, 277, 278, 279, 382, 383, 384, 794, 795, 796, 797, 798, 799, 800, 127, 711, 712, 713, 714, 397, 398, 399, 400, 269, 385, 386, 387, 388, 136, 801, 802, 803, 901, 902, 903, 904, 905, 906, 907, 908, 909, 910, 911, 912, 913, 914, 915, 916, 917, 918, 919, 920, 921, 922, 923, 924, 925, 926, 927, 928, 929, 930, 931] (by decide +kernel) (by decide +kernel)
set_option maxRecDepth 20000 in
theorem gL_law_X10_share : GoodIn wsL_law (wsV RL 109 RX10 yX10_share wsX10_share) := goodIn_app (goodIn_of _ (by decide +kernel)) ggL_law_X10_share
set_option maxRecDepth 20000 in
theorem ggL_law_X9_slows : GoodIn wsL_law wsX9_slows := goodIn_r _ [807, 50, 654, 29, 28, 42, 292, 295, 406, 407, 408, 49, 409, 410, 411, 412, 413, 414, 415, 416, 417, 112, 677, 678, 679, 27, 680, 78, 79, 808, 809, 810, 2, 811, 812, 813, 814, 815, 613, 614, 615, 41, 616, 617, 101, 102, 103, 104, 618, 619, 620, 621, 622, 623, 624, 625, 626, 627, 628, 629, 630, 631, 632, 655, 656, 657, 658, 659, 634, 635, 636, 787, 788, 789, 888, 889, 890, 891, 892, 893, 894, 895, 896, 897, 898, 899, 900, 960, 961, 962, 963, 964, 965, 966, 967, 968, 969, 970, 943, 944, 945, 955, 956, 957, 958] (by decide +kernel) (by decide +kernel)
set_option maxRecDepth 20000 in
theorem gL_law_X9_slows : GoodIn wsL_law (wsV RL 110 RX9 yX9_slows wsX9_slows) := goodIn_app (goodIn_of _ (by decide +kernel)) ggL_law_X9_slows
set_option maxRecDepth 20000 in
theorem ggL_law_X10_slows : GoodIn wsL_law wsX10_slows := goodIn_r _ [819, 641, 820, 267, 127, 449, 450, 451, 5, 452, 158, 266, 160, 161, 162, 711, 712, 713, 714, 277, 278, 279, 664, 665, 666, 667, 138, 642, 643, 644, 645, 141, 129, 128, 453, 454, 455, 456, 137, 139, 457, 458, 459, 460, 461, 462, 463, 464, 465, 646, 647, 648, 649, 801, 802, 803, 901, 902, 903, 904, 905, 906, 907, 908, 909, 910, 911, 912, 913, 914, 915, 916, 917, 918, 919, 920, 921, 922, 923, 924, 925, 926, 927, 928, 929, 930, 931] (by decide +kernel) (by decide +kernel)
set_option maxRecDepth 20000 in
theorem gL_law_X10_slows : GoodIn wsL_law (wsV RL 114 RX10 yX10_slows wsX10_slows) := goodIn_app (goodIn_of _ (by decide +kernel)) ggL_law_X10_slows
