set_option maxRecDepth 20000 in
theorem ggL_law_X6_init : GoodIn wsL_law wsX6_init := goodIn_r _ [9, 10, 11, 12, 13, 14, 15, 16, 17, 18, 19, 20, 21, 22, 23, 24, 25, 26, 27, 28, 29, 30, 31, 32, 33, 34, 35, 36, 37, 38, 39, 40, 41, 42, 43, 44, 45, 46, 47, 48, 49, 50, 51, 52, 53, 54, 55, 56, 57, 58, 59, 60, 61, 62, 63, 64, 65, 66, 67, 68, 69, 70, 71, 72, 73, 74, 75, 76, 77, 78, 79, 80, 81, 82, 83, 84, 85, 86, 87, 88, 89, 90, 91, 92, 93, 94, 95, 96, 97, 98, 99, 911, 912, 913, 914, 915, 916, 856, 857, 858, 859, 860, 861, 862, 863, 864, 865, 866, 867, 917, 918, 919, 920, 921, 922, 923, 924, 925, 926, 927, 928, 929, 930, 931, 932, 933, 934, 935, 936, 937, 938, 939, 940, 941, 942] rfl (by decide +kernel)
set_option maxRecDepth 20000 in
theorem gL_law_X6_init : GoodIn wsL_law (wsX6_init) := ggL_law_X6_init
set_option maxRecDepth 20000 in
theorem ggL_law_X7_init : GoodIn wsL_law wsX7_init := goodIn_r _ [102, 103, 11, 12, 46, 104, 64, 105, 106, 107, 88, 108, 109, 110, 111, 112, 113, 114, 115, 116, 117, 118, 119, 120, 121, 122, 123, 56, 124, 125, 126, 127, 128, 129, 130, 131, 132, 133, 134, 5, 135, 868, 869, 870, 871, 872, 873, 874, 875, 876, 877, 878, 879, 880, 881, 882, 883, 884, 885, 886, 887, 888, 889, 890, 891, 892, 893, 894, 895, 896, 897, 898, 899, 900, 901, 902, 903, 904, 905, 906, 907, 908, 909, 910] rfl (by decide +kernel)
set_option maxRecDepth 20000 in
theorem gL_law_X7_init : GoodIn wsL_law (wsX7_init) := ggL_law_X7_init
set_option maxRecDepth 20000 in
theorem ggL_law_X6_type : GoodIn wsL_law wsX6_type := goodIn_r _ [139, 16, 140, 141, 142, 15, 143, 48, 47, 856, 857, 858, 859, 860, 861, 862, 863, 864, 865, 866, 867, 911, 912, 913, 914, 915, 916] rfl (by decide +kernel)
set_option maxRecDepth 20000 in
theorem gL_law_X6_type : GoodIn wsL_law (wsV RL 15 RX6 yX6_type wsX6_type) := goodIn_app (goodIn_of _ (by decide +kernel)) ggL_law_X6_type
set_option maxRecDepth 20000 in
theorem ggL_law_X7_type : GoodIn wsL_law wsX7_type := goodIn_r _ [147, 148, 149, 104, 150, 151, 152, 5, 153, 868, 869, 870, 871, 872, 873, 874, 875, 876, 877, 878, 879, 880, 881, 882, 883, 884, 885, 886, 887, 888, 889, 890, 891, 892, 893, 894, 895, 896, 897, 898, 899, 900, 901, 902, 903, 904, 905, 906, 907, 908, 909, 910] rfl (by decide +kernel)
set_option maxRecDepth 20000 in
theorem gL_law_X7_type : GoodIn wsL_law (wsV RL 19 RX7 yX7_type wsX7_type) := goodIn_app (goodIn_of _ (by decide +kernel)) ggL_law_X7_type
set_option maxRecDepth 20000 in
theorem ggL_law_X6_clear : GoodIn wsL_law wsX6_clear := goodIn_r _ [157, 16, 158, 856, 857, 858, 859, 860, 861, 862, 863, 864, 865, 866, 867, 911, 912, 913, 914, 915, 916] rfl (by decide +kernel)
set_option maxRecDepth 20000 in
theorem gL_law_X6_clear : GoodIn wsL_law (wsV RL 20 RX6 yX6_clear wsX6_clear) := goodIn_app (goodIn_of _ (by decide +kernel)) ggL_law_X6_clear
set_option maxRecDepth 20000 in
theorem ggL_law_X7_clear : GoodIn wsL_law wsX7_clear := goodIn_r _ [162, 149, 868, 869, 870, 871, 872, 873, 874, 875, 876, 877, 878, 879, 880, 881, 882, 883, 884, 885, 886, 887, 888, 889, 890, 891, 892, 893, 894, 895, 896, 897, 898, 899, 900, 901, 902, 903, 904, 905, 906, 907, 908, 909, 910] rfl (by decide +kernel)
set_option maxRecDepth 20000 in
theorem gL_law_X7_clear : GoodIn wsL_law (wsV RL 24 RX7 yX7_clear wsX7_clear) := goodIn_app (goodIn_of _ (by decide +kernel)) ggL_law_X7_clear
set_option maxRecDepth 20000 in
theorem ggL_law_X6_table : GoodIn wsL_law wsX6_table := goodIn_r _ [166, 16, 39, 38, 158, 20, 167, 168, 169, 15, 170, 49, 51, 50, 48, 171, 172, 173, 37, 174, 99, 89, 91, 175, 176, 177, 178, 47, 52, 179, 180, 181, 182, 183, 184, 185, 186, 187, 188, 189, 190, 191, 192, 193, 194, 195, 196, 197, 198, 199, 200, 201, 202, 203, 204, 205, 206, 207, 208, 209, 210, 211, 212, 213, 214, 215, 216, 217, 218, 219, 220, 221, 222, 223, 224, 225, 226, 227, 228, 229, 230, 231, 232, 233, 234, 235, 236, 237, 238, 239, 240, 241, 242, 243, 244, 245, 246, 247, 248, 249, 250, 251, 252, 253, 254, 255, 256, 257, 258, 259, 260, 261, 262, 263, 264, 265, 266, 90, 92, 267, 268, 269, 270, 271, 272, 273, 274, 275, 93, 94, 95, 96, 98, 276, 277, 278, 279, 280, 281, 282, 283, 284, 285, 286, 287, 19, 288, 57, 58, 289, 290, 291, 292, 293, 294, 2, 295, 40, 41, 856, 857, 858, 859, 860, 861, 862, 863, 864, 865, 866, 867, 911, 912, 913, 914, 915, 916, 933, 934, 935, 936, 937, 938, 939, 940, 941, 942, 917, 918] rfl (by decide +kernel)
set_option maxRecDepth 20000 in
theorem gL_law_X6_table : GoodIn wsL_law (wsV RL 25 RX6 yX6_table wsX6_table) := goodIn_app (goodIn_of _ (by decide +kernel)) ggL_law_X6_table
set_option maxRecDepth 20000 in
theorem ggL_law_X7_table : GoodIn wsL_law wsX7_table := goodIn_r _ [299, 300, 301, 302, 118, 303, 304, 305, 306, 307, 105, 106, 107, 119, 113, 123, 109, 120, 110, 121, 111, 122, 149, 308, 309, 310, 5, 311, 312, 313, 314, 315, 316, 317, 318, 319, 320, 321, 104, 151, 152, 153, 322, 323, 324, 325, 326, 327, 328, 329, 330, 331, 332, 333, 334, 335, 336, 337, 338, 339, 340, 341, 342, 343, 344, 345, 346, 347, 348, 349, 350, 351, 132, 133, 134, 135, 116, 117, 108, 114, 115, 112, 868, 869, 870, 871, 872, 873, 874, 875, 876, 877, 878, 879, 880, 881, 882, 883, 884, 885, 886, 887, 888, 889, 890, 891, 892, 893, 894, 895, 896, 897, 898, 899, 900, 901, 902, 903, 904, 905, 906, 907, 908, 909, 910] rfl (by decide +kernel)
set_option maxRecDepth 20000 in
theorem gL_law_X7_table : GoodIn wsL_law (wsV RL 28 RX7 yX7_table wsX7_table) := goodIn_app (goodIn_of _ (by decide +kernel)) ggL_law_X7_table
set_option maxRecDepth 20000 in
theorem ggL_law_X6_gate : GoodIn wsL_law wsX6_gate := goodIn_r _ [355, 38, 356, 357, 358, 359, 360, 361, 37, 362, 89, 363, 364, 2, 365, 856, 857, 858, 859, 860, 861, 862, 863, 864, 865, 866, 867, 933, 934, 935, 936, 937, 938, 939, 940, 941, 942] rfl (by decide +kernel)
set_option maxRecDepth 20000 in
theorem gL_law_X6_gate : GoodIn wsL_law (wsV RL 29 RX6 yX6_gate wsX6_gate) := goodIn_app (goodIn_of _ (by decide +kernel)) ggL_law_X6_gate
set_option maxRecDepth 20000 in
theorem ggL_law_X7_gate : GoodIn wsL_law wsX7_gate := goodIn_r _ [369, 370, 105, 106, 107, 108, 371, 372, 373, 5, 374, 306, 151, 152, 153, 868, 869, 870, 871, 872, 873, 874, 875, 876, 877, 878, 879, 880, 881, 882, 883, 884, 885, 886, 887, 888, 889, 890, 891, 892, 893, 894, 895, 896, 897, 898, 899, 900, 901, 902, 903, 904, 905, 906, 907, 908, 909, 910] rfl (by decide +kernel)
set_option maxRecDepth 20000 in
theorem gL_law_X7_gate : GoodIn wsL_law (wsV RL 33 RX7 yX7_gate wsX7_gate) := goodIn_app (goodIn_of _ (by decide +kernel)) ggL_law_X7_gate
set_option maxRecDepth 20000 in
theorem ggL_law_X6_wish : GoodIn wsL_law wsX6_wish := goodIn_r _ [378, 38, 379, 380, 381, 382, 383, 384, 385, 2, 386, 387, 363, 364, 365, 856, 857, 858, 859, 860, 861, 862, 863, 864, 865, 866, 867, 933, 934, 935, 936, 937, 938, 939, 940, 941, 942] rfl (by decide +kernel)
set_option maxRecDepth 20000 in
theorem gL_law_X6_wish : GoodIn wsL_law (wsV RL 34 RX6 yX6_wish wsX6_wish) := goodIn_app (goodIn_of _ (by decide +kernel)) ggL_law_X6_wish
set_option maxRecDepth 20000 in
theorem ggL_law_X7_wish : GoodIn wsL_law wsX7_wish := goodIn_r _ [391, 370, 109, 110, 111, 112, 392, 393, 394, 5, 395, 307, 151, 152, 153, 868, 869, 870, 871, 872, 873, 874, 875, 876, 877, 878, 879, 880, 881, 882, 883, 884, 885, 886, 887, 888, 889, 890, 891, 892, 893, 894, 895, 896, 897, 898, 899, 900, 901, 902, 903, 904, 905, 906, 907, 908, 909, 910] rfl (by decide +kernel)
set_option maxRecDepth 20000 in
theorem gL_law_X7_wish : GoodIn wsL_law (wsV RL 37 RX7 yX7_wish wsX7_wish) := goodIn_app (goodIn_of _ (by decide +kernel)) ggL_law_X7_wish
set_option maxRecDepth 20000 in
theorem ggL_law_X6_uses : GoodIn wsL_law wsX6_uses := goodIn_r _ [399, 38, 400, 359, 360, 361, 37, 362, 89, 383, 384, 385, 2, 386, 387, 856, 857, 858, 859, 860, 861, 862, 863, 864, 865, 866, 867, 933, 934, 935, 936, 937, 938, 939, 940, 941, 942] rfl (by decide +kernel)
set_option maxRecDepth 20000 in
theorem gL_law_X6_uses : GoodIn wsL_law (wsV RL 38 RX6 yX6_uses wsX6_uses) := goodIn_app (goodIn_of _ (by decide +kernel)) ggL_law_X6_uses
set_option maxRecDepth 20000 in
theorem ggL_law_X7_uses : GoodIn wsL_law wsX7_uses := goodIn_r _ [404, 113, 392, 393, 394, 5, 395, 307, 151, 152, 153, 371, 372, 373, 374, 306, 868, 869, 870, 871, 872, 873, 874, 875, 876, 877, 878, 879, 880, 881, 882, 883, 884, 885, 886, 887, 888, 889, 890, 891, 892, 893, 894, 895, 896, 897, 898, 899, 900, 901, 902, 903, 904, 905, 906, 907, 908, 909, 910] rfl (by decide +kernel)
set_option maxRecDepth 20000 in
theorem gL_law_X7_uses : GoodIn wsL_law (wsV RL 41 RX7 yX7_uses wsX7_uses) := goodIn_app (goodIn_of _ (by decide +kernel)) ggL_law_X7_uses
set_option maxRecDepth 20000 in
theorem ggL_law_X6_jam : GoodIn wsL_law wsX6_jam := goodIn_r _ [408, 38, 357, 359, 360, 361, 37, 362, 89, 292, 293, 294, 2, 295, 40, 41, 856, 857, 858, 859, 860, 861, 862, 863, 864, 865, 866, 867, 933, 934, 935, 936, 937, 938, 939, 940, 941, 942] rfl (by decide +kernel)
set_option maxRecDepth 20000 in
theorem gL_law_X6_jam : GoodIn wsL_law (wsV RL 42 RX6 yX6_jam wsX6_jam) := goodIn_app (goodIn_of _ (by decide +kernel)) ggL_law_X6_jam
set_option maxRecDepth 20000 in
theorem ggL_law_X7_jam : GoodIn wsL_law wsX7_jam := goodIn_r _ [412, 413, 107, 371, 372, 373, 5, 374, 306, 151, 152, 153, 868, 869, 870, 871, 872, 873, 874, 875, 876, 877, 878, 879, 880, 881, 882, 883, 884, 885, 886, 887, 888, 889, 890, 891, 892, 893, 894, 895, 896, 897, 898, 899, 900, 901, 902, 903, 904, 905, 906, 907, 908, 909, 910] rfl (by decide +kernel)
set_option maxRecDepth 20000 in
theorem gL_law_X7_jam : GoodIn wsL_law (wsV RL 45 RX7 yX7_jam wsX7_jam) := goodIn_app (goodIn_of _ (by decide +kernel)) ggL_law_X7_jam
set_option maxRecDepth 20000 in
theorem ggL_law_X6_off : GoodIn wsL_law wsX6_off := goodIn_r _ [417, 38, 358, 382, 359, 360, 361, 37, 362, 89, 383, 384, 385, 2, 386, 387, 363, 364, 365, 292, 293, 294, 295, 40, 41, 856, 857, 858, 859, 860, 861, 862, 863, 864, 865, 866, 867, 933, 934, 935, 936, 937, 938, 939, 940, 941, 942] rfl (by decide +kernel)
set_option maxRecDepth 20000 in
theorem gL_law_X6_off : GoodIn wsL_law (wsV RL 46 RX6 yX6_off wsX6_off) := goodIn_app (goodIn_of _ (by decide +kernel)) ggL_law_X6_off
set_option maxRecDepth 20000 in
theorem ggL_law_X7_off : GoodIn wsL_law wsX7_off := goodIn_r _ [421, 108, 112, 151, 152, 5, 153, 371, 372, 373, 374, 306, 392, 393, 394, 395, 307, 868, 869, 870, 871, 872, 873, 874, 875, 876, 877, 878, 879, 880, 881, 882, 883, 884, 885, 886, 887, 888, 889, 890, 891, 892, 893, 894, 895, 896, 897, 898, 899, 900, 901, 902, 903, 904, 905, 906, 907, 908, 909, 910] rfl (by decide +kernel)
set_option maxRecDepth 20000 in
theorem gL_law_X7_off : GoodIn wsL_law (wsV RL 50 RX7 yX7_off wsX7_off) := goodIn_app (goodIn_of _ (by decide +kernel)) ggL_law_X7_off
set_option maxRecDepth 20000 in
theorem ggL_law_X6_best : GoodIn wsL_law wsX6_best := goodIn_r _ [425, 426, 427, 428, 429, 383, 384, 385, 2, 386, 38, 387, 430, 431, 432, 433, 434, 435, 436, 41, 24, 29, 40, 28, 437, 438, 439, 37, 440, 89, 91, 441, 442, 443, 23, 444, 72, 65, 445, 446, 447, 448, 449, 450, 451, 68, 452, 453, 454, 455, 456, 457, 458, 459, 460, 461, 462, 463, 464, 465, 466, 467, 69, 71, 66, 70, 63, 468, 469, 290, 278, 291, 470, 471, 472, 473, 474, 475, 476, 477, 478, 479, 480, 481, 482, 483, 484, 485, 486, 487, 488, 489, 490, 491, 492, 493, 494, 495, 496, 497, 498, 499, 500, 501, 502, 503, 504, 505, 506, 507, 508, 509, 510, 511, 27, 512, 77, 78, 79, 76, 513, 514, 515, 516, 517, 518, 519, 520, 521, 522, 523, 524, 525, 526, 527, 528, 529, 530, 531, 532, 533, 534, 535, 536, 537, 538, 927, 928, 929, 930, 856, 857, 858, 859, 860, 861, 862, 863, 864, 865, 866, 867, 933, 934, 935, 936, 937, 938, 939, 940, 941, 942, 919, 920, 921, 922, 923, 924, 925, 926] rfl (by decide +kernel)
set_option maxRecDepth 20000 in
theorem gL_law_X6_best : GoodIn wsL_law (wsV RL 51 RX6 yX6_best wsX6_best) := goodIn_app (goodIn_of _ (by decide +kernel)) ggL_law_X6_best
set_option maxRecDepth 20000 in
theorem ggL_law_X7_best : GoodIn wsL_law wsX7_best := goodIn_r _ [542, 543, 125, 544, 392, 393, 394, 5, 395, 307, 151, 152, 153, 545, 546, 547, 548, 549, 550, 112, 110, 126, 111, 130, 551, 552, 553, 554, 555, 124, 306, 108, 556, 557, 558, 559, 113, 106, 107, 560, 561, 562, 563, 109, 564, 565, 566, 567, 568, 128, 127, 569, 570, 571, 572, 129, 573, 574, 575, 576, 577, 578, 579, 580, 581, 582, 868, 869, 870, 871, 872, 873, 874, 875, 876, 877, 878, 879, 880, 881, 882, 883, 884, 885, 886, 887, 888, 889, 890, 891, 892, 893, 894, 895, 896, 897, 898, 899, 900, 901, 902, 903, 904, 905, 906, 907, 908, 909, 910] rfl (by decide +kernel)
set_option maxRecDepth 20000 in
theorem gL_law_X7_best : GoodIn wsL_law (wsV RL 55 RX7 yX7_best wsX7_best) := goodIn_app (goodIn_of _ (by decide +kernel)) ggL_law_X7_best
set_option maxRecDepth 20000 in
theorem ggL_law_X6_worth : GoodIn wsL_law wsX6_worth := goodIn_r _ [586, 426, 427, 587, 429, 430, 431, 2, 432, 433, 434, 435, 436, 41, 24, 38, 29, 40, 28, 437, 438, 439, 37, 440, 89, 91, 441, 442, 443, 23, 444, 72, 65, 445, 446, 447, 448, 449, 450, 451, 68, 452, 453, 454, 455, 456, 457, 458, 459, 460, 461, 462, 463, 464, 465, 466, 467, 69, 71, 66, 70, 63, 468, 469, 290, 278, 291, 470, 471, 472, 473, 474, 475, 476, 477, 478, 479, 480, 481, 482, 483, 484, 485, 486, 487, 488, 489, 490, 491, 492, 493, 494, 495, 496, 497, 498, 499, 500, 501, 502, 503, 504, 505, 506, 507, 508, 509, 510, 511, 27, 512, 77, 78, 79, 76, 513, 514, 515, 516, 517, 518, 519, 520, 521, 522, 523, 524, 525, 526, 527, 528, 529, 530, 531, 532, 533, 534, 535, 536, 537, 538, 927, 928, 929, 930, 856, 857, 858, 859, 860, 861, 862, 863, 864, 865, 866, 867, 933, 934, 935, 936, 937, 938, 939, 940, 941, 942, 919, 920, 921, 922, 923, 924, 925, 926] rfl (by decide +kernel)
set_option maxRecDepth 20000 in
theorem gL_law_X6_worth : GoodIn wsL_law (wsV RL 56 RX6 yX6_worth wsX6_worth) := goodIn_app (goodIn_of _ (by decide +kernel)) ggL_law_X6_worth
set_option maxRecDepth 20000 in
theorem ggL_law_X7_worth : GoodIn wsL_law wsX7_worth := goodIn_r _ [591, 543, 564, 544, 151, 152, 5, 153, 545, 546, 547, 548, 549, 550, 307, 112, 110, 126, 111, 130, 551, 552, 553, 554, 555, 124, 306, 108, 556, 557, 558, 559, 113, 106, 107, 560, 561, 562, 563, 109, 125, 565, 566, 567, 568, 128, 127, 569, 570, 571, 572, 129, 573, 574, 575, 576, 577, 578, 579, 580, 581, 582, 868, 869, 870, 871, 872, 873, 874, 875, 876, 877, 878, 879, 880, 881, 882, 883, 884, 885, 886, 887, 888, 889, 890, 891, 892, 893, 894, 895, 896, 897, 898, 899, 900, 901, 902, 903, 904, 905, 906, 907, 908, 909, 910] rfl (by decide +kernel)
set_option maxRecDepth 20000 in
theorem gL_law_X7_worth : GoodIn wsL_law (wsV RL 60 RX7 yX7_worth wsX7_worth) := goodIn_app (goodIn_of _ (by decide +kernel)) ggL_law_X7_worth
set_option maxRecDepth 20000 in
theorem ggL_law_X6_gap : GoodIn wsL_law wsX6_gap := goodIn_r _ [595, 426, 427, 587, 429, 430, 431, 2, 432, 433, 434, 435, 436, 41, 24, 38, 29, 40, 28, 437, 438, 439, 37, 440, 89, 91, 441, 442, 443, 23, 444, 72, 65, 445, 446, 447, 448, 449, 450, 451, 68, 452, 453, 454, 455, 456, 457, 458, 459, 460, 461, 462, 463, 464, 465, 466, 467, 69, 71, 66, 70, 63, 468, 469, 290, 278, 291, 470, 471, 472, 473, 474, 475, 476, 477, 478, 479, 480, 481, 482, 483, 484, 485, 486, 487, 488, 489, 490, 491, 492, 493, 494, 495, 496, 497, 498, 499, 500, 501, 502, 503, 504, 505, 506, 507, 508, 509, 510, 511, 27, 512, 77, 78, 79, 76, 513, 514, 515, 516, 517, 518, 519, 520, 521, 522, 523, 524, 525, 526, 527, 528, 529, 596, 597, 598, 530, 531, 532, 533, 534, 535, 536, 537, 538, 927, 928, 929, 930, 856, 857, 858, 859, 860, 861, 862, 863, 864, 865, 866, 867, 933, 934, 935, 936, 937, 938, 939, 940, 941, 942, 919, 920, 921, 922, 923, 924, 925, 926] rfl (by decide +kernel)
set_option maxRecDepth 20000 in
theorem gL_law_X6_gap : GoodIn wsL_law (wsV RL 61 RX6 yX6_gap wsX6_gap) := goodIn_app (goodIn_of _ (by decide +kernel)) ggL_law_X6_gap
set_option maxRecDepth 20000 in
theorem ggL_law_X7_gap : GoodIn wsL_law wsX7_gap := goodIn_r _ [602, 543, 564, 544, 151, 152, 5, 153, 545, 546, 547, 548, 549, 550, 307, 112, 110, 126, 111, 130, 551, 552, 553, 554, 555, 124, 306, 108, 556, 557, 558, 559, 113, 106, 107, 560, 561, 562, 563, 109, 125, 565, 566, 567, 568, 128, 127, 569, 570, 571, 572, 129, 573, 574, 575, 576, 577, 578, 579, 580, 581, 582, 868, 869, 870, 871, 872, 873, 874, 875, 876, 877, 878, 879, 880, 881, 882, 883, 884, 885, 886, 887, 888, 889, 890, 891, 892, 893, 894, 895, 896, 897, 898, 899, 900, 901, 902, 903, 904, 905, 906, 907, 908, 909, 910] rfl (by decide +kernel)
set_option maxRecDepth 20000 in
theorem gL_law_X7_gap : GoodIn wsL_law (wsV RL 65 RX7 yX7_gap wsX7_gap) := goodIn_app (goodIn_of _ (by decide +kernel)) ggL_law_X7_gap
set_option maxRecDepth 20000 in
theorem ggL_law_X6_more : GoodIn wsL_law wsX6_more := goodIn_r _ [606, 38, 358, 426, 427, 357, 24, 30, 587, 429, 359, 360, 361, 37, 362, 89, 430, 431, 2, 432, 433, 434, 435, 436, 41, 29, 40, 28, 437, 438, 439, 440, 91, 441, 442, 443, 23, 444, 72, 65, 445, 446, 447, 448, 449, 450, 451, 68, 452, 453, 454, 455, 456, 457, 458, 459, 460, 461, 462, 463, 464, 465, 466, 467, 69, 71, 66, 70, 63, 468, 469, 290, 278, 291, 470, 471, 472, 473, 474, 475, 476, 477, 478, 479, 480, 481, 482, 483, 484, 485, 486, 487, 488, 489, 490, 491, 492, 493, 494, 495, 496, 497, 498, 499, 500, 501, 502, 503, 504, 505, 506, 507, 508, 509, 510, 511, 27, 512, 77, 78, 79, 76, 513, 514, 515, 516, 517, 518, 519, 520, 521, 522, 523, 524, 525, 526, 527, 528, 529, 596, 597, 598, 530, 531, 532, 533, 534, 535, 536, 537, 538, 856, 857, 858, 859, 860, 861, 862, 863, 864, 865, 866, 867, 933, 934, 935, 936, 937, 938, 939, 940, 941, 942, 927, 928, 929, 930, 919, 920, 921, 922, 923, 924, 925, 926] rfl (by decide +kernel)
set_option maxRecDepth 20000 in
theorem gL_law_X6_more : GoodIn wsL_law (wsV RL 66 RX6 yX6_more wsX6_more) := goodIn_app (goodIn_of _ (by decide +kernel)) ggL_law_X6_more
set_option maxRecDepth 20000 in
theorem ggL_law_X7_more : GoodIn wsL_law wsX7_more := goodIn_r _ [610, 108, 543, 564, 544, 107, 371, 372, 373, 5, 374, 306, 151, 152, 153, 545, 546, 547, 548, 549, 550, 307, 112, 110, 126, 111, 130, 551, 552, 553, 554, 555, 124, 556, 557, 558, 559, 113, 106, 560, 561, 562, 563, 109, 125, 565, 566, 567, 568, 128, 127, 569, 570, 571, 572, 129, 573, 574, 575, 576, 577, 578, 579, 580, 581, 582, 868, 869, 870, 871, 872, 873, 874, 875, 876, 877, 878, 879, 880, 881, 882, 883, 884, 885, 886, 887, 888, 889, 890, 891, 892, 893, 894, 895, 896, 897, 898, 899, 900, 901, 902, 903, 904, 905, 906, 907, 908, 909, 910] rfl (by decide +kernel)
set_option maxRecDepth 20000 in
theorem gL_law_X7_more : GoodIn wsL_law (wsV RL 69 RX7 yX7_more wsX7_more) := goodIn_app (goodIn_of _ (by decide +kernel)) ggL_law_X7_more
set_option maxRecDepth 20000 in
theorem ggL_law_X6_clash : GoodIn wsL_law wsX6_clash := goodIn_r _ [614, 427, 430, 431, 2, 432, 433, 434, 435, 436, 41, 24, 38, 29, 40, 28, 437, 438, 439, 37, 440, 89, 91, 441, 442, 443, 23, 444, 72, 65, 445, 446, 447, 448, 449, 450, 451, 68, 452, 453, 454, 455, 456, 457, 458, 459, 460, 461, 462, 463, 464, 465, 466, 467, 69, 71, 66, 70, 63, 468, 469, 290, 278, 291, 470, 471, 472, 473, 474, 475, 476, 477, 478, 479, 480, 481, 482, 483, 484, 485, 486, 487, 488, 489, 490, 491, 492, 493, 494, 495, 496, 497, 498, 499, 500, 501, 502, 503, 504, 505, 506, 507, 508, 509, 510, 511, 27, 512, 77, 78, 79, 76, 513, 514, 515, 516, 517, 518, 519, 520, 521, 522, 523, 524, 525, 526, 527, 528, 529, 615, 616, 617, 618, 30, 619, 620, 621, 622, 623, 624, 625, 626, 627, 628, 629, 358, 359, 360, 361, 362, 927, 928, 929, 930, 856, 857, 858, 859, 860, 861, 862, 863, 864, 865, 866, 867, 933, 934, 935, 936, 937, 938, 939, 940, 941, 942, 919, 920, 921, 922, 923, 924, 925, 926] rfl (by decide +kernel)
set_option maxRecDepth 20000 in
theorem gL_law_X6_clash : GoodIn wsL_law (wsV RL 70 RX6 yX6_clash wsX6_clash) := goodIn_app (goodIn_of _ (by decide +kernel)) ggL_law_X6_clash
set_option maxRecDepth 20000 in
theorem ggL_law_X7_clash : GoodIn wsL_law wsX7_clash := goodIn_r _ [633, 306, 131, 108, 151, 152, 5, 153, 634, 635, 636, 545, 546, 547, 548, 549, 550, 307, 112, 110, 126, 111, 130, 551, 552, 553, 554, 555, 124, 556, 557, 558, 559, 113, 106, 107, 560, 561, 562, 563, 109, 544, 564, 125, 565, 566, 567, 568, 128, 127, 569, 570, 571, 572, 129, 573, 574, 575, 576, 868, 869, 870, 871, 872, 873, 874, 875, 876, 877, 878, 879, 880, 881, 882, 883, 884, 885, 886, 887, 888, 889, 890, 891, 892, 893, 894, 895, 896, 897, 898, 899, 900, 901, 902, 903, 904, 905, 906, 907, 908, 909, 910] rfl (by decide +kernel)
set_option maxRecDepth 20000 in
theorem gL_law_X7_clash : GoodIn wsL_law (wsV RL 74 RX7 yX7_clash wsX7_clash) := goodIn_app (goodIn_of _ (by decide +kernel)) ggL_law_X7_clash
set_option maxRecDepth 20000 in
theorem ggL_law_X6_tell : GoodIn wsL_law wsX6_tell := goodIn_r _ [640, 38, 20, 641, 642, 383, 384, 385, 2, 386, 387, 359, 360, 361, 37, 362, 89, 643, 644, 19, 645, 646, 647, 648, 856, 857, 858, 859, 860, 861, 862, 863, 864, 865, 866, 867, 917, 918, 933, 934, 935, 936, 937, 938, 939, 940, 941, 942] rfl (by decide +kernel)
set_option maxRecDepth 20000 in
theorem gL_law_X6_tell : GoodIn wsL_law (wsV RL 75 RX6 yX6_tell wsX6_tell) := goodIn_app (goodIn_of _ (by decide +kernel)) ggL_law_X6_tell
set_option maxRecDepth 20000 in
theorem ggL_law_X7_tell : GoodIn wsL_law wsX7_tell := goodIn_r _ [652, 653, 654, 655, 114, 115, 116, 117, 151, 152, 5, 153, 392, 393, 394, 395, 307, 371, 372, 373, 374, 306, 868, 869, 870, 871, 872, 873, 874, 875, 876, 877, 878, 879, 880, 881, 882, 883, 884, 885, 886, 887, 888, 889, 890, 891, 892, 893, 894, 895, 896, 897, 898, 899, 900, 901, 902, 903, 904, 905, 906, 907, 908, 909, 910] rfl (by decide +kernel)
set_option maxRecDepth 20000 in
theorem gL_law_X7_tell : GoodIn wsL_law (wsV RL 79 RX7 yX7_tell wsX7_tell) := goodIn_app (goodIn_of _ (by decide +kernel)) ggL_law_X7_tell
set_option maxRecDepth 20000 in
theorem ggL_law_X6_check : GoodIn wsL_law wsX6_check := goodIn_r _ [659, 20, 38, 660, 661, 662, 19, 663, 664, 665, 666, 667, 57, 668, 669, 670, 671, 672, 673, 674, 675, 438, 439, 37, 440, 89, 91, 676, 677, 678, 679, 680, 58, 681, 682, 683, 684, 685, 686, 687, 688, 689, 690, 691, 456, 457, 458, 856, 857, 858, 859, 860, 861, 862, 863, 864, 865, 866, 867, 933, 934, 935, 936, 937, 938, 939, 940, 941, 942, 917, 918] rfl (by decide +kernel)
set_option maxRecDepth 20000 in
theorem gL_law_X6_check : GoodIn wsL_law (wsV RL 80 RX6 yX6_check wsX6_check) := goodIn_app (goodIn_of _ (by decide +kernel)) ggL_law_X6_check
set_option maxRecDepth 20000 in
theorem ggL_law_X7_check : GoodIn wsL_law wsX7_check := goodIn_r _ [695, 307, 109, 696, 306, 113, 112, 111, 108, 107, 697, 698, 699, 5, 700, 114, 701, 702, 703, 704, 115, 151, 152, 153, 705, 706, 707, 708, 116, 117, 709, 710, 711, 712, 106, 713, 714, 715, 716, 868, 869, 870, 871, 872, 873, 874, 875, 876, 877, 878, 879, 880, 881, 882, 883, 884, 885, 886, 887, 888, 889, 890, 891, 892, 893, 894, 895, 896, 897, 898, 899, 900, 901, 902, 903, 904, 905, 906, 907, 908, 909, 910] rfl (by decide +kernel)
set_option maxRecDepth 20000 in
theorem gL_law_X7_check : GoodIn wsL_law (wsV RL 83 RX7 yX7_check wsX7_check) := goodIn_app (goodIn_of _ (by decide +kernel)) ggL_law_X7_check
set_option maxRecDepth 20000 in
theorem ggL_law_X6_reach : GoodIn wsL_law wsX6_reach := goodIn_r _ [720, 38, 382, 427, 379, 587, 428, 30, 429, 383, 384, 385, 2, 386, 387, 433, 434, 435, 436, 41, 24, 29, 40, 28, 437, 438, 439, 37, 440, 89, 91, 441, 442, 443, 23, 444, 72, 65, 445, 446, 447, 448, 449, 450, 451, 68, 452, 453, 454, 455, 456, 457, 458, 459, 460, 461, 462, 463, 464, 465, 466, 467, 69, 71, 66, 70, 63, 468, 469, 290, 278, 291, 470, 471, 472, 473, 474, 475, 476, 477, 478, 479, 480, 481, 482, 483, 484, 485, 486, 487, 488, 489, 490, 491, 492, 493, 494, 495, 496, 497, 498, 499, 500, 501, 502, 503, 504, 505, 506, 507, 508, 509, 510, 511, 27, 512, 77, 78, 79, 76, 513, 514, 515, 516, 517, 518, 519, 520, 521, 522, 523, 524, 525, 526, 527, 528, 529, 721, 722, 723, 724, 856, 857, 858, 859, 860, 861, 862, 863, 864, 865, 866, 867, 933, 934, 935, 936, 937, 938, 939, 940, 941, 942, 927, 928, 929, 930, 919, 920, 921, 922, 923, 924, 925, 926] rfl (by decide +kernel)
set_option maxRecDepth 20000 in
theorem gL_law_X6_reach : GoodIn wsL_law (wsV RL 84 RX6 yX6_reach wsX6_reach) := goodIn_app (goodIn_of _ (by decide +kernel)) ggL_law_X6_reach
set_option maxRecDepth 20000 in
theorem ggL_law_X7_reach : GoodIn wsL_law wsX7_reach := goodIn_r _ [728, 112, 564, 544, 125, 109, 392, 393, 394, 5, 395, 307, 151, 152, 153, 545, 546, 547, 548, 549, 550, 110, 126, 111, 130, 551, 552, 553, 554, 555, 124, 306, 108, 556, 557, 558, 559, 113, 106, 107, 560, 561, 562, 563, 565, 566, 567, 568, 128, 127, 569, 570, 571, 572, 129, 573, 574, 575, 576, 868, 869, 870, 871, 872, 873, 874, 875, 876, 877, 878, 879, 880, 881, 882, 883, 884, 885, 886, 887, 888, 889, 890, 891, 892, 893, 894, 895, 896, 897, 898, 899, 900, 901, 902, 903, 904, 905, 906, 907, 908, 909, 910] rfl (by decide +kernel)
set_option maxRecDepth 20000 in
theorem gL_law_X7_reach : GoodIn wsL_law (wsV RL 87 RX7 yX7_reach wsX7_reach) := goodIn_app (goodIn_of _ (by decide +kernel)) ggL_law_X7_reach
set_option maxRecDepth 20000 in
theorem ggL_law_X6_fair : GoodIn wsL_law wsX6_fair := goodIn_r _ [732, 426, 427, 38, 382, 30, 587, 379, 428, 429, 383, 384, 385, 2, 386, 387, 430, 431, 432, 433, 434, 435, 436, 41, 24, 29, 40, 28, 437, 438, 439, 37, 440, 89, 91, 441, 442, 443, 23, 444, 72, 65, 445, 446, 447, 448, 449, 450, 451, 68, 452, 453, 454, 455, 456, 457, 458, 459, 460, 461, 462, 463, 464, 465, 466, 467, 69, 71, 66, 70, 63, 468, 469, 290, 278, 291, 470, 471, 472, 473, 474, 475, 476, 477, 478, 479, 480, 481, 482, 483, 484, 485, 486, 487, 488, 489, 490, 491, 492, 493, 494, 495, 496, 497, 498, 499, 500, 501, 502, 503, 504, 505, 506, 507, 508, 509, 510, 511, 27, 512, 77, 78, 79, 76, 513, 514, 515, 516, 517, 518, 519, 520, 521, 522, 523, 524, 525, 526, 527, 528, 529, 530, 531, 532, 533, 534, 535, 536, 537, 538, 733, 734, 735, 736, 596, 597, 598, 927, 928, 929, 930, 856, 857, 858, 859, 860, 861, 862, 863, 864, 865, 866, 867, 933, 934, 935, 936, 937, 938, 939, 940, 941, 942, 919, 920, 921, 922, 923, 924, 925, 926] rfl (by decide +kernel)
set_option maxRecDepth 20000 in
theorem gL_law_X6_fair : GoodIn wsL_law (wsV RL 88 RX6 yX6_fair wsX6_fair) := goodIn_app (goodIn_of _ (by decide +kernel)) ggL_law_X6_fair
set_option maxRecDepth 20000 in
theorem ggL_law_X7_fair : GoodIn wsL_law wsX7_fair := goodIn_r _ [740, 543, 112, 564, 109, 125, 544, 392, 393, 394, 5, 395, 307, 151, 152, 153, 545, 546, 547, 548, 549, 550, 110, 126, 111, 130, 551, 552, 553, 554, 555, 124, 306, 108, 556, 557, 558, 559, 113, 106, 107, 560, 561, 562, 563, 565, 566, 567, 568, 128, 127, 569, 570, 571, 572, 129, 573, 574, 575, 576, 577, 578, 579, 580, 581, 582, 868, 869, 870, 871, 872, 873, 874, 875, 876, 877, 878, 879, 880, 881, 882, 883, 884, 885, 886, 887, 888, 889, 890, 891, 892, 893, 894, 895, 896, 897, 898, 899, 900, 901, 902, 903, 904, 905, 906, 907, 908, 909, 910] rfl (by decide +kernel)
set_option maxRecDepth 20000 in
theorem gL_law_X7_fair : GoodIn wsL_law (wsV RL 91 RX7 yX7_fair wsX7_fair) := goodIn_app (goodIn_of _ (by decide +kernel)) ggL_law_X7_fair
set_option maxRecDepth 20000 in
theorem ggL_law_X6_lie : GoodIn wsL_law wsX6_lie := goodIn_r _ [744, 38, 382, 427, 379, 34, 30, 428, 429, 383, 384, 385, 2, 386, 387, 433, 434, 435, 436, 41, 24, 29, 40, 28, 437, 438, 439, 37, 440, 89, 91, 441, 442, 443, 23, 444, 72, 65, 445, 446, 447, 448, 449, 450, 451, 68, 452, 453, 454, 455, 456, 457, 458, 459, 460, 461, 462, 463, 464, 465, 466, 467, 69, 71, 66, 70, 63, 468, 469, 290, 278, 291, 470, 471, 472, 473, 474, 475, 476, 477, 478, 479, 480, 481, 482, 483, 484, 485, 486, 487, 488, 489, 490, 491, 492, 493, 494, 495, 496, 497, 498, 499, 500, 501, 502, 503, 504, 505, 506, 507, 508, 509, 510, 511, 27, 512, 77, 78, 79, 76, 513, 514, 515, 516, 517, 518, 519, 520, 521, 522, 523, 524, 525, 526, 527, 528, 529, 745, 746, 747, 33, 748, 84, 749, 750, 751, 752, 753, 83, 721, 722, 723, 724, 754, 755, 756, 757, 758, 759, 760, 761, 856, 857, 858, 859, 860, 861, 862, 863, 864, 865, 866, 867, 933, 934, 935, 936, 937, 938, 939, 940, 941, 942, 927, 928, 929, 930, 919, 920, 921, 922, 923, 924, 925, 926, 931, 932] rfl (by decide +kernel)
set_option maxRecDepth 20000 in
theorem gL_law_X6_lie : GoodIn wsL_law (wsV RL 92 RX6 yX6_lie wsX6_lie) := goodIn_app (goodIn_of _ (by decide +kernel)) ggL_law_X6_lie
set_option maxRecDepth 20000 in
theorem ggL_law_X7_lie : GoodIn wsL_law wsX7_lie := goodIn_r _ [765, 112, 109, 125, 544, 392, 393, 394, 5, 395, 307, 151, 152, 153, 545, 546, 547, 548, 549, 550, 110, 126, 111, 130, 551, 552, 553, 554, 555, 124, 306, 108, 556, 557, 558, 559, 113, 106, 107, 560, 561, 562, 563, 564, 565, 566, 567, 568, 128, 127, 569, 570, 571, 572, 129, 573, 574, 575, 576, 868, 869, 870, 871, 872, 873, 874, 875, 876, 877, 878, 879, 880, 881, 882, 883, 884, 885, 886, 887, 888, 889, 890, 891, 892, 893, 894, 895, 896, 897, 898, 899, 900, 901, 902, 903, 904, 905, 906, 907, 908, 909, 910] rfl (by decide +kernel)
set_option maxRecDepth 20000 in
theorem gL_law_X7_lie : GoodIn wsL_law (wsV RL 95 RX7 yX7_lie wsX7_lie) := goodIn_app (goodIn_of _ (by decide +kernel)) ggL_law_X7_lie
set_option maxRecDepth 20000 in
theorem ggL_law_X6_core : GoodIn wsL_law wsX6_core := goodIn_r _ [769, 427, 38, 387, 382, 30, 587, 429, 433, 434, 435, 2, 436, 41, 24, 29, 40, 28, 437, 438, 439, 37, 440, 89, 91, 441, 442, 443, 23, 444, 72, 65, 445, 446, 447, 448, 449, 450, 451, 68, 452, 453, 454, 455, 456, 457, 458, 459, 460, 461, 462, 463, 464, 465, 466, 467, 69, 71, 66, 70, 63, 468, 469, 290, 278, 291, 470, 471, 472, 473, 474, 475, 476, 477, 478, 479, 480, 481, 482, 483, 484, 485, 486, 487, 488, 489, 490, 491, 492, 493, 494, 495, 496, 497, 498, 499, 500, 501, 502, 503, 504, 505, 506, 507, 508, 509, 510, 511, 27, 512, 77, 78, 79, 76, 513, 514, 515, 516, 517, 518, 519, 520, 521, 522, 523, 524, 525, 526, 527, 528, 529, 733, 734, 735, 736, 927, 928, 929, 930, 856, 857, 858, 859, 860, 861, 862, 863, 864, 865, 866, 867, 933, 934, 935, 936, 937, 938, 939, 940, 941, 942, 919, 920, 921, 922, 923, 924, 925, 926] rfl (by decide +kernel)
set_option maxRecDepth 20000 in
theorem gL_law_X6_core : GoodIn wsL_law (wsV RL 96 RX6 yX6_core wsX6_core) := goodIn_app (goodIn_of _ (by decide +kernel)) ggL_law_X6_core
set_option maxRecDepth 20000 in
theorem ggL_law_X7_core : GoodIn wsL_law wsX7_core := goodIn_r _ [773, 564, 544, 307, 112, 545, 546, 547, 5, 548, 549, 550, 110, 126, 111, 130, 551, 552, 553, 554, 555, 124, 306, 108, 556, 557, 558, 559, 113, 106, 107, 151, 152, 153, 560, 561, 562, 563, 109, 125, 565, 566, 567, 568, 128, 127, 569, 570, 571, 572, 129, 573, 574, 575, 576, 868, 869, 870, 871, 872, 873, 874, 875, 876, 877, 878, 879, 880, 881, 882, 883, 884, 885, 886, 887, 888, 889, 890, 891, 892, 893, 894, 895, 896, 897, 898, 899, 900, 901, 902, 903, 904, 905, 906, 907, 908, 909, 910] rfl (by decide +kernel)
set_option maxRecDepth 20000 in
theorem gL_law_X7_core : GoodIn wsL_law (wsV RL 99 RX7 yX7_core wsX7_core) := goodIn_app (goodIn_of _ (by decide +kernel)) ggL_law_X7_core
set_option maxRecDepth 20000 in
theorem ggL_law_X6_labour : GoodIn wsL_law wsX6_labour := goodIn_r _ [777, 778, 779, 780, 2, 781, 42, 38, 387, 782, 783, 784, 37, 785, 89, 364, 365, 786, 787, 788, 789, 790, 791, 792, 793, 794, 99, 98, 795, 796, 797, 798, 799, 800, 801, 802, 803, 94, 804, 805, 806, 807, 808, 809, 810, 811, 812, 813, 814, 815, 816, 817, 91, 818, 819, 820, 821, 96, 856, 857, 858, 859, 860, 861, 862, 863, 864, 865, 866, 867, 933, 934, 935, 936, 937, 938, 939, 940, 941, 942] rfl (by decide +kernel)
set_option maxRecDepth 20000 in
theorem gL_law_X6_labour : GoodIn wsL_law (wsV RL 100 RX6 yX6_labour wsX6_labour) := goodIn_app (goodIn_of _ (by decide +kernel)) ggL_law_X6_labour
set_option maxRecDepth 20000 in
theorem ggL_law_X7_labour : GoodIn wsL_law wsX7_labour := goodIn_r _ [825, 826, 306, 307, 113, 110, 827, 828, 829, 830, 831, 151, 152, 5, 153, 832, 833, 834, 835, 108, 836, 837, 838, 839, 112, 868, 869, 870, 871, 872, 873, 874, 875, 876, 877, 878, 879, 880, 881, 882, 883, 884, 885, 886, 887, 888, 889, 890, 891, 892, 893, 894, 895, 896, 897, 898, 899, 900, 901, 902, 903, 904, 905, 906, 907, 908, 909, 910] rfl (by decide +kernel)
set_option maxRecDepth 20000 in
theorem gL_law_X7_labour : GoodIn wsL_law (wsV RL 103 RX7 yX7_labour wsX7_labour) := goodIn_app (goodIn_of _ (by decide +kernel)) ggL_law_X7_labour
set_option maxRecDepth 20000 in
theorem ggL_law_X6_count : GoodIn wsL_law wsX6_count := goodIn_r _ [843, 38, 387, 16, 158, 782, 783, 784, 37, 785, 89, 364, 2, 365, 814, 815, 816, 817, 91, 818, 819, 820, 821, 99, 96, 856, 857, 858, 859, 860, 861, 862, 863, 864, 865, 866, 867, 933, 934, 935, 936, 937, 938, 939, 940, 941, 942, 911, 912, 913, 914, 915, 916] rfl (by decide +kernel)
set_option maxRecDepth 20000 in
theorem gL_law_X6_count : GoodIn wsL_law (wsV RL 104 RX6 yX6_count wsX6_count) := goodIn_app (goodIn_of _ (by decide +kernel)) ggL_law_X6_count
set_option maxRecDepth 20000 in
theorem ggL_law_X7_count : GoodIn wsL_law wsX7_count := goodIn_r _ [847, 306, 307, 149, 832, 833, 834, 5, 835, 108, 836, 837, 838, 839, 112, 868, 869, 870, 871, 872, 873, 874, 875, 876, 877, 878, 879, 880, 881, 882, 883, 884, 885, 886, 887, 888, 889, 890, 891, 892, 893, 894, 895, 896, 897, 898, 899, 900, 901, 902, 903, 904, 905, 906, 907, 908, 909, 910] rfl (by decide +kernel)
set_option maxRecDepth 20000 in
theorem gL_law_X7_count : GoodIn wsL_law (wsV RL 107 RX7 yX7_count wsX7_count) := goodIn_app (goodIn_of _ (by decide +kernel)) ggL_law_X7_count
set_option maxRecDepth 20000 in
theorem ggL_law_X6_trace : GoodIn wsL_law wsX6_trace := goodIn_r _ [851, 42, 856, 857, 858, 859, 860, 861, 862, 863, 864, 865, 866, 867] rfl (by decide +kernel)
set_option maxRecDepth 20000 in
theorem gL_law_X6_trace : GoodIn wsL_law (wsV RL 108 RX6 yX6_trace wsX6_trace) := goodIn_app (goodIn_of _ (by decide +kernel)) ggL_law_X6_trace
set_option maxRecDepth 20000 in
theorem ggL_law_X7_trace : GoodIn wsL_law wsX7_trace := goodIn_r _ [855, 827, 868, 869, 870, 871, 872, 873, 874, 875, 876, 877, 878, 879, 880, 881, 882, 883, 884, 885, 886, 887, 888, 889, 890, 891, 892, 893, 894, 895, 896, 897, 898, 899, 900, 901, 902, 903, 904, 905, 906, 907, 908, 909, 910] rfl (by decide +kernel)
set_option maxRecDepth 20000 in
theorem gL_law_X7_trace : GoodIn wsL_law (wsV RL 112 RX7 yX7_trace wsX7_trace) := goodIn_app (goodIn_of _ (by decide +kernel)) ggL_law_X7_trace
