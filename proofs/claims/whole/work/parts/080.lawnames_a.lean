set_option maxRecDepth 20000 in
theorem ggL_law_X10_init : GoodIn wsL_law wsX10_init := goodIn_r _ [8, 9, 10, 11, 12, 13, 14, 15, 16, 17, 18, 19, 20, 21, 22, 23, 24, 25, 26, 27, 28, 29, 30, 31, 32, 33, 34, 35, 36, 37, 38, 39, 40, 41, 42, 43, 44, 45, 46, 47, 48, 49, 50, 51, 52, 53, 54, 55, 56, 57, 58, 59, 60, 61, 62, 63, 64, 65, 66, 67, 68, 69, 70, 71, 72, 73, 74, 75, 76, 77, 78, 79, 80, 81, 82, 83, 84, 85, 86, 87, 88, 89, 90, 91, 92, 93, 94, 95, 96, 97, 98, 99, 100, 101, 102, 103, 104, 105, 915, 916, 917, 918, 919, 920, 921, 922, 923, 924, 925, 926, 966, 967, 968, 969, 970, 971, 972, 973, 974, 975, 976, 977, 978, 979, 980, 981, 982, 983, 984, 985, 986, 987, 988, 989, 990, 991, 992, 993, 994, 995, 996, 997, 998, 999, 1000, 1001, 1002, 1003, 1004, 1005, 1006, 1007] (by decide +kernel) (by decide +kernel)
set_option maxRecDepth 20000 in
theorem gL_law_X10_init : GoodIn wsL_law (wsX10_init) := ggL_law_X10_init
set_option maxRecDepth 20000 in
theorem ggL_law_X11_init : GoodIn wsL_law wsX11_init := goodIn_r _ [108, 109, 10, 11, 53, 110, 111, 112, 113, 114, 115, 116, 117, 118, 119, 120, 20, 121, 122, 123, 124, 125, 126, 127, 128, 129, 130, 131, 927, 928, 929, 930, 931, 932, 933, 934, 935, 936, 937, 938, 939, 940, 941, 942, 943, 944, 945, 946, 947, 948, 949, 950, 951, 952, 953, 954, 955, 956, 957, 958, 959, 960, 961, 962, 963, 964, 965] (by decide +kernel) (by decide +kernel)
set_option maxRecDepth 20000 in
theorem gL_law_X11_init : GoodIn wsL_law (wsX11_init) := ggL_law_X11_init
set_option maxRecDepth 20000 in
theorem ggL_law_X10_loft : GoodIn wsL_law wsX10_loft := goodIn_r _ [135, 136, 13, 137, 25, 29, 33, 138, 21, 139, 140, 141, 2, 142, 143, 144, 145, 146, 147, 148, 149, 150, 151, 15, 152, 153, 154, 155, 156, 157, 158, 159, 160, 161, 162, 163, 164, 165, 166, 167, 168, 169, 170, 171, 172, 173, 174, 175, 176, 24, 177, 67, 178, 179, 180, 181, 64, 182, 183, 184, 65, 185, 186, 187, 188, 189, 190, 28, 191, 192, 915, 916, 917, 918, 919, 920, 921, 922, 923, 924, 925, 926, 966, 967, 968, 969, 983, 984, 985, 986, 976, 977, 978, 979, 970, 971, 972, 973, 974, 975, 980, 981, 982] (by decide +kernel) (by decide +kernel)
set_option maxRecDepth 20000 in
theorem gL_law_X10_loft : GoodIn wsL_law (wsV RL 13 RX10 yX10_loft wsX10_loft) := goodIn_app (goodIn_of _ (by decide +kernel)) ggL_law_X10_loft
set_option maxRecDepth 20000 in
theorem ggL_law_X11_loft : GoodIn wsL_law wsX11_loft := goodIn_r _ [196, 197, 198, 199, 200, 201, 5, 202, 203, 204, 205, 206, 207, 208, 209, 210, 211, 212, 110, 111, 213, 214, 215, 216, 217, 218, 219, 220, 221, 222, 223, 224, 225, 226, 227, 228, 112, 229, 230, 231, 232, 233, 234, 235, 236, 118, 237, 238, 239, 240, 241, 242, 243, 113, 114, 115, 116, 117, 244, 121, 245, 927, 928, 929, 930, 931, 932, 933, 934, 935, 936, 937, 938, 939, 940, 941, 942, 943, 944, 945, 946, 947, 948, 949, 950, 951, 952, 953, 954, 955, 956, 957, 958, 959, 960, 961, 962, 963, 964, 965] (by decide +kernel) (by decide +kernel)
set_option maxRecDepth 20000 in
theorem gL_law_X11_loft : GoodIn wsL_law (wsV RL 17 RX11 yX11_loft wsX11_loft) := goodIn_app (goodIn_of _ (by decide +kernel)) ggL_law_X11_loft
set_option maxRecDepth 20000 in
theorem ggL_law_X10_ofBatten : GoodIn wsL_law wsX10_ofBatten := goodIn_r _ [249, 25, 250, 251, 252, 253, 254, 255, 256, 257, 258, 24, 259, 181, 260, 261, 262, 263, 64, 67, 182, 183, 264, 2, 265, 266, 267, 268, 269, 270, 271, 272, 273, 274, 275, 276, 65, 277, 915, 916, 917, 918, 919, 920, 921, 922, 923, 924, 925, 926, 976, 977, 978, 979, 970, 971, 972, 973, 974, 975] (by decide +kernel) (by decide +kernel)
set_option maxRecDepth 20000 in
theorem gL_law_X10_ofBatten : GoodIn wsL_law (wsV RL 18 RX10 yX10_ofBatten wsX10_ofBatten) := goodIn_app (goodIn_of _ (by decide +kernel)) ggL_law_X10_ofBatten
set_option maxRecDepth 20000 in
theorem ggL_law_X11_ofBatten : GoodIn wsL_law wsX11_ofBatten := goodIn_r _ [281, 113, 114, 115, 116, 117, 282, 283, 284, 5, 285, 199, 286, 287, 288, 289, 290, 291, 292, 293, 927, 928, 929, 930, 931, 932, 933, 934, 935, 936, 937, 938, 939, 940, 941, 942, 943, 944, 945, 946, 947, 948, 949, 950, 951, 952, 953, 954, 955, 956, 957, 958, 959, 960, 961, 962, 963, 964, 965] (by decide +kernel) (by decide +kernel)
set_option maxRecDepth 20000 in
theorem gL_law_X11_ofBatten : GoodIn wsL_law (wsV RL 22 RX11 yX11_ofBatten wsX11_ofBatten) := goodIn_app (goodIn_of _ (by decide +kernel)) ggL_law_X11_ofBatten
set_option maxRecDepth 20000 in
theorem ggL_law_X10_seen : GoodIn wsL_law wsX10_seen := goodIn_r _ [297, 25, 139, 251, 254, 298, 299, 300, 24, 301, 67, 179, 181, 302, 274, 275, 276, 65, 277, 271, 268, 272, 915, 916, 917, 918, 919, 920, 921, 922, 923, 924, 925, 926, 976, 977, 978, 979, 970, 971, 972, 973, 974, 975] (by decide +kernel) (by decide +kernel)
set_option maxRecDepth 20000 in
theorem gL_law_X10_seen : GoodIn wsL_law (wsV RL 23 RX10 yX10_seen wsX10_seen) := goodIn_app (goodIn_of _ (by decide +kernel)) ggL_law_X10_seen
set_option maxRecDepth 20000 in
theorem ggL_law_X11_seen : GoodIn wsL_law wsX11_seen := goodIn_r _ [306, 199, 307, 308, 309, 5, 310, 242, 290, 291, 292, 293, 116, 117, 927, 928, 929, 930, 931, 932, 933, 934, 935, 936, 937, 938, 939, 940, 941, 942, 943, 944, 945, 946, 947, 948, 949, 950, 951, 952, 953, 954, 955, 956, 957, 958, 959, 960, 961, 962, 963, 964, 965] (by decide +kernel) (by decide +kernel)
set_option maxRecDepth 20000 in
theorem gL_law_X11_seen : GoodIn wsL_law (wsV RL 27 RX11 yX11_seen wsX11_seen) := goodIn_app (goodIn_of _ (by decide +kernel)) ggL_law_X11_seen
set_option maxRecDepth 20000 in
theorem ggL_law_X10_hides : GoodIn wsL_law wsX10_hides := goodIn_r _ [314, 25, 256, 257, 258, 24, 259, 181, 315, 316, 317, 318, 67, 184, 179, 302, 274, 275, 276, 65, 277, 271, 268, 272, 915, 916, 917, 918, 919, 920, 921, 922, 923, 924, 925, 926, 976, 977, 978, 979, 970, 971, 972, 973, 974, 975] (by decide +kernel) (by decide +kernel)
set_option maxRecDepth 20000 in
theorem gL_law_X10_hides : GoodIn wsL_law (wsV RL 28 RX10 yX10_hides wsX10_hides) := goodIn_app (goodIn_of _ (by decide +kernel)) ggL_law_X10_hides
set_option maxRecDepth 20000 in
theorem ggL_law_X11_hides : GoodIn wsL_law wsX11_hides := goodIn_r _ [322, 242, 282, 283, 284, 5, 285, 199, 290, 291, 292, 293, 116, 117, 927, 928, 929, 930, 931, 932, 933, 934, 935, 936, 937, 938, 939, 940, 941, 942, 943, 944, 945, 946, 947, 948, 949, 950, 951, 952, 953, 954, 955, 956, 957, 958, 959, 960, 961, 962, 963, 964, 965] (by decide +kernel) (by decide +kernel)
set_option maxRecDepth 20000 in
theorem gL_law_X11_hides : GoodIn wsL_law (wsV RL 32 RX11 yX11_hides wsX11_hides) := goodIn_app (goodIn_of _ (by decide +kernel)) ggL_law_X11_hides
set_option maxRecDepth 20000 in
theorem ggL_law_X10_hire : GoodIn wsL_law wsX10_hire := goodIn_r _ [326, 25, 139, 251, 327, 143, 144, 2, 145, 915, 916, 917, 918, 919, 920, 921, 922, 923, 924, 925, 926, 976, 977, 978, 979, 970, 971, 972, 973, 974, 975] (by decide +kernel) (by decide +kernel)
set_option maxRecDepth 20000 in
theorem gL_law_X10_hire : GoodIn wsL_law (wsV RL 33 RX10 yX10_hire wsX10_hire) := goodIn_app (goodIn_of _ (by decide +kernel)) ggL_law_X10_hire
set_option maxRecDepth 20000 in
theorem ggL_law_X11_hire : GoodIn wsL_law wsX11_hire := goodIn_r _ [331, 199, 241, 203, 204, 5, 205, 927, 928, 929, 930, 931, 932, 933, 934, 935, 936, 937, 938, 939, 940, 941, 942, 943, 944, 945, 946, 947, 948, 949, 950, 951, 952, 953, 954, 955, 956, 957, 958, 959, 960, 961, 962, 963, 964, 965] (by decide +kernel) (by decide +kernel)
set_option maxRecDepth 20000 in
theorem gL_law_X11_hire : GoodIn wsL_law (wsV RL 36 RX11 yX11_hire wsX11_hire) := goodIn_app (goodIn_of _ (by decide +kernel)) ggL_law_X11_hire
set_option maxRecDepth 20000 in
theorem ggL_law_X10_trim : GoodIn wsL_law wsX10_trim := goodIn_r _ [335, 25, 139, 251, 336, 143, 144, 2, 145, 915, 916, 917, 918, 919, 920, 921, 922, 923, 924, 925, 926, 976, 977, 978, 979, 970, 971, 972, 973, 974, 975] (by decide +kernel) (by decide +kernel)
set_option maxRecDepth 20000 in
theorem gL_law_X10_trim : GoodIn wsL_law (wsV RL 37 RX10 yX10_trim wsX10_trim) := goodIn_app (goodIn_of _ (by decide +kernel)) ggL_law_X10_trim
set_option maxRecDepth 20000 in
theorem ggL_law_X11_trim : GoodIn wsL_law wsX11_trim := goodIn_r _ [340, 199, 242, 203, 204, 5, 205, 927, 928, 929, 930, 931, 932, 933, 934, 935, 936, 937, 938, 939, 940, 941, 942, 943, 944, 945, 946, 947, 948, 949, 950, 951, 952, 953, 954, 955, 956, 957, 958, 959, 960, 961, 962, 963, 964, 965] (by decide +kernel) (by decide +kernel)
set_option maxRecDepth 20000 in
theorem gL_law_X11_trim : GoodIn wsL_law (wsV RL 40 RX11 yX11_trim wsX11_trim) := goodIn_app (goodIn_of _ (by decide +kernel)) ggL_law_X11_trim
set_option maxRecDepth 20000 in
theorem ggL_law_X10_fly : GoodIn wsL_law wsX10_fly := goodIn_r _ [344, 25, 37, 345, 256, 257, 258, 24, 259, 181, 346, 347, 2, 348, 143, 144, 145, 349, 350, 351, 36, 352, 353, 83, 84, 354, 355, 356, 357, 41, 358, 251, 254, 359, 360, 361, 362, 363, 364, 327, 29, 365, 366, 367, 368, 369, 261, 262, 263, 64, 67, 182, 183, 264, 265, 266, 267, 268, 269, 270, 271, 272, 370, 371, 372, 373, 65, 374, 375, 376, 377, 378, 277, 379, 380, 381, 28, 382, 73, 383, 192, 384, 385, 386, 387, 388, 389, 19, 390, 58, 391, 59, 60, 392, 915, 916, 917, 918, 919, 920, 921, 922, 923, 924, 925, 926, 987, 988, 989, 976, 977, 978, 979, 990, 991, 992, 993, 994, 970, 971, 972, 973, 974, 975, 980, 981, 982] (by decide +kernel) (by decide +kernel)
set_option maxRecDepth 20000 in
theorem gL_law_X10_fly : GoodIn wsL_law (wsV RL 41 RX10 yX10_fly wsX10_fly) := goodIn_app (goodIn_of _ (by decide +kernel)) ggL_law_X10_fly
set_option maxRecDepth 20000 in
theorem ggL_law_X11_fly : GoodIn wsL_law wsX11_fly := goodIn_r _ [396, 119, 282, 283, 284, 5, 285, 199, 397, 398, 399, 203, 204, 205, 400, 401, 402, 403, 116, 404, 405, 406, 407, 408, 409, 410, 411, 241, 286, 287, 288, 289, 114, 115, 113, 412, 413, 414, 415, 117, 416, 417, 418, 419, 420, 421, 422, 423, 424, 425, 426, 244, 120, 427, 428, 429, 430, 243, 431, 432, 433, 434, 927, 928, 929, 930, 931, 932, 933, 934, 935, 936, 937, 938, 939, 940, 941, 942, 943, 944, 945, 946, 947, 948, 949, 950, 951, 952, 953, 954, 955, 956, 957, 958, 959, 960, 961, 962, 963, 964, 965] (by decide +kernel) (by decide +kernel)
set_option maxRecDepth 20000 in
theorem gL_law_X11_fly : GoodIn wsL_law (wsV RL 44 RX11 yX11_fly wsX11_fly) := goodIn_app (goodIn_of _ (by decide +kernel)) ggL_law_X11_fly
set_option maxRecDepth 20000 in
theorem ggL_law_X10_cue : GoodIn wsL_law wsX10_cue := goodIn_r _ [438, 136, 13, 37, 140, 141, 2, 142, 143, 144, 145, 146, 147, 148, 439, 440, 441, 442, 25, 139, 345, 137, 149, 150, 151, 15, 152, 153, 154, 155, 156, 157, 158, 159, 160, 161, 162, 163, 256, 257, 258, 24, 259, 181, 346, 347, 348, 349, 350, 351, 36, 352, 353, 83, 84, 443, 444, 445, 446, 354, 355, 356, 357, 41, 358, 251, 254, 359, 360, 361, 362, 363, 364, 327, 29, 365, 366, 367, 368, 369, 261, 262, 263, 64, 67, 182, 183, 264, 265, 266, 267, 268, 269, 270, 271, 272, 370, 371, 372, 373, 65, 374, 375, 376, 377, 378, 277, 379, 380, 381, 28, 382, 73, 383, 192, 384, 385, 386, 387, 388, 389, 19, 390, 58, 391, 59, 60, 392, 915, 916, 917, 918, 919, 920, 921, 922, 923, 924, 925, 926, 976, 977, 978, 979, 987, 988, 989, 966, 967, 968, 969, 990, 991, 992, 993, 994, 970, 971, 972, 973, 974, 975, 980, 981, 982] (by decide +kernel) (by decide +kernel)
set_option maxRecDepth 20000 in
theorem gL_law_X10_cue : GoodIn wsL_law (wsV RL 45 RX10 yX10_cue wsX10_cue) := goodIn_app (goodIn_of _ (by decide +kernel)) ggL_law_X10_cue
set_option maxRecDepth 20000 in
theorem ggL_law_X11_cue : GoodIn wsL_law wsX11_cue := goodIn_r _ [450, 197, 199, 119, 112, 200, 201, 5, 202, 203, 204, 205, 206, 207, 208, 209, 210, 211, 212, 110, 111, 213, 214, 215, 216, 451, 452, 453, 454, 282, 283, 284, 285, 397, 398, 399, 455, 456, 457, 458, 400, 401, 402, 403, 116, 404, 405, 406, 407, 408, 409, 410, 411, 241, 286, 287, 288, 289, 114, 115, 113, 412, 413, 414, 415, 117, 416, 417, 418, 419, 420, 421, 422, 423, 424, 425, 426, 244, 120, 427, 428, 429, 430, 243, 431, 432, 433, 434, 927, 928, 929, 930, 931, 932, 933, 934, 935, 936, 937, 938, 939, 940, 941, 942, 943, 944, 945, 946, 947, 948, 949, 950, 951, 952, 953, 954, 955, 956, 957, 958, 959, 960, 961, 962, 963, 964, 965] (by decide +kernel) (by decide +kernel)
set_option maxRecDepth 20000 in
theorem gL_law_X11_cue : GoodIn wsL_law (wsV RL 48 RX11 yX11_cue wsX11_cue) := goodIn_app (goodIn_of _ (by decide +kernel)) ggL_law_X11_cue
set_option maxRecDepth 20000 in
theorem ggL_law_X10_hang : GoodIn wsL_law wsX10_hang := goodIn_r _ [462, 25, 251, 254, 29, 252, 256, 257, 258, 24, 259, 181, 463, 464, 2, 465, 143, 144, 145, 379, 380, 381, 28, 382, 73, 383, 192, 384, 385, 268, 386, 387, 388, 389, 19, 390, 58, 391, 360, 361, 362, 59, 60, 392, 466, 467, 468, 469, 67, 183, 182, 178, 184, 915, 916, 917, 918, 919, 920, 921, 922, 923, 924, 925, 926, 976, 977, 978, 979, 970, 971, 972, 973, 974, 975, 980, 981, 982] (by decide +kernel) (by decide +kernel)
set_option maxRecDepth 20000 in
theorem gL_law_X10_hang : GoodIn wsL_law (wsV RL 49 RX10 yX10_hang wsX10_hang) := goodIn_app (goodIn_of _ (by decide +kernel)) ggL_law_X10_hang
set_option maxRecDepth 20000 in
theorem ggL_law_X11_hang : GoodIn wsL_law wsX11_hang := goodIn_r _ [473, 116, 114, 282, 283, 284, 5, 285, 199, 397, 398, 399, 203, 204, 205, 423, 424, 425, 426, 244, 120, 427, 428, 429, 430, 115, 243, 474, 475, 476, 477, 241, 927, 928, 929, 930, 931, 932, 933, 934, 935, 936, 937, 938, 939, 940, 941, 942, 943, 944, 945, 946, 947, 948, 949, 950, 951, 952, 953, 954, 955, 956, 957, 958, 959, 960, 961, 962, 963, 964, 965] (by decide +kernel) (by decide +kernel)
set_option maxRecDepth 20000 in
theorem gL_law_X11_hang : GoodIn wsL_law (wsV RL 52 RX11 yX11_hang wsX11_hang) := goodIn_app (goodIn_of _ (by decide +kernel)) ggL_law_X11_hang
set_option maxRecDepth 20000 in
theorem ggL_law_X10_brick : GoodIn wsL_law wsX10_brick := goodIn_r _ [481, 25, 251, 253, 254, 482, 29, 256, 257, 258, 24, 259, 181, 463, 464, 2, 465, 143, 144, 145, 379, 380, 381, 28, 382, 73, 383, 192, 384, 385, 268, 386, 387, 388, 389, 19, 390, 58, 391, 360, 361, 362, 59, 60, 392, 466, 467, 468, 469, 67, 183, 182, 178, 184, 915, 916, 917, 918, 919, 920, 921, 922, 923, 924, 925, 926, 976, 977, 978, 979, 970, 971, 972, 973, 974, 975, 980, 981, 982] (by decide +kernel) (by decide +kernel)
set_option maxRecDepth 20000 in
theorem gL_law_X10_brick : GoodIn wsL_law (wsV RL 53 RX10 yX10_brick wsX10_brick) := goodIn_app (goodIn_of _ (by decide +kernel)) ggL_law_X10_brick
set_option maxRecDepth 20000 in
theorem ggL_law_X11_brick : GoodIn wsL_law wsX11_brick := goodIn_r _ [486, 116, 115, 243, 282, 283, 284, 5, 285, 199, 397, 398, 399, 203, 204, 205, 423, 424, 425, 426, 244, 120, 427, 428, 429, 430, 114, 474, 475, 476, 477, 241, 927, 928, 929, 930, 931, 932, 933, 934, 935, 936, 937, 938, 939, 940, 941, 942, 943, 944, 945, 946, 947, 948, 949, 950, 951, 952, 953, 954, 955, 956, 957, 958, 959, 960, 961, 962, 963, 964, 965] (by decide +kernel) (by decide +kernel)
set_option maxRecDepth 20000 in
theorem gL_law_X11_brick : GoodIn wsL_law (wsV RL 56 RX11 yX11_brick wsX11_brick) := goodIn_app (goodIn_of _ (by decide +kernel)) ggL_law_X11_brick
set_option maxRecDepth 20000 in
theorem ggL_law_X10_undo : GoodIn wsL_law wsX10_undo := goodIn_r _ [490, 29, 491, 25, 251, 492, 493, 494, 28, 495, 383, 192, 73, 387, 388, 389, 19, 390, 58, 391, 360, 361, 362, 59, 60, 392, 915, 916, 917, 918, 919, 920, 921, 922, 923, 924, 925, 926, 980, 981, 982, 976, 977, 978, 979, 970, 971, 972, 973, 974, 975] (by decide +kernel) (by decide +kernel)
set_option maxRecDepth 20000 in
theorem gL_law_X10_undo : GoodIn wsL_law (wsV RL 57 RX10 yX10_undo wsX10_undo) := goodIn_app (goodIn_of _ (by decide +kernel)) ggL_law_X10_undo
set_option maxRecDepth 20000 in
theorem ggL_law_X11_undo : GoodIn wsL_law wsX11_undo := goodIn_r _ [499, 244, 120, 500, 501, 502, 5, 503, 116, 114, 115, 243, 927, 928, 929, 930, 931, 932, 933, 934, 935, 936, 937, 938, 939, 940, 941, 942, 943, 944, 945, 946, 947, 948, 949, 950, 951, 952, 953, 954, 955, 956, 957, 958, 959, 960, 961, 962, 963, 964, 965] (by decide +kernel) (by decide +kernel)
set_option maxRecDepth 20000 in
theorem gL_law_X11_undo : GoodIn wsL_law (wsV RL 60 RX11 yX11_undo wsX11_undo) := goodIn_app (goodIn_of _ (by decide +kernel)) ggL_law_X11_undo
set_option maxRecDepth 20000 in
theorem ggL_law_X10_keep : GoodIn wsL_law wsX10_keep := goodIn_r _ [507, 25, 139, 17, 251, 21, 508, 509, 2, 510, 143, 144, 145, 511, 512, 513, 19, 514, 515, 516, 517, 388, 389, 390, 58, 391, 360, 361, 362, 59, 60, 392, 915, 916, 917, 918, 919, 920, 921, 922, 923, 924, 925, 926, 976, 977, 978, 979, 970, 971, 972, 973, 974, 975] (by decide +kernel) (by decide +kernel)
set_option maxRecDepth 20000 in
theorem gL_law_X10_keep : GoodIn wsL_law (wsV RL 61 RX10 yX10_keep wsX10_keep) := goodIn_app (goodIn_of _ (by decide +kernel)) ggL_law_X10_keep
set_option maxRecDepth 20000 in
theorem ggL_law_X11_keep : GoodIn wsL_law wsX11_keep := goodIn_r _ [521, 199, 122, 123, 241, 124, 242, 121, 203, 204, 5, 205, 427, 428, 429, 430, 116, 114, 115, 243, 927, 928, 929, 930, 931, 932, 933, 934, 935, 936, 937, 938, 939, 940, 941, 942, 943, 944, 945, 946, 947, 948, 949, 950, 951, 952, 953, 954, 955, 956, 957, 958, 959, 960, 961, 962, 963, 964, 965] (by decide +kernel) (by decide +kernel)
set_option maxRecDepth 20000 in
theorem gL_law_X11_keep : GoodIn wsL_law (wsV RL 64 RX11 yX11_keep wsX11_keep) := goodIn_app (goodIn_of _ (by decide +kernel)) ggL_law_X11_keep
set_option maxRecDepth 20000 in
theorem ggL_law_X10_restore : GoodIn wsL_law wsX10_restore := goodIn_r _ [525, 21, 25, 251, 17, 29, 482, 508, 509, 2, 510, 143, 144, 145, 511, 512, 513, 19, 514, 515, 516, 517, 388, 389, 390, 58, 391, 360, 361, 362, 59, 60, 392, 188, 189, 190, 28, 191, 192, 915, 916, 917, 918, 919, 920, 921, 922, 923, 924, 925, 926, 976, 977, 978, 979, 970, 971, 972, 973, 974, 975, 980, 981, 982] (by decide +kernel) (by decide +kernel)
set_option maxRecDepth 20000 in
theorem gL_law_X10_restore : GoodIn wsL_law (wsV RL 65 RX10 yX10_restore wsX10_restore) := goodIn_app (goodIn_of _ (by decide +kernel)) ggL_law_X10_restore
set_option maxRecDepth 20000 in
theorem ggL_law_X11_restore : GoodIn wsL_law wsX11_restore := goodIn_r _ [529, 121, 122, 123, 241, 124, 242, 244, 243, 203, 204, 5, 205, 500, 501, 502, 503, 116, 114, 115, 927, 928, 929, 930, 931, 932, 933, 934, 935, 936, 937, 938, 939, 940, 941, 942, 943, 944, 945, 946, 947, 948, 949, 950, 951, 952, 953, 954, 955, 956, 957, 958, 959, 960, 961, 962, 963, 964, 965] (by decide +kernel) (by decide +kernel)
set_option maxRecDepth 20000 in
theorem gL_law_X11_restore : GoodIn wsL_law (wsV RL 68 RX11 yX11_restore wsX11_restore) := goodIn_app (goodIn_of _ (by decide +kernel)) ggL_law_X11_restore
set_option maxRecDepth 20000 in
theorem ggL_law_X10_act : GoodIn wsL_law wsX10_act := goodIn_r _ [533, 136, 13, 41, 25, 37, 251, 327, 534, 358, 535, 536, 140, 141, 2, 142, 143, 144, 145, 146, 147, 148, 439, 440, 441, 442, 139, 345, 137, 149, 150, 151, 15, 152, 153, 154, 155, 156, 157, 158, 159, 160, 161, 162, 163, 256, 257, 258, 24, 259, 181, 346, 347, 348, 349, 350, 351, 36, 352, 353, 83, 84, 537, 538, 539, 40, 540, 541, 542, 543, 544, 545, 88, 546, 360, 361, 362, 89, 547, 548, 549, 550, 267, 268, 269, 551, 366, 367, 368, 369, 261, 262, 263, 64, 67, 182, 183, 264, 265, 266, 270, 271, 272, 370, 371, 372, 373, 65, 552, 298, 299, 300, 301, 179, 302, 274, 275, 276, 277, 915, 916, 917, 918, 919, 920, 921, 922, 923, 924, 925, 926, 976, 977, 978, 979, 970, 971, 972, 973, 974, 975, 990, 991, 992, 993, 994, 987, 988, 989, 966, 967, 968, 969] (by decide +kernel) (by decide +kernel)
set_option maxRecDepth 20000 in
theorem gL_law_X10_act : GoodIn wsL_law (wsV RL 69 RX10 yX10_act wsX10_act) := goodIn_app (goodIn_of _ (by decide +kernel)) ggL_law_X10_act
set_option maxRecDepth 20000 in
theorem ggL_law_X11_act : GoodIn wsL_law wsX11_act := goodIn_r _ [556, 197, 199, 200, 201, 5, 202, 203, 204, 205, 206, 207, 208, 209, 210, 211, 212, 110, 111, 213, 214, 215, 216, 451, 452, 453, 454, 112, 282, 283, 284, 285, 397, 398, 399, 557, 558, 559, 560, 125, 116, 561, 562, 563, 564, 565, 566, 119, 400, 401, 402, 403, 408, 409, 410, 411, 241, 286, 287, 288, 289, 114, 115, 113, 412, 413, 414, 415, 117, 416, 417, 418, 419, 420, 421, 422, 567, 568, 569, 570, 431, 432, 433, 434, 571, 572, 573, 574, 307, 308, 309, 310, 242, 290, 291, 292, 293, 575, 576, 577, 578, 927, 928, 929, 930, 931, 932, 933, 934, 935, 936, 937, 938, 939, 940, 941, 942, 943, 944, 945, 946, 947, 948, 949, 950, 951, 952, 953, 954, 955, 956, 957, 958, 959, 960, 961, 962, 963, 964, 965] (by decide +kernel) (by decide +kernel)
set_option maxRecDepth 20000 in
theorem gL_law_X11_act : GoodIn wsL_law (wsV RL 73 RX11 yX11_act wsX11_act) := goodIn_app (goodIn_of _ (by decide +kernel)) ggL_law_X11_act
set_option maxRecDepth 20000 in
theorem ggL_law_X10_picture : GoodIn wsL_law wsX10_picture := goodIn_r _ [582, 25, 139, 45, 583, 584, 585, 143, 144, 2, 145, 586, 587, 588, 44, 589, 95, 590, 591, 592, 593, 594, 595, 596, 597, 598, 599, 600, 93, 601, 267, 268, 269, 602, 94, 603, 261, 262, 24, 263, 64, 67, 182, 183, 264, 265, 266, 270, 271, 272, 604, 605, 606, 607, 608, 385, 386, 609, 610, 611, 612, 613, 274, 275, 276, 65, 277, 614, 615, 616, 617, 96, 915, 916, 917, 918, 919, 920, 921, 922, 923, 924, 925, 926, 976, 977, 978, 979, 995, 996, 997, 998, 999, 1000, 970, 971, 972, 973, 974, 975] (by decide +kernel) (by decide +kernel)
set_option maxRecDepth 20000 in
theorem gL_law_X10_picture : GoodIn wsL_law (wsV RL 74 RX10 yX10_picture wsX10_picture) := goodIn_app (goodIn_of _ (by decide +kernel)) ggL_law_X10_picture
set_option maxRecDepth 20000 in
theorem ggL_law_X11_picture : GoodIn wsL_law wsX11_picture := goodIn_r _ [621, 199, 622, 126, 203, 204, 5, 205, 623, 624, 625, 626, 627, 628, 119, 629, 630, 631, 632, 116, 241, 633, 634, 635, 636, 286, 287, 288, 289, 114, 115, 113, 420, 421, 422, 637, 638, 639, 640, 557, 558, 559, 560, 125, 431, 432, 433, 434, 307, 308, 309, 310, 242, 290, 291, 292, 293, 117, 575, 576, 577, 578, 282, 283, 284, 285, 927, 928, 929, 930, 931, 932, 933, 934, 935, 936, 937, 938, 939, 940, 941, 942, 943, 944, 945, 946, 947, 948, 949, 950, 951, 952, 953, 954, 955, 956, 957, 958, 959, 960, 961, 962, 963, 964, 965] (by decide +kernel) (by decide +kernel)
set_option maxRecDepth 20000 in
theorem gL_law_X11_picture : GoodIn wsL_law (wsV RL 77 RX11 yX11_picture wsX11_picture) := goodIn_app (goodIn_of _ (by decide +kernel)) ggL_law_X11_picture
set_option maxRecDepth 20000 in
theorem ggL_law_X10_split : GoodIn wsL_law wsX10_split := goodIn_r _ [644, 136, 13, 37, 49, 25, 645, 646, 140, 141, 2, 142, 143, 144, 145, 146, 147, 148, 439, 440, 441, 442, 139, 345, 137, 149, 150, 151, 15, 152, 153, 154, 155, 156, 157, 158, 159, 160, 161, 162, 163, 256, 257, 258, 24, 259, 181, 346, 347, 348, 349, 350, 351, 36, 352, 353, 83, 84, 443, 444, 445, 446, 647, 648, 649, 48, 650, 651, 101, 100, 652, 653, 654, 655, 656, 657, 658, 102, 659, 360, 361, 362, 103, 660, 661, 662, 663, 664, 665, 666, 366, 367, 368, 369, 261, 262, 263, 64, 67, 182, 183, 264, 265, 266, 267, 268, 269, 270, 271, 272, 370, 371, 372, 373, 65, 667, 668, 669, 670, 671, 385, 386, 672, 673, 674, 675, 676, 677, 678, 679, 105, 680, 104, 681, 682, 683, 684, 915, 916, 917, 918, 919, 920, 921, 922, 923, 924, 925, 926, 1001, 1002, 1003, 1004, 1005, 1006, 1007, 976, 977, 978, 979, 987, 988, 989, 966, 967, 968, 969, 970, 971, 972, 973, 974, 975] (by decide +kernel) (by decide +kernel)
set_option maxRecDepth 20000 in
theorem gL_law_X10_split : GoodIn wsL_law (wsV RL 78 RX10 yX10_split wsX10_split) := goodIn_app (goodIn_of _ (by decide +kernel)) ggL_law_X10_split
set_option maxRecDepth 20000 in
theorem ggL_law_X11_split : GoodIn wsL_law wsX11_split := goodIn_r _ [688, 197, 199, 128, 200, 201, 5, 202, 203, 204, 205, 206, 207, 208, 209, 210, 211, 212, 110, 111, 213, 214, 215, 216, 451, 452, 453, 454, 112, 282, 283, 284, 285, 397, 398, 399, 455, 456, 457, 458, 689, 690, 691, 692, 127, 693, 694, 695, 696, 119, 557, 558, 559, 560, 125, 116, 400, 401, 402, 403, 408, 409, 410, 411, 241, 286, 287, 288, 289, 114, 115, 113, 412, 413, 414, 415, 117, 431, 432, 433, 434, 575, 576, 577, 578, 927, 928, 929, 930, 931, 932, 933, 934, 935, 936, 937, 938, 939, 940, 941, 942, 943, 944, 945, 946, 947, 948, 949, 950, 951, 952, 953, 954, 955, 956, 957, 958, 959, 960, 961, 962, 963, 964, 965] (by decide +kernel) (by decide +kernel)
set_option maxRecDepth 20000 in
theorem gL_law_X11_split : GoodIn wsL_law (wsV RL 81 RX11 yX11_split wsX11_split) := goodIn_app (goodIn_of _ (by decide +kernel)) ggL_law_X11_split
set_option maxRecDepth 20000 in
theorem ggL_law_X10_crew : GoodIn wsL_law wsX10_crew := goodIn_r _ [700, 136, 13, 41, 25, 37, 534, 140, 141, 2, 142, 143, 144, 145, 146, 147, 148, 439, 440, 441, 442, 139, 345, 137, 149, 150, 151, 15, 152, 153, 154, 155, 156, 157, 158, 159, 160, 161, 162, 163, 256, 257, 258, 24, 259, 181, 346, 347, 348, 349, 350, 351, 36, 352, 353, 83, 84, 537, 538, 539, 40, 540, 541, 542, 543, 544, 545, 88, 546, 360, 361, 362, 89, 547, 548, 549, 550, 267, 268, 269, 551, 366, 367, 368, 369, 261, 262, 263, 64, 67, 182, 183, 264, 265, 266, 270, 271, 272, 370, 371, 372, 373, 65, 552, 915, 916, 917, 918, 919, 920, 921, 922, 923, 924, 925, 926, 990, 991, 992, 993, 994, 976, 977, 978, 979, 987, 988, 989, 966, 967, 968, 969, 970, 971, 972, 973, 974, 975] (by decide +kernel) (by decide +kernel)
set_option maxRecDepth 20000 in
theorem gL_law_X10_crew : GoodIn wsL_law (wsV RL 82 RX10 yX10_crew wsX10_crew) := goodIn_app (goodIn_of _ (by decide +kernel)) ggL_law_X10_crew
set_option maxRecDepth 20000 in
theorem ggL_law_X11_crew : GoodIn wsL_law wsX11_crew := goodIn_r _ [704, 197, 199, 241, 200, 201, 5, 202, 203, 204, 205, 206, 207, 208, 209, 210, 211, 212, 110, 111, 213, 214, 215, 216, 451, 452, 453, 454, 112, 282, 283, 284, 285, 397, 398, 399, 557, 558, 559, 560, 125, 116, 561, 562, 563, 564, 565, 566, 119, 400, 401, 402, 403, 408, 409, 410, 411, 286, 287, 288, 289, 114, 115, 113, 412, 413, 414, 415, 117, 416, 417, 418, 419, 420, 421, 422, 567, 568, 569, 570, 431, 432, 433, 434, 575, 576, 577, 578, 927, 928, 929, 930, 931, 932, 933, 934, 935, 936, 937, 938, 939, 940, 941, 942, 943, 944, 945, 946, 947, 948, 949, 950, 951, 952, 953, 954, 955, 956, 957, 958, 959, 960, 961, 962, 963, 964, 965] (by decide +kernel) (by decide +kernel)
set_option maxRecDepth 20000 in
theorem gL_law_X11_crew : GoodIn wsL_law (wsV RL 85 RX11 yX11_crew wsX11_crew) := goodIn_app (goodIn_of _ (by decide +kernel)) ggL_law_X11_crew
set_option maxRecDepth 20000 in
theorem ggL_law_X10_balance : GoodIn wsL_law wsX10_balance := goodIn_r _ [708, 25, 256, 257, 258, 24, 259, 181, 463, 464, 2, 465, 143, 144, 145, 709, 710, 711, 712, 67, 183, 180, 713, 385, 268, 386, 378, 267, 269, 64, 182, 264, 265, 266, 270, 271, 272, 915, 916, 917, 918, 919, 920, 921, 922, 923, 924, 925, 926, 976, 977, 978, 979, 970, 971, 972, 973, 974, 975] (by decide +kernel) (by decide +kernel)
set_option maxRecDepth 20000 in
theorem gL_law_X10_balance : GoodIn wsL_law (wsV RL 86 RX10 yX10_balance wsX10_balance) := goodIn_app (goodIn_of _ (by decide +kernel)) ggL_law_X10_balance
set_option maxRecDepth 20000 in
theorem ggL_law_X11_balance : GoodIn wsL_law wsX11_balance := goodIn_r _ [717, 115, 243, 282, 283, 284, 5, 285, 199, 397, 398, 399, 203, 204, 205, 286, 287, 288, 289, 114, 113, 420, 421, 422, 927, 928, 929, 930, 931, 932, 933, 934, 935, 936, 937, 938, 939, 940, 941, 942, 943, 944, 945, 946, 947, 948, 949, 950, 951, 952, 953, 954, 955, 956, 957, 958, 959, 960, 961, 962, 963, 964, 965] (by decide +kernel) (by decide +kernel)
set_option maxRecDepth 20000 in
theorem gL_law_X11_balance : GoodIn wsL_law (wsV RL 89 RX11 yX11_balance wsX11_balance) := goodIn_app (goodIn_of _ (by decide +kernel)) ggL_law_X11_balance
set_option maxRecDepth 20000 in
theorem ggL_law_X10_reading : GoodIn wsL_law wsX10_reading := goodIn_r _ [721, 25, 33, 138, 256, 257, 258, 24, 259, 181, 143, 144, 2, 145, 722, 723, 724, 32, 725, 726, 77, 78, 79, 915, 916, 917, 918, 919, 920, 921, 922, 923, 924, 925, 926, 983, 984, 985, 986, 976, 977, 978, 979] (by decide +kernel) (by decide +kernel)
set_option maxRecDepth 20000 in
theorem gL_law_X10_reading : GoodIn wsL_law (wsV RL 90 RX10 yX10_reading wsX10_reading) := goodIn_app (goodIn_of _ (by decide +kernel)) ggL_law_X10_reading
set_option maxRecDepth 20000 in
theorem ggL_law_X11_reading : GoodIn wsL_law wsX11_reading := goodIn_r _ [730, 245, 129, 130, 131, 282, 283, 284, 5, 285, 199, 203, 204, 205, 927, 928, 929, 930, 931, 932, 933, 934, 935, 936, 937, 938, 939, 940, 941, 942, 943, 944, 945, 946, 947, 948, 949, 950, 951, 952, 953, 954, 955, 956, 957, 958, 959, 960, 961, 962, 963, 964, 965] (by decide +kernel) (by decide +kernel)
set_option maxRecDepth 20000 in
theorem gL_law_X11_reading : GoodIn wsL_law (wsV RL 94 RX11 yX11_reading wsX11_reading) := goodIn_app (goodIn_of _ (by decide +kernel)) ggL_law_X11_reading
set_option maxRecDepth 20000 in
theorem ggL_law_X10_back : GoodIn wsL_law wsX10_back := goodIn_r _ [734, 33, 138, 143, 144, 2, 145, 915, 916, 917, 918, 919, 920, 921, 922, 923, 924, 925, 926, 983, 984, 985, 986] (by decide +kernel) (by decide +kernel)
set_option maxRecDepth 20000 in
theorem gL_law_X10_back : GoodIn wsL_law (wsV RL 95 RX10 yX10_back wsX10_back) := goodIn_app (goodIn_of _ (by decide +kernel)) ggL_law_X10_back
set_option maxRecDepth 20000 in
theorem ggL_law_X11_back : GoodIn wsL_law wsX11_back := goodIn_r _ [738, 245, 203, 204, 5, 205, 927, 928, 929, 930, 931, 932, 933, 934, 935, 936, 937, 938, 939, 940, 941, 942, 943, 944, 945, 946, 947, 948, 949, 950, 951, 952, 953, 954, 955, 956, 957, 958, 959, 960, 961, 962, 963, 964, 965] (by decide +kernel) (by decide +kernel)
set_option maxRecDepth 20000 in
theorem gL_law_X11_back : GoodIn wsL_law (wsV RL 98 RX11 yX11_back wsX11_back) := goodIn_app (goodIn_of _ (by decide +kernel)) ggL_law_X11_back
set_option maxRecDepth 20000 in
theorem ggL_law_X10_loads : GoodIn wsL_law wsX10_loads := goodIn_r _ [742, 25, 250, 251, 253, 33, 256, 257, 258, 24, 259, 181, 743, 264, 2, 265, 266, 267, 268, 269, 270, 271, 272, 744, 745, 746, 32, 747, 726, 77, 78, 79, 748, 261, 262, 263, 64, 67, 182, 183, 915, 916, 917, 918, 919, 920, 921, 922, 923, 924, 925, 926, 976, 977, 978, 979, 970, 971, 972, 973, 974, 975, 983, 984, 985, 986] (by decide +kernel) (by decide +kernel)
set_option maxRecDepth 20000 in
theorem gL_law_X10_loads : GoodIn wsL_law (wsV RL 99 RX10 yX10_loads wsX10_loads) := goodIn_app (goodIn_of _ (by decide +kernel)) ggL_law_X10_loads
set_option maxRecDepth 20000 in
theorem ggL_law_X11_loads : GoodIn wsL_law wsX11_loads := goodIn_r _ [752, 114, 282, 283, 284, 5, 285, 199, 753, 754, 755, 756, 245, 129, 130, 131, 286, 287, 288, 289, 115, 113, 927, 928, 929, 930, 931, 932, 933, 934, 935, 936, 937, 938, 939, 940, 941, 942, 943, 944, 945, 946, 947, 948, 949, 950, 951, 952, 953, 954, 955, 956, 957, 958, 959, 960, 961, 962, 963, 964, 965] (by decide +kernel) (by decide +kernel)
set_option maxRecDepth 20000 in
theorem gL_law_X11_loads : GoodIn wsL_law (wsV RL 102 RX11 yX11_loads wsX11_loads) := goodIn_app (goodIn_of _ (by decide +kernel)) ggL_law_X11_loads
set_option maxRecDepth 20000 in
theorem ggL_law_X10_weights : GoodIn wsL_law wsX10_weights := goodIn_r _ [760, 25, 250, 251, 252, 33, 256, 257, 258, 24, 259, 181, 743, 264, 2, 265, 266, 267, 268, 269, 270, 271, 272, 744, 745, 746, 32, 747, 726, 77, 78, 79, 748, 261, 262, 263, 64, 67, 182, 183, 915, 916, 917, 918, 919, 920, 921, 922, 923, 924, 925, 926, 976, 977, 978, 979, 970, 971, 972, 973, 974, 975, 983, 984, 985, 986] (by decide +kernel) (by decide +kernel)
set_option maxRecDepth 20000 in
theorem gL_law_X10_weights : GoodIn wsL_law (wsV RL 103 RX10 yX10_weights wsX10_weights) := goodIn_app (goodIn_of _ (by decide +kernel)) ggL_law_X10_weights
set_option maxRecDepth 20000 in
theorem ggL_law_X11_weights : GoodIn wsL_law wsX11_weights := goodIn_r _ [764, 115, 282, 283, 284, 5, 285, 199, 753, 754, 755, 756, 245, 129, 130, 131, 286, 287, 288, 289, 114, 113, 927, 928, 929, 930, 931, 932, 933, 934, 935, 936, 937, 938, 939, 940, 941, 942, 943, 944, 945, 946, 947, 948, 949, 950, 951, 952, 953, 954, 955, 956, 957, 958, 959, 960, 961, 962, 963, 964, 965] (by decide +kernel) (by decide +kernel)
set_option maxRecDepth 20000 in
theorem gL_law_X11_weights : GoodIn wsL_law (wsV RL 106 RX11 yX11_weights wsX11_weights) := goodIn_app (goodIn_of _ (by decide +kernel)) ggL_law_X11_weights
set_option maxRecDepth 20000 in
theorem ggL_law_X10_kinds : GoodIn wsL_law wsX10_kinds := goodIn_r _ [768, 25, 251, 252, 253, 33, 256, 257, 258, 24, 259, 181, 743, 264, 2, 265, 266, 267, 268, 269, 270, 271, 272, 744, 745, 746, 32, 747, 726, 77, 78, 79, 748, 261, 262, 263, 64, 67, 182, 183, 915, 916, 917, 918, 919, 920, 921, 922, 923, 924, 925, 926, 976, 977, 978, 979, 970, 971, 972, 973, 974, 975, 983, 984, 985, 986] (by decide +kernel) (by decide +kernel)
set_option maxRecDepth 20000 in
theorem gL_law_X10_kinds : GoodIn wsL_law (wsV RL 107 RX10 yX10_kinds wsX10_kinds) := goodIn_app (goodIn_of _ (by decide +kernel)) ggL_law_X10_kinds
set_option maxRecDepth 20000 in
theorem ggL_law_X11_kinds : GoodIn wsL_law wsX11_kinds := goodIn_r _ [772, 113, 282, 283, 284, 5, 285, 199, 753, 754, 755, 756, 245, 129, 130, 131, 286, 287, 288, 289, 114, 115, 927, 928, 929, 930, 931, 932, 933, 934, 935, 936, 937, 938, 939, 940, 941, 942, 943, 944, 945, 946, 947, 948, 949, 950, 951, 952, 953, 954, 955, 956, 957, 958, 959, 960, 961, 962, 963, 964, 965] (by decide +kernel) (by decide +kernel)
set_option maxRecDepth 20000 in
theorem gL_law_X11_kinds : GoodIn wsL_law (wsV RL 110 RX11 yX11_kinds wsX11_kinds) := goodIn_app (goodIn_of _ (by decide +kernel)) ggL_law_X11_kinds
set_option maxRecDepth 20000 in
theorem ggL_law_X10_odds : GoodIn wsL_law wsX10_odds := goodIn_r _ [776, 25, 777, 256, 257, 258, 24, 259, 181, 143, 144, 2, 145, 778, 779, 780, 781, 67, 179, 302, 274, 275, 276, 65, 277, 271, 268, 272, 915, 916, 917, 918, 919, 920, 921, 922, 923, 924, 925, 926, 976, 977, 978, 979, 970, 971, 972, 973, 974, 975] (by decide +kernel) (by decide +kernel)
set_option maxRecDepth 20000 in
theorem gL_law_X10_odds : GoodIn wsL_law (wsV RL 111 RX10 yX10_odds wsX10_odds) := goodIn_app (goodIn_of _ (by decide +kernel)) ggL_law_X10_odds
set_option maxRecDepth 20000 in
theorem ggL_law_X11_odds : GoodIn wsL_law wsX11_odds := goodIn_r _ [785, 786, 199, 116, 282, 283, 284, 5, 285, 203, 204, 205, 557, 558, 559, 560, 125, 307, 308, 309, 310, 242, 290, 291, 292, 293, 117, 575, 576, 577, 578, 787, 788, 789, 927, 928, 929, 930, 931, 932, 933, 934, 935, 936, 937, 938, 939, 940, 941, 942, 943, 944, 945, 946, 947, 948, 949, 950, 951, 952, 953, 954, 955, 956, 957, 958, 959, 960, 961, 962, 963, 964, 965] (by decide +kernel) (by decide +kernel)
set_option maxRecDepth 20000 in
theorem gL_law_X11_odds : GoodIn wsL_law (wsV RL 115 RX11 yX11_odds wsX11_odds) := goodIn_app (goodIn_of _ (by decide +kernel)) ggL_law_X11_odds
set_option maxRecDepth 20000 in
theorem ggL_law_X10_sheet : GoodIn wsL_law wsX10_sheet := goodIn_r _ [793, 136, 13, 140, 141, 2, 142, 143, 144, 145, 146, 147, 148, 160, 161, 162, 163, 794, 795, 796, 15, 797, 153, 154, 159, 54, 915, 916, 917, 918, 919, 920, 921, 922, 923, 924, 925, 926, 966, 967, 968, 969] (by decide +kernel) (by decide +kernel)
set_option maxRecDepth 20000 in
theorem gL_law_X10_sheet : GoodIn wsL_law (wsV RL 116 RX10 yX10_sheet wsX10_sheet) := goodIn_app (goodIn_of _ (by decide +kernel)) ggL_law_X10_sheet
set_option maxRecDepth 20000 in
theorem ggL_law_X11_sheet : GoodIn wsL_law wsX11_sheet := goodIn_r _ [801, 197, 110, 111, 112, 200, 201, 5, 202, 203, 204, 205, 206, 207, 208, 213, 214, 215, 216, 927, 928, 929, 930, 931, 932, 933, 934, 935, 936, 937, 938, 939, 940, 941, 942, 943, 944, 945, 946, 947, 948, 949, 950, 951, 952, 953, 954, 955, 956, 957, 958, 959, 960, 961, 962, 963, 964, 965] (by decide +kernel) (by decide +kernel)
set_option maxRecDepth 20000 in
theorem gL_law_X11_sheet : GoodIn wsL_law (wsV RL 119 RX11 yX11_sheet wsX11_sheet) := goodIn_app (goodIn_of _ (by decide +kernel)) ggL_law_X11_sheet
set_option maxRecDepth 20000 in
theorem ggL_law_X10_lose : GoodIn wsL_law wsX10_lose := goodIn_r _ [805, 13, 806, 140, 141, 2, 142, 143, 144, 145, 915, 916, 917, 918, 919, 920, 921, 922, 923, 924, 925, 926, 966, 967, 968, 969] (by decide +kernel) (by decide +kernel)
set_option maxRecDepth 20000 in
theorem gL_law_X10_lose : GoodIn wsL_law (wsV RL 120 RX10 yX10_lose wsX10_lose) := goodIn_app (goodIn_of _ (by decide +kernel)) ggL_law_X10_lose
set_option maxRecDepth 20000 in
theorem ggL_law_X11_lose : GoodIn wsL_law wsX11_lose := goodIn_r _ [810, 110, 200, 201, 5, 202, 203, 204, 205, 927, 928, 929, 930, 931, 932, 933, 934, 935, 936, 937, 938, 939, 940, 941, 942, 943, 944, 945, 946, 947, 948, 949, 950, 951, 952, 953, 954, 955, 956, 957, 958, 959, 960, 961, 962, 963, 964, 965] (by decide +kernel) (by decide +kernel)
set_option maxRecDepth 20000 in
theorem gL_law_X11_lose : GoodIn wsL_law (wsV RL 123 RX11 yX11_lose wsX11_lose) := goodIn_app (goodIn_of _ (by decide +kernel)) ggL_law_X11_lose
set_option maxRecDepth 20000 in
theorem ggL_law_X10_put : GoodIn wsL_law wsX10_put := goodIn_r _ [814, 136, 13, 815, 140, 141, 2, 142, 143, 144, 145, 149, 150, 151, 15, 152, 153, 154, 155, 156, 157, 158, 159, 160, 161, 162, 163, 816, 817, 818, 819, 54, 915, 916, 917, 918, 919, 920, 921, 922, 923, 924, 925, 926, 966, 967, 968, 969] (by decide +kernel) (by decide +kernel)
set_option maxRecDepth 20000 in
theorem gL_law_X10_put : GoodIn wsL_law (wsV RL 124 RX10 yX10_put wsX10_put) := goodIn_app (goodIn_of _ (by decide +kernel)) ggL_law_X10_put
set_option maxRecDepth 20000 in
theorem ggL_law_X11_put : GoodIn wsL_law wsX11_put := goodIn_r _ [823, 197, 110, 111, 112, 200, 201, 5, 202, 203, 204, 205, 213, 214, 215, 216, 927, 928, 929, 930, 931, 932, 933, 934, 935, 936, 937, 938, 939, 940, 941, 942, 943, 944, 945, 946, 947, 948, 949, 950, 951, 952, 953, 954, 955, 956, 957, 958, 959, 960, 961, 962, 963, 964, 965] (by decide +kernel) (by decide +kernel)
set_option maxRecDepth 20000 in
theorem gL_law_X11_put : GoodIn wsL_law (wsV RL 127 RX11 yX11_put wsX11_put) := goodIn_app (goodIn_of _ (by decide +kernel)) ggL_law_X11_put
set_option maxRecDepth 20000 in
theorem ggL_law_X10_cell : GoodIn wsL_law wsX10_cell := goodIn_r _ [827, 136, 777, 13, 137, 140, 141, 2, 142, 143, 144, 145, 146, 147, 148, 149, 150, 151, 15, 152, 153, 154, 155, 156, 157, 158, 159, 915, 916, 917, 918, 919, 920, 921, 922, 923, 924, 925, 926, 966, 967, 968, 969] (by decide +kernel) (by decide +kernel)
set_option maxRecDepth 20000 in
theorem gL_law_X10_cell : GoodIn wsL_law (wsV RL 128 RX10 yX10_cell wsX10_cell) := goodIn_app (goodIn_of _ (by decide +kernel)) ggL_law_X10_cell
set_option maxRecDepth 20000 in
theorem ggL_law_X11_cell : GoodIn wsL_law wsX11_cell := goodIn_r _ [831, 197, 786, 110, 111, 112, 200, 201, 5, 202, 203, 204, 205, 206, 207, 208, 832, 833, 834, 835, 927, 928, 929, 930, 931, 932, 933, 934, 935, 936, 937, 938, 939, 940, 941, 942, 943, 944, 945, 946, 947, 948, 949, 950, 951, 952, 953, 954, 955, 956, 957, 958, 959, 960, 961, 962, 963, 964, 965] (by decide +kernel) (by decide +kernel)
set_option maxRecDepth 20000 in
theorem gL_law_X11_cell : GoodIn wsL_law (wsV RL 132 RX11 yX11_cell wsX11_cell) := goodIn_app (goodIn_of _ (by decide +kernel)) ggL_law_X11_cell
set_option maxRecDepth 20000 in
theorem ggL_law_X10_copy : GoodIn wsL_law wsX10_copy := goodIn_r _ [839, 136, 13, 806, 815, 137, 359, 360, 361, 362, 140, 141, 2, 142, 143, 144, 145, 160, 161, 162, 163, 840, 156, 157, 15, 158, 159, 915, 916, 917, 918, 919, 920, 921, 922, 923, 924, 925, 926, 966, 967, 968, 969] (by decide +kernel) (by decide +kernel)
set_option maxRecDepth 20000 in
theorem gL_law_X10_copy : GoodIn wsL_law (wsV RL 133 RX10 yX10_copy wsX10_copy) := goodIn_app (goodIn_of _ (by decide +kernel)) ggL_law_X10_copy
set_option maxRecDepth 20000 in
theorem ggL_law_X11_copy : GoodIn wsL_law wsX11_copy := goodIn_r _ [844, 197, 110, 111, 112, 200, 201, 5, 202, 203, 204, 205, 213, 214, 215, 216, 927, 928, 929, 930, 931, 932, 933, 934, 935, 936, 937, 938, 939, 940, 941, 942, 943, 944, 945, 946, 947, 948, 949, 950, 951, 952, 953, 954, 955, 956, 957, 958, 959, 960, 961, 962, 963, 964, 965] (by decide +kernel) (by decide +kernel)
set_option maxRecDepth 20000 in
theorem gL_law_X11_copy : GoodIn wsL_law (wsV RL 136 RX11 yX11_copy wsX11_copy) := goodIn_app (goodIn_of _ (by decide +kernel)) ggL_law_X11_copy
set_option maxRecDepth 20000 in
theorem ggL_law_X10_tell : GoodIn wsL_law wsX10_tell := goodIn_r _ [848, 25, 251, 252, 250, 256, 257, 258, 24, 259, 181, 849, 850, 851, 2, 852, 853, 854, 855, 856, 857, 858, 859, 860, 861, 862, 863, 864, 865, 915, 916, 917, 918, 919, 920, 921, 922, 923, 924, 925, 926, 976, 977, 978, 979, 970, 971, 972, 973, 974, 975] (by decide +kernel) (by decide +kernel)
set_option maxRecDepth 20000 in
theorem gL_law_X10_tell : GoodIn wsL_law (wsV RL 137 RX10 yX10_tell wsX10_tell) := goodIn_app (goodIn_of _ (by decide +kernel)) ggL_law_X10_tell
set_option maxRecDepth 20000 in
theorem ggL_law_X11_tell : GoodIn wsL_law wsX11_tell := goodIn_r _ [869, 114, 113, 282, 283, 284, 5, 285, 199, 870, 871, 872, 873, 874, 927, 928, 929, 930, 931, 932, 933, 934, 935, 936, 937, 938, 939, 940, 941, 942, 943, 944, 945, 946, 947, 948, 949, 950, 951, 952, 953, 954, 955, 956, 957, 958, 959, 960, 961, 962, 963, 964, 965] (by decide +kernel) (by decide +kernel)
set_option maxRecDepth 20000 in
theorem gL_law_X11_tell : GoodIn wsL_law (wsV RL 140 RX11 yX11_tell wsX11_tell) := goodIn_app (goodIn_of _ (by decide +kernel)) ggL_law_X11_tell
set_option maxRecDepth 20000 in
theorem ggL_law_X10_call : GoodIn wsL_law wsX10_call := goodIn_r _ [878, 25, 250, 256, 257, 258, 24, 259, 181, 853, 854, 855, 2, 856, 857, 915, 916, 917, 918, 919, 920, 921, 922, 923, 924, 925, 926, 976, 977, 978, 979] (by decide +kernel) (by decide +kernel)
set_option maxRecDepth 20000 in
theorem gL_law_X10_call : GoodIn wsL_law (wsV RL 141 RX10 yX10_call wsX10_call) := goodIn_app (goodIn_of _ (by decide +kernel)) ggL_law_X10_call
set_option maxRecDepth 20000 in
theorem ggL_law_X11_call : GoodIn wsL_law wsX11_call := goodIn_r _ [882, 113, 282, 283, 284, 5, 285, 199, 870, 871, 872, 873, 874, 927, 928, 929, 930, 931, 932, 933, 934, 935, 936, 937, 938, 939, 940, 941, 942, 943, 944, 945, 946, 947, 948, 949, 950, 951, 952, 953, 954, 955, 956, 957, 958, 959, 960, 961, 962, 963, 964, 965] (by decide +kernel) (by decide +kernel)
set_option maxRecDepth 20000 in
theorem gL_law_X11_call : GoodIn wsL_law (wsV RL 144 RX11 yX11_call wsX11_call) := goodIn_app (goodIn_of _ (by decide +kernel)) ggL_law_X11_call
set_option maxRecDepth 20000 in
theorem ggL_law_X10_as : GoodIn wsL_law wsX10_as := goodIn_r _ [886, 136, 25, 250, 256, 257, 258, 24, 259, 181, 143, 144, 2, 145, 160, 161, 162, 163, 915, 916, 917, 918, 919, 920, 921, 922, 923, 924, 925, 926, 976, 977, 978, 979] (by decide +kernel) (by decide +kernel)
set_option maxRecDepth 20000 in
theorem gL_law_X10_as : GoodIn wsL_law (wsV RL 145 RX10 yX10_as wsX10_as) := goodIn_app (goodIn_of _ (by decide +kernel)) ggL_law_X10_as
set_option maxRecDepth 20000 in
theorem ggL_law_X11_as : GoodIn wsL_law wsX11_as := goodIn_r _ [890, 197, 113, 282, 283, 284, 5, 285, 199, 203, 204, 205, 213, 214, 215, 216, 927, 928, 929, 930, 931, 932, 933, 934, 935, 936, 937, 938, 939, 940, 941, 942, 943, 944, 945, 946, 947, 948, 949, 950, 951, 952, 953, 954, 955, 956, 957, 958, 959, 960, 961, 962, 963, 964, 965] (by decide +kernel) (by decide +kernel)
set_option maxRecDepth 20000 in
theorem gL_law_X11_as : GoodIn wsL_law (wsV RL 148 RX11 yX11_as wsX11_as) := goodIn_app (goodIn_of _ (by decide +kernel)) ggL_law_X11_as
set_option maxRecDepth 20000 in
theorem ggL_law_X10_trace : GoodIn wsL_law wsX10_trace := goodIn_r _ [894, 857, 915, 916, 917, 918, 919, 920, 921, 922, 923, 924, 925, 926] (by decide +kernel) (by decide +kernel)
set_option maxRecDepth 20000 in
theorem gL_law_X10_trace : GoodIn wsL_law (wsV RL 149 RX10 yX10_trace wsX10_trace) := goodIn_app (goodIn_of _ (by decide +kernel)) ggL_law_X10_trace
set_option maxRecDepth 20000 in
theorem ggL_law_X11_trace : GoodIn wsL_law wsX11_trace := goodIn_r _ [898, 874, 927, 928, 929, 930, 931, 932, 933, 934, 935, 936, 937, 938, 939, 940, 941, 942, 943, 944, 945, 946, 947, 948, 949, 950, 951, 952, 953, 954, 955, 956, 957, 958, 959, 960, 961, 962, 963, 964, 965] (by decide +kernel) (by decide +kernel)
set_option maxRecDepth 20000 in
theorem gL_law_X11_trace : GoodIn wsL_law (wsV RL 152 RX11 yX11_trace wsX11_trace) := goodIn_app (goodIn_of _ (by decide +kernel)) ggL_law_X11_trace
set_option maxRecDepth 20000 in
theorem ggL_law_X10_fault : GoodIn wsL_law wsX10_fault := goodIn_r _ [902, 136, 915, 916, 917, 918, 919, 920, 921, 922, 923, 924, 925, 926] (by decide +kernel) (by decide +kernel)
set_option maxRecDepth 20000 in
theorem gL_law_X10_fault : GoodIn wsL_law (wsV RL 153 RX10 yX10_fault wsX10_fault) := goodIn_app (goodIn_of _ (by decide +kernel)) ggL_law_X10_fault
set_option maxRecDepth 20000 in
theorem ggL_law_X11_fault : GoodIn wsL_law wsX11_fault := goodIn_r _ [906, 197, 927, 928, 929, 930, 931, 932, 933, 934, 935, 936, 937, 938, 939, 940, 941, 942, 943, 944, 945, 946, 947, 948, 949, 950, 951, 952, 953, 954, 955, 956, 957, 958, 959, 960, 961, 962, 963, 964, 965] (by decide +kernel) (by decide +kernel)
set_option maxRecDepth 20000 in
theorem gL_law_X11_fault : GoodIn wsL_law (wsV RL 156 RX11 yX11_fault wsX11_fault) := goodIn_app (goodIn_of _ (by decide +kernel)) ggL_law_X11_fault
set_option maxRecDepth 20000 in
theorem ggL_law_X10_many : GoodIn wsL_law wsX10_many := goodIn_r _ [910, 25, 139, 251, 327, 336, 482, 29, 491, 33, 138, 915, 916, 917, 918, 919, 920, 921, 922, 923, 924, 925, 926, 976, 977, 978, 979, 970, 971, 972, 973, 974, 975, 980, 981, 982, 983, 984, 985, 986] (by decide +kernel) (by decide +kernel)
set_option maxRecDepth 20000 in
theorem gL_law_X10_many : GoodIn wsL_law (wsV RL 157 RX10 yX10_many wsX10_many) := goodIn_app (goodIn_of _ (by decide +kernel)) ggL_law_X10_many
set_option maxRecDepth 20000 in
theorem ggL_law_X11_many : GoodIn wsL_law wsX11_many := goodIn_r _ [914, 199, 241, 242, 243, 244, 245, 927, 928, 929, 930, 931, 932, 933, 934, 935, 936, 937, 938, 939, 940, 941, 942, 943, 944, 945, 946, 947, 948, 949, 950, 951, 952, 953, 954, 955, 956, 957, 958, 959, 960, 961, 962, 963, 964, 965] (by decide +kernel) (by decide +kernel)
set_option maxRecDepth 20000 in
theorem gL_law_X11_many : GoodIn wsL_law (wsV RL 160 RX11 yX11_many wsX11_many) := goodIn_app (goodIn_of _ (by decide +kernel)) ggL_law_X11_many
theorem dL_law_0 : decode cL_law 0 = .ok (.new 7, 3) := by decide +kernel
theorem dL_law_3 : decode cL_law 3 = .ok (.dup, 1) := by decide +kernel
theorem dL_law_4 : decode cL_law 4 = .ok (.invokespecial 9, 3) := by decide +kernel
theorem dL_law_7 : decode cL_law 7 = .ok (.astore_n 1, 1) := by decide +kernel
theorem dL_law_8 : decode cL_law 8 = .ok (.new 10, 3) := by decide +kernel
theorem dL_law_11 : decode cL_law 11 = .ok (.dup, 1) := by decide +kernel
theorem dL_law_12 : decode cL_law 12 = .ok (.invokespecial 12, 3) := by decide +kernel
theorem dL_law_15 : decode cL_law 15 = .ok (.astore_n 2, 1) := by decide +kernel
theorem dL_law_16 : decode cL_law 16 = .ok (.iconst 0, 1) := by decide +kernel
theorem dL_law_17 : decode cL_law 17 = .ok (.istore_n 3, 1) := by decide +kernel
theorem dL_law_18 : decode cL_law 18 = .ok (.iload_n 3, 1) := by decide +kernel
theorem dL_law_19 : decode cL_law 19 = .ok (.aload_n 0, 1) := by decide +kernel
theorem dL_law_20 : decode cL_law 20 = .ok (.arraylength, 1) := by decide +kernel
theorem dL_law_21 : decode cL_law 21 = .ok (.bipush 6, 2) := by decide +kernel
theorem dL_law_23 : decode cL_law 23 = .ok (.isub, 1) := by decide +kernel
theorem dL_law_24 : decode cL_law 24 = .ok (.if_icmp .gt 1307, 3) := by decide +kernel
theorem dL_law_27 : decode cL_law 27 = .ok (.aload_n 0, 1) := by decide +kernel
theorem dL_law_28 : decode cL_law 28 = .ok (.iload_n 3, 1) := by decide +kernel
theorem dL_law_29 : decode cL_law 29 = .ok (.iaload, 1) := by decide +kernel
theorem dL_law_30 : decode cL_law 30 = .ok (.bipush 63, 2) := by decide +kernel
theorem dL_law_32 : decode cL_law 32 = .ok (.iand, 1) := by decide +kernel
theorem dL_law_33 : decode cL_law 33 = .ok (.tableswitch 1292 0 34 #[155, 208, 241, 254, 277, 300, 323, 356, 409, 442, 475, 488, 511, 534, 597, 630, 693, 746, 779, 822, 845, 868, 891, 914, 948, 991, 1014, 1057, 1101, 1164, 1187, 1210, 1243, 1256, 1269], 155) := by decide +kernel
theorem dL_law_188 : decode cL_law 188 = .ok (.aload_n 1, 1) := by decide +kernel
theorem dL_law_189 : decode cL_law 189 = .ok (.aload_n 0, 1) := by decide +kernel
theorem dL_law_190 : decode cL_law 190 = .ok (.iload_n 3, 1) := by decide +kernel
theorem dL_law_191 : decode cL_law 191 = .ok (.iconst 1, 1) := by decide +kernel
theorem dL_law_192 : decode cL_law 192 = .ok (.iadd, 1) := by decide +kernel
theorem dL_law_193 : decode cL_law 193 = .ok (.iaload, 1) := by decide +kernel
theorem dL_law_194 : decode cL_law 194 = .ok (.aload_n 0, 1) := by decide +kernel
theorem dL_law_195 : decode cL_law 195 = .ok (.iload_n 3, 1) := by decide +kernel
theorem dL_law_196 : decode cL_law 196 = .ok (.iconst 2, 1) := by decide +kernel
theorem dL_law_197 : decode cL_law 197 = .ok (.iadd, 1) := by decide +kernel
theorem dL_law_198 : decode cL_law 198 = .ok (.iaload, 1) := by decide +kernel
theorem dL_law_199 : decode cL_law 199 = .ok (.aload_n 0, 1) := by decide +kernel
theorem dL_law_200 : decode cL_law 200 = .ok (.iload_n 3, 1) := by decide +kernel
theorem dL_law_201 : decode cL_law 201 = .ok (.iconst 3, 1) := by decide +kernel
theorem dL_law_202 : decode cL_law 202 = .ok (.iadd, 1) := by decide +kernel
theorem dL_law_203 : decode cL_law 203 = .ok (.iaload, 1) := by decide +kernel
theorem dL_law_204 : decode cL_law 204 = .ok (.aload_n 0, 1) := by decide +kernel
theorem dL_law_205 : decode cL_law 205 = .ok (.iload_n 3, 1) := by decide +kernel
theorem dL_law_206 : decode cL_law 206 = .ok (.iconst 4, 1) := by decide +kernel
theorem dL_law_207 : decode cL_law 207 = .ok (.iadd, 1) := by decide +kernel
theorem dL_law_208 : decode cL_law 208 = .ok (.iaload, 1) := by decide +kernel
theorem dL_law_209 : decode cL_law 209 = .ok (.invokevirtual 13, 3) := by decide +kernel
theorem dL_law_212 : decode cL_law 212 = .ok (.aload_n 2, 1) := by decide +kernel
theorem dL_law_213 : decode cL_law 213 = .ok (.aload_n 0, 1) := by decide +kernel
theorem dL_law_214 : decode cL_law 214 = .ok (.iload_n 3, 1) := by decide +kernel
theorem dL_law_215 : decode cL_law 215 = .ok (.iconst 1, 1) := by decide +kernel
theorem dL_law_216 : decode cL_law 216 = .ok (.iadd, 1) := by decide +kernel
theorem dL_law_217 : decode cL_law 217 = .ok (.iaload, 1) := by decide +kernel
theorem dL_law_218 : decode cL_law 218 = .ok (.aload_n 0, 1) := by decide +kernel
theorem dL_law_219 : decode cL_law 219 = .ok (.iload_n 3, 1) := by decide +kernel
theorem dL_law_220 : decode cL_law 220 = .ok (.iconst 2, 1) := by decide +kernel
theorem dL_law_221 : decode cL_law 221 = .ok (.iadd, 1) := by decide +kernel
theorem dL_law_222 : decode cL_law 222 = .ok (.iaload, 1) := by decide +kernel
theorem dL_law_223 : decode cL_law 223 = .ok (.aload_n 0, 1) := by decide +kernel
theorem dL_law_224 : decode cL_law 224 = .ok (.iload_n 3, 1) := by decide +kernel
theorem dL_law_225 : decode cL_law 225 = .ok (.iconst 3, 1) := by decide +kernel
theorem dL_law_226 : decode cL_law 226 = .ok (.iadd, 1) := by decide +kernel
theorem dL_law_227 : decode cL_law 227 = .ok (.iaload, 1) := by decide +kernel
theorem dL_law_228 : decode cL_law 228 = .ok (.aload_n 0, 1) := by decide +kernel
theorem dL_law_229 : decode cL_law 229 = .ok (.iload_n 3, 1) := by decide +kernel
theorem dL_law_230 : decode cL_law 230 = .ok (.iconst 4, 1) := by decide +kernel
theorem dL_law_231 : decode cL_law 231 = .ok (.iadd, 1) := by decide +kernel
theorem dL_law_232 : decode cL_law 232 = .ok (.iaload, 1) := by decide +kernel
theorem dL_law_233 : decode cL_law 233 = .ok (.invokevirtual 17, 3) := by decide +kernel
theorem dL_law_236 : decode cL_law 236 = .ok (.if_icmp .eq 1089, 3) := by decide +kernel
theorem dL_law_239 : decode cL_law 239 = .ok (.iconst 0, 1) := by decide +kernel
theorem dL_law_240 : decode cL_law 240 = .ok (.ireturn, 1) := by decide +kernel
theorem dL_law_241 : decode cL_law 241 = .ok (.aload_n 1, 1) := by decide +kernel
theorem dL_law_242 : decode cL_law 242 = .ok (.aload_n 0, 1) := by decide +kernel
theorem dL_law_243 : decode cL_law 243 = .ok (.iload_n 3, 1) := by decide +kernel
theorem dL_law_244 : decode cL_law 244 = .ok (.iconst 1, 1) := by decide +kernel
theorem dL_law_245 : decode cL_law 245 = .ok (.iadd, 1) := by decide +kernel
theorem dL_law_246 : decode cL_law 246 = .ok (.iaload, 1) := by decide +kernel
theorem dL_law_247 : decode cL_law 247 = .ok (.aload_n 0, 1) := by decide +kernel
theorem dL_law_248 : decode cL_law 248 = .ok (.iload_n 3, 1) := by decide +kernel
theorem dL_law_249 : decode cL_law 249 = .ok (.iconst 2, 1) := by decide +kernel
theorem dL_law_250 : decode cL_law 250 = .ok (.iadd, 1) := by decide +kernel
theorem dL_law_251 : decode cL_law 251 = .ok (.iaload, 1) := by decide +kernel
theorem dL_law_252 : decode cL_law 252 = .ok (.invokevirtual 18, 3) := by decide +kernel
theorem dL_law_255 : decode cL_law 255 = .ok (.aload_n 2, 1) := by decide +kernel
theorem dL_law_256 : decode cL_law 256 = .ok (.aload_n 0, 1) := by decide +kernel
theorem dL_law_257 : decode cL_law 257 = .ok (.iload_n 3, 1) := by decide +kernel
theorem dL_law_258 : decode cL_law 258 = .ok (.iconst 1, 1) := by decide +kernel
theorem dL_law_259 : decode cL_law 259 = .ok (.iadd, 1) := by decide +kernel
theorem dL_law_260 : decode cL_law 260 = .ok (.iaload, 1) := by decide +kernel
theorem dL_law_261 : decode cL_law 261 = .ok (.aload_n 0, 1) := by decide +kernel
theorem dL_law_262 : decode cL_law 262 = .ok (.iload_n 3, 1) := by decide +kernel
theorem dL_law_263 : decode cL_law 263 = .ok (.iconst 2, 1) := by decide +kernel
theorem dL_law_264 : decode cL_law 264 = .ok (.iadd, 1) := by decide +kernel
theorem dL_law_265 : decode cL_law 265 = .ok (.iaload, 1) := by decide +kernel
theorem dL_law_266 : decode cL_law 266 = .ok (.invokevirtual 22, 3) := by decide +kernel
theorem dL_law_269 : decode cL_law 269 = .ok (.if_icmp .eq 1056, 3) := by decide +kernel
theorem dL_law_272 : decode cL_law 272 = .ok (.iconst 0, 1) := by decide +kernel
theorem dL_law_273 : decode cL_law 273 = .ok (.ireturn, 1) := by decide +kernel
theorem dL_law_274 : decode cL_law 274 = .ok (.aload_n 1, 1) := by decide +kernel
theorem dL_law_275 : decode cL_law 275 = .ok (.invokevirtual 23, 3) := by decide +kernel
theorem dL_law_278 : decode cL_law 278 = .ok (.aload_n 2, 1) := by decide +kernel
theorem dL_law_279 : decode cL_law 279 = .ok (.invokevirtual 27, 3) := by decide +kernel
theorem dL_law_282 : decode cL_law 282 = .ok (.if_icmp .eq 1043, 3) := by decide +kernel
theorem dL_law_285 : decode cL_law 285 = .ok (.iconst 0, 1) := by decide +kernel
theorem dL_law_286 : decode cL_law 286 = .ok (.ireturn, 1) := by decide +kernel
theorem dL_law_287 : decode cL_law 287 = .ok (.aload_n 1, 1) := by decide +kernel
theorem dL_law_288 : decode cL_law 288 = .ok (.aload_n 0, 1) := by decide +kernel
theorem dL_law_289 : decode cL_law 289 = .ok (.iload_n 3, 1) := by decide +kernel
theorem dL_law_290 : decode cL_law 290 = .ok (.iconst 1, 1) := by decide +kernel
theorem dL_law_291 : decode cL_law 291 = .ok (.iadd, 1) := by decide +kernel
theorem dL_law_292 : decode cL_law 292 = .ok (.iaload, 1) := by decide +kernel
theorem dL_law_293 : decode cL_law 293 = .ok (.invokevirtual 28, 3) := by decide +kernel
theorem dL_law_296 : decode cL_law 296 = .ok (.aload_n 2, 1) := by decide +kernel
theorem dL_law_297 : decode cL_law 297 = .ok (.aload_n 0, 1) := by decide +kernel
