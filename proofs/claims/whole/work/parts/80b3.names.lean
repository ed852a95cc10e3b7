set_option maxRecDepth 20000 in
theorem ggL_law_X2_load : GoodIn wsL_law wsX2_load := goodIn_r _ [269, 15, 109, 110, 2, 111, 270, 271, 272, 14, 273, 76, 29, 33, 34, 233, 234, 235, 236, 274, 275, 276, 277, 30, 505, 506, 507, 508, 525, 526, 527, 528, 529, 530, 531, 532, 533, 534, 535, 536] (by decide +kernel) (by decide +kernel)
set_option maxRecDepth 20000 in
theorem gL_law_X2_load : GoodIn wsL_law (wsV RL 48 RX2 yX2_load wsX2_load) := goodIn_app (goodIn_of _ (by decide +kernel)) ggL_law_X2_load
set_option maxRecDepth 20000 in
theorem ggL_law_X3_load : GoodIn wsL_law wsX3_load := goodIn_r _ [281, 57, 81, 54, 60, 61, 55, 142, 143, 5, 144, 242, 243, 244, 245, 246, 247, 248, 249, 181, 182, 183, 184, 185, 186, 187, 188, 53, 250, 251, 252, 253, 509, 510, 511, 512, 513, 514, 515, 516, 517, 518, 519, 520, 521, 522, 523, 524] (by decide +kernel) (by decide +kernel)
set_option maxRecDepth 20000 in
theorem gL_law_X3_load : GoodIn wsL_law (wsV RL 52 RX3 yX3_load wsX3_load) := goodIn_app (goodIn_of _ (by decide +kernel)) ggL_law_X3_load
set_option maxRecDepth 20000 in
theorem ggL_law_X2_select : GoodIn wsL_law wsX2_select := goodIn_r _ [285, 15, 22, 286, 287, 288, 14, 289, 32, 35, 76, 290, 291, 292, 293, 294, 295, 296, 297, 298, 299, 300, 301, 302, 303, 304, 305, 306, 307, 308, 309, 150, 151, 152, 29, 120, 121, 122, 123, 310, 194, 195, 196, 197, 158, 159, 160, 136, 2, 137, 311, 312, 313, 314, 33, 30, 34, 315, 154, 155, 156, 132, 133, 134, 135, 31, 316, 162, 163, 164, 124, 125, 126, 127, 128, 129, 130, 131, 317, 230, 231, 232, 233, 234, 235, 236, 237, 226, 227, 228, 505, 506, 507, 508, 525, 526, 527, 528, 529, 530, 531, 532, 533, 534, 535, 536] (by decide +kernel) (by decide +kernel)
set_option maxRecDepth 20000 in
theorem gL_law_X2_select : GoodIn wsL_law (wsV RL 53 RX2 yX2_select wsX2_select) := goodIn_app (goodIn_of _ (by decide +kernel)) ggL_law_X2_select
set_option maxRecDepth 20000 in
theorem ggL_law_X3_select : GoodIn wsL_law wsX3_select := goodIn_r _ [321, 62, 57, 81, 242, 243, 244, 5, 245, 246, 247, 248, 249, 60, 55, 181, 182, 183, 184, 185, 186, 187, 188, 53, 250, 251, 252, 253, 61, 169, 170, 171, 172, 54, 173, 174, 175, 176, 142, 143, 144, 322, 323, 324, 325, 177, 178, 179, 180, 254, 255, 256, 257, 83, 84, 85, 86, 87, 509, 510, 511, 512, 513, 514, 515, 516, 517, 518, 519, 520, 521, 522, 523, 524] (by decide +kernel) (by decide +kernel)
set_option maxRecDepth 20000 in
theorem gL_law_X3_select : GoodIn wsL_law (wsV RL 56 RX3 yX3_select wsX3_select) := goodIn_app (goodIn_of _ (by decide +kernel)) ggL_law_X3_select
set_option maxRecDepth 20000 in
theorem ggL_law_X2_solve : GoodIn wsL_law wsX2_solve := goodIn_r _ [329, 22, 19, 330, 331, 332, 333, 18, 334, 335, 336, 337, 338, 339, 48, 340, 43, 341, 44, 45, 46, 47, 342, 343, 344, 345, 346, 42, 347, 348, 349, 350, 351, 158, 159, 14, 160, 32, 136, 2, 137, 352, 353, 354, 355, 356, 357, 358, 359, 41, 360, 234, 235, 236, 40, 361, 291, 292, 293, 362, 363, 364, 365, 366, 367, 368, 369, 370, 121, 122, 123, 76, 371, 372, 373, 374, 375, 376, 377, 378, 379, 380, 381, 382, 383, 384, 385, 386, 387, 388, 389, 390, 391, 392, 393, 394, 395, 505, 506, 507, 508, 537, 538, 539, 540, 541, 542, 543, 544, 545, 546, 547, 548, 525, 526, 527, 528, 529, 530, 531, 532, 533, 534, 535, 536] (by decide +kernel) (by decide +kernel)
set_option maxRecDepth 20000 in
theorem gL_law_X2_solve : GoodIn wsL_law (wsV RL 57 RX2 yX2_solve wsX2_solve) := goodIn_app (goodIn_of _ (by decide +kernel)) ggL_law_X2_solve
set_option maxRecDepth 20000 in
theorem ggL_law_X3_solve : GoodIn wsL_law wsX3_solve := goodIn_r _ [399, 87, 62, 65, 400, 401, 402, 5, 403, 64, 81, 54, 63, 404, 405, 406, 407, 57, 246, 247, 248, 249, 60, 55, 181, 182, 183, 184, 185, 186, 187, 188, 53, 408, 409, 410, 411, 412, 59, 413, 414, 415, 416, 417, 418, 419, 420, 509, 510, 511, 512, 513, 514, 515, 516, 517, 518, 519, 520, 521, 522, 523, 524] (by decide +kernel) (by decide +kernel)
set_option maxRecDepth 20000 in
theorem gL_law_X3_solve : GoodIn wsL_law (wsV RL 60 RX3 yX3_solve wsX3_solve) := goodIn_app (goodIn_of _ (by decide +kernel)) ggL_law_X3_solve
set_option maxRecDepth 20000 in
theorem ggL_law_X2_optima : GoodIn wsL_law wsX2_optima := goodIn_r _ [424, 22, 19, 425, 505, 506, 507, 508, 537, 538, 539, 540, 541, 542, 543, 544, 545, 546, 547, 548] (by decide +kernel) (by decide +kernel)
set_option maxRecDepth 20000 in
theorem gL_law_X2_optima : GoodIn wsL_law (wsV RL 61 RX2 yX2_optima wsX2_optima) := goodIn_app (goodIn_of _ (by decide +kernel)) ggL_law_X2_optima
set_option maxRecDepth 20000 in
theorem ggL_law_X3_optima : GoodIn wsL_law wsX3_optima := goodIn_r _ [429, 87, 412, 509, 510, 511, 512, 513, 514, 515, 516, 517, 518, 519, 520, 521, 522, 523, 524] (by decide +kernel) (by decide +kernel)
set_option maxRecDepth 20000 in
theorem gL_law_X3_optima : GoodIn wsL_law (wsV RL 64 RX3 yX3_optima wsX3_optima) := goodIn_app (goodIn_of _ (by decide +kernel)) ggL_law_X3_optima
set_option maxRecDepth 20000 in
theorem ggL_law_X2_at : GoodIn wsL_law wsX2_at := goodIn_r _ [433, 22, 15, 70, 19, 223, 219, 220, 109, 110, 2, 111, 505, 506, 507, 508, 525, 526, 527, 528, 529, 530, 531, 532, 533, 534, 535, 536, 537, 538, 539, 540, 541, 542, 543, 544, 545, 546, 547, 548] (by decide +kernel) (by decide +kernel)
set_option maxRecDepth 20000 in
theorem gL_law_X2_at : GoodIn wsL_law (wsV RL 65 RX2 yX2_at wsX2_at) := goodIn_app (goodIn_of _ (by decide +kernel)) ggL_law_X2_at
