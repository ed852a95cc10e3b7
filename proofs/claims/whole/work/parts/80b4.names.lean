set_option maxRecDepth 20000 in
theorem ggL_law_X3_at : GoodIn wsL_law wsX3_at := goodIn_r _ [437, 81, 87, 54, 59, 55, 142, 143, 5, 144, 509, 510, 511, 512, 513, 514, 515, 516, 517, 518, 519, 520, 521, 522, 523, 524] (by decide +kernel) (by decide +kernel)
set_option maxRecDepth 20000 in
theorem gL_law_X3_at : GoodIn wsL_law (wsV RL 68 RX3 yX3_at wsX3_at) := goodIn_app (goodIn_of _ (by decide +kernel)) ggL_law_X3_at
set_option maxRecDepth 20000 in
theorem ggL_law_X2_draft : GoodIn wsL_law wsX2_draft := goodIn_r _ [441, 15, 21, 224, 121, 122, 14, 123, 76, 505, 506, 507, 508, 525, 526, 527, 528, 529, 530, 531, 532, 533, 534, 535, 536] (by decide +kernel) (by decide +kernel)
set_option maxRecDepth 20000 in
theorem gL_law_X2_draft : GoodIn wsL_law (wsV RL 69 RX2 yX2_draft wsX2_draft) := goodIn_app (goodIn_of _ (by decide +kernel)) ggL_law_X2_draft
set_option maxRecDepth 20000 in
theorem ggL_law_X3_draft : GoodIn wsL_law wsX3_draft := goodIn_r _ [445, 58, 173, 174, 175, 5, 176, 81, 142, 143, 144, 509, 510, 511, 512, 513, 514, 515, 516, 517, 518, 519, 520, 521, 522, 523, 524] (by decide +kernel) (by decide +kernel)
set_option maxRecDepth 20000 in
theorem gL_law_X3_draft : GoodIn wsL_law (wsV RL 72 RX3 yX3_draft wsX3_draft) := goodIn_app (goodIn_of _ (by decide +kernel)) ggL_law_X3_draft
set_option maxRecDepth 20000 in
theorem ggL_law_X2_check : GoodIn wsL_law wsX2_check := goodIn_r _ [449, 15, 70, 450, 234, 235, 236, 451, 452, 453, 2, 454, 21, 455, 133, 134, 14, 135, 31, 32, 456, 136, 137, 457, 458, 459, 460, 220, 461, 462, 463, 464, 219, 505, 506, 507, 508, 525, 526, 527, 528, 529, 530, 531, 532, 533, 534, 535, 536] (by decide +kernel) (by decide +kernel)
set_option maxRecDepth 20000 in
theorem gL_law_X2_check : GoodIn wsL_law (wsV RL 73 RX2 yX2_check wsX2_check) := goodIn_app (goodIn_of _ (by decide +kernel)) ggL_law_X2_check
set_option maxRecDepth 20000 in
theorem ggL_law_X3_check : GoodIn wsL_law wsX3_check := goodIn_r _ [468, 81, 58, 55, 469, 470, 471, 5, 472, 57, 181, 182, 183, 184, 185, 186, 187, 188, 53, 473, 474, 475, 476, 54, 509, 510, 511, 512, 513, 514, 515, 516, 517, 518, 519, 520, 521, 522, 523, 524] (by decide +kernel) (by decide +kernel)
set_option maxRecDepth 20000 in
theorem gL_law_X3_check : GoodIn wsL_law (wsV RL 76 RX3 yX3_check wsX3_check) := goodIn_app (goodIn_of _ (by decide +kernel)) ggL_law_X3_check
set_option maxRecDepth 20000 in
theorem ggL_law_X2_adopt : GoodIn wsL_law wsX2_adopt := goodIn_r _ [480, 22, 15, 70, 21, 19, 223, 330, 505, 506, 507, 508, 525, 526, 527, 528, 529, 530, 531, 532, 533, 534, 535, 536, 537, 538, 539, 540, 541, 542, 543, 544, 545, 546, 547, 548] (by decide +kernel) (by decide +kernel)
set_option maxRecDepth 20000 in
theorem gL_law_X2_adopt : GoodIn wsL_law (wsV RL 77 RX2 yX2_adopt wsX2_adopt) := goodIn_app (goodIn_of _ (by decide +kernel)) ggL_law_X2_adopt
set_option maxRecDepth 20000 in
theorem ggL_law_X3_adopt : GoodIn wsL_law wsX3_adopt := goodIn_r _ [484, 87, 81, 58, 59, 65, 509, 510, 511, 512, 513, 514, 515, 516, 517, 518, 519, 520, 521, 522, 523, 524] (by decide +kernel) (by decide +kernel)
set_option maxRecDepth 20000 in
theorem gL_law_X3_adopt : GoodIn wsL_law (wsV RL 80 RX3 yX3_adopt wsX3_adopt) := goodIn_app (goodIn_of _ (by decide +kernel)) ggL_law_X3_adopt
set_option maxRecDepth 20000 in
theorem ggL_law_X2_count : GoodIn wsL_law wsX2_count := goodIn_r _ [488, 15, 92, 70, 22, 19, 330, 489, 295, 296, 14, 297, 76, 32, 298, 299, 300, 301, 302, 303, 304, 490, 491, 492, 493, 29, 494, 495, 496, 497, 233, 234, 235, 236, 317, 230, 231, 232, 237, 226, 227, 228, 33, 30, 34, 498, 271, 272, 273, 274, 275, 276, 277, 505, 506, 507, 508, 525, 526, 527, 528, 529, 530, 531, 532, 533, 534, 535, 536, 537, 538, 539, 540, 541, 542, 543, 544, 545, 546, 547, 548] (by decide +kernel) (by decide +kernel)
set_option maxRecDepth 20000 in
theorem gL_law_X2_count : GoodIn wsL_law (wsV RL 81 RX2 yX2_count wsX2_count) := goodIn_app (goodIn_of _ (by decide +kernel)) ggL_law_X2_count
set_option maxRecDepth 20000 in
theorem ggL_law_X3_count : GoodIn wsL_law wsX3_count := goodIn_r _ [502, 81, 57, 82, 87, 65, 169, 170, 171, 5, 172, 54, 173, 174, 175, 176, 142, 143, 144, 503, 263, 264, 265, 242, 243, 244, 245, 246, 247, 248, 249, 60, 55, 181, 182, 183, 184, 185, 186, 187, 188, 53, 250, 251, 252, 253, 61, 254, 255, 256, 257, 504, 279, 280, 281, 509, 510, 511, 512, 513, 514, 515, 516, 517, 518, 519, 520, 521, 522, 523, 524] (by decide +kernel) (by decide +kernel)
set_option maxRecDepth 20000 in
theorem gL_law_X3_count : GoodIn wsL_law (wsV RL 84 RX3 yX3_count wsX3_count) := goodIn_app (goodIn_of _ (by decide +kernel)) ggL_law_X3_count
