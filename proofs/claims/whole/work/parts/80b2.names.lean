set_option maxRecDepth 20000 in
theorem ggL_law_X3_before : GoodIn wsL_law wsX3_before := goodIn_r _ [168, 57, 169, 170, 171, 5, 172, 54, 173, 174, 175, 176, 81, 142, 143, 144, 177, 178, 179, 180, 181, 182, 183, 184, 185, 186, 187, 188, 53, 83, 84, 85, 86, 87, 509, 510, 511, 512, 513, 514, 515, 516, 517, 518, 519, 520, 521, 522, 523, 524] (by decide +kernel) (by decide +kernel)
set_option maxRecDepth 20000 in
theorem gL_law_X3_before : GoodIn wsL_law (wsV RL 31 RX3 yX3_before wsX3_before) := goodIn_app (goodIn_of _ (by decide +kernel)) ggL_law_X3_before
set_option maxRecDepth 20000 in
theorem ggL_law_X2_free : GoodIn wsL_law wsX2_free := goodIn_r _ [192, 15, 22, 149, 150, 151, 14, 152, 29, 120, 121, 122, 123, 76, 193, 194, 195, 196, 197, 158, 159, 160, 32, 136, 2, 137, 198, 199, 200, 201, 124, 125, 126, 127, 33, 34, 128, 129, 130, 131, 30, 132, 133, 134, 135, 31, 505, 506, 507, 508, 525, 526, 527, 528, 529, 530, 531, 532, 533, 534, 535, 536] (by decide +kernel) (by decide +kernel)
set_option maxRecDepth 20000 in
theorem gL_law_X2_free : GoodIn wsL_law (wsV RL 32 RX2 yX2_free wsX2_free) := goodIn_app (goodIn_of _ (by decide +kernel)) ggL_law_X2_free
set_option maxRecDepth 20000 in
theorem ggL_law_X3_free : GoodIn wsL_law wsX3_free := goodIn_r _ [205, 57, 169, 170, 171, 5, 172, 54, 173, 174, 175, 176, 81, 142, 143, 144, 83, 84, 85, 86, 87, 509, 510, 511, 512, 513, 514, 515, 516, 517, 518, 519, 520, 521, 522, 523, 524] (by decide +kernel) (by decide +kernel)
set_option maxRecDepth 20000 in
theorem gL_law_X3_free : GoodIn wsL_law (wsV RL 35 RX3 yX3_free wsX3_free) := goodIn_app (goodIn_of _ (by decide +kernel)) ggL_law_X3_free
set_option maxRecDepth 20000 in
theorem ggL_law_X2_arc : GoodIn wsL_law wsX2_arc := goodIn_r _ [209, 15, 149, 150, 151, 14, 152, 29, 120, 121, 122, 123, 76, 157, 158, 159, 160, 32, 136, 2, 137, 505, 506, 507, 508, 525, 526, 527, 528, 529, 530, 531, 532, 533, 534, 535, 536] (by decide +kernel) (by decide +kernel)
set_option maxRecDepth 20000 in
theorem gL_law_X2_arc : GoodIn wsL_law (wsV RL 36 RX2 yX2_arc wsX2_arc) := goodIn_app (goodIn_of _ (by decide +kernel)) ggL_law_X2_arc
set_option maxRecDepth 20000 in
theorem ggL_law_X3_arc : GoodIn wsL_law wsX3_arc := goodIn_r _ [213, 57, 169, 170, 171, 5, 172, 54, 173, 174, 175, 176, 81, 142, 143, 144, 509, 510, 511, 512, 513, 514, 515, 516, 517, 518, 519, 520, 521, 522, 523, 524] (by decide +kernel) (by decide +kernel)
set_option maxRecDepth 20000 in
theorem gL_law_X3_arc : GoodIn wsL_law (wsV RL 39 RX3 yX3_arc wsX3_arc) := goodIn_app (goodIn_of _ (by decide +kernel)) ggL_law_X3_arc
set_option maxRecDepth 20000 in
theorem ggL_law_X2_told : GoodIn wsL_law wsX2_told := goodIn_r _ [217, 15, 218, 219, 220, 221, 222, 22, 19, 223, 224, 121, 122, 14, 123, 76, 225, 226, 227, 228, 33, 30, 34, 229, 230, 231, 232, 233, 234, 235, 236, 237, 505, 506, 507, 508, 525, 526, 527, 528, 529, 530, 531, 532, 533, 534, 535, 536, 537, 538, 539, 540, 541, 542, 543, 544, 545, 546, 547, 548] (by decide +kernel) (by decide +kernel)
set_option maxRecDepth 20000 in
theorem gL_law_X2_told : GoodIn wsL_law (wsV RL 40 RX2 yX2_told wsX2_told) := goodIn_app (goodIn_of _ (by decide +kernel)) ggL_law_X2_told
set_option maxRecDepth 20000 in
theorem ggL_law_X3_told : GoodIn wsL_law wsX3_told := goodIn_r _ [241, 57, 53, 54, 55, 60, 61, 87, 59, 173, 174, 175, 5, 176, 81, 142, 143, 144, 242, 243, 244, 245, 246, 247, 248, 249, 181, 182, 183, 184, 185, 186, 187, 188, 250, 251, 252, 253, 254, 255, 256, 257, 509, 510, 511, 512, 513, 514, 515, 516, 517, 518, 519, 520, 521, 522, 523, 524] (by decide +kernel) (by decide +kernel)
set_option maxRecDepth 20000 in
theorem gL_law_X3_told : GoodIn wsL_law (wsV RL 43 RX3 yX3_told wsX3_told) := goodIn_app (goodIn_of _ (by decide +kernel)) ggL_law_X3_told
set_option maxRecDepth 20000 in
theorem ggL_law_X2_length : GoodIn wsL_law wsX2_length := goodIn_r _ [261, 15, 229, 230, 231, 14, 232, 76, 233, 234, 235, 236, 237, 226, 227, 228, 33, 30, 34, 505, 506, 507, 508, 525, 526, 527, 528, 529, 530, 531, 532, 533, 534, 535, 536] (by decide +kernel) (by decide +kernel)
set_option maxRecDepth 20000 in
theorem gL_law_X2_length : GoodIn wsL_law (wsV RL 44 RX2 yX2_length wsX2_length) := goodIn_app (goodIn_of _ (by decide +kernel)) ggL_law_X2_length
set_option maxRecDepth 20000 in
theorem ggL_law_X3_length : GoodIn wsL_law wsX3_length := goodIn_r _ [265, 57, 242, 243, 244, 5, 245, 246, 247, 248, 249, 81, 60, 55, 181, 182, 183, 184, 185, 186, 187, 188, 53, 250, 251, 252, 253, 61, 254, 255, 256, 257, 509, 510, 511, 512, 513, 514, 515, 516, 517, 518, 519, 520, 521, 522, 523, 524] (by decide +kernel) (by decide +kernel)
set_option maxRecDepth 20000 in
theorem gL_law_X3_length : GoodIn wsL_law (wsV RL 47 RX3 yX3_length wsX3_length) := goodIn_app (goodIn_of _ (by decide +kernel)) ggL_law_X3_length
