set_option maxRecDepth 20000 in
theorem ggL_law_X2_init : GoodIn wsL_law wsX2_init := goodIn_r _ [8, 9, 10, 11, 12, 13, 14, 15, 16, 17, 18, 19, 20, 21, 22, 23, 24, 25, 26, 27, 28, 29, 30, 31, 32, 33, 34, 35, 36, 37, 38, 39, 40, 41, 42, 43, 44, 45, 46, 47, 48, 525, 526, 527, 528, 529, 530, 531, 532, 533, 534, 535, 536, 505, 506, 507, 508, 537, 538, 539, 540, 541, 542, 543, 544, 545, 546, 547, 548] (by decide +kernel) (by decide +kernel)
set_option maxRecDepth 20000 in
theorem gL_law_X2_init : GoodIn wsL_law (wsX2_init) := ggL_law_X2_init
set_option maxRecDepth 20000 in
theorem ggL_law_X3_init : GoodIn wsL_law wsX3_init := goodIn_r _ [51, 52, 10, 11, 20, 53, 54, 55, 56, 57, 58, 59, 60, 61, 62, 63, 64, 65, 509, 510, 511, 512, 513, 514, 515, 516, 517, 518, 519, 520, 521, 522, 523, 524] (by decide +kernel) (by decide +kernel)
set_option maxRecDepth 20000 in
theorem gL_law_X3_init : GoodIn wsL_law (wsX3_init) := ggL_law_X3_init
set_option maxRecDepth 20000 in
theorem ggL_law_X2_clear : GoodIn wsL_law wsX2_clear := goodIn_r _ [69, 15, 70, 22, 71, 72, 73, 14, 74, 75, 76, 505, 506, 507, 508, 525, 526, 527, 528, 529, 530, 531, 532, 533, 534, 535, 536] (by decide +kernel) (by decide +kernel)
set_option maxRecDepth 20000 in
theorem gL_law_X2_clear : GoodIn wsL_law (wsV RL 13 RX2 yX2_clear wsX2_clear) := goodIn_app (goodIn_of _ (by decide +kernel)) ggL_law_X2_clear
set_option maxRecDepth 20000 in
theorem ggL_law_X3_clear : GoodIn wsL_law wsX3_clear := goodIn_r _ [80, 81, 82, 57, 58, 83, 84, 85, 5, 86, 87, 509, 510, 511, 512, 513, 514, 515, 516, 517, 518, 519, 520, 521, 522, 523, 524] (by decide +kernel) (by decide +kernel)
set_option maxRecDepth 20000 in
theorem gL_law_X3_clear : GoodIn wsL_law (wsV RL 17 RX3 yX3_clear wsX3_clear) := goodIn_app (goodIn_of _ (by decide +kernel)) ggL_law_X3_clear
set_option maxRecDepth 20000 in
theorem ggL_law_X2_job : GoodIn wsL_law wsX2_job := goodIn_r _ [91, 15, 92, 93, 94, 95, 14, 96, 75, 26, 27, 505, 506, 507, 508, 525, 526, 527, 528, 529, 530, 531, 532, 533, 534, 535, 536] (by decide +kernel) (by decide +kernel)
set_option maxRecDepth 20000 in
theorem gL_law_X2_job : GoodIn wsL_law (wsV RL 18 RX2 yX2_job wsX2_job) := goodIn_app (goodIn_of _ (by decide +kernel)) ggL_law_X2_job
set_option maxRecDepth 20000 in
theorem ggL_law_X3_job : GoodIn wsL_law wsX3_job := goodIn_r _ [100, 82, 509, 510, 511, 512, 513, 514, 515, 516, 517, 518, 519, 520, 521, 522, 523, 524] (by decide +kernel) (by decide +kernel)
set_option maxRecDepth 20000 in
theorem gL_law_X3_job : GoodIn wsL_law (wsV RL 21 RX3 yX3_job wsX3_job) := goodIn_app (goodIn_of _ (by decide +kernel)) ggL_law_X3_job
set_option maxRecDepth 20000 in
theorem ggL_law_X2_operation : GoodIn wsL_law wsX2_operation := goodIn_r _ [104, 15, 70, 22, 21, 105, 106, 107, 14, 108, 75, 109, 110, 2, 111, 112, 113, 114, 115, 76, 28, 29, 116, 117, 118, 119, 30, 31, 32, 27, 26, 120, 121, 122, 123, 124, 125, 126, 127, 33, 34, 128, 129, 130, 131, 132, 133, 134, 135, 136, 137, 505, 506, 507, 508, 525, 526, 527, 528, 529, 530, 531, 532, 533, 534, 535, 536] (by decide +kernel) (by decide +kernel)
set_option maxRecDepth 20000 in
theorem gL_law_X2_operation : GoodIn wsL_law (wsV RL 22 RX2 yX2_operation wsX2_operation) := goodIn_app (goodIn_of _ (by decide +kernel)) ggL_law_X2_operation
set_option maxRecDepth 20000 in
theorem ggL_law_X3_operation : GoodIn wsL_law wsX3_operation := goodIn_r _ [141, 82, 81, 53, 54, 55, 58, 142, 143, 5, 144, 83, 84, 85, 86, 87, 509, 510, 511, 512, 513, 514, 515, 516, 517, 518, 519, 520, 521, 522, 523, 524] (by decide +kernel) (by decide +kernel)
set_option maxRecDepth 20000 in
theorem gL_law_X3_operation : GoodIn wsL_law (wsV RL 26 RX3 yX3_operation wsX3_operation) := goodIn_app (goodIn_of _ (by decide +kernel)) ggL_law_X3_operation
set_option maxRecDepth 20000 in
theorem ggL_law_X2_before : GoodIn wsL_law wsX2_before := goodIn_r _ [148, 15, 22, 149, 150, 151, 14, 152, 29, 120, 121, 122, 123, 76, 153, 154, 155, 156, 132, 133, 134, 135, 31, 32, 136, 2, 137, 157, 158, 159, 160, 161, 162, 163, 164, 124, 125, 126, 127, 33, 34, 128, 129, 130, 131, 30, 505, 506, 507, 508, 525, 526, 527, 528, 529, 530, 531, 532, 533, 534, 535, 536] (by decide +kernel) (by decide +kernel)
set_option maxRecDepth 20000 in
theorem gL_law_X2_before : GoodIn wsL_law (wsV RL 27 RX2 yX2_before wsX2_before) := goodIn_app (goodIn_of _ (by decide +kernel)) ggL_law_X2_before
