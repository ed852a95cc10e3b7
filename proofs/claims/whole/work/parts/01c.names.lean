theorem dX1_init_0 : decode cX1_init 0 = .ok (.aload_n 0, 1) := by decide +kernel
theorem dX1_init_1 : decode cX1_init 1 = .ok (.invokespecial 3, 3) := by decide +kernel
theorem dX1_init_4 : decode cX1_init 4 = .ok (.aload_n 0, 1) := by decide +kernel
theorem dX1_init_5 : decode cX1_init 5 = .ok (.bipush 12, 2) := by decide +kernel
theorem dX1_init_7 : decode cX1_init 7 = .ok (.newarray .int, 2) := by decide +kernel
theorem dX1_init_9 : decode cX1_init 9 = .ok (.putfield 9, 3) := by decide +kernel
theorem dX1_init_12 : decode cX1_init 12 = .ok (.aload_n 0, 1) := by decide +kernel
theorem dX1_init_13 : decode cX1_init 13 = .ok (.bipush 12, 2) := by decide +kernel
theorem dX1_init_15 : decode cX1_init 15 = .ok (.newarray .int, 2) := by decide +kernel
theorem dX1_init_17 : decode cX1_init 17 = .ok (.putfield 15, 3) := by decide +kernel
theorem dX1_init_20 : decode cX1_init 20 = .ok (.aload_n 0, 1) := by decide +kernel
theorem dX1_init_21 : decode cX1_init 21 = .ok (.bipush 12, 2) := by decide +kernel
theorem dX1_init_23 : decode cX1_init 23 = .ok (.newarray .int, 2) := by decide +kernel
theorem dX1_init_25 : decode cX1_init 25 = .ok (.putfield 18, 3) := by decide +kernel
theorem dX1_init_28 : decode cX1_init 28 = .ok (.aload_n 0, 1) := by decide +kernel
theorem dX1_init_29 : decode cX1_init 29 = .ok (.iconst 4, 1) := by decide +kernel
theorem dX1_init_30 : decode cX1_init 30 = .ok (.newarray .int, 2) := by decide +kernel
theorem dX1_init_32 : decode cX1_init 32 = .ok (.putfield 21, 3) := by decide +kernel
theorem dX1_init_35 : decode cX1_init 35 = .ok (.aload_n 0, 1) := by decide +kernel
theorem dX1_init_36 : decode cX1_init 36 = .ok (.iconst 4, 1) := by decide +kernel
theorem dX1_init_37 : decode cX1_init 37 = .ok (.newarray .int, 2) := by decide +kernel
theorem dX1_init_39 : decode cX1_init 39 = .ok (.putfield 24, 3) := by decide +kernel
theorem dX1_init_42 : decode cX1_init 42 = .ok (.aload_n 0, 1) := by decide +kernel
theorem dX1_init_43 : decode cX1_init 43 = .ok (.iconst 4, 1) := by decide +kernel
theorem dX1_init_44 : decode cX1_init 44 = .ok (.newarray .int, 2) := by decide +kernel
theorem dX1_init_46 : decode cX1_init 46 = .ok (.putfield 27, 3) := by decide +kernel
theorem dX1_init_49 : decode cX1_init 49 = .ok (.aload_n 0, 1) := by decide +kernel
theorem dX1_init_50 : decode cX1_init 50 = .ok (.iconst 4, 1) := by decide +kernel
theorem dX1_init_51 : decode cX1_init 51 = .ok (.newarray .int, 2) := by decide +kernel
theorem dX1_init_53 : decode cX1_init 53 = .ok (.putfield 30, 3) := by decide +kernel
theorem dX1_init_56 : decode cX1_init 56 = .ok (.aload_n 0, 1) := by decide +kernel
theorem dX1_init_57 : decode cX1_init 57 = .ok (.iconst 4, 1) := by decide +kernel
theorem dX1_init_58 : decode cX1_init 58 = .ok (.newarray .int, 2) := by decide +kernel
theorem dX1_init_60 : decode cX1_init 60 = .ok (.putfield 33, 3) := by decide +kernel
theorem dX1_init_63 : decode cX1_init 63 = .ok (.aload_n 0, 1) := by decide +kernel
theorem dX1_init_64 : decode cX1_init 64 = .ok (.aload_n 1, 1) := by decide +kernel
theorem dX1_init_65 : decode cX1_init 65 = .ok (.putfield 36, 3) := by decide +kernel
theorem dX1_init_68 : decode cX1_init 68 = .ok (.return_, 1) := by decide +kernel
set_option maxRecDepth 20000 in
theorem ggX1_run_X1_prepare : GoodIn wsX1_run wsX1_prepare := goodIn_r _ [6, 7, 8, 9, 10, 11, 12, 13, 14, 15, 16, 17, 18, 19, 20, 21, 22, 23, 5, 24, 25, 26, 27, 28, 29, 30, 31, 32, 33, 90, 91, 92, 93, 94, 95, 96, 97, 98, 99, 100, 101, 102, 103, 104, 105, 106, 107, 108, 109, 110, 111, 112, 113] (by decide +kernel) (by decide +kernel)
set_option maxRecDepth 20000 in
theorem gX1_run_X1_prepare : GoodIn wsX1_run (wsV RX1 40 RX1 yX1_prepare wsX1_prepare) := goodIn_app (goodIn_of _ (by decide +kernel)) ggX1_run_X1_prepare
set_option maxRecDepth 20000 in
theorem ggX1_run_X1_extend : GoodIn wsX1_run wsX1_extend := goodIn_r _ [37, 7, 17, 8, 9, 20, 15, 38, 39, 40, 5, 41, 42, 18, 43, 44, 45, 46, 16, 1, 47, 48, 49, 50, 51, 52, 53, 54, 55, 56, 57, 58, 59, 12, 13, 60, 61, 62, 28, 63, 64, 65, 66, 67, 68, 69, 70, 71, 72, 73, 74, 11, 75, 19, 76, 77, 78, 79, 14, 80, 81, 82, 83, 84, 85, 86, 87, 88, 89, 34, 35, 36, 90, 91, 92, 93, 94, 95, 96, 97, 98, 99, 100, 101, 102, 103, 104, 105, 106, 107, 108, 109, 110, 111, 112, 113] (by decide +kernel) (by decide +kernel)
set_option maxRecDepth 20000 in
theorem gX1_run_X1_extend : GoodIn wsX1_run (wsV RX1 47 RX1 yX1_extend wsX1_extend) := goodIn_app (goodIn_of _ (by decide +kernel)) ggX1_run_X1_extend
theorem dX1_run_0 : decode cX1_run 0 = .ok (.aload_n 0, 1) := by decide +kernel
theorem dX1_run_1 : decode cX1_run 1 = .ok (.invokevirtual 40, 3) := by decide +kernel
theorem dX1_run_4 : decode cX1_run 4 = .ok (.aload_n 0, 1) := by decide +kernel
theorem dX1_run_5 : decode cX1_run 5 = .ok (.iconst 0, 1) := by decide +kernel
theorem dX1_run_6 : decode cX1_run 6 = .ok (.putfield 43, 3) := by decide +kernel
theorem dX1_run_9 : decode cX1_run 9 = .ok (.aload_n 0, 1) := by decide +kernel
theorem dX1_run_10 : decode cX1_run 10 = .ok (.iconst 0, 1) := by decide +kernel
theorem dX1_run_11 : decode cX1_run 11 = .ok (.iconst 0, 1) := by decide +kernel
theorem dX1_run_12 : decode cX1_run 12 = .ok (.iconst (-1), 1) := by decide +kernel
theorem dX1_run_13 : decode cX1_run 13 = .ok (.invokevirtual 47, 3) := by decide +kernel
theorem dX1_run_16 : decode cX1_run 16 = .ok (.return_, 1) := by decide +kernel
set_option maxRecDepth 20000 in
theorem ggX1_prepare_X1_forerunners : GoodIn wsX1_prepare wsX1_forerunners := goodIn_r _ [19, 1, 11, 20, 21, 22, 23, 24, 25, 26, 27, 28, 29, 30, 31, 32, 33, 34, 35, 36, 37, 38, 39, 40, 41, 42, 43, 44, 45, 46, 47, 48, 49, 50, 51, 52] (by decide +kernel) (by decide +kernel)
set_option maxRecDepth 20000 in
theorem gX1_prepare_X1_forerunners : GoodIn wsX1_prepare (wsV RX1 74 RX1 yX1_forerunners wsX1_forerunners) := goodIn_app (goodIn_of _ (by decide +kernel)) ggX1_prepare_X1_forerunners
theorem dX1_prepare_0 : decode cX1_prepare 0 = .ok (.iconst 0, 1) := by decide +kernel
theorem dX1_prepare_1 : decode cX1_prepare 1 = .ok (.istore_n 1, 1) := by decide +kernel
theorem dX1_prepare_2 : decode cX1_prepare 2 = .ok (.iload_n 1, 1) := by decide +kernel
theorem dX1_prepare_3 : decode cX1_prepare 3 = .ok (.aload_n 0, 1) := by decide +kernel
theorem dX1_prepare_4 : decode cX1_prepare 4 = .ok (.getfield 36, 3) := by decide +kernel
theorem dX1_prepare_7 : decode cX1_prepare 7 = .ok (.getfield 51, 3) := by decide +kernel
theorem dX1_prepare_10 : decode cX1_prepare 10 = .ok (.if_icmp .ge 31, 3) := by decide +kernel
theorem dX1_prepare_13 : decode cX1_prepare 13 = .ok (.aload_n 0, 1) := by decide +kernel
theorem dX1_prepare_14 : decode cX1_prepare 14 = .ok (.getfield 21, 3) := by decide +kernel
theorem dX1_prepare_17 : decode cX1_prepare 17 = .ok (.iload_n 1, 1) := by decide +kernel
theorem dX1_prepare_18 : decode cX1_prepare 18 = .ok (.aload_n 0, 1) := by decide +kernel
theorem dX1_prepare_19 : decode cX1_prepare 19 = .ok (.getfield 36, 3) := by decide +kernel
theorem dX1_prepare_22 : decode cX1_prepare 22 = .ok (.getfield 56, 3) := by decide +kernel
theorem dX1_prepare_25 : decode cX1_prepare 25 = .ok (.iload_n 1, 1) := by decide +kernel
theorem dX1_prepare_26 : decode cX1_prepare 26 = .ok (.iaload, 1) := by decide +kernel
theorem dX1_prepare_27 : decode cX1_prepare 27 = .ok (.iastore, 1) := by decide +kernel
theorem dX1_prepare_28 : decode cX1_prepare 28 = .ok (.aload_n 0, 1) := by decide +kernel
theorem dX1_prepare_29 : decode cX1_prepare 29 = .ok (.getfield 24, 3) := by decide +kernel
theorem dX1_prepare_32 : decode cX1_prepare 32 = .ok (.iload_n 1, 1) := by decide +kernel
theorem dX1_prepare_33 : decode cX1_prepare 33 = .ok (.iconst 0, 1) := by decide +kernel
theorem dX1_prepare_34 : decode cX1_prepare 34 = .ok (.iastore, 1) := by decide +kernel
theorem dX1_prepare_35 : decode cX1_prepare 35 = .ok (.iinc 1 1, 3) := by decide +kernel
theorem dX1_prepare_38 : decode cX1_prepare 38 = .ok (.goto (-36), 3) := by decide +kernel
theorem dX1_prepare_41 : decode cX1_prepare 41 = .ok (.iconst 0, 1) := by decide +kernel
theorem dX1_prepare_42 : decode cX1_prepare 42 = .ok (.istore_n 1, 1) := by decide +kernel
theorem dX1_prepare_43 : decode cX1_prepare 43 = .ok (.iload_n 1, 1) := by decide +kernel
theorem dX1_prepare_44 : decode cX1_prepare 44 = .ok (.iconst 4, 1) := by decide +kernel
theorem dX1_prepare_45 : decode cX1_prepare 45 = .ok (.if_icmp .ge 30, 3) := by decide +kernel
theorem dX1_prepare_48 : decode cX1_prepare 48 = .ok (.aload_n 0, 1) := by decide +kernel
theorem dX1_prepare_49 : decode cX1_prepare 49 = .ok (.getfield 27, 3) := by decide +kernel
theorem dX1_prepare_52 : decode cX1_prepare 52 = .ok (.iload_n 1, 1) := by decide +kernel
theorem dX1_prepare_53 : decode cX1_prepare 53 = .ok (.iconst 0, 1) := by decide +kernel
theorem dX1_prepare_54 : decode cX1_prepare 54 = .ok (.iastore, 1) := by decide +kernel
theorem dX1_prepare_55 : decode cX1_prepare 55 = .ok (.aload_n 0, 1) := by decide +kernel
theorem dX1_prepare_56 : decode cX1_prepare 56 = .ok (.getfield 30, 3) := by decide +kernel
theorem dX1_prepare_59 : decode cX1_prepare 59 = .ok (.iload_n 1, 1) := by decide +kernel
theorem dX1_prepare_60 : decode cX1_prepare 60 = .ok (.iconst 0, 1) := by decide +kernel
theorem dX1_prepare_61 : decode cX1_prepare 61 = .ok (.iastore, 1) := by decide +kernel
theorem dX1_prepare_62 : decode cX1_prepare 62 = .ok (.aload_n 0, 1) := by decide +kernel
theorem dX1_prepare_63 : decode cX1_prepare 63 = .ok (.getfield 33, 3) := by decide +kernel
theorem dX1_prepare_66 : decode cX1_prepare 66 = .ok (.iload_n 1, 1) := by decide +kernel
theorem dX1_prepare_67 : decode cX1_prepare 67 = .ok (.iconst 0, 1) := by decide +kernel
theorem dX1_prepare_68 : decode cX1_prepare 68 = .ok (.iastore, 1) := by decide +kernel
theorem dX1_prepare_69 : decode cX1_prepare 69 = .ok (.iinc 1 1, 3) := by decide +kernel
theorem dX1_prepare_72 : decode cX1_prepare 72 = .ok (.goto (-29), 3) := by decide +kernel
theorem dX1_prepare_75 : decode cX1_prepare 75 = .ok (.aload_n 0, 1) := by decide +kernel
theorem dX1_prepare_76 : decode cX1_prepare 76 = .ok (.iconst 0, 1) := by decide +kernel
theorem dX1_prepare_77 : decode cX1_prepare 77 = .ok (.putfield 59, 3) := by decide +kernel
theorem dX1_prepare_80 : decode cX1_prepare 80 = .ok (.aload_n 0, 1) := by decide +kernel
theorem dX1_prepare_81 : decode cX1_prepare 81 = .ok (.iconst 0, 1) := by decide +kernel
theorem dX1_prepare_82 : decode cX1_prepare 82 = .ok (.putfield 62, 3) := by decide +kernel
theorem dX1_prepare_85 : decode cX1_prepare 85 = .ok (.iconst 0, 1) := by decide +kernel
theorem dX1_prepare_86 : decode cX1_prepare 86 = .ok (.istore_n 1, 1) := by decide +kernel
theorem dX1_prepare_87 : decode cX1_prepare 87 = .ok (.iload_n 1, 1) := by decide +kernel
theorem dX1_prepare_88 : decode cX1_prepare 88 = .ok (.aload_n 0, 1) := by decide +kernel
theorem dX1_prepare_89 : decode cX1_prepare 89 = .ok (.getfield 36, 3) := by decide +kernel
theorem dX1_prepare_92 : decode cX1_prepare 92 = .ok (.getfield 65, 3) := by decide +kernel
theorem dX1_prepare_95 : decode cX1_prepare 95 = .ok (.if_icmp .ge 84, 3) := by decide +kernel
theorem dX1_prepare_98 : decode cX1_prepare 98 = .ok (.aload_n 0, 1) := by decide +kernel
theorem dX1_prepare_99 : decode cX1_prepare 99 = .ok (.dup, 1) := by decide +kernel
theorem dX1_prepare_100 : decode cX1_prepare 100 = .ok (.getfield 62, 3) := by decide +kernel
theorem dX1_prepare_103 : decode cX1_prepare 103 = .ok (.aload_n 0, 1) := by decide +kernel
theorem dX1_prepare_104 : decode cX1_prepare 104 = .ok (.getfield 36, 3) := by decide +kernel
theorem dX1_prepare_107 : decode cX1_prepare 107 = .ok (.getfield 68, 3) := by decide +kernel
theorem dX1_prepare_110 : decode cX1_prepare 110 = .ok (.iload_n 1, 1) := by decide +kernel
theorem dX1_prepare_111 : decode cX1_prepare 111 = .ok (.iaload, 1) := by decide +kernel
theorem dX1_prepare_112 : decode cX1_prepare 112 = .ok (.iadd, 1) := by decide +kernel
theorem dX1_prepare_113 : decode cX1_prepare 113 = .ok (.putfield 62, 3) := by decide +kernel
theorem dX1_prepare_116 : decode cX1_prepare 116 = .ok (.aload_n 0, 1) := by decide +kernel
theorem dX1_prepare_117 : decode cX1_prepare 117 = .ok (.getfield 30, 3) := by decide +kernel
theorem dX1_prepare_120 : decode cX1_prepare 120 = .ok (.aload_n 0, 1) := by decide +kernel
theorem dX1_prepare_121 : decode cX1_prepare 121 = .ok (.getfield 36, 3) := by decide +kernel
theorem dX1_prepare_124 : decode cX1_prepare 124 = .ok (.getfield 71, 3) := by decide +kernel
theorem dX1_prepare_127 : decode cX1_prepare 127 = .ok (.iload_n 1, 1) := by decide +kernel
theorem dX1_prepare_128 : decode cX1_prepare 128 = .ok (.iaload, 1) := by decide +kernel
theorem dX1_prepare_129 : decode cX1_prepare 129 = .ok (.dup2, 1) := by decide +kernel
theorem dX1_prepare_130 : decode cX1_prepare 130 = .ok (.iaload, 1) := by decide +kernel
theorem dX1_prepare_131 : decode cX1_prepare 131 = .ok (.aload_n 0, 1) := by decide +kernel
theorem dX1_prepare_132 : decode cX1_prepare 132 = .ok (.getfield 36, 3) := by decide +kernel
theorem dX1_prepare_135 : decode cX1_prepare 135 = .ok (.getfield 68, 3) := by decide +kernel
theorem dX1_prepare_138 : decode cX1_prepare 138 = .ok (.iload_n 1, 1) := by decide +kernel
theorem dX1_prepare_139 : decode cX1_prepare 139 = .ok (.iaload, 1) := by decide +kernel
theorem dX1_prepare_140 : decode cX1_prepare 140 = .ok (.iadd, 1) := by decide +kernel
theorem dX1_prepare_141 : decode cX1_prepare 141 = .ok (.iastore, 1) := by decide +kernel
theorem dX1_prepare_142 : decode cX1_prepare 142 = .ok (.aload_n 0, 1) := by decide +kernel
theorem dX1_prepare_143 : decode cX1_prepare 143 = .ok (.getfield 33, 3) := by decide +kernel
theorem dX1_prepare_146 : decode cX1_prepare 146 = .ok (.aload_n 0, 1) := by decide +kernel
theorem dX1_prepare_147 : decode cX1_prepare 147 = .ok (.getfield 36, 3) := by decide +kernel
theorem dX1_prepare_150 : decode cX1_prepare 150 = .ok (.getfield 71, 3) := by decide +kernel
theorem dX1_prepare_153 : decode cX1_prepare 153 = .ok (.iload_n 1, 1) := by decide +kernel
theorem dX1_prepare_154 : decode cX1_prepare 154 = .ok (.iaload, 1) := by decide +kernel
theorem dX1_prepare_155 : decode cX1_prepare 155 = .ok (.dup2, 1) := by decide +kernel
theorem dX1_prepare_156 : decode cX1_prepare 156 = .ok (.iaload, 1) := by decide +kernel
theorem dX1_prepare_157 : decode cX1_prepare 157 = .ok (.iconst 1, 1) := by decide +kernel
theorem dX1_prepare_158 : decode cX1_prepare 158 = .ok (.iload_n 1, 1) := by decide +kernel
theorem dX1_prepare_159 : decode cX1_prepare 159 = .ok (.ishl, 1) := by decide +kernel
theorem dX1_prepare_160 : decode cX1_prepare 160 = .ok (.ior, 1) := by decide +kernel
theorem dX1_prepare_161 : decode cX1_prepare 161 = .ok (.iastore, 1) := by decide +kernel
theorem dX1_prepare_162 : decode cX1_prepare 162 = .ok (.aload_n 0, 1) := by decide +kernel
theorem dX1_prepare_163 : decode cX1_prepare 163 = .ok (.getfield 18, 3) := by decide +kernel
theorem dX1_prepare_166 : decode cX1_prepare 166 = .ok (.iload_n 1, 1) := by decide +kernel
theorem dX1_prepare_167 : decode cX1_prepare 167 = .ok (.aload_n 0, 1) := by decide +kernel
theorem dX1_prepare_168 : decode cX1_prepare 168 = .ok (.iload_n 1, 1) := by decide +kernel
theorem dX1_prepare_169 : decode cX1_prepare 169 = .ok (.invokevirtual 74, 3) := by decide +kernel
theorem dX1_prepare_172 : decode cX1_prepare 172 = .ok (.iastore, 1) := by decide +kernel
theorem dX1_prepare_173 : decode cX1_prepare 173 = .ok (.iinc 1 1, 3) := by decide +kernel
theorem dX1_prepare_176 : decode cX1_prepare 176 = .ok (.goto (-89), 3) := by decide +kernel
theorem dX1_prepare_179 : decode cX1_prepare 179 = .ok (.return_, 1) := by decide +kernel
set_option maxRecDepth 20000 in
theorem ggX1_forerunners_X0_hasArc : GoodIn wsX1_forerunners wsX0_hasArc := goodIn_r _ [7, 8, 9, 10, 11, 24, 25, 26, 27, 28, 29, 30, 31, 32, 33, 34, 35] (by decide +kernel) (by decide +kernel)
set_option maxRecDepth 20000 in
theorem gX1_forerunners_X0_hasArc : GoodIn wsX1_forerunners (wsV RX1 78 RX0 yX0_hasArc wsX0_hasArc) := goodIn_app (goodIn_of _ (by decide +kernel)) ggX1_forerunners_X0_hasArc
theorem dX1_forerunners_0 : decode cX1_forerunners 0 = .ok (.iconst 0, 1) := by decide +kernel
theorem dX1_forerunners_1 : decode cX1_forerunners 1 = .ok (.istore_n 2, 1) := by decide +kernel
theorem dX1_forerunners_2 : decode cX1_forerunners 2 = .ok (.iconst 0, 1) := by decide +kernel
theorem dX1_forerunners_3 : decode cX1_forerunners 3 = .ok (.istore_n 3, 1) := by decide +kernel
theorem dX1_forerunners_4 : decode cX1_forerunners 4 = .ok (.iload_n 3, 1) := by decide +kernel
theorem dX1_forerunners_5 : decode cX1_forerunners 5 = .ok (.aload_n 0, 1) := by decide +kernel
theorem dX1_forerunners_6 : decode cX1_forerunners 6 = .ok (.getfield 36, 3) := by decide +kernel
theorem dX1_forerunners_9 : decode cX1_forerunners 9 = .ok (.getfield 65, 3) := by decide +kernel
theorem dX1_forerunners_12 : decode cX1_forerunners 12 = .ok (.if_icmp .ge 27, 3) := by decide +kernel
theorem dX1_forerunners_15 : decode cX1_forerunners 15 = .ok (.aload_n 0, 1) := by decide +kernel
theorem dX1_forerunners_16 : decode cX1_forerunners 16 = .ok (.getfield 36, 3) := by decide +kernel
theorem dX1_forerunners_19 : decode cX1_forerunners 19 = .ok (.iload_n 3, 1) := by decide +kernel
theorem dX1_forerunners_20 : decode cX1_forerunners 20 = .ok (.iload_n 1, 1) := by decide +kernel
theorem dX1_forerunners_21 : decode cX1_forerunners 21 = .ok (.invokevirtual 78, 3) := by decide +kernel
theorem dX1_forerunners_24 : decode cX1_forerunners 24 = .ok (.ifCond .eq 9, 3) := by decide +kernel
theorem dX1_forerunners_27 : decode cX1_forerunners 27 = .ok (.iload_n 2, 1) := by decide +kernel
theorem dX1_forerunners_28 : decode cX1_forerunners 28 = .ok (.iconst 1, 1) := by decide +kernel
theorem dX1_forerunners_29 : decode cX1_forerunners 29 = .ok (.iload_n 3, 1) := by decide +kernel
theorem dX1_forerunners_30 : decode cX1_forerunners 30 = .ok (.ishl, 1) := by decide +kernel
theorem dX1_forerunners_31 : decode cX1_forerunners 31 = .ok (.ior, 1) := by decide +kernel
theorem dX1_forerunners_32 : decode cX1_forerunners 32 = .ok (.istore_n 2, 1) := by decide +kernel
theorem dX1_forerunners_33 : decode cX1_forerunners 33 = .ok (.iinc 3 1, 3) := by decide +kernel
theorem dX1_forerunners_36 : decode cX1_forerunners 36 = .ok (.goto (-32), 3) := by decide +kernel
theorem dX1_forerunners_39 : decode cX1_forerunners 39 = .ok (.iload_n 2, 1) := by decide +kernel
theorem dX1_forerunners_40 : decode cX1_forerunners 40 = .ok (.ireturn, 1) := by decide +kernel
set_option maxRecDepth 20000 in
theorem ggX1_extend_X1_keep : GoodIn wsX1_extend wsX1_keep := goodIn_r _ [11, 1, 2, 12, 13, 14, 15, 16, 17, 18, 19, 20, 21, 22, 23, 24, 25, 26, 27, 10, 28, 72, 73, 74, 75, 76, 77, 78, 79, 80, 81, 82, 83, 84, 85, 86, 87, 88, 89, 90, 91, 92, 93, 94, 95] (by decide +kernel) (by decide +kernel)
set_option maxRecDepth 20000 in
theorem gX1_extend_X1_keep : GoodIn wsX1_extend (wsV RX1 82 RX1 yX1_keep wsX1_keep) := goodIn_app (goodIn_of _ (by decide +kernel)) ggX1_extend_X1_keep
set_option maxRecDepth 20000 in
theorem ggX1_extend_X1_isHopeless : GoodIn wsX1_extend wsX1_isHopeless := goodIn_r _ [32, 33, 34, 18, 1, 3, 4, 35, 36, 37, 38, 39, 40, 41, 42, 43, 10, 44, 45, 14, 15, 16, 17, 13, 46, 47, 48, 49, 50, 51, 52, 53, 54, 55, 56, 57, 58, 59, 60, 61, 62, 63, 72, 73, 74, 75, 76, 77, 78, 79, 80, 81, 82, 83, 84, 85, 86, 87, 88, 89, 90, 91, 92, 93, 94, 95] (by decide +kernel) (by decide +kernel)
set_option maxRecDepth 20000 in
theorem gX1_extend_X1_isHopeless : GoodIn wsX1_extend (wsV RX1 85 RX1 yX1_isHopeless wsX1_isHopeless) := goodIn_app (goodIn_of _ (by decide +kernel)) ggX1_extend_X1_isHopeless
set_option maxRecDepth 20000 in
theorem ggX1_extend_X0_isOperation : GoodIn wsX1_extend wsX0_isOperation := goodIn_r _ [39, 40, 84, 85, 86, 87, 88, 89, 90, 91, 92, 93, 94, 95] (by decide +kernel) (by decide +kernel)
set_option maxRecDepth 20000 in
theorem gX1_extend_X0_isOperation : GoodIn wsX1_extend (wsV RX1 88 RX0 yX0_isOperation wsX0_isOperation) := goodIn_app (goodIn_of _ (by decide +kernel)) ggX1_extend_X0_isOperation
set_option maxRecDepth 20000 in
theorem ggX1_extend_X1_isPassed : GoodIn wsX1_extend wsX1_isPassed := goodIn_r _ [63, 47, 48, 49, 10, 50, 51, 1, 52, 33, 53, 72, 73, 74, 75, 76, 77, 78, 79, 80, 81, 82, 83, 84, 85, 86, 87, 88, 89, 90, 91, 92, 93, 94, 95] (by decide +kernel) (by decide +kernel)
set_option maxRecDepth 20000 in
theorem gX1_extend_X1_isPassed : GoodIn wsX1_extend (wsV RX1 92 RX1 yX1_isPassed wsX1_isPassed) := goodIn_app (goodIn_of _ (by decide +kernel)) ggX1_extend_X1_isPassed
set_option maxRecDepth 20000 in
theorem ggX1_extend_X1_place : GoodIn wsX1_extend wsX1_place := goodIn_r _ [67, 1, 52, 53, 51, 33, 12, 4, 68, 13, 34, 58, 6, 47, 48, 49, 10, 50, 69, 70, 71, 0, 2, 3, 5, 7, 8, 9, 11, 14, 15, 16, 17, 18, 19, 20, 21, 22, 23, 24, 25, 26, 27, 28, 29, 30, 31, 32, 35, 36, 37, 38, 39, 40, 41, 42, 43, 44, 45, 46, 54, 55, 56, 57, 59, 60, 61, 62, 63, 64, 65, 66, 72, 73, 74, 75, 76, 77, 78, 79, 80, 81, 82, 83, 84, 85, 86, 87, 88, 89, 90, 91, 92, 93, 94, 95] (by decide +kernel) (by decide +kernel)
set_option maxRecDepth 20000 in
theorem gX1_extend_X1_place : GoodIn wsX1_extend (wsV RX1 96 RX1 yX1_place wsX1_place) := goodIn_app (goodIn_of _ (by decide +kernel)) ggX1_extend_X1_place
theorem dX1_extend_0 : decode cX1_extend 0 = .ok (.iload_n 1, 1) := by decide +kernel
theorem dX1_extend_1 : decode cX1_extend 1 = .ok (.aload_n 0, 1) := by decide +kernel
theorem dX1_extend_2 : decode cX1_extend 2 = .ok (.getfield 36, 3) := by decide +kernel
theorem dX1_extend_5 : decode cX1_extend 5 = .ok (.getfield 65, 3) := by decide +kernel
theorem dX1_extend_8 : decode cX1_extend 8 = .ok (.if_icmp .lt 8, 3) := by decide +kernel
theorem dX1_extend_11 : decode cX1_extend 11 = .ok (.aload_n 0, 1) := by decide +kernel
theorem dX1_extend_12 : decode cX1_extend 12 = .ok (.invokevirtual 82, 3) := by decide +kernel
theorem dX1_extend_15 : decode cX1_extend 15 = .ok (.return_, 1) := by decide +kernel
theorem dX1_extend_16 : decode cX1_extend 16 = .ok (.aload_n 0, 1) := by decide +kernel
theorem dX1_extend_17 : decode cX1_extend 17 = .ok (.iload_n 2, 1) := by decide +kernel
theorem dX1_extend_18 : decode cX1_extend 18 = .ok (.iload_n 3, 1) := by decide +kernel
theorem dX1_extend_19 : decode cX1_extend 19 = .ok (.invokevirtual 85, 3) := by decide +kernel
theorem dX1_extend_22 : decode cX1_extend 22 = .ok (.ifCond .eq 4, 3) := by decide +kernel
theorem dX1_extend_25 : decode cX1_extend 25 = .ok (.return_, 1) := by decide +kernel
theorem dX1_extend_26 : decode cX1_extend 26 = .ok (.iconst 0, 1) := by decide +kernel
theorem dX1_extend_27 : decode cX1_extend 27 = .ok (.istore 4, 2) := by decide +kernel
theorem dX1_extend_29 : decode cX1_extend 29 = .ok (.iload 4, 2) := by decide +kernel
theorem dX1_extend_31 : decode cX1_extend 31 = .ok (.aload_n 0, 1) := by decide +kernel
theorem dX1_extend_32 : decode cX1_extend 32 = .ok (.getfield 36, 3) := by decide +kernel
theorem dX1_extend_35 : decode cX1_extend 35 = .ok (.getfield 51, 3) := by decide +kernel
theorem dX1_extend_38 : decode cX1_extend 38 = .ok (.if_icmp .ge 65, 3) := by decide +kernel
theorem dX1_extend_41 : decode cX1_extend 41 = .ok (.aload_n 0, 1) := by decide +kernel
theorem dX1_extend_42 : decode cX1_extend 42 = .ok (.getfield 21, 3) := by decide +kernel
theorem dX1_extend_45 : decode cX1_extend 45 = .ok (.iload 4, 2) := by decide +kernel
theorem dX1_extend_47 : decode cX1_extend 47 = .ok (.iaload, 1) := by decide +kernel
theorem dX1_extend_48 : decode cX1_extend 48 = .ok (.istore 5, 2) := by decide +kernel
theorem dX1_extend_50 : decode cX1_extend 50 = .ok (.aload_n 0, 1) := by decide +kernel
theorem dX1_extend_51 : decode cX1_extend 51 = .ok (.getfield 36, 3) := by decide +kernel
theorem dX1_extend_54 : decode cX1_extend 54 = .ok (.iload 5, 2) := by decide +kernel
theorem dX1_extend_56 : decode cX1_extend 56 = .ok (.invokevirtual 88, 3) := by decide +kernel
theorem dX1_extend_59 : decode cX1_extend 59 = .ok (.ifCond .eq 38, 3) := by decide +kernel
theorem dX1_extend_62 : decode cX1_extend 62 = .ok (.aload_n 0, 1) := by decide +kernel
theorem dX1_extend_63 : decode cX1_extend 63 = .ok (.getfield 18, 3) := by decide +kernel
theorem dX1_extend_66 : decode cX1_extend 66 = .ok (.iload 5, 2) := by decide +kernel
theorem dX1_extend_68 : decode cX1_extend 68 = .ok (.iaload, 1) := by decide +kernel
theorem dX1_extend_69 : decode cX1_extend 69 = .ok (.aload_n 0, 1) := by decide +kernel
theorem dX1_extend_70 : decode cX1_extend 70 = .ok (.getfield 59, 3) := by decide +kernel
theorem dX1_extend_73 : decode cX1_extend 73 = .ok (.iconst (-1), 1) := by decide +kernel
theorem dX1_extend_74 : decode cX1_extend 74 = .ok (.ixor, 1) := by decide +kernel
theorem dX1_extend_75 : decode cX1_extend 75 = .ok (.iand, 1) := by decide +kernel
theorem dX1_extend_76 : decode cX1_extend 76 = .ok (.ifCond .ne 21, 3) := by decide +kernel
theorem dX1_extend_79 : decode cX1_extend 79 = .ok (.aload_n 0, 1) := by decide +kernel
theorem dX1_extend_80 : decode cX1_extend 80 = .ok (.iload 5, 2) := by decide +kernel
theorem dX1_extend_82 : decode cX1_extend 82 = .ok (.iload_n 2, 1) := by decide +kernel
theorem dX1_extend_83 : decode cX1_extend 83 = .ok (.iload_n 3, 1) := by decide +kernel
theorem dX1_extend_84 : decode cX1_extend 84 = .ok (.invokevirtual 92, 3) := by decide +kernel
theorem dX1_extend_87 : decode cX1_extend 87 = .ok (.ifCond .ne 10, 3) := by decide +kernel
theorem dX1_extend_90 : decode cX1_extend 90 = .ok (.aload_n 0, 1) := by decide +kernel
theorem dX1_extend_91 : decode cX1_extend 91 = .ok (.iload 5, 2) := by decide +kernel
theorem dX1_extend_93 : decode cX1_extend 93 = .ok (.iload_n 1, 1) := by decide +kernel
theorem dX1_extend_94 : decode cX1_extend 94 = .ok (.invokevirtual 96, 3) := by decide +kernel
theorem dX1_extend_97 : decode cX1_extend 97 = .ok (.iinc 4 1, 3) := by decide +kernel
theorem dX1_extend_100 : decode cX1_extend 100 = .ok (.goto (-71), 3) := by decide +kernel
theorem dX1_extend_103 : decode cX1_extend 103 = .ok (.return_, 1) := by decide +kernel
theorem dX1_earliest_0 : decode cX1_earliest 0 = .ok (.aload_n 0, 1) := by decide +kernel
theorem dX1_earliest_1 : decode cX1_earliest 1 = .ok (.getfield 24, 3) := by decide +kernel
theorem dX1_earliest_4 : decode cX1_earliest 4 = .ok (.aload_n 0, 1) := by decide +kernel
theorem dX1_earliest_5 : decode cX1_earliest 5 = .ok (.getfield 36, 3) := by decide +kernel
theorem dX1_earliest_8 : decode cX1_earliest 8 = .ok (.getfield 100, 3) := by decide +kernel
theorem dX1_earliest_11 : decode cX1_earliest 11 = .ok (.iload_n 1, 1) := by decide +kernel
theorem dX1_earliest_12 : decode cX1_earliest 12 = .ok (.iaload, 1) := by decide +kernel
theorem dX1_earliest_13 : decode cX1_earliest 13 = .ok (.iaload, 1) := by decide +kernel
theorem dX1_earliest_14 : decode cX1_earliest 14 = .ok (.istore_n 2, 1) := by decide +kernel
theorem dX1_earliest_15 : decode cX1_earliest 15 = .ok (.aload_n 0, 1) := by decide +kernel
theorem dX1_earliest_16 : decode cX1_earliest 16 = .ok (.getfield 27, 3) := by decide +kernel
theorem dX1_earliest_19 : decode cX1_earliest 19 = .ok (.aload_n 0, 1) := by decide +kernel
theorem dX1_earliest_20 : decode cX1_earliest 20 = .ok (.getfield 36, 3) := by decide +kernel
theorem dX1_earliest_23 : decode cX1_earliest 23 = .ok (.getfield 71, 3) := by decide +kernel
theorem dX1_earliest_26 : decode cX1_earliest 26 = .ok (.iload_n 1, 1) := by decide +kernel
theorem dX1_earliest_27 : decode cX1_earliest 27 = .ok (.iaload, 1) := by decide +kernel
theorem dX1_earliest_28 : decode cX1_earliest 28 = .ok (.iaload, 1) := by decide +kernel
theorem dX1_earliest_29 : decode cX1_earliest 29 = .ok (.istore_n 3, 1) := by decide +kernel
theorem dX1_earliest_30 : decode cX1_earliest 30 = .ok (.iload_n 2, 1) := by decide +kernel
theorem dX1_earliest_31 : decode cX1_earliest 31 = .ok (.iload_n 3, 1) := by decide +kernel
theorem dX1_earliest_32 : decode cX1_earliest 32 = .ok (.if_icmp .lt 7, 3) := by decide +kernel
theorem dX1_earliest_35 : decode cX1_earliest 35 = .ok (.iload_n 2, 1) := by decide +kernel
theorem dX1_earliest_36 : decode cX1_earliest 36 = .ok (.goto 4, 3) := by decide +kernel
theorem dX1_earliest_39 : decode cX1_earliest 39 = .ok (.iload_n 3, 1) := by decide +kernel
theorem dX1_earliest_40 : decode cX1_earliest 40 = .ok (.ireturn, 1) := by decide +kernel
set_option maxRecDepth 20000 in
theorem ggX1_isPassed_X1_earliest : GoodIn wsX1_isPassed wsX1_earliest := goodIn_r _ [5, 6, 7, 8, 9, 10, 11, 12, 13, 14, 15, 16, 17, 18, 19, 20, 21, 22, 23, 24, 25, 26, 27, 28, 29, 30, 31, 32, 33, 34] (by decide +kernel) (by decide +kernel)
set_option maxRecDepth 20000 in
theorem gX1_isPassed_X1_earliest : GoodIn wsX1_isPassed (wsV RX1 103 RX1 yX1_earliest wsX1_earliest) := goodIn_app (goodIn_of _ (by decide +kernel)) ggX1_isPassed_X1_earliest
theorem dX1_isPassed_0 : decode cX1_isPassed 0 = .ok (.aload_n 0, 1) := by decide +kernel
theorem dX1_isPassed_1 : decode cX1_isPassed 1 = .ok (.iload_n 1, 1) := by decide +kernel
theorem dX1_isPassed_2 : decode cX1_isPassed 2 = .ok (.invokevirtual 103, 3) := by decide +kernel
theorem dX1_isPassed_5 : decode cX1_isPassed 5 = .ok (.istore 4, 2) := by decide +kernel
theorem dX1_isPassed_7 : decode cX1_isPassed 7 = .ok (.iload 4, 2) := by decide +kernel
theorem dX1_isPassed_9 : decode cX1_isPassed 9 = .ok (.iload_n 2, 1) := by decide +kernel
theorem dX1_isPassed_10 : decode cX1_isPassed 10 = .ok (.if_icmp .lt 14, 3) := by decide +kernel
theorem dX1_isPassed_13 : decode cX1_isPassed 13 = .ok (.iload 4, 2) := by decide +kernel
theorem dX1_isPassed_15 : decode cX1_isPassed 15 = .ok (.iload_n 2, 1) := by decide +kernel
theorem dX1_isPassed_16 : decode cX1_isPassed 16 = .ok (.if_icmp .ne 12, 3) := by decide +kernel
theorem dX1_isPassed_19 : decode cX1_isPassed 19 = .ok (.iload_n 1, 1) := by decide +kernel
theorem dX1_isPassed_20 : decode cX1_isPassed 20 = .ok (.iload_n 3, 1) := by decide +kernel
theorem dX1_isPassed_21 : decode cX1_isPassed 21 = .ok (.if_icmp .ge 7, 3) := by decide +kernel
theorem dX1_isPassed_24 : decode cX1_isPassed 24 = .ok (.iconst 1, 1) := by decide +kernel
theorem dX1_isPassed_25 : decode cX1_isPassed 25 = .ok (.goto 4, 3) := by decide +kernel
theorem dX1_isPassed_28 : decode cX1_isPassed 28 = .ok (.iconst 0, 1) := by decide +kernel
theorem dX1_isPassed_29 : decode cX1_isPassed 29 = .ok (.ireturn, 1) := by decide +kernel
set_option maxRecDepth 20000 in
theorem ggX1_place_X1_earliest : GoodIn wsX1_place wsX1_earliest := goodIn_r _ [17, 4, 1, 2, 5, 3, 72, 73, 74, 75, 76, 77, 78, 79, 80, 81, 82, 83, 84, 85, 86, 87, 88, 89, 90, 91, 92, 93, 94, 95] (by decide +kernel) (by decide +kernel)
set_option maxRecDepth 20000 in
theorem gX1_place_X1_earliest : GoodIn wsX1_place (wsV RX1 103 RX1 yX1_earliest wsX1_earliest) := goodIn_app (goodIn_of _ (by decide +kernel)) ggX1_place_X1_earliest
set_option maxRecDepth 20000 in
theorem ggX1_place_X1_extend : GoodIn wsX1_place wsX1_extend := goodIn_r _ [21, 1, 22, 23, 7, 24, 12, 25, 26, 27, 16, 28, 6, 9, 29, 30, 31, 32, 33, 34, 35, 36, 37, 38, 39, 40, 41, 42, 43, 44, 45, 46, 47, 5, 10, 48, 49, 50, 51, 52, 53, 54, 55, 56, 57, 58, 59, 13, 14, 15, 17, 4, 2, 3, 60, 61, 62, 63, 11, 64, 65, 66, 67, 68, 69, 70, 71, 0, 8, 18, 19, 20, 72, 73, 74, 75, 76, 77, 78, 79, 80, 81, 82, 83, 84, 85, 86, 87, 88, 89, 90, 91, 92, 93, 94, 95] (by decide +kernel) (by decide +kernel)
set_option maxRecDepth 20000 in
theorem gX1_place_X1_extend : GoodIn wsX1_place (wsV RX1 47 RX1 yX1_extend wsX1_extend) := goodIn_app (goodIn_of _ (by decide +kernel)) ggX1_place_X1_extend
theorem dX1_place_0 : decode cX1_place 0 = .ok (.aload_n 0, 1) := by decide +kernel
theorem dX1_place_1 : decode cX1_place 1 = .ok (.getfield 36, 3) := by decide +kernel
theorem dX1_place_4 : decode cX1_place 4 = .ok (.getfield 100, 3) := by decide +kernel
theorem dX1_place_7 : decode cX1_place 7 = .ok (.iload_n 1, 1) := by decide +kernel
theorem dX1_place_8 : decode cX1_place 8 = .ok (.iaload, 1) := by decide +kernel
theorem dX1_place_9 : decode cX1_place 9 = .ok (.istore_n 3, 1) := by decide +kernel
theorem dX1_place_10 : decode cX1_place 10 = .ok (.aload_n 0, 1) := by decide +kernel
theorem dX1_place_11 : decode cX1_place 11 = .ok (.getfield 36, 3) := by decide +kernel
theorem dX1_place_14 : decode cX1_place 14 = .ok (.getfield 71, 3) := by decide +kernel
theorem dX1_place_17 : decode cX1_place 17 = .ok (.iload_n 1, 1) := by decide +kernel
theorem dX1_place_18 : decode cX1_place 18 = .ok (.iaload, 1) := by decide +kernel
theorem dX1_place_19 : decode cX1_place 19 = .ok (.istore 4, 2) := by decide +kernel
theorem dX1_place_21 : decode cX1_place 21 = .ok (.aload_n 0, 1) := by decide +kernel
theorem dX1_place_22 : decode cX1_place 22 = .ok (.getfield 24, 3) := by decide +kernel
theorem dX1_place_25 : decode cX1_place 25 = .ok (.iload_n 3, 1) := by decide +kernel
theorem dX1_place_26 : decode cX1_place 26 = .ok (.iaload, 1) := by decide +kernel
theorem dX1_place_27 : decode cX1_place 27 = .ok (.istore 5, 2) := by decide +kernel
theorem dX1_place_29 : decode cX1_place 29 = .ok (.aload_n 0, 1) := by decide +kernel
theorem dX1_place_30 : decode cX1_place 30 = .ok (.getfield 27, 3) := by decide +kernel
theorem dX1_place_33 : decode cX1_place 33 = .ok (.iload 4, 2) := by decide +kernel
theorem dX1_place_35 : decode cX1_place 35 = .ok (.iaload, 1) := by decide +kernel
theorem dX1_place_36 : decode cX1_place 36 = .ok (.istore 6, 2) := by decide +kernel
theorem dX1_place_38 : decode cX1_place 38 = .ok (.aload_n 0, 1) := by decide +kernel
theorem dX1_place_39 : decode cX1_place 39 = .ok (.iload_n 1, 1) := by decide +kernel
theorem dX1_place_40 : decode cX1_place 40 = .ok (.invokevirtual 103, 3) := by decide +kernel
theorem dX1_place_43 : decode cX1_place 43 = .ok (.istore 7, 2) := by decide +kernel
theorem dX1_place_45 : decode cX1_place 45 = .ok (.aload_n 0, 1) := by decide +kernel
theorem dX1_place_46 : decode cX1_place 46 = .ok (.getfield 15, 3) := by decide +kernel
theorem dX1_place_49 : decode cX1_place 49 = .ok (.iload_n 1, 1) := by decide +kernel
theorem dX1_place_50 : decode cX1_place 50 = .ok (.iload 7, 2) := by decide +kernel
theorem dX1_place_52 : decode cX1_place 52 = .ok (.iastore, 1) := by decide +kernel
theorem dX1_place_53 : decode cX1_place 53 = .ok (.aload_n 0, 1) := by decide +kernel
theorem dX1_place_54 : decode cX1_place 54 = .ok (.getfield 21, 3) := by decide +kernel
theorem dX1_place_57 : decode cX1_place 57 = .ok (.iload_n 3, 1) := by decide +kernel
theorem dX1_place_58 : decode cX1_place 58 = .ok (.aload_n 0, 1) := by decide +kernel
theorem dX1_place_59 : decode cX1_place 59 = .ok (.getfield 36, 3) := by decide +kernel
theorem dX1_place_62 : decode cX1_place 62 = .ok (.getfield 106, 3) := by decide +kernel
theorem dX1_place_65 : decode cX1_place 65 = .ok (.iload_n 1, 1) := by decide +kernel
theorem dX1_place_66 : decode cX1_place 66 = .ok (.iaload, 1) := by decide +kernel
theorem dX1_place_67 : decode cX1_place 67 = .ok (.iastore, 1) := by decide +kernel
theorem dX1_place_68 : decode cX1_place 68 = .ok (.aload_n 0, 1) := by decide +kernel
theorem dX1_place_69 : decode cX1_place 69 = .ok (.getfield 24, 3) := by decide +kernel
theorem dX1_place_72 : decode cX1_place 72 = .ok (.iload_n 3, 1) := by decide +kernel
theorem dX1_place_73 : decode cX1_place 73 = .ok (.iload 7, 2) := by decide +kernel
theorem dX1_place_75 : decode cX1_place 75 = .ok (.aload_n 0, 1) := by decide +kernel
theorem dX1_place_76 : decode cX1_place 76 = .ok (.getfield 36, 3) := by decide +kernel
theorem dX1_place_79 : decode cX1_place 79 = .ok (.getfield 68, 3) := by decide +kernel
theorem dX1_place_82 : decode cX1_place 82 = .ok (.iload_n 1, 1) := by decide +kernel
theorem dX1_place_83 : decode cX1_place 83 = .ok (.iaload, 1) := by decide +kernel
theorem dX1_place_84 : decode cX1_place 84 = .ok (.iadd, 1) := by decide +kernel
theorem dX1_place_85 : decode cX1_place 85 = .ok (.iastore, 1) := by decide +kernel
theorem dX1_place_86 : decode cX1_place 86 = .ok (.aload_n 0, 1) := by decide +kernel
theorem dX1_place_87 : decode cX1_place 87 = .ok (.getfield 27, 3) := by decide +kernel
theorem dX1_place_90 : decode cX1_place 90 = .ok (.iload 4, 2) := by decide +kernel
theorem dX1_place_92 : decode cX1_place 92 = .ok (.iload 7, 2) := by decide +kernel
theorem dX1_place_94 : decode cX1_place 94 = .ok (.aload_n 0, 1) := by decide +kernel
theorem dX1_place_95 : decode cX1_place 95 = .ok (.getfield 36, 3) := by decide +kernel
theorem dX1_place_98 : decode cX1_place 98 = .ok (.getfield 68, 3) := by decide +kernel
theorem dX1_place_101 : decode cX1_place 101 = .ok (.iload_n 1, 1) := by decide +kernel
theorem dX1_place_102 : decode cX1_place 102 = .ok (.iaload, 1) := by decide +kernel
theorem dX1_place_103 : decode cX1_place 103 = .ok (.iadd, 1) := by decide +kernel
theorem dX1_place_104 : decode cX1_place 104 = .ok (.iastore, 1) := by decide +kernel
theorem dX1_place_105 : decode cX1_place 105 = .ok (.aload_n 0, 1) := by decide +kernel
theorem dX1_place_106 : decode cX1_place 106 = .ok (.getfield 30, 3) := by decide +kernel
theorem dX1_place_109 : decode cX1_place 109 = .ok (.iload 4, 2) := by decide +kernel
theorem dX1_place_111 : decode cX1_place 111 = .ok (.dup2, 1) := by decide +kernel
theorem dX1_place_112 : decode cX1_place 112 = .ok (.iaload, 1) := by decide +kernel
theorem dX1_place_113 : decode cX1_place 113 = .ok (.aload_n 0, 1) := by decide +kernel
theorem dX1_place_114 : decode cX1_place 114 = .ok (.getfield 36, 3) := by decide +kernel
theorem dX1_place_117 : decode cX1_place 117 = .ok (.getfield 68, 3) := by decide +kernel
theorem dX1_place_120 : decode cX1_place 120 = .ok (.iload_n 1, 1) := by decide +kernel
theorem dX1_place_121 : decode cX1_place 121 = .ok (.iaload, 1) := by decide +kernel
theorem dX1_place_122 : decode cX1_place 122 = .ok (.isub, 1) := by decide +kernel
theorem dX1_place_123 : decode cX1_place 123 = .ok (.iastore, 1) := by decide +kernel
theorem dX1_place_124 : decode cX1_place 124 = .ok (.aload_n 0, 1) := by decide +kernel
theorem dX1_place_125 : decode cX1_place 125 = .ok (.getfield 33, 3) := by decide +kernel
theorem dX1_place_128 : decode cX1_place 128 = .ok (.iload 4, 2) := by decide +kernel
theorem dX1_place_130 : decode cX1_place 130 = .ok (.dup2, 1) := by decide +kernel
theorem dX1_place_131 : decode cX1_place 131 = .ok (.iaload, 1) := by decide +kernel
theorem dX1_place_132 : decode cX1_place 132 = .ok (.iconst 1, 1) := by decide +kernel
theorem dX1_place_133 : decode cX1_place 133 = .ok (.iload_n 1, 1) := by decide +kernel
theorem dX1_place_134 : decode cX1_place 134 = .ok (.ishl, 1) := by decide +kernel
theorem dX1_place_135 : decode cX1_place 135 = .ok (.ixor, 1) := by decide +kernel
theorem dX1_place_136 : decode cX1_place 136 = .ok (.iastore, 1) := by decide +kernel
theorem dX1_place_137 : decode cX1_place 137 = .ok (.aload_n 0, 1) := by decide +kernel
theorem dX1_place_138 : decode cX1_place 138 = .ok (.dup, 1) := by decide +kernel
theorem dX1_place_139 : decode cX1_place 139 = .ok (.getfield 59, 3) := by decide +kernel
theorem dX1_place_142 : decode cX1_place 142 = .ok (.iconst 1, 1) := by decide +kernel
theorem dX1_place_143 : decode cX1_place 143 = .ok (.iload_n 1, 1) := by decide +kernel
theorem dX1_place_144 : decode cX1_place 144 = .ok (.ishl, 1) := by decide +kernel
theorem dX1_place_145 : decode cX1_place 145 = .ok (.ixor, 1) := by decide +kernel
theorem dX1_place_146 : decode cX1_place 146 = .ok (.putfield 59, 3) := by decide +kernel
theorem dX1_place_149 : decode cX1_place 149 = .ok (.aload_n 0, 1) := by decide +kernel
theorem dX1_place_150 : decode cX1_place 150 = .ok (.iload_n 2, 1) := by decide +kernel
theorem dX1_place_151 : decode cX1_place 151 = .ok (.iconst 1, 1) := by decide +kernel
theorem dX1_place_152 : decode cX1_place 152 = .ok (.iadd, 1) := by decide +kernel
theorem dX1_place_153 : decode cX1_place 153 = .ok (.iload 7, 2) := by decide +kernel
theorem dX1_place_155 : decode cX1_place 155 = .ok (.iload_n 1, 1) := by decide +kernel
theorem dX1_place_156 : decode cX1_place 156 = .ok (.invokevirtual 47, 3) := by decide +kernel
theorem dX1_place_159 : decode cX1_place 159 = .ok (.aload_n 0, 1) := by decide +kernel
theorem dX1_place_160 : decode cX1_place 160 = .ok (.dup, 1) := by decide +kernel
theorem dX1_place_161 : decode cX1_place 161 = .ok (.getfield 59, 3) := by decide +kernel
theorem dX1_place_164 : decode cX1_place 164 = .ok (.iconst 1, 1) := by decide +kernel
theorem dX1_place_165 : decode cX1_place 165 = .ok (.iload_n 1, 1) := by decide +kernel
theorem dX1_place_166 : decode cX1_place 166 = .ok (.ishl, 1) := by decide +kernel
theorem dX1_place_167 : decode cX1_place 167 = .ok (.ixor, 1) := by decide +kernel
theorem dX1_place_168 : decode cX1_place 168 = .ok (.putfield 59, 3) := by decide +kernel
theorem dX1_place_171 : decode cX1_place 171 = .ok (.aload_n 0, 1) := by decide +kernel
theorem dX1_place_172 : decode cX1_place 172 = .ok (.getfield 33, 3) := by decide +kernel
theorem dX1_place_175 : decode cX1_place 175 = .ok (.iload 4, 2) := by decide +kernel
theorem dX1_place_177 : decode cX1_place 177 = .ok (.dup2, 1) := by decide +kernel
theorem dX1_place_178 : decode cX1_place 178 = .ok (.iaload, 1) := by decide +kernel
theorem dX1_place_179 : decode cX1_place 179 = .ok (.iconst 1, 1) := by decide +kernel
theorem dX1_place_180 : decode cX1_place 180 = .ok (.iload_n 1, 1) := by decide +kernel
theorem dX1_place_181 : decode cX1_place 181 = .ok (.ishl, 1) := by decide +kernel
theorem dX1_place_182 : decode cX1_place 182 = .ok (.ixor, 1) := by decide +kernel
theorem dX1_place_183 : decode cX1_place 183 = .ok (.iastore, 1) := by decide +kernel
theorem dX1_place_184 : decode cX1_place 184 = .ok (.aload_n 0, 1) := by decide +kernel
theorem dX1_place_185 : decode cX1_place 185 = .ok (.getfield 30, 3) := by decide +kernel
theorem dX1_place_188 : decode cX1_place 188 = .ok (.iload 4, 2) := by decide +kernel
theorem dX1_place_190 : decode cX1_place 190 = .ok (.dup2, 1) := by decide +kernel
theorem dX1_place_191 : decode cX1_place 191 = .ok (.iaload, 1) := by decide +kernel
theorem dX1_place_192 : decode cX1_place 192 = .ok (.aload_n 0, 1) := by decide +kernel
theorem dX1_place_193 : decode cX1_place 193 = .ok (.getfield 36, 3) := by decide +kernel
theorem dX1_place_196 : decode cX1_place 196 = .ok (.getfield 68, 3) := by decide +kernel
theorem dX1_place_199 : decode cX1_place 199 = .ok (.iload_n 1, 1) := by decide +kernel
theorem dX1_place_200 : decode cX1_place 200 = .ok (.iaload, 1) := by decide +kernel
theorem dX1_place_201 : decode cX1_place 201 = .ok (.iadd, 1) := by decide +kernel
theorem dX1_place_202 : decode cX1_place 202 = .ok (.iastore, 1) := by decide +kernel
theorem dX1_place_203 : decode cX1_place 203 = .ok (.aload_n 0, 1) := by decide +kernel
theorem dX1_place_204 : decode cX1_place 204 = .ok (.getfield 27, 3) := by decide +kernel
theorem dX1_place_207 : decode cX1_place 207 = .ok (.iload 4, 2) := by decide +kernel
theorem dX1_place_209 : decode cX1_place 209 = .ok (.iload 6, 2) := by decide +kernel
theorem dX1_place_211 : decode cX1_place 211 = .ok (.iastore, 1) := by decide +kernel
theorem dX1_place_212 : decode cX1_place 212 = .ok (.aload_n 0, 1) := by decide +kernel
theorem dX1_place_213 : decode cX1_place 213 = .ok (.getfield 24, 3) := by decide +kernel
theorem dX1_place_216 : decode cX1_place 216 = .ok (.iload_n 3, 1) := by decide +kernel
theorem dX1_place_217 : decode cX1_place 217 = .ok (.iload 5, 2) := by decide +kernel
theorem dX1_place_219 : decode cX1_place 219 = .ok (.iastore, 1) := by decide +kernel
theorem dX1_place_220 : decode cX1_place 220 = .ok (.aload_n 0, 1) := by decide +kernel
theorem dX1_place_221 : decode cX1_place 221 = .ok (.getfield 21, 3) := by decide +kernel
theorem dX1_place_224 : decode cX1_place 224 = .ok (.iload_n 3, 1) := by decide +kernel
theorem dX1_place_225 : decode cX1_place 225 = .ok (.iload_n 1, 1) := by decide +kernel
theorem dX1_place_226 : decode cX1_place 226 = .ok (.iastore, 1) := by decide +kernel
theorem dX1_place_227 : decode cX1_place 227 = .ok (.return_, 1) := by decide +kernel
set_option maxRecDepth 20000 in
theorem ggX1_isHopeless_X0_isOperation : GoodIn wsX1_isHopeless wsX0_isOperation := goodIn_r _ [11, 12, 54, 55, 56, 57, 58, 59, 60, 61, 62, 63, 64, 65] (by decide +kernel) (by decide +kernel)
set_option maxRecDepth 20000 in
theorem gX1_isHopeless_X0_isOperation : GoodIn wsX1_isHopeless (wsV RX1 88 RX0 yX0_isOperation wsX0_isOperation) := goodIn_app (goodIn_of _ (by decide +kernel)) ggX1_isHopeless_X0_isOperation
set_option maxRecDepth 20000 in
theorem ggX1_isHopeless_X1_endsAbove : GoodIn wsX1_isHopeless wsX1_endsAbove := goodIn_r _ [17, 4, 18, 19, 20, 21, 22, 23, 24, 3, 25, 26, 27, 16, 28, 29, 30, 1, 31, 42, 43, 44, 45, 46, 47, 48, 49, 50, 51, 52, 53, 54, 55, 56, 57, 58, 59, 60, 61, 62, 63, 64, 65] (by decide +kernel) (by decide +kernel)
set_option maxRecDepth 20000 in
theorem gX1_isHopeless_X1_endsAbove : GoodIn wsX1_isHopeless (wsV RX1 109 RX1 yX1_endsAbove wsX1_endsAbove) := goodIn_app (goodIn_of _ (by decide +kernel)) ggX1_isHopeless_X1_endsAbove
set_option maxRecDepth 20000 in
theorem ggX1_isHopeless_X1_isStranded : GoodIn wsX1_isHopeless wsX1_isStranded := goodIn_r _ [35, 36, 4, 31, 37, 38, 39, 40, 16, 41, 25, 26, 27, 28, 29, 30, 1, 42, 43, 44, 45, 46, 47, 48, 49, 50, 51, 52, 53, 54, 55, 56, 57, 58, 59, 60, 61, 62, 63, 64, 65] (by decide +kernel) (by decide +kernel)
set_option maxRecDepth 20000 in
theorem gX1_isHopeless_X1_isStranded : GoodIn wsX1_isHopeless (wsV RX1 112 RX1 yX1_isStranded wsX1_isStranded) := goodIn_app (goodIn_of _ (by decide +kernel)) ggX1_isHopeless_X1_isStranded
theorem dX1_isHopeless_0 : decode cX1_isHopeless 0 = .ok (.iconst 0, 1) := by decide +kernel
theorem dX1_isHopeless_1 : decode cX1_isHopeless 1 = .ok (.istore_n 3, 1) := by decide +kernel
theorem dX1_isHopeless_2 : decode cX1_isHopeless 2 = .ok (.iload_n 3, 1) := by decide +kernel
theorem dX1_isHopeless_3 : decode cX1_isHopeless 3 = .ok (.iconst 4, 1) := by decide +kernel
theorem dX1_isHopeless_4 : decode cX1_isHopeless 4 = .ok (.if_icmp .ge 31, 3) := by decide +kernel
theorem dX1_isHopeless_7 : decode cX1_isHopeless 7 = .ok (.aload_n 0, 1) := by decide +kernel
theorem dX1_isHopeless_8 : decode cX1_isHopeless 8 = .ok (.getfield 27, 3) := by decide +kernel
theorem dX1_isHopeless_11 : decode cX1_isHopeless 11 = .ok (.iload_n 3, 1) := by decide +kernel
theorem dX1_isHopeless_12 : decode cX1_isHopeless 12 = .ok (.iaload, 1) := by decide +kernel
theorem dX1_isHopeless_13 : decode cX1_isHopeless 13 = .ok (.aload_n 0, 1) := by decide +kernel
theorem dX1_isHopeless_14 : decode cX1_isHopeless 14 = .ok (.getfield 30, 3) := by decide +kernel
theorem dX1_isHopeless_17 : decode cX1_isHopeless 17 = .ok (.iload_n 3, 1) := by decide +kernel
theorem dX1_isHopeless_18 : decode cX1_isHopeless 18 = .ok (.iaload, 1) := by decide +kernel
theorem dX1_isHopeless_19 : decode cX1_isHopeless 19 = .ok (.iadd, 1) := by decide +kernel
theorem dX1_isHopeless_20 : decode cX1_isHopeless 20 = .ok (.aload_n 0, 1) := by decide +kernel
theorem dX1_isHopeless_21 : decode cX1_isHopeless 21 = .ok (.getfield 62, 3) := by decide +kernel
theorem dX1_isHopeless_24 : decode cX1_isHopeless 24 = .ok (.if_icmp .le 5, 3) := by decide +kernel
theorem dX1_isHopeless_27 : decode cX1_isHopeless 27 = .ok (.iconst 1, 1) := by decide +kernel
theorem dX1_isHopeless_28 : decode cX1_isHopeless 28 = .ok (.ireturn, 1) := by decide +kernel
theorem dX1_isHopeless_29 : decode cX1_isHopeless 29 = .ok (.iinc 3 1, 3) := by decide +kernel
theorem dX1_isHopeless_32 : decode cX1_isHopeless 32 = .ok (.goto (-30), 3) := by decide +kernel
theorem dX1_isHopeless_35 : decode cX1_isHopeless 35 = .ok (.iconst 0, 1) := by decide +kernel
theorem dX1_isHopeless_36 : decode cX1_isHopeless 36 = .ok (.istore_n 3, 1) := by decide +kernel
theorem dX1_isHopeless_37 : decode cX1_isHopeless 37 = .ok (.iload_n 3, 1) := by decide +kernel
theorem dX1_isHopeless_38 : decode cX1_isHopeless 38 = .ok (.aload_n 0, 1) := by decide +kernel
theorem dX1_isHopeless_39 : decode cX1_isHopeless 39 = .ok (.getfield 36, 3) := by decide +kernel
theorem dX1_isHopeless_42 : decode cX1_isHopeless 42 = .ok (.getfield 51, 3) := by decide +kernel
theorem dX1_isHopeless_45 : decode cX1_isHopeless 45 = .ok (.if_icmp .ge 51, 3) := by decide +kernel
theorem dX1_isHopeless_48 : decode cX1_isHopeless 48 = .ok (.aload_n 0, 1) := by decide +kernel
theorem dX1_isHopeless_49 : decode cX1_isHopeless 49 = .ok (.getfield 21, 3) := by decide +kernel
theorem dX1_isHopeless_52 : decode cX1_isHopeless 52 = .ok (.iload_n 3, 1) := by decide +kernel
theorem dX1_isHopeless_53 : decode cX1_isHopeless 53 = .ok (.iaload, 1) := by decide +kernel
theorem dX1_isHopeless_54 : decode cX1_isHopeless 54 = .ok (.istore 4, 2) := by decide +kernel
theorem dX1_isHopeless_56 : decode cX1_isHopeless 56 = .ok (.aload_n 0, 1) := by decide +kernel
theorem dX1_isHopeless_57 : decode cX1_isHopeless 57 = .ok (.getfield 36, 3) := by decide +kernel
theorem dX1_isHopeless_60 : decode cX1_isHopeless 60 = .ok (.iload 4, 2) := by decide +kernel
theorem dX1_isHopeless_62 : decode cX1_isHopeless 62 = .ok (.invokevirtual 88, 3) := by decide +kernel
theorem dX1_isHopeless_65 : decode cX1_isHopeless 65 = .ok (.ifCond .eq 25, 3) := by decide +kernel
theorem dX1_isHopeless_68 : decode cX1_isHopeless 68 = .ok (.aload_n 0, 1) := by decide +kernel
theorem dX1_isHopeless_69 : decode cX1_isHopeless 69 = .ok (.iload 4, 2) := by decide +kernel
theorem dX1_isHopeless_71 : decode cX1_isHopeless 71 = .ok (.invokevirtual 109, 3) := by decide +kernel
theorem dX1_isHopeless_74 : decode cX1_isHopeless 74 = .ok (.ifCond .ne 14, 3) := by decide +kernel
theorem dX1_isHopeless_77 : decode cX1_isHopeless 77 = .ok (.aload_n 0, 1) := by decide +kernel
theorem dX1_isHopeless_78 : decode cX1_isHopeless 78 = .ok (.iload 4, 2) := by decide +kernel
theorem dX1_isHopeless_80 : decode cX1_isHopeless 80 = .ok (.iload_n 1, 1) := by decide +kernel
theorem dX1_isHopeless_81 : decode cX1_isHopeless 81 = .ok (.iload_n 2, 1) := by decide +kernel
theorem dX1_isHopeless_82 : decode cX1_isHopeless 82 = .ok (.invokevirtual 112, 3) := by decide +kernel
theorem dX1_isHopeless_85 : decode cX1_isHopeless 85 = .ok (.ifCond .eq 5, 3) := by decide +kernel
theorem dX1_isHopeless_88 : decode cX1_isHopeless 88 = .ok (.iconst 1, 1) := by decide +kernel
theorem dX1_isHopeless_89 : decode cX1_isHopeless 89 = .ok (.ireturn, 1) := by decide +kernel
theorem dX1_isHopeless_90 : decode cX1_isHopeless 90 = .ok (.iinc 3 1, 3) := by decide +kernel
theorem dX1_isHopeless_93 : decode cX1_isHopeless 93 = .ok (.goto (-56), 3) := by decide +kernel
theorem dX1_isHopeless_96 : decode cX1_isHopeless 96 = .ok (.iconst 0, 1) := by decide +kernel
theorem dX1_isHopeless_97 : decode cX1_isHopeless 97 = .ok (.ireturn, 1) := by decide +kernel
set_option maxRecDepth 20000 in
theorem ggX1_endsAbove_X1_earliest : GoodIn wsX1_endsAbove wsX1_earliest := goodIn_r _ [14, 15, 1, 16, 17, 18, 19, 20, 21, 22, 23, 24, 25, 26, 27, 28, 29, 30, 31, 32, 33, 34, 35, 36, 37, 38, 39, 40, 41, 42] (by decide +kernel) (by decide +kernel)
set_option maxRecDepth 20000 in
theorem gX1_endsAbove_X1_earliest : GoodIn wsX1_endsAbove (wsV RX1 103 RX1 yX1_earliest wsX1_earliest) := goodIn_app (goodIn_of _ (by decide +kernel)) ggX1_endsAbove_X1_earliest
theorem dX1_endsAbove_0 : decode cX1_endsAbove 0 = .ok (.aload_n 0, 1) := by decide +kernel
theorem dX1_endsAbove_1 : decode cX1_endsAbove 1 = .ok (.iload_n 1, 1) := by decide +kernel
theorem dX1_endsAbove_2 : decode cX1_endsAbove 2 = .ok (.invokevirtual 103, 3) := by decide +kernel
theorem dX1_endsAbove_5 : decode cX1_endsAbove 5 = .ok (.aload_n 0, 1) := by decide +kernel
theorem dX1_endsAbove_6 : decode cX1_endsAbove 6 = .ok (.getfield 36, 3) := by decide +kernel
theorem dX1_endsAbove_9 : decode cX1_endsAbove 9 = .ok (.getfield 115, 3) := by decide +kernel
theorem dX1_endsAbove_12 : decode cX1_endsAbove 12 = .ok (.iload_n 1, 1) := by decide +kernel
theorem dX1_endsAbove_13 : decode cX1_endsAbove 13 = .ok (.iaload, 1) := by decide +kernel
theorem dX1_endsAbove_14 : decode cX1_endsAbove 14 = .ok (.invokestatic 118, 3) := by decide +kernel
theorem dX1_endsAbove_17 : decode cX1_endsAbove 17 = .ok (.aload_n 0, 1) := by decide +kernel
theorem dX1_endsAbove_18 : decode cX1_endsAbove 18 = .ok (.getfield 36, 3) := by decide +kernel
theorem dX1_endsAbove_21 : decode cX1_endsAbove 21 = .ok (.getfield 68, 3) := by decide +kernel
theorem dX1_endsAbove_24 : decode cX1_endsAbove 24 = .ok (.iload_n 1, 1) := by decide +kernel
theorem dX1_endsAbove_25 : decode cX1_endsAbove 25 = .ok (.iaload, 1) := by decide +kernel
theorem dX1_endsAbove_26 : decode cX1_endsAbove 26 = .ok (.iadd, 1) := by decide +kernel
theorem dX1_endsAbove_27 : decode cX1_endsAbove 27 = .ok (.aload_n 0, 1) := by decide +kernel
theorem dX1_endsAbove_28 : decode cX1_endsAbove 28 = .ok (.getfield 36, 3) := by decide +kernel
theorem dX1_endsAbove_31 : decode cX1_endsAbove 31 = .ok (.getfield 124, 3) := by decide +kernel
theorem dX1_endsAbove_34 : decode cX1_endsAbove 34 = .ok (.iload_n 1, 1) := by decide +kernel
theorem dX1_endsAbove_35 : decode cX1_endsAbove 35 = .ok (.iaload, 1) := by decide +kernel
theorem dX1_endsAbove_36 : decode cX1_endsAbove 36 = .ok (.iadd, 1) := by decide +kernel
theorem dX1_endsAbove_37 : decode cX1_endsAbove 37 = .ok (.aload_n 0, 1) := by decide +kernel
theorem dX1_endsAbove_38 : decode cX1_endsAbove 38 = .ok (.getfield 62, 3) := by decide +kernel
theorem dX1_endsAbove_41 : decode cX1_endsAbove 41 = .ok (.if_icmp .le 7, 3) := by decide +kernel
theorem dX1_endsAbove_44 : decode cX1_endsAbove 44 = .ok (.iconst 1, 1) := by decide +kernel
theorem dX1_endsAbove_45 : decode cX1_endsAbove 45 = .ok (.goto 4, 3) := by decide +kernel
theorem dX1_endsAbove_48 : decode cX1_endsAbove 48 = .ok (.iconst 0, 1) := by decide +kernel
theorem dX1_endsAbove_49 : decode cX1_endsAbove 49 = .ok (.ireturn, 1) := by decide +kernel
set_option maxRecDepth 20000 in
theorem ggX1_isStranded_X1_isPassed : GoodIn wsX1_isStranded wsX1_isPassed := goodIn_r _ [9, 10, 11, 12, 8, 13, 14, 2, 15, 16, 3, 17, 18, 19, 20, 21, 22, 23, 24, 25, 26, 27, 28, 29, 30, 31, 32, 33, 34, 35, 36, 37, 38, 39, 40] (by decide +kernel) (by decide +kernel)
set_option maxRecDepth 20000 in
theorem gX1_isStranded_X1_isPassed : GoodIn wsX1_isStranded (wsV RX1 92 RX1 yX1_isPassed wsX1_isPassed) := goodIn_app (goodIn_of _ (by decide +kernel)) ggX1_isStranded_X1_isPassed
theorem dX1_isStranded_0 : decode cX1_isStranded 0 = .ok (.aload_n 0, 1) := by decide +kernel
theorem dX1_isStranded_1 : decode cX1_isStranded 1 = .ok (.getfield 33, 3) := by decide +kernel
theorem dX1_isStranded_4 : decode cX1_isStranded 4 = .ok (.aload_n 0, 1) := by decide +kernel
theorem dX1_isStranded_5 : decode cX1_isStranded 5 = .ok (.getfield 36, 3) := by decide +kernel
theorem dX1_isStranded_8 : decode cX1_isStranded 8 = .ok (.getfield 71, 3) := by decide +kernel
theorem dX1_isStranded_11 : decode cX1_isStranded 11 = .ok (.iload_n 1, 1) := by decide +kernel
theorem dX1_isStranded_12 : decode cX1_isStranded 12 = .ok (.iaload, 1) := by decide +kernel
theorem dX1_isStranded_13 : decode cX1_isStranded 13 = .ok (.iaload, 1) := by decide +kernel
theorem dX1_isStranded_14 : decode cX1_isStranded 14 = .ok (.iconst 1, 1) := by decide +kernel
theorem dX1_isStranded_15 : decode cX1_isStranded 15 = .ok (.iload_n 1, 1) := by decide +kernel
theorem dX1_isStranded_16 : decode cX1_isStranded 16 = .ok (.ishl, 1) := by decide +kernel
theorem dX1_isStranded_17 : decode cX1_isStranded 17 = .ok (.iconst (-1), 1) := by decide +kernel
theorem dX1_isStranded_18 : decode cX1_isStranded 18 = .ok (.ixor, 1) := by decide +kernel
theorem dX1_isStranded_19 : decode cX1_isStranded 19 = .ok (.iand, 1) := by decide +kernel
theorem dX1_isStranded_20 : decode cX1_isStranded 20 = .ok (.aload_n 0, 1) := by decide +kernel
theorem dX1_isStranded_21 : decode cX1_isStranded 21 = .ok (.getfield 36, 3) := by decide +kernel
theorem dX1_isStranded_24 : decode cX1_isStranded 24 = .ok (.getfield 127, 3) := by decide +kernel
theorem dX1_isStranded_27 : decode cX1_isStranded 27 = .ok (.iload_n 1, 1) := by decide +kernel
theorem dX1_isStranded_28 : decode cX1_isStranded 28 = .ok (.iaload, 1) := by decide +kernel
theorem dX1_isStranded_29 : decode cX1_isStranded 29 = .ok (.iconst (-1), 1) := by decide +kernel
theorem dX1_isStranded_30 : decode cX1_isStranded 30 = .ok (.ixor, 1) := by decide +kernel
theorem dX1_isStranded_31 : decode cX1_isStranded 31 = .ok (.iand, 1) := by decide +kernel
theorem dX1_isStranded_32 : decode cX1_isStranded 32 = .ok (.istore 4, 2) := by decide +kernel
theorem dX1_isStranded_34 : decode cX1_isStranded 34 = .ok (.iload 4, 2) := by decide +kernel
theorem dX1_isStranded_36 : decode cX1_isStranded 36 = .ok (.ifCond .ne 17, 3) := by decide +kernel
theorem dX1_isStranded_39 : decode cX1_isStranded 39 = .ok (.aload_n 0, 1) := by decide +kernel
theorem dX1_isStranded_40 : decode cX1_isStranded 40 = .ok (.iload_n 1, 1) := by decide +kernel
theorem dX1_isStranded_41 : decode cX1_isStranded 41 = .ok (.iload_n 2, 1) := by decide +kernel
theorem dX1_isStranded_42 : decode cX1_isStranded 42 = .ok (.iload_n 3, 1) := by decide +kernel
theorem dX1_isStranded_43 : decode cX1_isStranded 43 = .ok (.invokevirtual 92, 3) := by decide +kernel
theorem dX1_isStranded_46 : decode cX1_isStranded 46 = .ok (.ifCond .eq 7, 3) := by decide +kernel
theorem dX1_isStranded_49 : decode cX1_isStranded 49 = .ok (.iconst 1, 1) := by decide +kernel
theorem dX1_isStranded_50 : decode cX1_isStranded 50 = .ok (.goto 4, 3) := by decide +kernel
theorem dX1_isStranded_53 : decode cX1_isStranded 53 = .ok (.iconst 0, 1) := by decide +kernel
theorem dX1_isStranded_54 : decode cX1_isStranded 54 = .ok (.ireturn, 1) := by decide +kernel
set_option maxRecDepth 20000 in
theorem ggX1_keep_X1_isEarlier : GoodIn wsX1_keep wsX1_isEarlier := goodIn_r _ [20, 1, 2, 3, 11, 21, 22, 23, 24, 25, 26, 27, 28, 29, 30, 31, 32, 33, 34, 35, 36, 37, 38, 39, 40, 41, 42, 43, 44] (by decide +kernel) (by decide +kernel)
set_option maxRecDepth 20000 in
theorem gX1_keep_X1_isEarlier : GoodIn wsX1_keep (wsV RX1 130 RX1 yX1_isEarlier wsX1_isEarlier) := goodIn_app (goodIn_of _ (by decide +kernel)) ggX1_keep_X1_isEarlier
theorem dX1_keep_0 : decode cX1_keep 0 = .ok (.iconst 0, 1) := by decide +kernel
theorem dX1_keep_1 : decode cX1_keep 1 = .ok (.istore_n 1, 1) := by decide +kernel
theorem dX1_keep_2 : decode cX1_keep 2 = .ok (.iconst 0, 1) := by decide +kernel
theorem dX1_keep_3 : decode cX1_keep 3 = .ok (.istore_n 2, 1) := by decide +kernel
theorem dX1_keep_4 : decode cX1_keep 4 = .ok (.iload_n 2, 1) := by decide +kernel
theorem dX1_keep_5 : decode cX1_keep 5 = .ok (.aload_n 0, 1) := by decide +kernel
theorem dX1_keep_6 : decode cX1_keep 6 = .ok (.getfield 36, 3) := by decide +kernel
theorem dX1_keep_9 : decode cX1_keep 9 = .ok (.getfield 65, 3) := by decide +kernel
theorem dX1_keep_12 : decode cX1_keep 12 = .ok (.if_icmp .ge 30, 3) := by decide +kernel
theorem dX1_keep_15 : decode cX1_keep 15 = .ok (.iload_n 1, 1) := by decide +kernel
theorem dX1_keep_16 : decode cX1_keep 16 = .ok (.aload_n 0, 1) := by decide +kernel
theorem dX1_keep_17 : decode cX1_keep 17 = .ok (.getfield 15, 3) := by decide +kernel
theorem dX1_keep_20 : decode cX1_keep 20 = .ok (.iload_n 2, 1) := by decide +kernel
theorem dX1_keep_21 : decode cX1_keep 21 = .ok (.iaload, 1) := by decide +kernel
theorem dX1_keep_22 : decode cX1_keep 22 = .ok (.aload_n 0, 1) := by decide +kernel
theorem dX1_keep_23 : decode cX1_keep 23 = .ok (.getfield 36, 3) := by decide +kernel
theorem dX1_keep_26 : decode cX1_keep 26 = .ok (.getfield 68, 3) := by decide +kernel
theorem dX1_keep_29 : decode cX1_keep 29 = .ok (.iload_n 2, 1) := by decide +kernel
theorem dX1_keep_30 : decode cX1_keep 30 = .ok (.iaload, 1) := by decide +kernel
theorem dX1_keep_31 : decode cX1_keep 31 = .ok (.iadd, 1) := by decide +kernel
theorem dX1_keep_32 : decode cX1_keep 32 = .ok (.invokestatic 118, 3) := by decide +kernel
theorem dX1_keep_35 : decode cX1_keep 35 = .ok (.istore_n 1, 1) := by decide +kernel
theorem dX1_keep_36 : decode cX1_keep 36 = .ok (.iinc 2 1, 3) := by decide +kernel
theorem dX1_keep_39 : decode cX1_keep 39 = .ok (.goto (-35), 3) := by decide +kernel
theorem dX1_keep_42 : decode cX1_keep 42 = .ok (.iload_n 1, 1) := by decide +kernel
theorem dX1_keep_43 : decode cX1_keep 43 = .ok (.aload_n 0, 1) := by decide +kernel
theorem dX1_keep_44 : decode cX1_keep 44 = .ok (.getfield 62, 3) := by decide +kernel
theorem dX1_keep_47 : decode cX1_keep 47 = .ok (.if_icmp .le 4, 3) := by decide +kernel
theorem dX1_keep_50 : decode cX1_keep 50 = .ok (.return_, 1) := by decide +kernel
theorem dX1_keep_51 : decode cX1_keep 51 = .ok (.iload_n 1, 1) := by decide +kernel
theorem dX1_keep_52 : decode cX1_keep 52 = .ok (.aload_n 0, 1) := by decide +kernel
theorem dX1_keep_53 : decode cX1_keep 53 = .ok (.getfield 62, 3) := by decide +kernel
theorem dX1_keep_56 : decode cX1_keep 56 = .ok (.if_icmp .ge 13, 3) := by decide +kernel
theorem dX1_keep_59 : decode cX1_keep 59 = .ok (.aload_n 0, 1) := by decide +kernel
theorem dX1_keep_60 : decode cX1_keep 60 = .ok (.iload_n 1, 1) := by decide +kernel
theorem dX1_keep_61 : decode cX1_keep 61 = .ok (.putfield 62, 3) := by decide +kernel
theorem dX1_keep_64 : decode cX1_keep 64 = .ok (.aload_n 0, 1) := by decide +kernel
theorem dX1_keep_65 : decode cX1_keep 65 = .ok (.iconst 0, 1) := by decide +kernel
theorem dX1_keep_66 : decode cX1_keep 66 = .ok (.putfield 43, 3) := by decide +kernel
theorem dX1_keep_69 : decode cX1_keep 69 = .ok (.aload_n 0, 1) := by decide +kernel
theorem dX1_keep_70 : decode cX1_keep 70 = .ok (.getfield 43, 3) := by decide +kernel
theorem dX1_keep_73 : decode cX1_keep 73 = .ok (.ifCond .eq 10, 3) := by decide +kernel
theorem dX1_keep_76 : decode cX1_keep 76 = .ok (.aload_n 0, 1) := by decide +kernel
theorem dX1_keep_77 : decode cX1_keep 77 = .ok (.invokevirtual 130, 3) := by decide +kernel
theorem dX1_keep_80 : decode cX1_keep 80 = .ok (.ifCond .eq 23, 3) := by decide +kernel
theorem dX1_keep_83 : decode cX1_keep 83 = .ok (.aload_n 0, 1) := by decide +kernel
theorem dX1_keep_84 : decode cX1_keep 84 = .ok (.getfield 15, 3) := by decide +kernel
theorem dX1_keep_87 : decode cX1_keep 87 = .ok (.iconst 0, 1) := by decide +kernel
theorem dX1_keep_88 : decode cX1_keep 88 = .ok (.aload_n 0, 1) := by decide +kernel
theorem dX1_keep_89 : decode cX1_keep 89 = .ok (.getfield 9, 3) := by decide +kernel
theorem dX1_keep_92 : decode cX1_keep 92 = .ok (.iconst 0, 1) := by decide +kernel
theorem dX1_keep_93 : decode cX1_keep 93 = .ok (.aload_n 0, 1) := by decide +kernel
theorem dX1_keep_94 : decode cX1_keep 94 = .ok (.getfield 36, 3) := by decide +kernel
theorem dX1_keep_97 : decode cX1_keep 97 = .ok (.getfield 65, 3) := by decide +kernel
theorem dX1_keep_100 : decode cX1_keep 100 = .ok (.invokestatic 134, 3) := by decide +kernel
theorem dX1_keep_103 : decode cX1_keep 103 = .ok (.aload_n 0, 1) := by decide +kernel
theorem dX1_keep_104 : decode cX1_keep 104 = .ok (.dup, 1) := by decide +kernel
theorem dX1_keep_105 : decode cX1_keep 105 = .ok (.getfield 43, 3) := by decide +kernel
theorem dX1_keep_108 : decode cX1_keep 108 = .ok (.iconst 1, 1) := by decide +kernel
theorem dX1_keep_109 : decode cX1_keep 109 = .ok (.iadd, 1) := by decide +kernel
theorem dX1_keep_110 : decode cX1_keep 110 = .ok (.putfield 43, 3) := by decide +kernel
theorem dX1_keep_113 : decode cX1_keep 113 = .ok (.return_, 1) := by decide +kernel
theorem dX1_isEarlier_0 : decode cX1_isEarlier 0 = .ok (.iconst 0, 1) := by decide +kernel
theorem dX1_isEarlier_1 : decode cX1_isEarlier 1 = .ok (.istore_n 1, 1) := by decide +kernel
theorem dX1_isEarlier_2 : decode cX1_isEarlier 2 = .ok (.iload_n 1, 1) := by decide +kernel
theorem dX1_isEarlier_3 : decode cX1_isEarlier 3 = .ok (.aload_n 0, 1) := by decide +kernel
theorem dX1_isEarlier_4 : decode cX1_isEarlier 4 = .ok (.getfield 36, 3) := by decide +kernel
theorem dX1_isEarlier_7 : decode cX1_isEarlier 7 = .ok (.getfield 65, 3) := by decide +kernel
theorem dX1_isEarlier_10 : decode cX1_isEarlier 10 = .ok (.if_icmp .ge 45, 3) := by decide +kernel
theorem dX1_isEarlier_13 : decode cX1_isEarlier 13 = .ok (.aload_n 0, 1) := by decide +kernel
theorem dX1_isEarlier_14 : decode cX1_isEarlier 14 = .ok (.getfield 15, 3) := by decide +kernel
theorem dX1_isEarlier_17 : decode cX1_isEarlier 17 = .ok (.iload_n 1, 1) := by decide +kernel
theorem dX1_isEarlier_18 : decode cX1_isEarlier 18 = .ok (.iaload, 1) := by decide +kernel
theorem dX1_isEarlier_19 : decode cX1_isEarlier 19 = .ok (.aload_n 0, 1) := by decide +kernel
theorem dX1_isEarlier_20 : decode cX1_isEarlier 20 = .ok (.getfield 9, 3) := by decide +kernel
theorem dX1_isEarlier_23 : decode cX1_isEarlier 23 = .ok (.iload_n 1, 1) := by decide +kernel
theorem dX1_isEarlier_24 : decode cX1_isEarlier 24 = .ok (.iaload, 1) := by decide +kernel
theorem dX1_isEarlier_25 : decode cX1_isEarlier 25 = .ok (.if_icmp .eq 24, 3) := by decide +kernel
theorem dX1_isEarlier_28 : decode cX1_isEarlier 28 = .ok (.aload_n 0, 1) := by decide +kernel
theorem dX1_isEarlier_29 : decode cX1_isEarlier 29 = .ok (.getfield 15, 3) := by decide +kernel
theorem dX1_isEarlier_32 : decode cX1_isEarlier 32 = .ok (.iload_n 1, 1) := by decide +kernel
theorem dX1_isEarlier_33 : decode cX1_isEarlier 33 = .ok (.iaload, 1) := by decide +kernel
theorem dX1_isEarlier_34 : decode cX1_isEarlier 34 = .ok (.aload_n 0, 1) := by decide +kernel
theorem dX1_isEarlier_35 : decode cX1_isEarlier 35 = .ok (.getfield 9, 3) := by decide +kernel
theorem dX1_isEarlier_38 : decode cX1_isEarlier 38 = .ok (.iload_n 1, 1) := by decide +kernel
theorem dX1_isEarlier_39 : decode cX1_isEarlier 39 = .ok (.iaload, 1) := by decide +kernel
theorem dX1_isEarlier_40 : decode cX1_isEarlier 40 = .ok (.if_icmp .ge 7, 3) := by decide +kernel
theorem dX1_isEarlier_43 : decode cX1_isEarlier 43 = .ok (.iconst 1, 1) := by decide +kernel
theorem dX1_isEarlier_44 : decode cX1_isEarlier 44 = .ok (.goto 4, 3) := by decide +kernel
theorem dX1_isEarlier_47 : decode cX1_isEarlier 47 = .ok (.iconst 0, 1) := by decide +kernel
theorem dX1_isEarlier_48 : decode cX1_isEarlier 48 = .ok (.ireturn, 1) := by decide +kernel
theorem dX1_isEarlier_49 : decode cX1_isEarlier 49 = .ok (.iinc 1 1, 3) := by decide +kernel
theorem dX1_isEarlier_52 : decode cX1_isEarlier 52 = .ok (.goto (-50), 3) := by decide +kernel
theorem dX1_isEarlier_55 : decode cX1_isEarlier 55 = .ok (.iconst 0, 1) := by decide +kernel
theorem dX1_isEarlier_56 : decode cX1_isEarlier 56 = .ok (.ireturn, 1) := by decide +kernel
