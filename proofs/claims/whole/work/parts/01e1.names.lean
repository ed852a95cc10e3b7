theorem dX3_free_26 : decode cX3_free 26 = .ok (.aload_n 0, 1) := by decide +kernel
theorem dX3_free_27 : decode cX3_free 27 = .ok (.getfield 19, 3) := by decide +kernel
theorem dX3_free_30 : decode cX3_free 30 = .ok (.bipush 12, 2) := by decide +kernel
theorem dX3_free_32 : decode cX3_free 32 = .ok (.iload_n 2, 1) := by decide +kernel
theorem dX3_free_33 : decode cX3_free 33 = .ok (.imul, 1) := by decide +kernel
theorem dX3_free_34 : decode cX3_free 34 = .ok (.iload_n 1, 1) := by decide +kernel
theorem dX3_free_35 : decode cX3_free 35 = .ok (.iadd, 1) := by decide +kernel
theorem dX3_free_36 : decode cX3_free 36 = .ok (.baload, 1) := by decide +kernel
theorem dX3_free_37 : decode cX3_free 37 = .ok (.ifCond .ne 5, 3) := by decide +kernel
theorem dX3_free_40 : decode cX3_free 40 = .ok (.iconst 0, 1) := by decide +kernel
theorem dX3_free_41 : decode cX3_free 41 = .ok (.ireturn, 1) := by decide +kernel
theorem dX3_free_42 : decode cX3_free 42 = .ok (.aload_n 0, 1) := by decide +kernel
theorem dX3_free_43 : decode cX3_free 43 = .ok (.getfield 19, 3) := by decide +kernel
theorem dX3_free_46 : decode cX3_free 46 = .ok (.bipush 12, 2) := by decide +kernel
theorem dX3_free_48 : decode cX3_free 48 = .ok (.iload_n 1, 1) := by decide +kernel
theorem dX3_free_49 : decode cX3_free 49 = .ok (.imul, 1) := by decide +kernel
theorem dX3_free_50 : decode cX3_free 50 = .ok (.iload_n 2, 1) := by decide +kernel
theorem dX3_free_51 : decode cX3_free 51 = .ok (.iadd, 1) := by decide +kernel
theorem dX3_free_52 : decode cX3_free 52 = .ok (.iconst 0, 1) := by decide +kernel
theorem dX3_free_53 : decode cX3_free 53 = .ok (.bastore, 1) := by decide +kernel
theorem dX3_free_54 : decode cX3_free 54 = .ok (.aload_n 0, 1) := by decide +kernel
theorem dX3_free_55 : decode cX3_free 55 = .ok (.getfield 19, 3) := by decide +kernel
theorem dX3_free_58 : decode cX3_free 58 = .ok (.bipush 12, 2) := by decide +kernel
theorem dX3_free_60 : decode cX3_free 60 = .ok (.iload_n 2, 1) := by decide +kernel
theorem dX3_free_61 : decode cX3_free 61 = .ok (.imul, 1) := by decide +kernel
theorem dX3_free_62 : decode cX3_free 62 = .ok (.iload_n 1, 1) := by decide +kernel
theorem dX3_free_63 : decode cX3_free 63 = .ok (.iadd, 1) := by decide +kernel
theorem dX3_free_64 : decode cX3_free 64 = .ok (.iconst 0, 1) := by decide +kernel
theorem dX3_free_65 : decode cX3_free 65 = .ok (.bastore, 1) := by decide +kernel
theorem dX3_free_66 : decode cX3_free 66 = .ok (.aload_n 0, 1) := by decide +kernel
theorem dX3_free_67 : decode cX3_free 67 = .ok (.invokevirtual 66, 3) := by decide +kernel
theorem dX3_free_70 : decode cX3_free 70 = .ok (.iconst 1, 1) := by decide +kernel
theorem dX3_free_71 : decode cX3_free 71 = .ok (.ireturn, 1) := by decide +kernel
set_option maxRecDepth 20000 in
theorem ggX3_arc_X3_isPair : GoodIn wsX3_arc wsX3_isPair := goodIn_r _ [6, 7, 8, 9, 10, 5, 11, 12, 13, 14, 15, 16, 17, 18, 19, 20, 21, 22, 23, 24, 25, 26, 27, 28, 29, 30, 31] (by decide +kernel) (by decide +kernel)
set_option maxRecDepth 20000 in
theorem gX3_arc_X3_isPair : GoodIn wsX3_arc (wsV RX3 85 RX3 yX3_isPair wsX3_isPair) := goodIn_app (goodIn_of _ (by decide +kernel)) ggX3_arc_X3_isPair
theorem dX3_arc_0 : decode cX3_arc 0 = .ok (.aload_n 0, 1) := by decide +kernel
theorem dX3_arc_1 : decode cX3_arc 1 = .ok (.iload_n 1, 1) := by decide +kernel
theorem dX3_arc_2 : decode cX3_arc 2 = .ok (.iload_n 2, 1) := by decide +kernel
theorem dX3_arc_3 : decode cX3_arc 3 = .ok (.invokevirtual 85, 3) := by decide +kernel
theorem dX3_arc_6 : decode cX3_arc 6 = .ok (.ifCond .ne 8, 3) := by decide +kernel
theorem dX3_arc_9 : decode cX3_arc 9 = .ok (.bipush (-2), 2) := by decide +kernel
theorem dX3_arc_11 : decode cX3_arc 11 = .ok (.goto 22, 3) := by decide +kernel
theorem dX3_arc_14 : decode cX3_arc 14 = .ok (.aload_n 0, 1) := by decide +kernel
theorem dX3_arc_15 : decode cX3_arc 15 = .ok (.getfield 19, 3) := by decide +kernel
theorem dX3_arc_18 : decode cX3_arc 18 = .ok (.bipush 12, 2) := by decide +kernel
theorem dX3_arc_20 : decode cX3_arc 20 = .ok (.iload_n 1, 1) := by decide +kernel
theorem dX3_arc_21 : decode cX3_arc 21 = .ok (.imul, 1) := by decide +kernel
theorem dX3_arc_22 : decode cX3_arc 22 = .ok (.iload_n 2, 1) := by decide +kernel
theorem dX3_arc_23 : decode cX3_arc 23 = .ok (.iadd, 1) := by decide +kernel
theorem dX3_arc_24 : decode cX3_arc 24 = .ok (.baload, 1) := by decide +kernel
theorem dX3_arc_25 : decode cX3_arc 25 = .ok (.ifCond .eq 7, 3) := by decide +kernel
theorem dX3_arc_28 : decode cX3_arc 28 = .ok (.iconst 1, 1) := by decide +kernel
theorem dX3_arc_29 : decode cX3_arc 29 = .ok (.goto 4, 3) := by decide +kernel
theorem dX3_arc_32 : decode cX3_arc 32 = .ok (.iconst 0, 1) := by decide +kernel
theorem dX3_arc_33 : decode cX3_arc 33 = .ok (.ireturn, 1) := by decide +kernel
set_option maxRecDepth 20000 in
theorem ggX3_told_X3_isOperation : GoodIn wsX3_told wsX3_isOperation := goodIn_r _ [13, 14, 15, 16, 12, 17, 42, 43, 44, 45, 46, 47, 48, 49, 50, 51, 52, 53, 54, 55, 56, 57] (by decide +kernel) (by decide +kernel)
set_option maxRecDepth 20000 in
theorem gX3_told_X3_isOperation : GoodIn wsX3_told (wsV RX3 55 RX3 yX3_isOperation wsX3_isOperation) := goodIn_app (goodIn_of _ (by decide +kernel)) ggX3_told_X3_isOperation
set_option maxRecDepth 20000 in
theorem ggX3_told_X3_look : GoodIn wsX3_told wsX3_look := goodIn_r _ [21, 22, 23, 24, 12, 25, 14, 5, 4, 26, 27, 28, 29, 30, 31, 32, 33, 2, 34, 35, 36, 37, 6, 42, 43, 44, 45, 46, 47, 48, 49, 50, 51, 52, 53, 54, 55, 56, 57] (by decide +kernel) (by decide +kernel)
set_option maxRecDepth 20000 in
theorem gX3_told_X3_look : GoodIn wsX3_told (wsV RX3 92 RX3 yX3_look wsX3_look) := goodIn_app (goodIn_of _ (by decide +kernel)) ggX3_told_X3_look
set_option maxRecDepth 20000 in
theorem ggX3_told_X3_longest : GoodIn wsX3_told wsX3_longest := goodIn_r _ [41, 14, 5, 4, 6, 42, 43, 44, 45, 46, 47, 48, 49, 50, 51, 52, 53, 54, 55, 56, 57] (by decide +kernel) (by decide +kernel)
set_option maxRecDepth 20000 in
theorem gX3_told_X3_longest : GoodIn wsX3_told (wsV RX3 95 RX3 yX3_longest wsX3_longest) := goodIn_app (goodIn_of _ (by decide +kernel)) ggX3_told_X3_longest
theorem dX3_told_0 : decode cX3_told 0 = .ok (.aload_n 0, 1) := by decide +kernel
theorem dX3_told_1 : decode cX3_told 1 = .ok (.iload_n 1, 1) := by decide +kernel
theorem dX3_told_2 : decode cX3_told 2 = .ok (.invokevirtual 55, 3) := by decide +kernel
theorem dX3_told_5 : decode cX3_told 5 = .ok (.ifCond .ne 5, 3) := by decide +kernel
theorem dX3_told_8 : decode cX3_told 8 = .ok (.iconst (-1), 1) := by decide +kernel
theorem dX3_told_9 : decode cX3_told 9 = .ok (.ireturn, 1) := by decide +kernel
theorem dX3_told_10 : decode cX3_told 10 = .ok (.aload_n 0, 1) := by decide +kernel
theorem dX3_told_11 : decode cX3_told 11 = .ok (.aload_n 0, 1) := by decide +kernel
theorem dX3_told_12 : decode cX3_told 12 = .ok (.getfield 19, 3) := by decide +kernel
theorem dX3_told_15 : decode cX3_told 15 = .ok (.invokevirtual 92, 3) := by decide +kernel
theorem dX3_told_18 : decode cX3_told 18 = .ok (.iload_n 2, 1) := by decide +kernel
theorem dX3_told_19 : decode cX3_told 19 = .ok (.tableswitch 127 0 6 #[41, 48, 55, 62, 69, 76, 109], 41) := by decide +kernel
theorem dX3_told_60 : decode cX3_told 60 = .ok (.aload_n 0, 1) := by decide +kernel
theorem dX3_told_61 : decode cX3_told 61 = .ok (.getfield 7, 3) := by decide +kernel
theorem dX3_told_64 : decode cX3_told 64 = .ok (.iload_n 1, 1) := by decide +kernel
theorem dX3_told_65 : decode cX3_told 65 = .ok (.iaload, 1) := by decide +kernel
theorem dX3_told_66 : decode cX3_told 66 = .ok (.ireturn, 1) := by decide +kernel
theorem dX3_told_67 : decode cX3_told 67 = .ok (.aload_n 0, 1) := by decide +kernel
theorem dX3_told_68 : decode cX3_told 68 = .ok (.getfield 13, 3) := by decide +kernel
theorem dX3_told_71 : decode cX3_told 71 = .ok (.iload_n 1, 1) := by decide +kernel
theorem dX3_told_72 : decode cX3_told 72 = .ok (.iaload, 1) := by decide +kernel
theorem dX3_told_73 : decode cX3_told 73 = .ok (.ireturn, 1) := by decide +kernel
theorem dX3_told_74 : decode cX3_told 74 = .ok (.aload_n 0, 1) := by decide +kernel
theorem dX3_told_75 : decode cX3_told 75 = .ok (.getfield 16, 3) := by decide +kernel
theorem dX3_told_78 : decode cX3_told 78 = .ok (.iload_n 1, 1) := by decide +kernel
theorem dX3_told_79 : decode cX3_told 79 = .ok (.iaload, 1) := by decide +kernel
theorem dX3_told_80 : decode cX3_told 80 = .ok (.ireturn, 1) := by decide +kernel
theorem dX3_told_81 : decode cX3_told 81 = .ok (.aload_n 0, 1) := by decide +kernel
theorem dX3_told_82 : decode cX3_told 82 = .ok (.getfield 29, 3) := by decide +kernel
theorem dX3_told_85 : decode cX3_told 85 = .ok (.iload_n 1, 1) := by decide +kernel
theorem dX3_told_86 : decode cX3_told 86 = .ok (.iaload, 1) := by decide +kernel
theorem dX3_told_87 : decode cX3_told 87 = .ok (.ireturn, 1) := by decide +kernel
theorem dX3_told_88 : decode cX3_told 88 = .ok (.aload_n 0, 1) := by decide +kernel
theorem dX3_told_89 : decode cX3_told 89 = .ok (.getfield 32, 3) := by decide +kernel
theorem dX3_told_92 : decode cX3_told 92 = .ok (.iload_n 1, 1) := by decide +kernel
theorem dX3_told_93 : decode cX3_told 93 = .ok (.iaload, 1) := by decide +kernel
theorem dX3_told_94 : decode cX3_told 94 = .ok (.ireturn, 1) := by decide +kernel
theorem dX3_told_95 : decode cX3_told 95 = .ok (.aload_n 0, 1) := by decide +kernel
theorem dX3_told_96 : decode cX3_told 96 = .ok (.getfield 29, 3) := by decide +kernel
theorem dX3_told_99 : decode cX3_told 99 = .ok (.iload_n 1, 1) := by decide +kernel
theorem dX3_told_100 : decode cX3_told 100 = .ok (.iaload, 1) := by decide +kernel
theorem dX3_told_101 : decode cX3_told 101 = .ok (.aload_n 0, 1) := by decide +kernel
theorem dX3_told_102 : decode cX3_told 102 = .ok (.getfield 16, 3) := by decide +kernel
theorem dX3_told_105 : decode cX3_told 105 = .ok (.iload_n 1, 1) := by decide +kernel
theorem dX3_told_106 : decode cX3_told 106 = .ok (.iaload, 1) := by decide +kernel
theorem dX3_told_107 : decode cX3_told 107 = .ok (.iadd, 1) := by decide +kernel
theorem dX3_told_108 : decode cX3_told 108 = .ok (.aload_n 0, 1) := by decide +kernel
theorem dX3_told_109 : decode cX3_told 109 = .ok (.getfield 32, 3) := by decide +kernel
theorem dX3_told_112 : decode cX3_told 112 = .ok (.iload_n 1, 1) := by decide +kernel
theorem dX3_told_113 : decode cX3_told 113 = .ok (.iaload, 1) := by decide +kernel
theorem dX3_told_114 : decode cX3_told 114 = .ok (.iadd, 1) := by decide +kernel
theorem dX3_told_115 : decode cX3_told 115 = .ok (.aload_n 0, 1) := by decide +kernel
theorem dX3_told_116 : decode cX3_told 116 = .ok (.invokevirtual 95, 3) := by decide +kernel
theorem dX3_told_119 : decode cX3_told 119 = .ok (.if_icmp .ne 7, 3) := by decide +kernel
theorem dX3_told_122 : decode cX3_told 122 = .ok (.iconst 1, 1) := by decide +kernel
theorem dX3_told_123 : decode cX3_told 123 = .ok (.goto 4, 3) := by decide +kernel
theorem dX3_told_126 : decode cX3_told 126 = .ok (.iconst 0, 1) := by decide +kernel
theorem dX3_told_127 : decode cX3_told 127 = .ok (.ireturn, 1) := by decide +kernel
theorem dX3_told_128 : decode cX3_told 128 = .ok (.aload_n 0, 1) := by decide +kernel
theorem dX3_told_129 : decode cX3_told 129 = .ok (.getfield 59, 3) := by decide +kernel
theorem dX3_told_132 : decode cX3_told 132 = .ok (.ifCond .eq 12, 3) := by decide +kernel
theorem dX3_told_135 : decode cX3_told 135 = .ok (.aload_n 0, 1) := by decide +kernel
theorem dX3_told_136 : decode cX3_told 136 = .ok (.getfield 26, 3) := by decide +kernel
theorem dX3_told_139 : decode cX3_told 139 = .ok (.iload_n 1, 1) := by decide +kernel
theorem dX3_told_140 : decode cX3_told 140 = .ok (.iaload, 1) := by decide +kernel
theorem dX3_told_141 : decode cX3_told 141 = .ok (.goto 4, 3) := by decide +kernel
theorem dX3_told_144 : decode cX3_told 144 = .ok (.iconst (-1), 1) := by decide +kernel
theorem dX3_told_145 : decode cX3_told 145 = .ok (.ireturn, 1) := by decide +kernel
theorem dX3_told_146 : decode cX3_told 146 = .ok (.bipush (-2), 2) := by decide +kernel
theorem dX3_told_148 : decode cX3_told 148 = .ok (.ireturn, 1) := by decide +kernel
set_option maxRecDepth 20000 in
theorem ggX3_length_X3_look : GoodIn wsX3_length wsX3_look := goodIn_r _ [6, 7, 8, 9, 5, 10, 11, 12, 13, 14, 15, 16, 17, 18, 19, 20, 21, 22, 23, 24, 25, 26, 27, 32, 33, 34, 35, 36, 37, 38, 39, 40, 41, 42, 43, 44, 45, 46, 47] (by decide +kernel) (by decide +kernel)
set_option maxRecDepth 20000 in
theorem gX3_length_X3_look : GoodIn wsX3_length (wsV RX3 92 RX3 yX3_look wsX3_look) := goodIn_app (goodIn_of _ (by decide +kernel)) ggX3_length_X3_look
set_option maxRecDepth 20000 in
theorem ggX3_length_X3_longest : GoodIn wsX3_length wsX3_longest := goodIn_r _ [31, 11, 12, 13, 27, 32, 33, 34, 35, 36, 37, 38, 39, 40, 41, 42, 43, 44, 45, 46, 47] (by decide +kernel) (by decide +kernel)
set_option maxRecDepth 20000 in
theorem gX3_length_X3_longest : GoodIn wsX3_length (wsV RX3 95 RX3 yX3_longest wsX3_longest) := goodIn_app (goodIn_of _ (by decide +kernel)) ggX3_length_X3_longest
theorem dX3_length_0 : decode cX3_length 0 = .ok (.aload_n 0, 1) := by decide +kernel
theorem dX3_length_1 : decode cX3_length 1 = .ok (.aload_n 0, 1) := by decide +kernel
theorem dX3_length_2 : decode cX3_length 2 = .ok (.getfield 19, 3) := by decide +kernel
theorem dX3_length_5 : decode cX3_length 5 = .ok (.invokevirtual 92, 3) := by decide +kernel
theorem dX3_length_8 : decode cX3_length 8 = .ok (.aload_n 0, 1) := by decide +kernel
theorem dX3_length_9 : decode cX3_length 9 = .ok (.invokevirtual 95, 3) := by decide +kernel
theorem dX3_length_12 : decode cX3_length 12 = .ok (.ireturn, 1) := by decide +kernel
set_option maxRecDepth 20000 in
theorem ggX3_load_X3_in : GoodIn wsX3_load wsX3_in := goodIn_r _ [10] (by decide +kernel) (by decide +kernel)
set_option maxRecDepth 20000 in
theorem gX3_load_X3_in : GoodIn wsX3_load (va_wsS RX3 51 yX3_in wsX3_in) := goodIn_app (goodIn_of _ (by decide +kernel)) ggX3_load_X3_in
set_option maxRecDepth 20000 in
theorem ggX3_load_X3_look : GoodIn wsX3_load wsX3_look := goodIn_r _ [14, 15, 16, 17, 9, 18, 2, 4, 6, 19, 20, 21, 22, 23, 24, 25, 26, 27, 28, 29, 30, 31, 5, 32, 33, 34, 35, 36, 37, 38, 39, 40, 41, 42, 43, 44, 45, 46, 47] (by decide +kernel) (by decide +kernel)
set_option maxRecDepth 20000 in
theorem gX3_load_X3_look : GoodIn wsX3_load (wsV RX3 92 RX3 yX3_look wsX3_look) := goodIn_app (goodIn_of _ (by decide +kernel)) ggX3_load_X3_look
theorem dX3_load_0 : decode cX3_load 0 = .ok (.iload_n 1, 1) := by decide +kernel
theorem dX3_load_1 : decode cX3_load 1 = .ok (.iconst 0, 1) := by decide +kernel
theorem dX3_load_2 : decode cX3_load 2 = .ok (.iconst 3, 1) := by decide +kernel
theorem dX3_load_3 : decode cX3_load 3 = .ok (.invokestatic 51, 3) := by decide +kernel
theorem dX3_load_6 : decode cX3_load 6 = .ok (.ifCond .ne 6, 3) := by decide +kernel
theorem dX3_load_9 : decode cX3_load 9 = .ok (.bipush (-2), 2) := by decide +kernel
theorem dX3_load_11 : decode cX3_load 11 = .ok (.ireturn, 1) := by decide +kernel
theorem dX3_load_12 : decode cX3_load 12 = .ok (.aload_n 0, 1) := by decide +kernel
theorem dX3_load_13 : decode cX3_load 13 = .ok (.aload_n 0, 1) := by decide +kernel
theorem dX3_load_14 : decode cX3_load 14 = .ok (.getfield 19, 3) := by decide +kernel
theorem dX3_load_17 : decode cX3_load 17 = .ok (.invokevirtual 92, 3) := by decide +kernel
theorem dX3_load_20 : decode cX3_load 20 = .ok (.iconst 0, 1) := by decide +kernel
theorem dX3_load_21 : decode cX3_load 21 = .ok (.istore_n 2, 1) := by decide +kernel
theorem dX3_load_22 : decode cX3_load 22 = .ok (.iconst 1, 1) := by decide +kernel
theorem dX3_load_23 : decode cX3_load 23 = .ok (.istore_n 3, 1) := by decide +kernel
theorem dX3_load_24 : decode cX3_load 24 = .ok (.iload_n 3, 1) := by decide +kernel
theorem dX3_load_25 : decode cX3_load 25 = .ok (.iconst 1, 1) := by decide +kernel
theorem dX3_load_26 : decode cX3_load 26 = .ok (.aload_n 0, 1) := by decide +kernel
theorem dX3_load_27 : decode cX3_load 27 = .ok (.getfield 48, 3) := by decide +kernel
theorem dX3_load_30 : decode cX3_load 30 = .ok (.ishl, 1) := by decide +kernel
theorem dX3_load_31 : decode cX3_load 31 = .ok (.if_icmp .ge 170, 3) := by decide +kernel
theorem dX3_load_34 : decode cX3_load 34 = .ok (.sipush 1000, 3) := by decide +kernel
theorem dX3_load_37 : decode cX3_load 37 = .ok (.istore 4, 2) := by decide +kernel
theorem dX3_load_39 : decode cX3_load 39 = .ok (.sipush 1000, 3) := by decide +kernel
theorem dX3_load_42 : decode cX3_load 42 = .ok (.istore 5, 2) := by decide +kernel
theorem dX3_load_44 : decode cX3_load 44 = .ok (.iconst 0, 1) := by decide +kernel
theorem dX3_load_45 : decode cX3_load 45 = .ok (.istore 6, 2) := by decide +kernel
theorem dX3_load_47 : decode cX3_load 47 = .ok (.iconst 1, 1) := by decide +kernel
theorem dX3_load_48 : decode cX3_load 48 = .ok (.istore 7, 2) := by decide +kernel
theorem dX3_load_50 : decode cX3_load 50 = .ok (.iconst 0, 1) := by decide +kernel
theorem dX3_load_51 : decode cX3_load 51 = .ok (.istore 8, 2) := by decide +kernel
theorem dX3_load_53 : decode cX3_load 53 = .ok (.iload 8, 2) := by decide +kernel
theorem dX3_load_55 : decode cX3_load 55 = .ok (.aload_n 0, 1) := by decide +kernel
theorem dX3_load_56 : decode cX3_load 56 = .ok (.getfield 48, 3) := by decide +kernel
theorem dX3_load_59 : decode cX3_load 59 = .ok (.if_icmp .ge 106, 3) := by decide +kernel
theorem dX3_load_62 : decode cX3_load 62 = .ok (.iload_n 3, 1) := by decide +kernel
theorem dX3_load_63 : decode cX3_load 63 = .ok (.iload 8, 2) := by decide +kernel
theorem dX3_load_65 : decode cX3_load 65 = .ok (.ishr, 1) := by decide +kernel
theorem dX3_load_66 : decode cX3_load 66 = .ok (.iconst 1, 1) := by decide +kernel
theorem dX3_load_67 : decode cX3_load 67 = .ok (.iand, 1) := by decide +kernel
theorem dX3_load_68 : decode cX3_load 68 = .ok (.iconst 1, 1) := by decide +kernel
theorem dX3_load_69 : decode cX3_load 69 = .ok (.if_icmp .ne 90, 3) := by decide +kernel
theorem dX3_load_72 : decode cX3_load 72 = .ok (.iload 7, 2) := by decide +kernel
theorem dX3_load_74 : decode cX3_load 74 = .ok (.ifCond .eq 18, 3) := by decide +kernel
theorem dX3_load_77 : decode cX3_load 77 = .ok (.aload_n 0, 1) := by decide +kernel
theorem dX3_load_78 : decode cX3_load 78 = .ok (.getfield 13, 3) := by decide +kernel
theorem dX3_load_81 : decode cX3_load 81 = .ok (.iload 8, 2) := by decide +kernel
theorem dX3_load_83 : decode cX3_load 83 = .ok (.iaload, 1) := by decide +kernel
theorem dX3_load_84 : decode cX3_load 84 = .ok (.iload_n 1, 1) := by decide +kernel
theorem dX3_load_85 : decode cX3_load 85 = .ok (.if_icmp .ne 7, 3) := by decide +kernel
theorem dX3_load_88 : decode cX3_load 88 = .ok (.iconst 1, 1) := by decide +kernel
theorem dX3_load_89 : decode cX3_load 89 = .ok (.goto 4, 3) := by decide +kernel
theorem dX3_load_92 : decode cX3_load 92 = .ok (.iconst 0, 1) := by decide +kernel
theorem dX3_load_93 : decode cX3_load 93 = .ok (.istore 7, 2) := by decide +kernel
theorem dX3_load_95 : decode cX3_load 95 = .ok (.aload_n 0, 1) := by decide +kernel
theorem dX3_load_96 : decode cX3_load 96 = .ok (.getfield 29, 3) := by decide +kernel
theorem dX3_load_99 : decode cX3_load 99 = .ok (.iload 8, 2) := by decide +kernel
theorem dX3_load_101 : decode cX3_load 101 = .ok (.iaload, 1) := by decide +kernel
theorem dX3_load_102 : decode cX3_load 102 = .ok (.iload 4, 2) := by decide +kernel
theorem dX3_load_104 : decode cX3_load 104 = .ok (.if_icmp .ge 13, 3) := by decide +kernel
theorem dX3_load_107 : decode cX3_load 107 = .ok (.aload_n 0, 1) := by decide +kernel
theorem dX3_load_108 : decode cX3_load 108 = .ok (.getfield 29, 3) := by decide +kernel
theorem dX3_load_111 : decode cX3_load 111 = .ok (.iload 8, 2) := by decide +kernel
theorem dX3_load_113 : decode cX3_load 113 = .ok (.iaload, 1) := by decide +kernel
theorem dX3_load_114 : decode cX3_load 114 = .ok (.goto 5, 3) := by decide +kernel
theorem dX3_load_117 : decode cX3_load 117 = .ok (.iload 4, 2) := by decide +kernel
theorem dX3_load_119 : decode cX3_load 119 = .ok (.istore 4, 2) := by decide +kernel
theorem dX3_load_121 : decode cX3_load 121 = .ok (.aload_n 0, 1) := by decide +kernel
theorem dX3_load_122 : decode cX3_load 122 = .ok (.getfield 32, 3) := by decide +kernel
theorem dX3_load_125 : decode cX3_load 125 = .ok (.iload 8, 2) := by decide +kernel
theorem dX3_load_127 : decode cX3_load 127 = .ok (.iaload, 1) := by decide +kernel
theorem dX3_load_128 : decode cX3_load 128 = .ok (.iload 5, 2) := by decide +kernel
theorem dX3_load_130 : decode cX3_load 130 = .ok (.if_icmp .ge 13, 3) := by decide +kernel
theorem dX3_load_133 : decode cX3_load 133 = .ok (.aload_n 0, 1) := by decide +kernel
theorem dX3_load_134 : decode cX3_load 134 = .ok (.getfield 32, 3) := by decide +kernel
theorem dX3_load_137 : decode cX3_load 137 = .ok (.iload 8, 2) := by decide +kernel
theorem dX3_load_139 : decode cX3_load 139 = .ok (.iaload, 1) := by decide +kernel
theorem dX3_load_140 : decode cX3_load 140 = .ok (.goto 5, 3) := by decide +kernel
theorem dX3_load_143 : decode cX3_load 143 = .ok (.iload 5, 2) := by decide +kernel
theorem dX3_load_145 : decode cX3_load 145 = .ok (.istore 5, 2) := by decide +kernel
theorem dX3_load_147 : decode cX3_load 147 = .ok (.iload 6, 2) := by decide +kernel
theorem dX3_load_149 : decode cX3_load 149 = .ok (.aload_n 0, 1) := by decide +kernel
theorem dX3_load_150 : decode cX3_load 150 = .ok (.getfield 16, 3) := by decide +kernel
theorem dX3_load_153 : decode cX3_load 153 = .ok (.iload 8, 2) := by decide +kernel
theorem dX3_load_155 : decode cX3_load 155 = .ok (.iaload, 1) := by decide +kernel
theorem dX3_load_156 : decode cX3_load 156 = .ok (.iadd, 1) := by decide +kernel
theorem dX3_load_157 : decode cX3_load 157 = .ok (.istore 6, 2) := by decide +kernel
theorem dX3_load_159 : decode cX3_load 159 = .ok (.iinc 8 1, 3) := by decide +kernel
theorem dX3_load_162 : decode cX3_load 162 = .ok (.goto (-109), 3) := by decide +kernel
theorem dX3_load_165 : decode cX3_load 165 = .ok (.iload 7, 2) := by decide +kernel
theorem dX3_load_167 : decode cX3_load 167 = .ok (.ifCond .eq 26, 3) := by decide +kernel
theorem dX3_load_170 : decode cX3_load 170 = .ok (.iload 4, 2) := by decide +kernel
theorem dX3_load_172 : decode cX3_load 172 = .ok (.iload 6, 2) := by decide +kernel
theorem dX3_load_174 : decode cX3_load 174 = .ok (.iadd, 1) := by decide +kernel
theorem dX3_load_175 : decode cX3_load 175 = .ok (.iload 5, 2) := by decide +kernel
theorem dX3_load_177 : decode cX3_load 177 = .ok (.iadd, 1) := by decide +kernel
theorem dX3_load_178 : decode cX3_load 178 = .ok (.iload_n 2, 1) := by decide +kernel
theorem dX3_load_179 : decode cX3_load 179 = .ok (.if_icmp .le 14, 3) := by decide +kernel
theorem dX3_load_182 : decode cX3_load 182 = .ok (.iload 4, 2) := by decide +kernel
theorem dX3_load_184 : decode cX3_load 184 = .ok (.iload 6, 2) := by decide +kernel
theorem dX3_load_186 : decode cX3_load 186 = .ok (.iadd, 1) := by decide +kernel
theorem dX3_load_187 : decode cX3_load 187 = .ok (.iload 5, 2) := by decide +kernel
theorem dX3_load_189 : decode cX3_load 189 = .ok (.iadd, 1) := by decide +kernel
theorem dX3_load_190 : decode cX3_load 190 = .ok (.goto 4, 3) := by decide +kernel
theorem dX3_load_193 : decode cX3_load 193 = .ok (.iload_n 2, 1) := by decide +kernel
theorem dX3_load_194 : decode cX3_load 194 = .ok (.istore_n 2, 1) := by decide +kernel
theorem dX3_load_195 : decode cX3_load 195 = .ok (.iinc 3 1, 3) := by decide +kernel
theorem dX3_load_198 : decode cX3_load 198 = .ok (.goto (-174), 3) := by decide +kernel
theorem dX3_load_201 : decode cX3_load 201 = .ok (.iload_n 2, 1) := by decide +kernel
theorem dX3_load_202 : decode cX3_load 202 = .ok (.ireturn, 1) := by decide +kernel
theorem dX3_isForced_0 : decode cX3_isForced 0 = .ok (.aload_n 0, 1) := by decide +kernel
theorem dX3_isForced_1 : decode cX3_isForced 1 = .ok (.getfield 29, 3) := by decide +kernel
theorem dX3_isForced_4 : decode cX3_isForced 4 = .ok (.iload_n 2, 1) := by decide +kernel
theorem dX3_isForced_5 : decode cX3_isForced 5 = .ok (.iaload, 1) := by decide +kernel
theorem dX3_isForced_6 : decode cX3_isForced 6 = .ok (.aload_n 0, 1) := by decide +kernel
theorem dX3_isForced_7 : decode cX3_isForced 7 = .ok (.getfield 16, 3) := by decide +kernel
theorem dX3_isForced_10 : decode cX3_isForced 10 = .ok (.iload_n 2, 1) := by decide +kernel
theorem dX3_isForced_11 : decode cX3_isForced 11 = .ok (.iaload, 1) := by decide +kernel
theorem dX3_isForced_12 : decode cX3_isForced 12 = .ok (.iadd, 1) := by decide +kernel
theorem dX3_isForced_13 : decode cX3_isForced 13 = .ok (.aload_n 0, 1) := by decide +kernel
theorem dX3_isForced_14 : decode cX3_isForced 14 = .ok (.getfield 16, 3) := by decide +kernel
theorem dX3_isForced_17 : decode cX3_isForced 17 = .ok (.iload_n 1, 1) := by decide +kernel
theorem dX3_isForced_18 : decode cX3_isForced 18 = .ok (.iaload, 1) := by decide +kernel
theorem dX3_isForced_19 : decode cX3_isForced 19 = .ok (.iadd, 1) := by decide +kernel
theorem dX3_isForced_20 : decode cX3_isForced 20 = .ok (.aload_n 0, 1) := by decide +kernel
theorem dX3_isForced_21 : decode cX3_isForced 21 = .ok (.getfield 32, 3) := by decide +kernel
theorem dX3_isForced_24 : decode cX3_isForced 24 = .ok (.iload_n 1, 1) := by decide +kernel
theorem dX3_isForced_25 : decode cX3_isForced 25 = .ok (.iaload, 1) := by decide +kernel
theorem dX3_isForced_26 : decode cX3_isForced 26 = .ok (.iadd, 1) := by decide +kernel
theorem dX3_isForced_27 : decode cX3_isForced 27 = .ok (.iload_n 3, 1) := by decide +kernel
theorem dX3_isForced_28 : decode cX3_isForced 28 = .ok (.if_icmp .lt 7, 3) := by decide +kernel
theorem dX3_isForced_31 : decode cX3_isForced 31 = .ok (.iconst 1, 1) := by decide +kernel
theorem dX3_isForced_32 : decode cX3_isForced 32 = .ok (.goto 4, 3) := by decide +kernel
theorem dX3_isForced_35 : decode cX3_isForced 35 = .ok (.iconst 0, 1) := by decide +kernel
theorem dX3_isForced_36 : decode cX3_isForced 36 = .ok (.ireturn, 1) := by decide +kernel
set_option maxRecDepth 20000 in
theorem ggX3_select_X3_look : GoodIn wsX3_select wsX3_look := goodIn_r _ [8, 9, 10, 11, 7, 12, 3, 13, 14, 15, 16, 17, 18, 19, 20, 21, 22, 23, 24, 25, 26, 27, 28, 58, 59, 60, 61, 62, 63, 64, 65, 66, 67, 68, 69, 70, 71, 72, 73] (by decide +kernel) (by decide +kernel)
set_option maxRecDepth 20000 in
theorem gX3_select_X3_look : GoodIn wsX3_select (wsV RX3 92 RX3 yX3_look wsX3_look) := goodIn_app (goodIn_of _ (by decide +kernel)) ggX3_select_X3_look
set_option maxRecDepth 20000 in
theorem ggX3_select_X3_isPair : GoodIn wsX3_select wsX3_isPair := goodIn_r _ [32, 33, 34, 35, 36, 7, 37, 3, 38, 39, 40, 58, 59, 60, 61, 62, 63, 64, 65, 66, 67, 68, 69, 70, 71, 72, 73] (by decide +kernel) (by decide +kernel)
set_option maxRecDepth 20000 in
theorem gX3_select_X3_isPair : GoodIn wsX3_select (wsV RX3 85 RX3 yX3_isPair wsX3_isPair) := goodIn_app (goodIn_of _ (by decide +kernel)) ggX3_select_X3_isPair
set_option maxRecDepth 20000 in
theorem ggX3_select_X3_isForced : GoodIn wsX3_select wsX3_isForced := goodIn_r _ [44, 13, 14, 28, 58, 59, 60, 61, 62, 63, 64, 65, 66, 67, 68, 69, 70, 71, 72, 73] (by decide +kernel) (by decide +kernel)
set_option maxRecDepth 20000 in
theorem gX3_select_X3_isForced : GoodIn wsX3_select (wsV RX3 99 RX3 yX3_isForced wsX3_isForced) := goodIn_app (goodIn_of _ (by decide +kernel)) ggX3_select_X3_isForced
set_option maxRecDepth 20000 in
theorem ggX3_select_X3_hasPath : GoodIn wsX3_select wsX3_hasPath := goodIn_r _ [48, 3, 15, 16, 17, 7, 18, 19, 20, 21, 22, 23, 58, 59, 60, 61, 62, 63, 64, 65, 66, 67, 68, 69, 70, 71, 72, 73] (by decide +kernel) (by decide +kernel)
set_option maxRecDepth 20000 in
theorem gX3_select_X3_hasPath : GoodIn wsX3_select (wsV RX3 89 RX3 yX3_hasPath wsX3_hasPath) := goodIn_app (goodIn_of _ (by decide +kernel)) ggX3_select_X3_hasPath
set_option maxRecDepth 20000 in
theorem ggX3_select_X3_longest : GoodIn wsX3_select wsX3_longest := goodIn_r _ [52, 3, 13, 14, 28, 58, 59, 60, 61, 62, 63, 64, 65, 66, 67, 68, 69, 70, 71, 72, 73] (by decide +kernel) (by decide +kernel)
set_option maxRecDepth 20000 in
theorem gX3_select_X3_longest : GoodIn wsX3_select (wsV RX3 95 RX3 yX3_longest wsX3_longest) := goodIn_app (goodIn_of _ (by decide +kernel)) ggX3_select_X3_longest
set_option maxRecDepth 20000 in
theorem ggX3_select_X3_forget : GoodIn wsX3_select wsX3_forget := goodIn_r _ [56, 57, 58, 59, 60, 61, 62, 63, 64, 65, 66, 67, 68, 69, 70, 71, 72, 73] (by decide +kernel) (by decide +kernel)
set_option maxRecDepth 20000 in
theorem gX3_select_X3_forget : GoodIn wsX3_select (wsV RX3 66 RX3 yX3_forget wsX3_forget) := goodIn_app (goodIn_of _ (by decide +kernel)) ggX3_select_X3_forget
theorem dX3_select_0 : decode cX3_select 0 = .ok (.iconst 0, 1) := by decide +kernel
theorem dX3_select_1 : decode cX3_select 1 = .ok (.istore_n 2, 1) := by decide +kernel
theorem dX3_select_2 : decode cX3_select 2 = .ok (.iload_n 2, 1) := by decide +kernel
theorem dX3_select_3 : decode cX3_select 3 = .ok (.sipush 144, 3) := by decide +kernel
theorem dX3_select_6 : decode cX3_select 6 = .ok (.if_icmp .ge 21, 3) := by decide +kernel
theorem dX3_select_9 : decode cX3_select 9 = .ok (.aload_n 0, 1) := by decide +kernel
theorem dX3_select_10 : decode cX3_select 10 = .ok (.getfield 35, 3) := by decide +kernel
theorem dX3_select_13 : decode cX3_select 13 = .ok (.iload_n 2, 1) := by decide +kernel
theorem dX3_select_14 : decode cX3_select 14 = .ok (.aload_n 0, 1) := by decide +kernel
theorem dX3_select_15 : decode cX3_select 15 = .ok (.getfield 19, 3) := by decide +kernel
theorem dX3_select_18 : decode cX3_select 18 = .ok (.iload_n 2, 1) := by decide +kernel
theorem dX3_select_19 : decode cX3_select 19 = .ok (.baload, 1) := by decide +kernel
theorem dX3_select_20 : decode cX3_select 20 = .ok (.bastore, 1) := by decide +kernel
theorem dX3_select_21 : decode cX3_select 21 = .ok (.iinc 2 1, 3) := by decide +kernel
theorem dX3_select_24 : decode cX3_select 24 = .ok (.goto (-22), 3) := by decide +kernel
theorem dX3_select_27 : decode cX3_select 27 = .ok (.iconst 0, 1) := by decide +kernel
theorem dX3_select_28 : decode cX3_select 28 = .ok (.istore_n 2, 1) := by decide +kernel
theorem dX3_select_29 : decode cX3_select 29 = .ok (.iconst 1, 1) := by decide +kernel
theorem dX3_select_30 : decode cX3_select 30 = .ok (.istore_n 3, 1) := by decide +kernel
theorem dX3_select_31 : decode cX3_select 31 = .ok (.iload_n 3, 1) := by decide +kernel
theorem dX3_select_32 : decode cX3_select 32 = .ok (.ifCond .eq 164, 3) := by decide +kernel
theorem dX3_select_35 : decode cX3_select 35 = .ok (.iconst 0, 1) := by decide +kernel
theorem dX3_select_36 : decode cX3_select 36 = .ok (.istore_n 3, 1) := by decide +kernel
theorem dX3_select_37 : decode cX3_select 37 = .ok (.aload_n 0, 1) := by decide +kernel
theorem dX3_select_38 : decode cX3_select 38 = .ok (.aload_n 0, 1) := by decide +kernel
theorem dX3_select_39 : decode cX3_select 39 = .ok (.getfield 35, 3) := by decide +kernel
theorem dX3_select_42 : decode cX3_select 42 = .ok (.invokevirtual 92, 3) := by decide +kernel
theorem dX3_select_45 : decode cX3_select 45 = .ok (.iconst 0, 1) := by decide +kernel
theorem dX3_select_46 : decode cX3_select 46 = .ok (.istore 4, 2) := by decide +kernel
theorem dX3_select_48 : decode cX3_select 48 = .ok (.iload 4, 2) := by decide +kernel
theorem dX3_select_50 : decode cX3_select 50 = .ok (.aload_n 0, 1) := by decide +kernel
theorem dX3_select_51 : decode cX3_select 51 = .ok (.getfield 48, 3) := by decide +kernel
theorem dX3_select_54 : decode cX3_select 54 = .ok (.if_icmp .ge 139, 3) := by decide +kernel
theorem dX3_select_57 : decode cX3_select 57 = .ok (.iload_n 3, 1) := by decide +kernel
theorem dX3_select_58 : decode cX3_select 58 = .ok (.ifCond .ne 135, 3) := by decide +kernel
theorem dX3_select_61 : decode cX3_select 61 = .ok (.iconst 0, 1) := by decide +kernel
theorem dX3_select_62 : decode cX3_select 62 = .ok (.istore 5, 2) := by decide +kernel
theorem dX3_select_64 : decode cX3_select 64 = .ok (.iload 5, 2) := by decide +kernel
theorem dX3_select_66 : decode cX3_select 66 = .ok (.aload_n 0, 1) := by decide +kernel
theorem dX3_select_67 : decode cX3_select 67 = .ok (.getfield 48, 3) := by decide +kernel
theorem dX3_select_70 : decode cX3_select 70 = .ok (.if_icmp .ge 117, 3) := by decide +kernel
theorem dX3_select_73 : decode cX3_select 73 = .ok (.iload_n 3, 1) := by decide +kernel
theorem dX3_select_74 : decode cX3_select 74 = .ok (.ifCond .ne 113, 3) := by decide +kernel
theorem dX3_select_77 : decode cX3_select 77 = .ok (.aload_n 0, 1) := by decide +kernel
theorem dX3_select_78 : decode cX3_select 78 = .ok (.iload 4, 2) := by decide +kernel
theorem dX3_select_80 : decode cX3_select 80 = .ok (.iload 5, 2) := by decide +kernel
theorem dX3_select_82 : decode cX3_select 82 = .ok (.invokevirtual 85, 3) := by decide +kernel
theorem dX3_select_85 : decode cX3_select 85 = .ok (.ifCond .eq 96, 3) := by decide +kernel
theorem dX3_select_88 : decode cX3_select 88 = .ok (.aload_n 0, 1) := by decide +kernel
theorem dX3_select_89 : decode cX3_select 89 = .ok (.getfield 35, 3) := by decide +kernel
theorem dX3_select_92 : decode cX3_select 92 = .ok (.bipush 12, 2) := by decide +kernel
theorem dX3_select_94 : decode cX3_select 94 = .ok (.iload 4, 2) := by decide +kernel
theorem dX3_select_96 : decode cX3_select 96 = .ok (.imul, 1) := by decide +kernel
theorem dX3_select_97 : decode cX3_select 97 = .ok (.iload 5, 2) := by decide +kernel
theorem dX3_select_99 : decode cX3_select 99 = .ok (.iadd, 1) := by decide +kernel
theorem dX3_select_100 : decode cX3_select 100 = .ok (.baload, 1) := by decide +kernel
theorem dX3_select_101 : decode cX3_select 101 = .ok (.ifCond .ne 80, 3) := by decide +kernel
theorem dX3_select_104 : decode cX3_select 104 = .ok (.aload_n 0, 1) := by decide +kernel
theorem dX3_select_105 : decode cX3_select 105 = .ok (.getfield 35, 3) := by decide +kernel
theorem dX3_select_108 : decode cX3_select 108 = .ok (.bipush 12, 2) := by decide +kernel
theorem dX3_select_110 : decode cX3_select 110 = .ok (.iload 5, 2) := by decide +kernel
theorem dX3_select_112 : decode cX3_select 112 = .ok (.imul, 1) := by decide +kernel
theorem dX3_select_113 : decode cX3_select 113 = .ok (.iload 4, 2) := by decide +kernel
theorem dX3_select_115 : decode cX3_select 115 = .ok (.iadd, 1) := by decide +kernel
theorem dX3_select_116 : decode cX3_select 116 = .ok (.baload, 1) := by decide +kernel
theorem dX3_select_117 : decode cX3_select 117 = .ok (.ifCond .ne 64, 3) := by decide +kernel
theorem dX3_select_120 : decode cX3_select 120 = .ok (.aload_n 0, 1) := by decide +kernel
theorem dX3_select_121 : decode cX3_select 121 = .ok (.iload 4, 2) := by decide +kernel
theorem dX3_select_123 : decode cX3_select 123 = .ok (.iload 5, 2) := by decide +kernel
theorem dX3_select_125 : decode cX3_select 125 = .ok (.iload_n 1, 1) := by decide +kernel
theorem dX3_select_126 : decode cX3_select 126 = .ok (.invokevirtual 99, 3) := by decide +kernel
theorem dX3_select_129 : decode cX3_select 129 = .ok (.ifCond .eq 52, 3) := by decide +kernel
theorem dX3_select_132 : decode cX3_select 132 = .ok (.aload_n 0, 1) := by decide +kernel
theorem dX3_select_133 : decode cX3_select 133 = .ok (.iload 5, 2) := by decide +kernel
theorem dX3_select_135 : decode cX3_select 135 = .ok (.iload 4, 2) := by decide +kernel
theorem dX3_select_137 : decode cX3_select 137 = .ok (.iload_n 1, 1) := by decide +kernel
theorem dX3_select_138 : decode cX3_select 138 = .ok (.invokevirtual 99, 3) := by decide +kernel
theorem dX3_select_141 : decode cX3_select 141 = .ok (.ifCond .ne 18, 3) := by decide +kernel
theorem dX3_select_144 : decode cX3_select 144 = .ok (.aload_n 0, 1) := by decide +kernel
theorem dX3_select_145 : decode cX3_select 145 = .ok (.aload_n 0, 1) := by decide +kernel
theorem dX3_select_146 : decode cX3_select 146 = .ok (.getfield 35, 3) := by decide +kernel
theorem dX3_select_149 : decode cX3_select 149 = .ok (.iload 5, 2) := by decide +kernel
theorem dX3_select_151 : decode cX3_select 151 = .ok (.iload 4, 2) := by decide +kernel
theorem dX3_select_153 : decode cX3_select 153 = .ok (.invokevirtual 89, 3) := by decide +kernel
theorem dX3_select_156 : decode cX3_select 156 = .ok (.ifCond .eq 6, 3) := by decide +kernel
theorem dX3_select_159 : decode cX3_select 159 = .ok (.bipush (-5), 2) := by decide +kernel
theorem dX3_select_161 : decode cX3_select 161 = .ok (.ireturn, 1) := by decide +kernel
theorem dX3_select_162 : decode cX3_select 162 = .ok (.aload_n 0, 1) := by decide +kernel
theorem dX3_select_163 : decode cX3_select 163 = .ok (.getfield 35, 3) := by decide +kernel
theorem dX3_select_166 : decode cX3_select 166 = .ok (.bipush 12, 2) := by decide +kernel
theorem dX3_select_168 : decode cX3_select 168 = .ok (.iload 4, 2) := by decide +kernel
theorem dX3_select_170 : decode cX3_select 170 = .ok (.imul, 1) := by decide +kernel
theorem dX3_select_171 : decode cX3_select 171 = .ok (.iload 5, 2) := by decide +kernel
theorem dX3_select_173 : decode cX3_select 173 = .ok (.iadd, 1) := by decide +kernel
theorem dX3_select_174 : decode cX3_select 174 = .ok (.iconst 1, 1) := by decide +kernel
theorem dX3_select_175 : decode cX3_select 175 = .ok (.bastore, 1) := by decide +kernel
theorem dX3_select_176 : decode cX3_select 176 = .ok (.iinc 2 1, 3) := by decide +kernel
theorem dX3_select_179 : decode cX3_select 179 = .ok (.iconst 1, 1) := by decide +kernel
theorem dX3_select_180 : decode cX3_select 180 = .ok (.istore_n 3, 1) := by decide +kernel
theorem dX3_select_181 : decode cX3_select 181 = .ok (.iinc 5 1, 3) := by decide +kernel
theorem dX3_select_184 : decode cX3_select 184 = .ok (.goto (-120), 3) := by decide +kernel
theorem dX3_select_187 : decode cX3_select 187 = .ok (.iinc 4 1, 3) := by decide +kernel
theorem dX3_select_190 : decode cX3_select 190 = .ok (.goto (-142), 3) := by decide +kernel
theorem dX3_select_193 : decode cX3_select 193 = .ok (.goto (-162), 3) := by decide +kernel
theorem dX3_select_196 : decode cX3_select 196 = .ok (.aload_n 0, 1) := by decide +kernel
theorem dX3_select_197 : decode cX3_select 197 = .ok (.invokevirtual 95, 3) := by decide +kernel
theorem dX3_select_200 : decode cX3_select 200 = .ok (.iload_n 1, 1) := by decide +kernel
theorem dX3_select_201 : decode cX3_select 201 = .ok (.if_icmp .lt 6, 3) := by decide +kernel
theorem dX3_select_204 : decode cX3_select 204 = .ok (.bipush (-5), 2) := by decide +kernel
theorem dX3_select_206 : decode cX3_select 206 = .ok (.ireturn, 1) := by decide +kernel
theorem dX3_select_207 : decode cX3_select 207 = .ok (.iconst 0, 1) := by decide +kernel
theorem dX3_select_208 : decode cX3_select 208 = .ok (.istore 4, 2) := by decide +kernel
theorem dX3_select_210 : decode cX3_select 210 = .ok (.iload 4, 2) := by decide +kernel
theorem dX3_select_212 : decode cX3_select 212 = .ok (.sipush 144, 3) := by decide +kernel
theorem dX3_select_215 : decode cX3_select 215 = .ok (.if_icmp .ge 23, 3) := by decide +kernel
theorem dX3_select_218 : decode cX3_select 218 = .ok (.aload_n 0, 1) := by decide +kernel
theorem dX3_select_219 : decode cX3_select 219 = .ok (.getfield 19, 3) := by decide +kernel
theorem dX3_select_222 : decode cX3_select 222 = .ok (.iload 4, 2) := by decide +kernel
theorem dX3_select_224 : decode cX3_select 224 = .ok (.aload_n 0, 1) := by decide +kernel
theorem dX3_select_225 : decode cX3_select 225 = .ok (.getfield 35, 3) := by decide +kernel
theorem dX3_select_228 : decode cX3_select 228 = .ok (.iload 4, 2) := by decide +kernel
theorem dX3_select_230 : decode cX3_select 230 = .ok (.baload, 1) := by decide +kernel
theorem dX3_select_231 : decode cX3_select 231 = .ok (.bastore, 1) := by decide +kernel
theorem dX3_select_232 : decode cX3_select 232 = .ok (.iinc 4 1, 3) := by decide +kernel
theorem dX3_select_235 : decode cX3_select 235 = .ok (.goto (-25), 3) := by decide +kernel
theorem dX3_select_238 : decode cX3_select 238 = .ok (.iload_n 2, 1) := by decide +kernel
theorem dX3_select_239 : decode cX3_select 239 = .ok (.ifCond .le 7, 3) := by decide +kernel
theorem dX3_select_242 : decode cX3_select 242 = .ok (.aload_n 0, 1) := by decide +kernel
theorem dX3_select_243 : decode cX3_select 243 = .ok (.invokevirtual 66, 3) := by decide +kernel
theorem dX3_select_246 : decode cX3_select 246 = .ok (.iload_n 2, 1) := by decide +kernel
theorem dX3_select_247 : decode cX3_select 247 = .ok (.ireturn, 1) := by decide +kernel
theorem dX3_layFirst_0 : decode cX3_layFirst 0 = .ok (.aload_n 0, 1) := by decide +kernel
theorem dX3_layFirst_1 : decode cX3_layFirst 1 = .ok (.getfield 41, 3) := by decide +kernel
theorem dX3_layFirst_4 : decode cX3_layFirst 4 = .ok (.iload_n 1, 1) := by decide +kernel
theorem dX3_layFirst_5 : decode cX3_layFirst 5 = .ok (.iconst 0, 1) := by decide +kernel
theorem dX3_layFirst_6 : decode cX3_layFirst 6 = .ok (.iastore, 1) := by decide +kernel
theorem dX3_layFirst_7 : decode cX3_layFirst 7 = .ok (.iconst 0, 1) := by decide +kernel
theorem dX3_layFirst_8 : decode cX3_layFirst 8 = .ok (.istore_n 2, 1) := by decide +kernel
theorem dX3_layFirst_9 : decode cX3_layFirst 9 = .ok (.iload_n 2, 1) := by decide +kernel
theorem dX3_layFirst_10 : decode cX3_layFirst 10 = .ok (.aload_n 0, 1) := by decide +kernel
theorem dX3_layFirst_11 : decode cX3_layFirst 11 = .ok (.getfield 48, 3) := by decide +kernel
theorem dX3_layFirst_14 : decode cX3_layFirst 14 = .ok (.if_icmp .ge 45, 3) := by decide +kernel
theorem dX3_layFirst_17 : decode cX3_layFirst 17 = .ok (.aload_n 0, 1) := by decide +kernel
theorem dX3_layFirst_18 : decode cX3_layFirst 18 = .ok (.getfield 13, 3) := by decide +kernel
theorem dX3_layFirst_21 : decode cX3_layFirst 21 = .ok (.iload_n 2, 1) := by decide +kernel
theorem dX3_layFirst_22 : decode cX3_layFirst 22 = .ok (.iaload, 1) := by decide +kernel
theorem dX3_layFirst_23 : decode cX3_layFirst 23 = .ok (.iload_n 1, 1) := by decide +kernel
theorem dX3_layFirst_24 : decode cX3_layFirst 24 = .ok (.if_icmp .ne 29, 3) := by decide +kernel
theorem dX3_layFirst_27 : decode cX3_layFirst 27 = .ok (.aload_n 0, 1) := by decide +kernel
theorem dX3_layFirst_28 : decode cX3_layFirst 28 = .ok (.getfield 38, 3) := by decide +kernel
theorem dX3_layFirst_31 : decode cX3_layFirst 31 = .ok (.iconst 4, 1) := by decide +kernel
theorem dX3_layFirst_32 : decode cX3_layFirst 32 = .ok (.iload_n 1, 1) := by decide +kernel
theorem dX3_layFirst_33 : decode cX3_layFirst 33 = .ok (.imul, 1) := by decide +kernel
theorem dX3_layFirst_34 : decode cX3_layFirst 34 = .ok (.aload_n 0, 1) := by decide +kernel
theorem dX3_layFirst_35 : decode cX3_layFirst 35 = .ok (.getfield 41, 3) := by decide +kernel
theorem dX3_layFirst_38 : decode cX3_layFirst 38 = .ok (.iload_n 1, 1) := by decide +kernel
theorem dX3_layFirst_39 : decode cX3_layFirst 39 = .ok (.iaload, 1) := by decide +kernel
theorem dX3_layFirst_40 : decode cX3_layFirst 40 = .ok (.iadd, 1) := by decide +kernel
theorem dX3_layFirst_41 : decode cX3_layFirst 41 = .ok (.iload_n 2, 1) := by decide +kernel
theorem dX3_layFirst_42 : decode cX3_layFirst 42 = .ok (.iastore, 1) := by decide +kernel
theorem dX3_layFirst_43 : decode cX3_layFirst 43 = .ok (.aload_n 0, 1) := by decide +kernel
theorem dX3_layFirst_44 : decode cX3_layFirst 44 = .ok (.getfield 41, 3) := by decide +kernel
theorem dX3_layFirst_47 : decode cX3_layFirst 47 = .ok (.iload_n 1, 1) := by decide +kernel
theorem dX3_layFirst_48 : decode cX3_layFirst 48 = .ok (.dup2, 1) := by decide +kernel
theorem dX3_layFirst_49 : decode cX3_layFirst 49 = .ok (.iaload, 1) := by decide +kernel
theorem dX3_layFirst_50 : decode cX3_layFirst 50 = .ok (.iconst 1, 1) := by decide +kernel
theorem dX3_layFirst_51 : decode cX3_layFirst 51 = .ok (.iadd, 1) := by decide +kernel
theorem dX3_layFirst_52 : decode cX3_layFirst 52 = .ok (.iastore, 1) := by decide +kernel
theorem dX3_layFirst_53 : decode cX3_layFirst 53 = .ok (.iinc 2 1, 3) := by decide +kernel
theorem dX3_layFirst_56 : decode cX3_layFirst 56 = .ok (.goto (-47), 3) := by decide +kernel
theorem dX3_layFirst_59 : decode cX3_layFirst 59 = .ok (.return_, 1) := by decide +kernel
set_option maxRecDepth 20000 in
theorem ggX3_nextOrder_X3_layFirst : GoodIn wsX3_nextOrder wsX3_layFirst := goodIn_r _ [7, 1, 8, 9, 2, 10, 11, 12, 13, 14, 15, 16, 17, 18, 19, 20, 21, 22, 23, 24, 25] (by decide +kernel) (by decide +kernel)
set_option maxRecDepth 20000 in
theorem gX3_nextOrder_X3_layFirst : GoodIn wsX3_nextOrder (wsV RX3 102 RX3 yX3_layFirst wsX3_layFirst) := goodIn_app (goodIn_of _ (by decide +kernel)) ggX3_nextOrder_X3_layFirst
theorem dX3_nextOrder_0 : decode cX3_nextOrder 0 = .ok (.iconst 4, 1) := by decide +kernel
theorem dX3_nextOrder_1 : decode cX3_nextOrder 1 = .ok (.iload_n 1, 1) := by decide +kernel
theorem dX3_nextOrder_2 : decode cX3_nextOrder 2 = .ok (.imul, 1) := by decide +kernel
theorem dX3_nextOrder_3 : decode cX3_nextOrder 3 = .ok (.istore_n 2, 1) := by decide +kernel
theorem dX3_nextOrder_4 : decode cX3_nextOrder 4 = .ok (.aload_n 0, 1) := by decide +kernel
theorem dX3_nextOrder_5 : decode cX3_nextOrder 5 = .ok (.getfield 41, 3) := by decide +kernel
theorem dX3_nextOrder_8 : decode cX3_nextOrder 8 = .ok (.iload_n 1, 1) := by decide +kernel
theorem dX3_nextOrder_9 : decode cX3_nextOrder 9 = .ok (.iaload, 1) := by decide +kernel
theorem dX3_nextOrder_10 : decode cX3_nextOrder 10 = .ok (.iconst 2, 1) := by decide +kernel
theorem dX3_nextOrder_11 : decode cX3_nextOrder 11 = .ok (.isub, 1) := by decide +kernel
theorem dX3_nextOrder_12 : decode cX3_nextOrder 12 = .ok (.istore_n 3, 1) := by decide +kernel
theorem dX3_nextOrder_13 : decode cX3_nextOrder 13 = .ok (.iload_n 3, 1) := by decide +kernel
theorem dX3_nextOrder_14 : decode cX3_nextOrder 14 = .ok (.ifCond .lt 30, 3) := by decide +kernel
theorem dX3_nextOrder_17 : decode cX3_nextOrder 17 = .ok (.aload_n 0, 1) := by decide +kernel
theorem dX3_nextOrder_18 : decode cX3_nextOrder 18 = .ok (.getfield 38, 3) := by decide +kernel
theorem dX3_nextOrder_21 : decode cX3_nextOrder 21 = .ok (.iload_n 2, 1) := by decide +kernel
theorem dX3_nextOrder_22 : decode cX3_nextOrder 22 = .ok (.iload_n 3, 1) := by decide +kernel
theorem dX3_nextOrder_23 : decode cX3_nextOrder 23 = .ok (.iadd, 1) := by decide +kernel
theorem dX3_nextOrder_24 : decode cX3_nextOrder 24 = .ok (.iaload, 1) := by decide +kernel
theorem dX3_nextOrder_25 : decode cX3_nextOrder 25 = .ok (.aload_n 0, 1) := by decide +kernel
theorem dX3_nextOrder_26 : decode cX3_nextOrder 26 = .ok (.getfield 38, 3) := by decide +kernel
theorem dX3_nextOrder_29 : decode cX3_nextOrder 29 = .ok (.iload_n 2, 1) := by decide +kernel
theorem dX3_nextOrder_30 : decode cX3_nextOrder 30 = .ok (.iload_n 3, 1) := by decide +kernel
theorem dX3_nextOrder_31 : decode cX3_nextOrder 31 = .ok (.iadd, 1) := by decide +kernel
theorem dX3_nextOrder_32 : decode cX3_nextOrder 32 = .ok (.iconst 1, 1) := by decide +kernel
theorem dX3_nextOrder_33 : decode cX3_nextOrder 33 = .ok (.iadd, 1) := by decide +kernel
theorem dX3_nextOrder_34 : decode cX3_nextOrder 34 = .ok (.iaload, 1) := by decide +kernel
theorem dX3_nextOrder_35 : decode cX3_nextOrder 35 = .ok (.if_icmp .le 9, 3) := by decide +kernel
theorem dX3_nextOrder_38 : decode cX3_nextOrder 38 = .ok (.iinc 3 (-1), 3) := by decide +kernel
theorem dX3_nextOrder_41 : decode cX3_nextOrder 41 = .ok (.goto (-28), 3) := by decide +kernel
theorem dX3_nextOrder_44 : decode cX3_nextOrder 44 = .ok (.iload_n 3, 1) := by decide +kernel
theorem dX3_nextOrder_45 : decode cX3_nextOrder 45 = .ok (.ifCond .ge 10, 3) := by decide +kernel
theorem dX3_nextOrder_48 : decode cX3_nextOrder 48 = .ok (.aload_n 0, 1) := by decide +kernel
theorem dX3_nextOrder_49 : decode cX3_nextOrder 49 = .ok (.iload_n 1, 1) := by decide +kernel
theorem dX3_nextOrder_50 : decode cX3_nextOrder 50 = .ok (.invokevirtual 102, 3) := by decide +kernel
theorem dX3_nextOrder_53 : decode cX3_nextOrder 53 = .ok (.iconst 0, 1) := by decide +kernel
theorem dX3_nextOrder_54 : decode cX3_nextOrder 54 = .ok (.ireturn, 1) := by decide +kernel
theorem dX3_nextOrder_55 : decode cX3_nextOrder 55 = .ok (.aload_n 0, 1) := by decide +kernel
theorem dX3_nextOrder_56 : decode cX3_nextOrder 56 = .ok (.getfield 41, 3) := by decide +kernel
theorem dX3_nextOrder_59 : decode cX3_nextOrder 59 = .ok (.iload_n 1, 1) := by decide +kernel
theorem dX3_nextOrder_60 : decode cX3_nextOrder 60 = .ok (.iaload, 1) := by decide +kernel
theorem dX3_nextOrder_61 : decode cX3_nextOrder 61 = .ok (.iconst 1, 1) := by decide +kernel
theorem dX3_nextOrder_62 : decode cX3_nextOrder 62 = .ok (.isub, 1) := by decide +kernel
theorem dX3_nextOrder_63 : decode cX3_nextOrder 63 = .ok (.istore 4, 2) := by decide +kernel
theorem dX3_nextOrder_65 : decode cX3_nextOrder 65 = .ok (.aload_n 0, 1) := by decide +kernel
theorem dX3_nextOrder_66 : decode cX3_nextOrder 66 = .ok (.getfield 38, 3) := by decide +kernel
theorem dX3_nextOrder_69 : decode cX3_nextOrder 69 = .ok (.iload_n 2, 1) := by decide +kernel
theorem dX3_nextOrder_70 : decode cX3_nextOrder 70 = .ok (.iload 4, 2) := by decide +kernel
theorem dX3_nextOrder_72 : decode cX3_nextOrder 72 = .ok (.iadd, 1) := by decide +kernel
theorem dX3_nextOrder_73 : decode cX3_nextOrder 73 = .ok (.iaload, 1) := by decide +kernel
theorem dX3_nextOrder_74 : decode cX3_nextOrder 74 = .ok (.aload_n 0, 1) := by decide +kernel
theorem dX3_nextOrder_75 : decode cX3_nextOrder 75 = .ok (.getfield 38, 3) := by decide +kernel
theorem dX3_nextOrder_78 : decode cX3_nextOrder 78 = .ok (.iload_n 2, 1) := by decide +kernel
theorem dX3_nextOrder_79 : decode cX3_nextOrder 79 = .ok (.iload_n 3, 1) := by decide +kernel
theorem dX3_nextOrder_80 : decode cX3_nextOrder 80 = .ok (.iadd, 1) := by decide +kernel
theorem dX3_nextOrder_81 : decode cX3_nextOrder 81 = .ok (.iaload, 1) := by decide +kernel
theorem dX3_nextOrder_82 : decode cX3_nextOrder 82 = .ok (.if_icmp .ge 9, 3) := by decide +kernel
theorem dX3_nextOrder_85 : decode cX3_nextOrder 85 = .ok (.iinc 4 (-1), 3) := by decide +kernel
theorem dX3_nextOrder_88 : decode cX3_nextOrder 88 = .ok (.goto (-23), 3) := by decide +kernel
theorem dX3_nextOrder_91 : decode cX3_nextOrder 91 = .ok (.aload_n 0, 1) := by decide +kernel
theorem dX3_nextOrder_92 : decode cX3_nextOrder 92 = .ok (.getfield 38, 3) := by decide +kernel
theorem dX3_nextOrder_95 : decode cX3_nextOrder 95 = .ok (.iload_n 2, 1) := by decide +kernel
theorem dX3_nextOrder_96 : decode cX3_nextOrder 96 = .ok (.iload_n 3, 1) := by decide +kernel
theorem dX3_nextOrder_97 : decode cX3_nextOrder 97 = .ok (.iadd, 1) := by decide +kernel
theorem dX3_nextOrder_98 : decode cX3_nextOrder 98 = .ok (.iaload, 1) := by decide +kernel
theorem dX3_nextOrder_99 : decode cX3_nextOrder 99 = .ok (.istore 5, 2) := by decide +kernel
theorem dX3_nextOrder_101 : decode cX3_nextOrder 101 = .ok (.aload_n 0, 1) := by decide +kernel
theorem dX3_nextOrder_102 : decode cX3_nextOrder 102 = .ok (.getfield 38, 3) := by decide +kernel
theorem dX3_nextOrder_105 : decode cX3_nextOrder 105 = .ok (.iload_n 2, 1) := by decide +kernel
theorem dX3_nextOrder_106 : decode cX3_nextOrder 106 = .ok (.iload_n 3, 1) := by decide +kernel
theorem dX3_nextOrder_107 : decode cX3_nextOrder 107 = .ok (.iadd, 1) := by decide +kernel
theorem dX3_nextOrder_108 : decode cX3_nextOrder 108 = .ok (.aload_n 0, 1) := by decide +kernel
theorem dX3_nextOrder_109 : decode cX3_nextOrder 109 = .ok (.getfield 38, 3) := by decide +kernel
theorem dX3_nextOrder_112 : decode cX3_nextOrder 112 = .ok (.iload_n 2, 1) := by decide +kernel
theorem dX3_nextOrder_113 : decode cX3_nextOrder 113 = .ok (.iload 4, 2) := by decide +kernel
theorem dX3_nextOrder_115 : decode cX3_nextOrder 115 = .ok (.iadd, 1) := by decide +kernel
theorem dX3_nextOrder_116 : decode cX3_nextOrder 116 = .ok (.iaload, 1) := by decide +kernel
theorem dX3_nextOrder_117 : decode cX3_nextOrder 117 = .ok (.iastore, 1) := by decide +kernel
theorem dX3_nextOrder_118 : decode cX3_nextOrder 118 = .ok (.aload_n 0, 1) := by decide +kernel
theorem dX3_nextOrder_119 : decode cX3_nextOrder 119 = .ok (.getfield 38, 3) := by decide +kernel
theorem dX3_nextOrder_122 : decode cX3_nextOrder 122 = .ok (.iload_n 2, 1) := by decide +kernel
theorem dX3_nextOrder_123 : decode cX3_nextOrder 123 = .ok (.iload 4, 2) := by decide +kernel
theorem dX3_nextOrder_125 : decode cX3_nextOrder 125 = .ok (.iadd, 1) := by decide +kernel
theorem dX3_nextOrder_126 : decode cX3_nextOrder 126 = .ok (.iload 5, 2) := by decide +kernel
theorem dX3_nextOrder_128 : decode cX3_nextOrder 128 = .ok (.iastore, 1) := by decide +kernel
theorem dX3_nextOrder_129 : decode cX3_nextOrder 129 = .ok (.iload_n 3, 1) := by decide +kernel
theorem dX3_nextOrder_130 : decode cX3_nextOrder 130 = .ok (.iconst 1, 1) := by decide +kernel
theorem dX3_nextOrder_131 : decode cX3_nextOrder 131 = .ok (.iadd, 1) := by decide +kernel
theorem dX3_nextOrder_132 : decode cX3_nextOrder 132 = .ok (.istore 6, 2) := by decide +kernel
theorem dX3_nextOrder_134 : decode cX3_nextOrder 134 = .ok (.aload_n 0, 1) := by decide +kernel
theorem dX3_nextOrder_135 : decode cX3_nextOrder 135 = .ok (.getfield 41, 3) := by decide +kernel
theorem dX3_nextOrder_138 : decode cX3_nextOrder 138 = .ok (.iload_n 1, 1) := by decide +kernel
theorem dX3_nextOrder_139 : decode cX3_nextOrder 139 = .ok (.iaload, 1) := by decide +kernel
theorem dX3_nextOrder_140 : decode cX3_nextOrder 140 = .ok (.iconst 1, 1) := by decide +kernel
theorem dX3_nextOrder_141 : decode cX3_nextOrder 141 = .ok (.isub, 1) := by decide +kernel
theorem dX3_nextOrder_142 : decode cX3_nextOrder 142 = .ok (.istore 7, 2) := by decide +kernel
theorem dX3_nextOrder_144 : decode cX3_nextOrder 144 = .ok (.iload 6, 2) := by decide +kernel
theorem dX3_nextOrder_146 : decode cX3_nextOrder 146 = .ok (.iload 7, 2) := by decide +kernel
theorem dX3_nextOrder_148 : decode cX3_nextOrder 148 = .ok (.if_icmp .ge 52, 3) := by decide +kernel
theorem dX3_nextOrder_151 : decode cX3_nextOrder 151 = .ok (.aload_n 0, 1) := by decide +kernel
theorem dX3_nextOrder_152 : decode cX3_nextOrder 152 = .ok (.getfield 38, 3) := by decide +kernel
theorem dX3_nextOrder_155 : decode cX3_nextOrder 155 = .ok (.iload_n 2, 1) := by decide +kernel
theorem dX3_nextOrder_156 : decode cX3_nextOrder 156 = .ok (.iload 6, 2) := by decide +kernel
theorem dX3_nextOrder_158 : decode cX3_nextOrder 158 = .ok (.iadd, 1) := by decide +kernel
theorem dX3_nextOrder_159 : decode cX3_nextOrder 159 = .ok (.iaload, 1) := by decide +kernel
theorem dX3_nextOrder_160 : decode cX3_nextOrder 160 = .ok (.istore 8, 2) := by decide +kernel
theorem dX3_nextOrder_162 : decode cX3_nextOrder 162 = .ok (.aload_n 0, 1) := by decide +kernel
theorem dX3_nextOrder_163 : decode cX3_nextOrder 163 = .ok (.getfield 38, 3) := by decide +kernel
theorem dX3_nextOrder_166 : decode cX3_nextOrder 166 = .ok (.iload_n 2, 1) := by decide +kernel
theorem dX3_nextOrder_167 : decode cX3_nextOrder 167 = .ok (.iload 6, 2) := by decide +kernel
theorem dX3_nextOrder_169 : decode cX3_nextOrder 169 = .ok (.iadd, 1) := by decide +kernel
theorem dX3_nextOrder_170 : decode cX3_nextOrder 170 = .ok (.aload_n 0, 1) := by decide +kernel
theorem dX3_nextOrder_171 : decode cX3_nextOrder 171 = .ok (.getfield 38, 3) := by decide +kernel
theorem dX3_nextOrder_174 : decode cX3_nextOrder 174 = .ok (.iload_n 2, 1) := by decide +kernel
theorem dX3_nextOrder_175 : decode cX3_nextOrder 175 = .ok (.iload 7, 2) := by decide +kernel
theorem dX3_nextOrder_177 : decode cX3_nextOrder 177 = .ok (.iadd, 1) := by decide +kernel
theorem dX3_nextOrder_178 : decode cX3_nextOrder 178 = .ok (.iaload, 1) := by decide +kernel
theorem dX3_nextOrder_179 : decode cX3_nextOrder 179 = .ok (.iastore, 1) := by decide +kernel
theorem dX3_nextOrder_180 : decode cX3_nextOrder 180 = .ok (.aload_n 0, 1) := by decide +kernel
theorem dX3_nextOrder_181 : decode cX3_nextOrder 181 = .ok (.getfield 38, 3) := by decide +kernel
theorem dX3_nextOrder_184 : decode cX3_nextOrder 184 = .ok (.iload_n 2, 1) := by decide +kernel
theorem dX3_nextOrder_185 : decode cX3_nextOrder 185 = .ok (.iload 7, 2) := by decide +kernel
theorem dX3_nextOrder_187 : decode cX3_nextOrder 187 = .ok (.iadd, 1) := by decide +kernel
theorem dX3_nextOrder_188 : decode cX3_nextOrder 188 = .ok (.iload 8, 2) := by decide +kernel
theorem dX3_nextOrder_190 : decode cX3_nextOrder 190 = .ok (.iastore, 1) := by decide +kernel
theorem dX3_nextOrder_191 : decode cX3_nextOrder 191 = .ok (.iinc 6 1, 3) := by decide +kernel
theorem dX3_nextOrder_194 : decode cX3_nextOrder 194 = .ok (.iinc 7 (-1), 3) := by decide +kernel
theorem dX3_nextOrder_197 : decode cX3_nextOrder 197 = .ok (.goto (-53), 3) := by decide +kernel
theorem dX3_nextOrder_200 : decode cX3_nextOrder 200 = .ok (.iconst 1, 1) := by decide +kernel
theorem dX3_nextOrder_201 : decode cX3_nextOrder 201 = .ok (.ireturn, 1) := by decide +kernel
theorem dX3_choose_0 : decode cX3_choose 0 = .ok (.iconst 0, 1) := by decide +kernel
theorem dX3_choose_1 : decode cX3_choose 1 = .ok (.istore_n 1, 1) := by decide +kernel
theorem dX3_choose_2 : decode cX3_choose 2 = .ok (.iload_n 1, 1) := by decide +kernel
theorem dX3_choose_3 : decode cX3_choose 3 = .ok (.sipush 144, 3) := by decide +kernel
theorem dX3_choose_6 : decode cX3_choose 6 = .ok (.if_icmp .ge 16, 3) := by decide +kernel
theorem dX3_choose_9 : decode cX3_choose 9 = .ok (.aload_n 0, 1) := by decide +kernel
theorem dX3_choose_10 : decode cX3_choose 10 = .ok (.getfield 35, 3) := by decide +kernel
theorem dX3_choose_13 : decode cX3_choose 13 = .ok (.iload_n 1, 1) := by decide +kernel
theorem dX3_choose_14 : decode cX3_choose 14 = .ok (.iconst 0, 1) := by decide +kernel
theorem dX3_choose_15 : decode cX3_choose 15 = .ok (.bastore, 1) := by decide +kernel
theorem dX3_choose_16 : decode cX3_choose 16 = .ok (.iinc 1 1, 3) := by decide +kernel
theorem dX3_choose_19 : decode cX3_choose 19 = .ok (.goto (-17), 3) := by decide +kernel
theorem dX3_choose_22 : decode cX3_choose 22 = .ok (.iconst 0, 1) := by decide +kernel
theorem dX3_choose_23 : decode cX3_choose 23 = .ok (.istore_n 1, 1) := by decide +kernel
theorem dX3_choose_24 : decode cX3_choose 24 = .ok (.iload_n 1, 1) := by decide +kernel
theorem dX3_choose_25 : decode cX3_choose 25 = .ok (.iconst 4, 1) := by decide +kernel
theorem dX3_choose_26 : decode cX3_choose 26 = .ok (.if_icmp .ge 77, 3) := by decide +kernel
theorem dX3_choose_29 : decode cX3_choose 29 = .ok (.iconst 0, 1) := by decide +kernel
theorem dX3_choose_30 : decode cX3_choose 30 = .ok (.istore_n 2, 1) := by decide +kernel
theorem dX3_choose_31 : decode cX3_choose 31 = .ok (.iload_n 2, 1) := by decide +kernel
theorem dX3_choose_32 : decode cX3_choose 32 = .ok (.aload_n 0, 1) := by decide +kernel
theorem dX3_choose_33 : decode cX3_choose 33 = .ok (.getfield 41, 3) := by decide +kernel
theorem dX3_choose_36 : decode cX3_choose 36 = .ok (.iload_n 1, 1) := by decide +kernel
theorem dX3_choose_37 : decode cX3_choose 37 = .ok (.iaload, 1) := by decide +kernel
