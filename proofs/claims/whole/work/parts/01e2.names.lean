theorem dX3_choose_38 : decode cX3_choose 38 = .ok (.if_icmp .ge 59, 3) := by decide +kernel
theorem dX3_choose_41 : decode cX3_choose 41 = .ok (.iload_n 2, 1) := by decide +kernel
theorem dX3_choose_42 : decode cX3_choose 42 = .ok (.iconst 1, 1) := by decide +kernel
theorem dX3_choose_43 : decode cX3_choose 43 = .ok (.iadd, 1) := by decide +kernel
theorem dX3_choose_44 : decode cX3_choose 44 = .ok (.istore_n 3, 1) := by decide +kernel
theorem dX3_choose_45 : decode cX3_choose 45 = .ok (.iload_n 3, 1) := by decide +kernel
theorem dX3_choose_46 : decode cX3_choose 46 = .ok (.aload_n 0, 1) := by decide +kernel
theorem dX3_choose_47 : decode cX3_choose 47 = .ok (.getfield 41, 3) := by decide +kernel
theorem dX3_choose_50 : decode cX3_choose 50 = .ok (.iload_n 1, 1) := by decide +kernel
theorem dX3_choose_51 : decode cX3_choose 51 = .ok (.iaload, 1) := by decide +kernel
theorem dX3_choose_52 : decode cX3_choose 52 = .ok (.if_icmp .ge 39, 3) := by decide +kernel
theorem dX3_choose_55 : decode cX3_choose 55 = .ok (.aload_n 0, 1) := by decide +kernel
theorem dX3_choose_56 : decode cX3_choose 56 = .ok (.getfield 35, 3) := by decide +kernel
theorem dX3_choose_59 : decode cX3_choose 59 = .ok (.bipush 12, 2) := by decide +kernel
theorem dX3_choose_61 : decode cX3_choose 61 = .ok (.aload_n 0, 1) := by decide +kernel
theorem dX3_choose_62 : decode cX3_choose 62 = .ok (.getfield 38, 3) := by decide +kernel
theorem dX3_choose_65 : decode cX3_choose 65 = .ok (.iconst 4, 1) := by decide +kernel
theorem dX3_choose_66 : decode cX3_choose 66 = .ok (.iload_n 1, 1) := by decide +kernel
theorem dX3_choose_67 : decode cX3_choose 67 = .ok (.imul, 1) := by decide +kernel
theorem dX3_choose_68 : decode cX3_choose 68 = .ok (.iload_n 2, 1) := by decide +kernel
theorem dX3_choose_69 : decode cX3_choose 69 = .ok (.iadd, 1) := by decide +kernel
theorem dX3_choose_70 : decode cX3_choose 70 = .ok (.iaload, 1) := by decide +kernel
theorem dX3_choose_71 : decode cX3_choose 71 = .ok (.imul, 1) := by decide +kernel
theorem dX3_choose_72 : decode cX3_choose 72 = .ok (.aload_n 0, 1) := by decide +kernel
theorem dX3_choose_73 : decode cX3_choose 73 = .ok (.getfield 38, 3) := by decide +kernel
theorem dX3_choose_76 : decode cX3_choose 76 = .ok (.iconst 4, 1) := by decide +kernel
theorem dX3_choose_77 : decode cX3_choose 77 = .ok (.iload_n 1, 1) := by decide +kernel
theorem dX3_choose_78 : decode cX3_choose 78 = .ok (.imul, 1) := by decide +kernel
theorem dX3_choose_79 : decode cX3_choose 79 = .ok (.iload_n 3, 1) := by decide +kernel
theorem dX3_choose_80 : decode cX3_choose 80 = .ok (.iadd, 1) := by decide +kernel
theorem dX3_choose_81 : decode cX3_choose 81 = .ok (.iaload, 1) := by decide +kernel
theorem dX3_choose_82 : decode cX3_choose 82 = .ok (.iadd, 1) := by decide +kernel
theorem dX3_choose_83 : decode cX3_choose 83 = .ok (.iconst 1, 1) := by decide +kernel
theorem dX3_choose_84 : decode cX3_choose 84 = .ok (.bastore, 1) := by decide +kernel
theorem dX3_choose_85 : decode cX3_choose 85 = .ok (.iinc 3 1, 3) := by decide +kernel
theorem dX3_choose_88 : decode cX3_choose 88 = .ok (.goto (-43), 3) := by decide +kernel
theorem dX3_choose_91 : decode cX3_choose 91 = .ok (.iinc 2 1, 3) := by decide +kernel
theorem dX3_choose_94 : decode cX3_choose 94 = .ok (.goto (-63), 3) := by decide +kernel
theorem dX3_choose_97 : decode cX3_choose 97 = .ok (.iinc 1 1, 3) := by decide +kernel
theorem dX3_choose_100 : decode cX3_choose 100 = .ok (.goto (-76), 3) := by decide +kernel
theorem dX3_choose_103 : decode cX3_choose 103 = .ok (.iconst 0, 1) := by decide +kernel
theorem dX3_choose_104 : decode cX3_choose 104 = .ok (.istore_n 1, 1) := by decide +kernel
theorem dX3_choose_105 : decode cX3_choose 105 = .ok (.iload_n 1, 1) := by decide +kernel
theorem dX3_choose_106 : decode cX3_choose 106 = .ok (.sipush 144, 3) := by decide +kernel
theorem dX3_choose_109 : decode cX3_choose 109 = .ok (.if_icmp .ge 29, 3) := by decide +kernel
theorem dX3_choose_112 : decode cX3_choose 112 = .ok (.aload_n 0, 1) := by decide +kernel
theorem dX3_choose_113 : decode cX3_choose 113 = .ok (.getfield 19, 3) := by decide +kernel
theorem dX3_choose_116 : decode cX3_choose 116 = .ok (.iload_n 1, 1) := by decide +kernel
theorem dX3_choose_117 : decode cX3_choose 117 = .ok (.baload, 1) := by decide +kernel
theorem dX3_choose_118 : decode cX3_choose 118 = .ok (.ifCond .eq 14, 3) := by decide +kernel
theorem dX3_choose_121 : decode cX3_choose 121 = .ok (.aload_n 0, 1) := by decide +kernel
theorem dX3_choose_122 : decode cX3_choose 122 = .ok (.getfield 35, 3) := by decide +kernel
theorem dX3_choose_125 : decode cX3_choose 125 = .ok (.iload_n 1, 1) := by decide +kernel
theorem dX3_choose_126 : decode cX3_choose 126 = .ok (.baload, 1) := by decide +kernel
theorem dX3_choose_127 : decode cX3_choose 127 = .ok (.ifCond .ne 5, 3) := by decide +kernel
theorem dX3_choose_130 : decode cX3_choose 130 = .ok (.iconst 0, 1) := by decide +kernel
theorem dX3_choose_131 : decode cX3_choose 131 = .ok (.ireturn, 1) := by decide +kernel
theorem dX3_choose_132 : decode cX3_choose 132 = .ok (.iinc 1 1, 3) := by decide +kernel
theorem dX3_choose_135 : decode cX3_choose 135 = .ok (.goto (-30), 3) := by decide +kernel
theorem dX3_choose_138 : decode cX3_choose 138 = .ok (.iconst 1, 1) := by decide +kernel
theorem dX3_choose_139 : decode cX3_choose 139 = .ok (.ireturn, 1) := by decide +kernel
theorem dX3_isEarlier_0 : decode cX3_isEarlier 0 = .ok (.iconst 0, 1) := by decide +kernel
theorem dX3_isEarlier_1 : decode cX3_isEarlier 1 = .ok (.istore_n 1, 1) := by decide +kernel
theorem dX3_isEarlier_2 : decode cX3_isEarlier 2 = .ok (.iload_n 1, 1) := by decide +kernel
theorem dX3_isEarlier_3 : decode cX3_isEarlier 3 = .ok (.aload_n 0, 1) := by decide +kernel
theorem dX3_isEarlier_4 : decode cX3_isEarlier 4 = .ok (.getfield 48, 3) := by decide +kernel
theorem dX3_isEarlier_7 : decode cX3_isEarlier 7 = .ok (.if_icmp .ge 45, 3) := by decide +kernel
theorem dX3_isEarlier_10 : decode cX3_isEarlier 10 = .ok (.aload_n 0, 1) := by decide +kernel
theorem dX3_isEarlier_11 : decode cX3_isEarlier 11 = .ok (.getfield 29, 3) := by decide +kernel
theorem dX3_isEarlier_14 : decode cX3_isEarlier 14 = .ok (.iload_n 1, 1) := by decide +kernel
theorem dX3_isEarlier_15 : decode cX3_isEarlier 15 = .ok (.iaload, 1) := by decide +kernel
theorem dX3_isEarlier_16 : decode cX3_isEarlier 16 = .ok (.aload_n 0, 1) := by decide +kernel
theorem dX3_isEarlier_17 : decode cX3_isEarlier 17 = .ok (.getfield 26, 3) := by decide +kernel
theorem dX3_isEarlier_20 : decode cX3_isEarlier 20 = .ok (.iload_n 1, 1) := by decide +kernel
theorem dX3_isEarlier_21 : decode cX3_isEarlier 21 = .ok (.iaload, 1) := by decide +kernel
theorem dX3_isEarlier_22 : decode cX3_isEarlier 22 = .ok (.if_icmp .eq 24, 3) := by decide +kernel
theorem dX3_isEarlier_25 : decode cX3_isEarlier 25 = .ok (.aload_n 0, 1) := by decide +kernel
theorem dX3_isEarlier_26 : decode cX3_isEarlier 26 = .ok (.getfield 29, 3) := by decide +kernel
theorem dX3_isEarlier_29 : decode cX3_isEarlier 29 = .ok (.iload_n 1, 1) := by decide +kernel
theorem dX3_isEarlier_30 : decode cX3_isEarlier 30 = .ok (.iaload, 1) := by decide +kernel
theorem dX3_isEarlier_31 : decode cX3_isEarlier 31 = .ok (.aload_n 0, 1) := by decide +kernel
theorem dX3_isEarlier_32 : decode cX3_isEarlier 32 = .ok (.getfield 26, 3) := by decide +kernel
theorem dX3_isEarlier_35 : decode cX3_isEarlier 35 = .ok (.iload_n 1, 1) := by decide +kernel
theorem dX3_isEarlier_36 : decode cX3_isEarlier 36 = .ok (.iaload, 1) := by decide +kernel
theorem dX3_isEarlier_37 : decode cX3_isEarlier 37 = .ok (.if_icmp .ge 7, 3) := by decide +kernel
theorem dX3_isEarlier_40 : decode cX3_isEarlier 40 = .ok (.iconst 1, 1) := by decide +kernel
theorem dX3_isEarlier_41 : decode cX3_isEarlier 41 = .ok (.goto 4, 3) := by decide +kernel
theorem dX3_isEarlier_44 : decode cX3_isEarlier 44 = .ok (.iconst 0, 1) := by decide +kernel
theorem dX3_isEarlier_45 : decode cX3_isEarlier 45 = .ok (.ireturn, 1) := by decide +kernel
theorem dX3_isEarlier_46 : decode cX3_isEarlier 46 = .ok (.iinc 1 1, 3) := by decide +kernel
theorem dX3_isEarlier_49 : decode cX3_isEarlier 49 = .ok (.goto (-47), 3) := by decide +kernel
theorem dX3_isEarlier_52 : decode cX3_isEarlier 52 = .ok (.iconst 0, 1) := by decide +kernel
theorem dX3_isEarlier_53 : decode cX3_isEarlier 53 = .ok (.ireturn, 1) := by decide +kernel
set_option maxRecDepth 20000 in
theorem ggX3_weigh_X3_isEarlier : GoodIn wsX3_weigh wsX3_isEarlier := goodIn_r _ [12, 1, 2, 7, 13, 14, 15, 16, 17, 18, 19, 20, 21, 22, 23, 24, 25, 26, 27, 28] (by decide +kernel) (by decide +kernel)
set_option maxRecDepth 20000 in
theorem gX3_weigh_X3_isEarlier : GoodIn wsX3_weigh (wsV RX3 109 RX3 yX3_isEarlier wsX3_isEarlier) := goodIn_app (goodIn_of _ (by decide +kernel)) ggX3_weigh_X3_isEarlier
theorem dX3_weigh_0 : decode cX3_weigh 0 = .ok (.iconst 0, 1) := by decide +kernel
theorem dX3_weigh_1 : decode cX3_weigh 1 = .ok (.istore_n 1, 1) := by decide +kernel
theorem dX3_weigh_2 : decode cX3_weigh 2 = .ok (.iconst 0, 1) := by decide +kernel
theorem dX3_weigh_3 : decode cX3_weigh 3 = .ok (.istore_n 2, 1) := by decide +kernel
theorem dX3_weigh_4 : decode cX3_weigh 4 = .ok (.iload_n 2, 1) := by decide +kernel
theorem dX3_weigh_5 : decode cX3_weigh 5 = .ok (.aload_n 0, 1) := by decide +kernel
theorem dX3_weigh_6 : decode cX3_weigh 6 = .ok (.getfield 48, 3) := by decide +kernel
theorem dX3_weigh_9 : decode cX3_weigh 9 = .ok (.if_icmp .ge 34, 3) := by decide +kernel
theorem dX3_weigh_12 : decode cX3_weigh 12 = .ok (.aload_n 0, 1) := by decide +kernel
theorem dX3_weigh_13 : decode cX3_weigh 13 = .ok (.getfield 29, 3) := by decide +kernel
theorem dX3_weigh_16 : decode cX3_weigh 16 = .ok (.iload_n 2, 1) := by decide +kernel
theorem dX3_weigh_17 : decode cX3_weigh 17 = .ok (.iaload, 1) := by decide +kernel
theorem dX3_weigh_18 : decode cX3_weigh 18 = .ok (.aload_n 0, 1) := by decide +kernel
theorem dX3_weigh_19 : decode cX3_weigh 19 = .ok (.getfield 16, 3) := by decide +kernel
theorem dX3_weigh_22 : decode cX3_weigh 22 = .ok (.iload_n 2, 1) := by decide +kernel
theorem dX3_weigh_23 : decode cX3_weigh 23 = .ok (.iaload, 1) := by decide +kernel
theorem dX3_weigh_24 : decode cX3_weigh 24 = .ok (.iadd, 1) := by decide +kernel
theorem dX3_weigh_25 : decode cX3_weigh 25 = .ok (.istore_n 3, 1) := by decide +kernel
theorem dX3_weigh_26 : decode cX3_weigh 26 = .ok (.iload_n 3, 1) := by decide +kernel
theorem dX3_weigh_27 : decode cX3_weigh 27 = .ok (.iload_n 1, 1) := by decide +kernel
theorem dX3_weigh_28 : decode cX3_weigh 28 = .ok (.if_icmp .le 7, 3) := by decide +kernel
theorem dX3_weigh_31 : decode cX3_weigh 31 = .ok (.iload_n 3, 1) := by decide +kernel
theorem dX3_weigh_32 : decode cX3_weigh 32 = .ok (.goto 4, 3) := by decide +kernel
theorem dX3_weigh_35 : decode cX3_weigh 35 = .ok (.iload_n 1, 1) := by decide +kernel
theorem dX3_weigh_36 : decode cX3_weigh 36 = .ok (.istore_n 1, 1) := by decide +kernel
theorem dX3_weigh_37 : decode cX3_weigh 37 = .ok (.iinc 2 1, 3) := by decide +kernel
theorem dX3_weigh_40 : decode cX3_weigh 40 = .ok (.goto (-36), 3) := by decide +kernel
theorem dX3_weigh_43 : decode cX3_weigh 43 = .ok (.aload_n 0, 1) := by decide +kernel
theorem dX3_weigh_44 : decode cX3_weigh 44 = .ok (.getfield 59, 3) := by decide +kernel
theorem dX3_weigh_47 : decode cX3_weigh 47 = .ok (.ifCond .eq 11, 3) := by decide +kernel
theorem dX3_weigh_50 : decode cX3_weigh 50 = .ok (.iload_n 1, 1) := by decide +kernel
theorem dX3_weigh_51 : decode cX3_weigh 51 = .ok (.aload_n 0, 1) := by decide +kernel
theorem dX3_weigh_52 : decode cX3_weigh 52 = .ok (.getfield 44, 3) := by decide +kernel
theorem dX3_weigh_55 : decode cX3_weigh 55 = .ok (.if_icmp .ge 7, 3) := by decide +kernel
theorem dX3_weigh_58 : decode cX3_weigh 58 = .ok (.iconst 1, 1) := by decide +kernel
theorem dX3_weigh_59 : decode cX3_weigh 59 = .ok (.goto 4, 3) := by decide +kernel
theorem dX3_weigh_62 : decode cX3_weigh 62 = .ok (.iconst 0, 1) := by decide +kernel
theorem dX3_weigh_63 : decode cX3_weigh 63 = .ok (.istore_n 2, 1) := by decide +kernel
theorem dX3_weigh_64 : decode cX3_weigh 64 = .ok (.aload_n 0, 1) := by decide +kernel
theorem dX3_weigh_65 : decode cX3_weigh 65 = .ok (.getfield 59, 3) := by decide +kernel
theorem dX3_weigh_68 : decode cX3_weigh 68 = .ok (.ifCond .eq 15, 3) := by decide +kernel
theorem dX3_weigh_71 : decode cX3_weigh 71 = .ok (.iload_n 1, 1) := by decide +kernel
theorem dX3_weigh_72 : decode cX3_weigh 72 = .ok (.aload_n 0, 1) := by decide +kernel
theorem dX3_weigh_73 : decode cX3_weigh 73 = .ok (.getfield 44, 3) := by decide +kernel
theorem dX3_weigh_76 : decode cX3_weigh 76 = .ok (.if_icmp .ne 7, 3) := by decide +kernel
theorem dX3_weigh_79 : decode cX3_weigh 79 = .ok (.iconst 1, 1) := by decide +kernel
theorem dX3_weigh_80 : decode cX3_weigh 80 = .ok (.goto 4, 3) := by decide +kernel
theorem dX3_weigh_83 : decode cX3_weigh 83 = .ok (.iconst 0, 1) := by decide +kernel
theorem dX3_weigh_84 : decode cX3_weigh 84 = .ok (.istore_n 3, 1) := by decide +kernel
theorem dX3_weigh_85 : decode cX3_weigh 85 = .ok (.aload_n 0, 1) := by decide +kernel
theorem dX3_weigh_86 : decode cX3_weigh 86 = .ok (.iload_n 2, 1) := by decide +kernel
theorem dX3_weigh_87 : decode cX3_weigh 87 = .ok (.ifCond .eq 7, 3) := by decide +kernel
theorem dX3_weigh_90 : decode cX3_weigh 90 = .ok (.iconst 1, 1) := by decide +kernel
theorem dX3_weigh_91 : decode cX3_weigh 91 = .ok (.goto 20, 3) := by decide +kernel
theorem dX3_weigh_94 : decode cX3_weigh 94 = .ok (.iload_n 3, 1) := by decide +kernel
theorem dX3_weigh_95 : decode cX3_weigh 95 = .ok (.ifCond .eq 12, 3) := by decide +kernel
theorem dX3_weigh_98 : decode cX3_weigh 98 = .ok (.aload_n 0, 1) := by decide +kernel
theorem dX3_weigh_99 : decode cX3_weigh 99 = .ok (.getfield 106, 3) := by decide +kernel
theorem dX3_weigh_102 : decode cX3_weigh 102 = .ok (.iconst 1, 1) := by decide +kernel
theorem dX3_weigh_103 : decode cX3_weigh 103 = .ok (.iadd, 1) := by decide +kernel
theorem dX3_weigh_104 : decode cX3_weigh 104 = .ok (.goto 7, 3) := by decide +kernel
theorem dX3_weigh_107 : decode cX3_weigh 107 = .ok (.aload_n 0, 1) := by decide +kernel
theorem dX3_weigh_108 : decode cX3_weigh 108 = .ok (.getfield 106, 3) := by decide +kernel
theorem dX3_weigh_111 : decode cX3_weigh 111 = .ok (.putfield 106, 3) := by decide +kernel
theorem dX3_weigh_114 : decode cX3_weigh 114 = .ok (.iload_n 2, 1) := by decide +kernel
theorem dX3_weigh_115 : decode cX3_weigh 115 = .ok (.ifCond .ne 14, 3) := by decide +kernel
theorem dX3_weigh_118 : decode cX3_weigh 118 = .ok (.iload_n 3, 1) := by decide +kernel
theorem dX3_weigh_119 : decode cX3_weigh 119 = .ok (.ifCond .eq 42, 3) := by decide +kernel
theorem dX3_weigh_122 : decode cX3_weigh 122 = .ok (.aload_n 0, 1) := by decide +kernel
theorem dX3_weigh_123 : decode cX3_weigh 123 = .ok (.invokevirtual 109, 3) := by decide +kernel
theorem dX3_weigh_126 : decode cX3_weigh 126 = .ok (.ifCond .eq 35, 3) := by decide +kernel
theorem dX3_weigh_129 : decode cX3_weigh 129 = .ok (.iconst 0, 1) := by decide +kernel
theorem dX3_weigh_130 : decode cX3_weigh 130 = .ok (.istore 4, 2) := by decide +kernel
theorem dX3_weigh_132 : decode cX3_weigh 132 = .ok (.iload 4, 2) := by decide +kernel
theorem dX3_weigh_134 : decode cX3_weigh 134 = .ok (.aload_n 0, 1) := by decide +kernel
theorem dX3_weigh_135 : decode cX3_weigh 135 = .ok (.getfield 48, 3) := by decide +kernel
theorem dX3_weigh_138 : decode cX3_weigh 138 = .ok (.if_icmp .ge 23, 3) := by decide +kernel
theorem dX3_weigh_141 : decode cX3_weigh 141 = .ok (.aload_n 0, 1) := by decide +kernel
theorem dX3_weigh_142 : decode cX3_weigh 142 = .ok (.getfield 26, 3) := by decide +kernel
theorem dX3_weigh_145 : decode cX3_weigh 145 = .ok (.iload 4, 2) := by decide +kernel
theorem dX3_weigh_147 : decode cX3_weigh 147 = .ok (.aload_n 0, 1) := by decide +kernel
theorem dX3_weigh_148 : decode cX3_weigh 148 = .ok (.getfield 29, 3) := by decide +kernel
theorem dX3_weigh_151 : decode cX3_weigh 151 = .ok (.iload 4, 2) := by decide +kernel
theorem dX3_weigh_153 : decode cX3_weigh 153 = .ok (.iaload, 1) := by decide +kernel
theorem dX3_weigh_154 : decode cX3_weigh 154 = .ok (.iastore, 1) := by decide +kernel
theorem dX3_weigh_155 : decode cX3_weigh 155 = .ok (.iinc 4 1, 3) := by decide +kernel
theorem dX3_weigh_158 : decode cX3_weigh 158 = .ok (.goto (-26), 3) := by decide +kernel
theorem dX3_weigh_161 : decode cX3_weigh 161 = .ok (.aload_n 0, 1) := by decide +kernel
theorem dX3_weigh_162 : decode cX3_weigh 162 = .ok (.iload_n 2, 1) := by decide +kernel
theorem dX3_weigh_163 : decode cX3_weigh 163 = .ok (.ifCond .eq 7, 3) := by decide +kernel
theorem dX3_weigh_166 : decode cX3_weigh 166 = .ok (.iload_n 1, 1) := by decide +kernel
theorem dX3_weigh_167 : decode cX3_weigh 167 = .ok (.goto 7, 3) := by decide +kernel
theorem dX3_weigh_170 : decode cX3_weigh 170 = .ok (.aload_n 0, 1) := by decide +kernel
theorem dX3_weigh_171 : decode cX3_weigh 171 = .ok (.getfield 44, 3) := by decide +kernel
theorem dX3_weigh_174 : decode cX3_weigh 174 = .ok (.putfield 44, 3) := by decide +kernel
theorem dX3_weigh_177 : decode cX3_weigh 177 = .ok (.aload_n 0, 1) := by decide +kernel
theorem dX3_weigh_178 : decode cX3_weigh 178 = .ok (.iconst 1, 1) := by decide +kernel
theorem dX3_weigh_179 : decode cX3_weigh 179 = .ok (.putfield 59, 3) := by decide +kernel
theorem dX3_weigh_182 : decode cX3_weigh 182 = .ok (.return_, 1) := by decide +kernel
set_option maxRecDepth 20000 in
theorem ggX3_solve_X3_layFirst : GoodIn wsX3_solve wsX3_layFirst := goodIn_r _ [8, 9, 10, 11, 12, 47, 48, 49, 50, 51, 52, 53, 54, 55, 56, 57, 58, 59, 60, 61, 62] (by decide +kernel) (by decide +kernel)
set_option maxRecDepth 20000 in
theorem gX3_solve_X3_layFirst : GoodIn wsX3_solve (wsV RX3 102 RX3 yX3_layFirst wsX3_layFirst) := goodIn_app (goodIn_of _ (by decide +kernel)) ggX3_solve_X3_layFirst
set_option maxRecDepth 20000 in
theorem ggX3_solve_X3_choose : GoodIn wsX3_solve wsX3_choose := goodIn_r _ [16, 2, 9, 12, 17, 47, 48, 49, 50, 51, 52, 53, 54, 55, 56, 57, 58, 59, 60, 61, 62] (by decide +kernel) (by decide +kernel)
set_option maxRecDepth 20000 in
theorem gX3_solve_X3_choose : GoodIn wsX3_solve (wsV RX3 113 RX3 yX3_choose wsX3_choose) := goodIn_app (goodIn_of _ (by decide +kernel)) ggX3_solve_X3_choose
set_option maxRecDepth 20000 in
theorem ggX3_solve_X3_findHeads : GoodIn wsX3_solve wsX3_findHeads := goodIn_r _ [21, 10, 22, 23, 24, 25, 26, 7, 27, 28, 29, 30, 31, 32, 47, 48, 49, 50, 51, 52, 53, 54, 55, 56, 57, 58, 59, 60, 61, 62] (by decide +kernel) (by decide +kernel)
set_option maxRecDepth 20000 in
theorem gX3_solve_X3_findHeads : GoodIn wsX3_solve (wsV RX3 77 RX3 yX3_findHeads wsX3_findHeads) := goodIn_app (goodIn_of _ (by decide +kernel)) ggX3_solve_X3_findHeads
set_option maxRecDepth 20000 in
theorem ggX3_solve_X3_weigh : GoodIn wsX3_solve wsX3_weigh := goodIn_r _ [36, 10, 22, 23, 1, 3, 37, 38, 39, 40, 41, 7, 42, 47, 48, 49, 50, 51, 52, 53, 54, 55, 56, 57, 58, 59, 60, 61, 62] (by decide +kernel) (by decide +kernel)
set_option maxRecDepth 20000 in
theorem gX3_solve_X3_weigh : GoodIn wsX3_solve (wsV RX3 116 RX3 yX3_weigh wsX3_weigh) := goodIn_app (goodIn_of _ (by decide +kernel)) ggX3_solve_X3_weigh
set_option maxRecDepth 20000 in
theorem ggX3_solve_X3_nextOrder : GoodIn wsX3_solve wsX3_nextOrder := goodIn_r _ [46, 9, 12, 4, 5, 6, 7, 8, 10, 11, 47, 48, 49, 50, 51, 52, 53, 54, 55, 56, 57, 58, 59, 60, 61, 62] (by decide +kernel) (by decide +kernel)
set_option maxRecDepth 20000 in
theorem gX3_solve_X3_nextOrder : GoodIn wsX3_solve (wsV RX3 119 RX3 yX3_nextOrder wsX3_nextOrder) := goodIn_app (goodIn_of _ (by decide +kernel)) ggX3_solve_X3_nextOrder
theorem dX3_solve_0 : decode cX3_solve 0 = .ok (.aload_n 0, 1) := by decide +kernel
theorem dX3_solve_1 : decode cX3_solve 1 = .ok (.iconst 0, 1) := by decide +kernel
theorem dX3_solve_2 : decode cX3_solve 2 = .ok (.putfield 59, 3) := by decide +kernel
theorem dX3_solve_5 : decode cX3_solve 5 = .ok (.iconst 0, 1) := by decide +kernel
theorem dX3_solve_6 : decode cX3_solve 6 = .ok (.istore_n 1, 1) := by decide +kernel
theorem dX3_solve_7 : decode cX3_solve 7 = .ok (.iload_n 1, 1) := by decide +kernel
theorem dX3_solve_8 : decode cX3_solve 8 = .ok (.iconst 4, 1) := by decide +kernel
theorem dX3_solve_9 : decode cX3_solve 9 = .ok (.if_icmp .ge 14, 3) := by decide +kernel
theorem dX3_solve_12 : decode cX3_solve 12 = .ok (.aload_n 0, 1) := by decide +kernel
theorem dX3_solve_13 : decode cX3_solve 13 = .ok (.iload_n 1, 1) := by decide +kernel
theorem dX3_solve_14 : decode cX3_solve 14 = .ok (.invokevirtual 102, 3) := by decide +kernel
theorem dX3_solve_17 : decode cX3_solve 17 = .ok (.iinc 1 1, 3) := by decide +kernel
theorem dX3_solve_20 : decode cX3_solve 20 = .ok (.goto (-13), 3) := by decide +kernel
theorem dX3_solve_23 : decode cX3_solve 23 = .ok (.iconst 1, 1) := by decide +kernel
theorem dX3_solve_24 : decode cX3_solve 24 = .ok (.istore_n 1, 1) := by decide +kernel
theorem dX3_solve_25 : decode cX3_solve 25 = .ok (.iload_n 1, 1) := by decide +kernel
theorem dX3_solve_26 : decode cX3_solve 26 = .ok (.ifCond .eq 60, 3) := by decide +kernel
theorem dX3_solve_29 : decode cX3_solve 29 = .ok (.aload_n 0, 1) := by decide +kernel
theorem dX3_solve_30 : decode cX3_solve 30 = .ok (.invokevirtual 113, 3) := by decide +kernel
theorem dX3_solve_33 : decode cX3_solve 33 = .ok (.ifCond .eq 18, 3) := by decide +kernel
theorem dX3_solve_36 : decode cX3_solve 36 = .ok (.aload_n 0, 1) := by decide +kernel
theorem dX3_solve_37 : decode cX3_solve 37 = .ok (.aload_n 0, 1) := by decide +kernel
theorem dX3_solve_38 : decode cX3_solve 38 = .ok (.getfield 35, 3) := by decide +kernel
theorem dX3_solve_41 : decode cX3_solve 41 = .ok (.invokevirtual 77, 3) := by decide +kernel
theorem dX3_solve_44 : decode cX3_solve 44 = .ok (.ifCond .eq 7, 3) := by decide +kernel
theorem dX3_solve_47 : decode cX3_solve 47 = .ok (.aload_n 0, 1) := by decide +kernel
theorem dX3_solve_48 : decode cX3_solve 48 = .ok (.invokevirtual 116, 3) := by decide +kernel
theorem dX3_solve_51 : decode cX3_solve 51 = .ok (.iconst 0, 1) := by decide +kernel
theorem dX3_solve_52 : decode cX3_solve 52 = .ok (.istore_n 2, 1) := by decide +kernel
theorem dX3_solve_53 : decode cX3_solve 53 = .ok (.iload_n 2, 1) := by decide +kernel
theorem dX3_solve_54 : decode cX3_solve 54 = .ok (.iconst 4, 1) := by decide +kernel
theorem dX3_solve_55 : decode cX3_solve 55 = .ok (.if_icmp .ge 17, 3) := by decide +kernel
theorem dX3_solve_58 : decode cX3_solve 58 = .ok (.aload_n 0, 1) := by decide +kernel
theorem dX3_solve_59 : decode cX3_solve 59 = .ok (.iload_n 2, 1) := by decide +kernel
theorem dX3_solve_60 : decode cX3_solve 60 = .ok (.invokevirtual 119, 3) := by decide +kernel
theorem dX3_solve_63 : decode cX3_solve 63 = .ok (.ifCond .ne 9, 3) := by decide +kernel
theorem dX3_solve_66 : decode cX3_solve 66 = .ok (.iinc 2 1, 3) := by decide +kernel
theorem dX3_solve_69 : decode cX3_solve 69 = .ok (.goto (-16), 3) := by decide +kernel
theorem dX3_solve_72 : decode cX3_solve 72 = .ok (.iload_n 2, 1) := by decide +kernel
theorem dX3_solve_73 : decode cX3_solve 73 = .ok (.iconst 4, 1) := by decide +kernel
theorem dX3_solve_74 : decode cX3_solve 74 = .ok (.if_icmp .ge 7, 3) := by decide +kernel
theorem dX3_solve_77 : decode cX3_solve 77 = .ok (.iconst 1, 1) := by decide +kernel
theorem dX3_solve_78 : decode cX3_solve 78 = .ok (.goto 4, 3) := by decide +kernel
theorem dX3_solve_81 : decode cX3_solve 81 = .ok (.iconst 0, 1) := by decide +kernel
theorem dX3_solve_82 : decode cX3_solve 82 = .ok (.istore_n 1, 1) := by decide +kernel
theorem dX3_solve_83 : decode cX3_solve 83 = .ok (.goto (-58), 3) := by decide +kernel
theorem dX3_solve_86 : decode cX3_solve 86 = .ok (.aload_n 0, 1) := by decide +kernel
theorem dX3_solve_87 : decode cX3_solve 87 = .ok (.getfield 44, 3) := by decide +kernel
theorem dX3_solve_90 : decode cX3_solve 90 = .ok (.ireturn, 1) := by decide +kernel
theorem dX3_optima_0 : decode cX3_optima 0 = .ok (.aload_n 0, 1) := by decide +kernel
theorem dX3_optima_1 : decode cX3_optima 1 = .ok (.getfield 59, 3) := by decide +kernel
theorem dX3_optima_4 : decode cX3_optima 4 = .ok (.ifCond .eq 10, 3) := by decide +kernel
theorem dX3_optima_7 : decode cX3_optima 7 = .ok (.aload_n 0, 1) := by decide +kernel
theorem dX3_optima_8 : decode cX3_optima 8 = .ok (.getfield 106, 3) := by decide +kernel
theorem dX3_optima_11 : decode cX3_optima 11 = .ok (.goto 4, 3) := by decide +kernel
theorem dX3_optima_14 : decode cX3_optima 14 = .ok (.iconst (-1), 1) := by decide +kernel
theorem dX3_optima_15 : decode cX3_optima 15 = .ok (.ireturn, 1) := by decide +kernel
set_option maxRecDepth 20000 in
theorem ggX3_at_X3_in : GoodIn wsX3_at wsX3_in := goodIn_r _ [9] (by decide +kernel) (by decide +kernel)
set_option maxRecDepth 20000 in
theorem gX3_at_X3_in : GoodIn wsX3_at (va_wsS RX3 51 yX3_in wsX3_in) := goodIn_app (goodIn_of _ (by decide +kernel)) ggX3_at_X3_in
theorem dX3_at_0 : decode cX3_at 0 = .ok (.iload_n 1, 1) := by decide +kernel
theorem dX3_at_1 : decode cX3_at 1 = .ok (.iconst 0, 1) := by decide +kernel
theorem dX3_at_2 : decode cX3_at 2 = .ok (.iconst 3, 1) := by decide +kernel
theorem dX3_at_3 : decode cX3_at 3 = .ok (.invokestatic 51, 3) := by decide +kernel
theorem dX3_at_6 : decode cX3_at 6 = .ok (.ifCond .ne 6, 3) := by decide +kernel
theorem dX3_at_9 : decode cX3_at 9 = .ok (.bipush (-2), 2) := by decide +kernel
theorem dX3_at_11 : decode cX3_at 11 = .ok (.ireturn, 1) := by decide +kernel
theorem dX3_at_12 : decode cX3_at 12 = .ok (.iconst 0, 1) := by decide +kernel
theorem dX3_at_13 : decode cX3_at 13 = .ok (.istore_n 3, 1) := by decide +kernel
theorem dX3_at_14 : decode cX3_at 14 = .ok (.iload_n 3, 1) := by decide +kernel
theorem dX3_at_15 : decode cX3_at 15 = .ok (.aload_n 0, 1) := by decide +kernel
theorem dX3_at_16 : decode cX3_at 16 = .ok (.getfield 48, 3) := by decide +kernel
theorem dX3_at_19 : decode cX3_at 19 = .ok (.if_icmp .ge 56, 3) := by decide +kernel
theorem dX3_at_22 : decode cX3_at 22 = .ok (.aload_n 0, 1) := by decide +kernel
theorem dX3_at_23 : decode cX3_at 23 = .ok (.getfield 59, 3) := by decide +kernel
theorem dX3_at_26 : decode cX3_at 26 = .ok (.ifCond .eq 49, 3) := by decide +kernel
theorem dX3_at_29 : decode cX3_at 29 = .ok (.aload_n 0, 1) := by decide +kernel
theorem dX3_at_30 : decode cX3_at 30 = .ok (.getfield 13, 3) := by decide +kernel
theorem dX3_at_33 : decode cX3_at 33 = .ok (.iload_n 3, 1) := by decide +kernel
theorem dX3_at_34 : decode cX3_at 34 = .ok (.iaload, 1) := by decide +kernel
theorem dX3_at_35 : decode cX3_at 35 = .ok (.iload_n 1, 1) := by decide +kernel
theorem dX3_at_36 : decode cX3_at 36 = .ok (.if_icmp .ne 33, 3) := by decide +kernel
theorem dX3_at_39 : decode cX3_at 39 = .ok (.iload_n 2, 1) := by decide +kernel
theorem dX3_at_40 : decode cX3_at 40 = .ok (.aload_n 0, 1) := by decide +kernel
theorem dX3_at_41 : decode cX3_at 41 = .ok (.getfield 26, 3) := by decide +kernel
theorem dX3_at_44 : decode cX3_at 44 = .ok (.iload_n 3, 1) := by decide +kernel
theorem dX3_at_45 : decode cX3_at 45 = .ok (.iaload, 1) := by decide +kernel
theorem dX3_at_46 : decode cX3_at 46 = .ok (.aload_n 0, 1) := by decide +kernel
theorem dX3_at_47 : decode cX3_at 47 = .ok (.getfield 26, 3) := by decide +kernel
theorem dX3_at_50 : decode cX3_at 50 = .ok (.iload_n 3, 1) := by decide +kernel
theorem dX3_at_51 : decode cX3_at 51 = .ok (.iaload, 1) := by decide +kernel
theorem dX3_at_52 : decode cX3_at 52 = .ok (.aload_n 0, 1) := by decide +kernel
theorem dX3_at_53 : decode cX3_at 53 = .ok (.getfield 16, 3) := by decide +kernel
theorem dX3_at_56 : decode cX3_at 56 = .ok (.iload_n 3, 1) := by decide +kernel
theorem dX3_at_57 : decode cX3_at 57 = .ok (.iaload, 1) := by decide +kernel
theorem dX3_at_58 : decode cX3_at 58 = .ok (.iadd, 1) := by decide +kernel
theorem dX3_at_59 : decode cX3_at 59 = .ok (.iconst 1, 1) := by decide +kernel
theorem dX3_at_60 : decode cX3_at 60 = .ok (.isub, 1) := by decide +kernel
theorem dX3_at_61 : decode cX3_at 61 = .ok (.invokestatic 51, 3) := by decide +kernel
theorem dX3_at_64 : decode cX3_at 64 = .ok (.ifCond .eq 5, 3) := by decide +kernel
theorem dX3_at_67 : decode cX3_at 67 = .ok (.iload_n 3, 1) := by decide +kernel
theorem dX3_at_68 : decode cX3_at 68 = .ok (.ireturn, 1) := by decide +kernel
theorem dX3_at_69 : decode cX3_at 69 = .ok (.iinc 3 1, 3) := by decide +kernel
theorem dX3_at_72 : decode cX3_at 72 = .ok (.goto (-58), 3) := by decide +kernel
theorem dX3_at_75 : decode cX3_at 75 = .ok (.iconst (-1), 1) := by decide +kernel
theorem dX3_at_76 : decode cX3_at 76 = .ok (.ireturn, 1) := by decide +kernel
set_option maxRecDepth 20000 in
theorem ggX3_draft_X3_isOperation : GoodIn wsX3_draft wsX3_isOperation := goodIn_r _ [6, 7, 8, 9, 5, 10, 11, 12, 13, 14, 15, 16, 17, 18, 19, 20, 21, 22, 23, 24, 25, 26] (by decide +kernel) (by decide +kernel)
set_option maxRecDepth 20000 in
theorem gX3_draft_X3_isOperation : GoodIn wsX3_draft (wsV RX3 55 RX3 yX3_isOperation wsX3_isOperation) := goodIn_app (goodIn_of _ (by decide +kernel)) ggX3_draft_X3_isOperation
set_option maxRecDepth 20000 in
theorem ggX3_draft_X3_in : GoodIn wsX3_draft wsX3_in := goodIn_r _ [10] (by decide +kernel) (by decide +kernel)
set_option maxRecDepth 20000 in
theorem gX3_draft_X3_in : GoodIn wsX3_draft (va_wsS RX3 51 yX3_in wsX3_in) := goodIn_app (goodIn_of _ (by decide +kernel)) ggX3_draft_X3_in
theorem dX3_draft_0 : decode cX3_draft 0 = .ok (.aload_n 0, 1) := by decide +kernel
theorem dX3_draft_1 : decode cX3_draft 1 = .ok (.iload_n 1, 1) := by decide +kernel
theorem dX3_draft_2 : decode cX3_draft 2 = .ok (.invokevirtual 55, 3) := by decide +kernel
theorem dX3_draft_5 : decode cX3_draft 5 = .ok (.ifCond .eq 14, 3) := by decide +kernel
theorem dX3_draft_8 : decode cX3_draft 8 = .ok (.iload_n 2, 1) := by decide +kernel
theorem dX3_draft_9 : decode cX3_draft 9 = .ok (.iconst 0, 1) := by decide +kernel
theorem dX3_draft_10 : decode cX3_draft 10 = .ok (.sipush 1000, 3) := by decide +kernel
theorem dX3_draft_13 : decode cX3_draft 13 = .ok (.invokestatic 51, 3) := by decide +kernel
theorem dX3_draft_16 : decode cX3_draft 16 = .ok (.ifCond .ne 6, 3) := by decide +kernel
theorem dX3_draft_19 : decode cX3_draft 19 = .ok (.bipush (-2), 2) := by decide +kernel
theorem dX3_draft_21 : decode cX3_draft 21 = .ok (.ireturn, 1) := by decide +kernel
theorem dX3_draft_22 : decode cX3_draft 22 = .ok (.aload_n 0, 1) := by decide +kernel
theorem dX3_draft_23 : decode cX3_draft 23 = .ok (.getfield 23, 3) := by decide +kernel
theorem dX3_draft_26 : decode cX3_draft 26 = .ok (.iload_n 1, 1) := by decide +kernel
theorem dX3_draft_27 : decode cX3_draft 27 = .ok (.iaload, 1) := by decide +kernel
theorem dX3_draft_28 : decode cX3_draft 28 = .ok (.istore_n 3, 1) := by decide +kernel
theorem dX3_draft_29 : decode cX3_draft 29 = .ok (.aload_n 0, 1) := by decide +kernel
theorem dX3_draft_30 : decode cX3_draft 30 = .ok (.getfield 23, 3) := by decide +kernel
theorem dX3_draft_33 : decode cX3_draft 33 = .ok (.iload_n 1, 1) := by decide +kernel
theorem dX3_draft_34 : decode cX3_draft 34 = .ok (.iload_n 2, 1) := by decide +kernel
theorem dX3_draft_35 : decode cX3_draft 35 = .ok (.iastore, 1) := by decide +kernel
theorem dX3_draft_36 : decode cX3_draft 36 = .ok (.iload_n 3, 1) := by decide +kernel
theorem dX3_draft_37 : decode cX3_draft 37 = .ok (.ireturn, 1) := by decide +kernel
set_option maxRecDepth 20000 in
theorem ggX3_isOverBehind_X3_leads : GoodIn wsX3_isOverBehind wsX3_leads := goodIn_r _ [9, 10, 11, 12, 8, 13, 1, 14, 15, 16, 17, 18, 19, 20, 21, 22, 23, 24, 25, 26, 27, 28, 29, 30] (by decide +kernel) (by decide +kernel)
set_option maxRecDepth 20000 in
theorem gX3_isOverBehind_X3_leads : GoodIn wsX3_isOverBehind (wsV RX3 73 RX3 yX3_leads wsX3_leads) := goodIn_app (goodIn_of _ (by decide +kernel)) ggX3_isOverBehind_X3_leads
theorem dX3_isOverBehind_0 : decode cX3_isOverBehind 0 = .ok (.iconst 0, 1) := by decide +kernel
theorem dX3_isOverBehind_1 : decode cX3_isOverBehind 1 = .ok (.istore_n 2, 1) := by decide +kernel
theorem dX3_isOverBehind_2 : decode cX3_isOverBehind 2 = .ok (.iload_n 2, 1) := by decide +kernel
theorem dX3_isOverBehind_3 : decode cX3_isOverBehind 3 = .ok (.aload_n 0, 1) := by decide +kernel
theorem dX3_isOverBehind_4 : decode cX3_isOverBehind 4 = .ok (.getfield 48, 3) := by decide +kernel
theorem dX3_isOverBehind_7 : decode cX3_isOverBehind 7 = .ok (.if_icmp .ge 46, 3) := by decide +kernel
theorem dX3_isOverBehind_10 : decode cX3_isOverBehind 10 = .ok (.aload_n 0, 1) := by decide +kernel
theorem dX3_isOverBehind_11 : decode cX3_isOverBehind 11 = .ok (.aload_n 0, 1) := by decide +kernel
theorem dX3_isOverBehind_12 : decode cX3_isOverBehind 12 = .ok (.getfield 19, 3) := by decide +kernel
theorem dX3_isOverBehind_15 : decode cX3_isOverBehind 15 = .ok (.iload_n 1, 1) := by decide +kernel
theorem dX3_isOverBehind_16 : decode cX3_isOverBehind 16 = .ok (.iload_n 2, 1) := by decide +kernel
theorem dX3_isOverBehind_17 : decode cX3_isOverBehind 17 = .ok (.invokevirtual 73, 3) := by decide +kernel
theorem dX3_isOverBehind_20 : decode cX3_isOverBehind 20 = .ok (.ifCond .eq 27, 3) := by decide +kernel
theorem dX3_isOverBehind_23 : decode cX3_isOverBehind 23 = .ok (.aload_n 0, 1) := by decide +kernel
theorem dX3_isOverBehind_24 : decode cX3_isOverBehind 24 = .ok (.getfield 23, 3) := by decide +kernel
theorem dX3_isOverBehind_27 : decode cX3_isOverBehind 27 = .ok (.iload_n 1, 1) := by decide +kernel
theorem dX3_isOverBehind_28 : decode cX3_isOverBehind 28 = .ok (.iaload, 1) := by decide +kernel
theorem dX3_isOverBehind_29 : decode cX3_isOverBehind 29 = .ok (.aload_n 0, 1) := by decide +kernel
theorem dX3_isOverBehind_30 : decode cX3_isOverBehind 30 = .ok (.getfield 16, 3) := by decide +kernel
theorem dX3_isOverBehind_33 : decode cX3_isOverBehind 33 = .ok (.iload_n 1, 1) := by decide +kernel
theorem dX3_isOverBehind_34 : decode cX3_isOverBehind 34 = .ok (.iaload, 1) := by decide +kernel
theorem dX3_isOverBehind_35 : decode cX3_isOverBehind 35 = .ok (.iadd, 1) := by decide +kernel
theorem dX3_isOverBehind_36 : decode cX3_isOverBehind 36 = .ok (.aload_n 0, 1) := by decide +kernel
theorem dX3_isOverBehind_37 : decode cX3_isOverBehind 37 = .ok (.getfield 23, 3) := by decide +kernel
theorem dX3_isOverBehind_40 : decode cX3_isOverBehind 40 = .ok (.iload_n 2, 1) := by decide +kernel
theorem dX3_isOverBehind_41 : decode cX3_isOverBehind 41 = .ok (.iaload, 1) := by decide +kernel
theorem dX3_isOverBehind_42 : decode cX3_isOverBehind 42 = .ok (.if_icmp .le 5, 3) := by decide +kernel
theorem dX3_isOverBehind_45 : decode cX3_isOverBehind 45 = .ok (.iconst 1, 1) := by decide +kernel
theorem dX3_isOverBehind_46 : decode cX3_isOverBehind 46 = .ok (.ireturn, 1) := by decide +kernel
theorem dX3_isOverBehind_47 : decode cX3_isOverBehind 47 = .ok (.iinc 2 1, 3) := by decide +kernel
theorem dX3_isOverBehind_50 : decode cX3_isOverBehind 50 = .ok (.goto (-48), 3) := by decide +kernel
theorem dX3_isOverBehind_53 : decode cX3_isOverBehind 53 = .ok (.iconst 0, 1) := by decide +kernel
theorem dX3_isOverBehind_54 : decode cX3_isOverBehind 54 = .ok (.ireturn, 1) := by decide +kernel
theorem dX3_meets_0 : decode cX3_meets 0 = .ok (.iload_n 1, 1) := by decide +kernel
theorem dX3_meets_1 : decode cX3_meets 1 = .ok (.iconst 1, 1) := by decide +kernel
theorem dX3_meets_2 : decode cX3_meets 2 = .ok (.iadd, 1) := by decide +kernel
theorem dX3_meets_3 : decode cX3_meets 3 = .ok (.istore_n 2, 1) := by decide +kernel
theorem dX3_meets_4 : decode cX3_meets 4 = .ok (.iload_n 2, 1) := by decide +kernel
theorem dX3_meets_5 : decode cX3_meets 5 = .ok (.aload_n 0, 1) := by decide +kernel
theorem dX3_meets_6 : decode cX3_meets 6 = .ok (.getfield 48, 3) := by decide +kernel
theorem dX3_meets_9 : decode cX3_meets 9 = .ok (.if_icmp .ge 70, 3) := by decide +kernel
theorem dX3_meets_12 : decode cX3_meets 12 = .ok (.aload_n 0, 1) := by decide +kernel
theorem dX3_meets_13 : decode cX3_meets 13 = .ok (.getfield 13, 3) := by decide +kernel
theorem dX3_meets_16 : decode cX3_meets 16 = .ok (.iload_n 2, 1) := by decide +kernel
theorem dX3_meets_17 : decode cX3_meets 17 = .ok (.iaload, 1) := by decide +kernel
theorem dX3_meets_18 : decode cX3_meets 18 = .ok (.aload_n 0, 1) := by decide +kernel
theorem dX3_meets_19 : decode cX3_meets 19 = .ok (.getfield 13, 3) := by decide +kernel
theorem dX3_meets_22 : decode cX3_meets 22 = .ok (.iload_n 1, 1) := by decide +kernel
theorem dX3_meets_23 : decode cX3_meets 23 = .ok (.iaload, 1) := by decide +kernel
theorem dX3_meets_24 : decode cX3_meets 24 = .ok (.if_icmp .ne 49, 3) := by decide +kernel
theorem dX3_meets_27 : decode cX3_meets 27 = .ok (.aload_n 0, 1) := by decide +kernel
theorem dX3_meets_28 : decode cX3_meets 28 = .ok (.getfield 23, 3) := by decide +kernel
theorem dX3_meets_31 : decode cX3_meets 31 = .ok (.iload_n 1, 1) := by decide +kernel
theorem dX3_meets_32 : decode cX3_meets 32 = .ok (.iaload, 1) := by decide +kernel
theorem dX3_meets_33 : decode cX3_meets 33 = .ok (.aload_n 0, 1) := by decide +kernel
theorem dX3_meets_34 : decode cX3_meets 34 = .ok (.getfield 23, 3) := by decide +kernel
theorem dX3_meets_37 : decode cX3_meets 37 = .ok (.iload_n 2, 1) := by decide +kernel
theorem dX3_meets_38 : decode cX3_meets 38 = .ok (.iaload, 1) := by decide +kernel
theorem dX3_meets_39 : decode cX3_meets 39 = .ok (.aload_n 0, 1) := by decide +kernel
theorem dX3_meets_40 : decode cX3_meets 40 = .ok (.getfield 16, 3) := by decide +kernel
theorem dX3_meets_43 : decode cX3_meets 43 = .ok (.iload_n 2, 1) := by decide +kernel
theorem dX3_meets_44 : decode cX3_meets 44 = .ok (.iaload, 1) := by decide +kernel
theorem dX3_meets_45 : decode cX3_meets 45 = .ok (.iadd, 1) := by decide +kernel
theorem dX3_meets_46 : decode cX3_meets 46 = .ok (.if_icmp .ge 27, 3) := by decide +kernel
theorem dX3_meets_49 : decode cX3_meets 49 = .ok (.aload_n 0, 1) := by decide +kernel
theorem dX3_meets_50 : decode cX3_meets 50 = .ok (.getfield 23, 3) := by decide +kernel
theorem dX3_meets_53 : decode cX3_meets 53 = .ok (.iload_n 2, 1) := by decide +kernel
theorem dX3_meets_54 : decode cX3_meets 54 = .ok (.iaload, 1) := by decide +kernel
theorem dX3_meets_55 : decode cX3_meets 55 = .ok (.aload_n 0, 1) := by decide +kernel
theorem dX3_meets_56 : decode cX3_meets 56 = .ok (.getfield 23, 3) := by decide +kernel
theorem dX3_meets_59 : decode cX3_meets 59 = .ok (.iload_n 1, 1) := by decide +kernel
theorem dX3_meets_60 : decode cX3_meets 60 = .ok (.iaload, 1) := by decide +kernel
theorem dX3_meets_61 : decode cX3_meets 61 = .ok (.aload_n 0, 1) := by decide +kernel
theorem dX3_meets_62 : decode cX3_meets 62 = .ok (.getfield 16, 3) := by decide +kernel
theorem dX3_meets_65 : decode cX3_meets 65 = .ok (.iload_n 1, 1) := by decide +kernel
theorem dX3_meets_66 : decode cX3_meets 66 = .ok (.iaload, 1) := by decide +kernel
theorem dX3_meets_67 : decode cX3_meets 67 = .ok (.iadd, 1) := by decide +kernel
theorem dX3_meets_68 : decode cX3_meets 68 = .ok (.if_icmp .ge 5, 3) := by decide +kernel
theorem dX3_meets_71 : decode cX3_meets 71 = .ok (.iconst 1, 1) := by decide +kernel
theorem dX3_meets_72 : decode cX3_meets 72 = .ok (.ireturn, 1) := by decide +kernel
theorem dX3_meets_73 : decode cX3_meets 73 = .ok (.iinc 2 1, 3) := by decide +kernel
theorem dX3_meets_76 : decode cX3_meets 76 = .ok (.goto (-72), 3) := by decide +kernel
theorem dX3_meets_79 : decode cX3_meets 79 = .ok (.iconst 0, 1) := by decide +kernel
theorem dX3_meets_80 : decode cX3_meets 80 = .ok (.ireturn, 1) := by decide +kernel
set_option maxRecDepth 20000 in
theorem ggX3_check_X3_isOverBehind : GoodIn wsX3_check wsX3_isOverBehind := goodIn_r _ [8, 1, 9, 2, 3, 10, 11, 12, 7, 13, 14, 15, 16, 17, 18, 24, 25, 26, 27, 28, 29, 30, 31, 32, 33, 34, 35, 36, 37, 38, 39] (by decide +kernel) (by decide +kernel)
set_option maxRecDepth 20000 in
theorem gX3_check_X3_isOverBehind : GoodIn wsX3_check (wsV RX3 122 RX3 yX3_isOverBehind wsX3_isOverBehind) := goodIn_app (goodIn_of _ (by decide +kernel)) ggX3_check_X3_isOverBehind
set_option maxRecDepth 20000 in
theorem ggX3_check_X3_meets : GoodIn wsX3_check wsX3_meets := goodIn_r _ [22, 1, 23, 2, 3, 24, 25, 26, 27, 28, 29, 30, 31, 32, 33, 34, 35, 36, 37, 38, 39] (by decide +kernel) (by decide +kernel)
set_option maxRecDepth 20000 in
theorem gX3_check_X3_meets : GoodIn wsX3_check (wsV RX3 125 RX3 yX3_meets wsX3_meets) := goodIn_app (goodIn_of _ (by decide +kernel)) ggX3_check_X3_meets
theorem dX3_check_0 : decode cX3_check 0 = .ok (.iconst 0, 1) := by decide +kernel
theorem dX3_check_1 : decode cX3_check 1 = .ok (.istore_n 1, 1) := by decide +kernel
theorem dX3_check_2 : decode cX3_check 2 = .ok (.iload_n 1, 1) := by decide +kernel
theorem dX3_check_3 : decode cX3_check 3 = .ok (.aload_n 0, 1) := by decide +kernel
theorem dX3_check_4 : decode cX3_check 4 = .ok (.getfield 48, 3) := by decide +kernel
theorem dX3_check_7 : decode cX3_check 7 = .ok (.if_icmp .ge 22, 3) := by decide +kernel
theorem dX3_check_10 : decode cX3_check 10 = .ok (.aload_n 0, 1) := by decide +kernel
theorem dX3_check_11 : decode cX3_check 11 = .ok (.iload_n 1, 1) := by decide +kernel
theorem dX3_check_12 : decode cX3_check 12 = .ok (.invokevirtual 122, 3) := by decide +kernel
theorem dX3_check_15 : decode cX3_check 15 = .ok (.ifCond .eq 8, 3) := by decide +kernel
theorem dX3_check_18 : decode cX3_check 18 = .ok (.bipush (-10), 2) := by decide +kernel
theorem dX3_check_20 : decode cX3_check 20 = .ok (.iload_n 1, 1) := by decide +kernel
theorem dX3_check_21 : decode cX3_check 21 = .ok (.isub, 1) := by decide +kernel
theorem dX3_check_22 : decode cX3_check 22 = .ok (.ireturn, 1) := by decide +kernel
theorem dX3_check_23 : decode cX3_check 23 = .ok (.iinc 1 1, 3) := by decide +kernel
theorem dX3_check_26 : decode cX3_check 26 = .ok (.goto (-24), 3) := by decide +kernel
theorem dX3_check_29 : decode cX3_check 29 = .ok (.iconst 0, 1) := by decide +kernel
theorem dX3_check_30 : decode cX3_check 30 = .ok (.istore_n 1, 1) := by decide +kernel
theorem dX3_check_31 : decode cX3_check 31 = .ok (.iconst 0, 1) := by decide +kernel
theorem dX3_check_32 : decode cX3_check 32 = .ok (.istore_n 2, 1) := by decide +kernel
theorem dX3_check_33 : decode cX3_check 33 = .ok (.iload_n 2, 1) := by decide +kernel
theorem dX3_check_34 : decode cX3_check 34 = .ok (.aload_n 0, 1) := by decide +kernel
theorem dX3_check_35 : decode cX3_check 35 = .ok (.getfield 48, 3) := by decide +kernel
theorem dX3_check_38 : decode cX3_check 38 = .ok (.if_icmp .ge 47, 3) := by decide +kernel
theorem dX3_check_41 : decode cX3_check 41 = .ok (.aload_n 0, 1) := by decide +kernel
theorem dX3_check_42 : decode cX3_check 42 = .ok (.iload_n 2, 1) := by decide +kernel
theorem dX3_check_43 : decode cX3_check 43 = .ok (.invokevirtual 125, 3) := by decide +kernel
theorem dX3_check_46 : decode cX3_check 46 = .ok (.ifCond .eq 8, 3) := by decide +kernel
theorem dX3_check_49 : decode cX3_check 49 = .ok (.bipush (-30), 2) := by decide +kernel
theorem dX3_check_51 : decode cX3_check 51 = .ok (.iload_n 2, 1) := by decide +kernel
theorem dX3_check_52 : decode cX3_check 52 = .ok (.isub, 1) := by decide +kernel
theorem dX3_check_53 : decode cX3_check 53 = .ok (.ireturn, 1) := by decide +kernel
theorem dX3_check_54 : decode cX3_check 54 = .ok (.aload_n 0, 1) := by decide +kernel
theorem dX3_check_55 : decode cX3_check 55 = .ok (.getfield 23, 3) := by decide +kernel
theorem dX3_check_58 : decode cX3_check 58 = .ok (.iload_n 2, 1) := by decide +kernel
theorem dX3_check_59 : decode cX3_check 59 = .ok (.iaload, 1) := by decide +kernel
theorem dX3_check_60 : decode cX3_check 60 = .ok (.aload_n 0, 1) := by decide +kernel
theorem dX3_check_61 : decode cX3_check 61 = .ok (.getfield 16, 3) := by decide +kernel
theorem dX3_check_64 : decode cX3_check 64 = .ok (.iload_n 2, 1) := by decide +kernel
theorem dX3_check_65 : decode cX3_check 65 = .ok (.iaload, 1) := by decide +kernel
theorem dX3_check_66 : decode cX3_check 66 = .ok (.iadd, 1) := by decide +kernel
theorem dX3_check_67 : decode cX3_check 67 = .ok (.istore_n 3, 1) := by decide +kernel
theorem dX3_check_68 : decode cX3_check 68 = .ok (.iload_n 3, 1) := by decide +kernel
theorem dX3_check_69 : decode cX3_check 69 = .ok (.iload_n 1, 1) := by decide +kernel
theorem dX3_check_70 : decode cX3_check 70 = .ok (.if_icmp .le 7, 3) := by decide +kernel
theorem dX3_check_73 : decode cX3_check 73 = .ok (.iload_n 3, 1) := by decide +kernel
theorem dX3_check_74 : decode cX3_check 74 = .ok (.goto 4, 3) := by decide +kernel
theorem dX3_check_77 : decode cX3_check 77 = .ok (.iload_n 1, 1) := by decide +kernel
theorem dX3_check_78 : decode cX3_check 78 = .ok (.istore_n 1, 1) := by decide +kernel
theorem dX3_check_79 : decode cX3_check 79 = .ok (.iinc 2 1, 3) := by decide +kernel
theorem dX3_check_82 : decode cX3_check 82 = .ok (.goto (-49), 3) := by decide +kernel
theorem dX3_check_85 : decode cX3_check 85 = .ok (.iload_n 1, 1) := by decide +kernel
theorem dX3_check_86 : decode cX3_check 86 = .ok (.ireturn, 1) := by decide +kernel
theorem dX3_adopt_0 : decode cX3_adopt 0 = .ok (.aload_n 0, 1) := by decide +kernel
theorem dX3_adopt_1 : decode cX3_adopt 1 = .ok (.getfield 59, 3) := by decide +kernel
theorem dX3_adopt_4 : decode cX3_adopt 4 = .ok (.ifCond .ne 5, 3) := by decide +kernel
theorem dX3_adopt_7 : decode cX3_adopt 7 = .ok (.iconst (-1), 1) := by decide +kernel
theorem dX3_adopt_8 : decode cX3_adopt 8 = .ok (.ireturn, 1) := by decide +kernel
theorem dX3_adopt_9 : decode cX3_adopt 9 = .ok (.iconst 0, 1) := by decide +kernel
theorem dX3_adopt_10 : decode cX3_adopt 10 = .ok (.istore_n 1, 1) := by decide +kernel
theorem dX3_adopt_11 : decode cX3_adopt 11 = .ok (.iload_n 1, 1) := by decide +kernel
theorem dX3_adopt_12 : decode cX3_adopt 12 = .ok (.aload_n 0, 1) := by decide +kernel
theorem dX3_adopt_13 : decode cX3_adopt 13 = .ok (.getfield 48, 3) := by decide +kernel
theorem dX3_adopt_16 : decode cX3_adopt 16 = .ok (.if_icmp .ge 21, 3) := by decide +kernel
theorem dX3_adopt_19 : decode cX3_adopt 19 = .ok (.aload_n 0, 1) := by decide +kernel
theorem dX3_adopt_20 : decode cX3_adopt 20 = .ok (.getfield 23, 3) := by decide +kernel
theorem dX3_adopt_23 : decode cX3_adopt 23 = .ok (.iload_n 1, 1) := by decide +kernel
theorem dX3_adopt_24 : decode cX3_adopt 24 = .ok (.aload_n 0, 1) := by decide +kernel
theorem dX3_adopt_25 : decode cX3_adopt 25 = .ok (.getfield 26, 3) := by decide +kernel
theorem dX3_adopt_28 : decode cX3_adopt 28 = .ok (.iload_n 1, 1) := by decide +kernel
theorem dX3_adopt_29 : decode cX3_adopt 29 = .ok (.iaload, 1) := by decide +kernel
theorem dX3_adopt_30 : decode cX3_adopt 30 = .ok (.iastore, 1) := by decide +kernel
theorem dX3_adopt_31 : decode cX3_adopt 31 = .ok (.iinc 1 1, 3) := by decide +kernel
theorem dX3_adopt_34 : decode cX3_adopt 34 = .ok (.goto (-23), 3) := by decide +kernel
theorem dX3_adopt_37 : decode cX3_adopt 37 = .ok (.aload_n 0, 1) := by decide +kernel
theorem dX3_adopt_38 : decode cX3_adopt 38 = .ok (.getfield 44, 3) := by decide +kernel
theorem dX3_adopt_41 : decode cX3_adopt 41 = .ok (.ireturn, 1) := by decide +kernel
set_option maxRecDepth 20000 in
theorem ggX3_count_X3_isPair : GoodIn wsX3_count wsX3_isPair := goodIn_r _ [10, 11, 12, 13, 14, 9, 15, 1, 16, 17, 18, 55, 56, 57, 58, 59, 60, 61, 62, 63, 64, 65, 66, 67, 68, 69, 70] (by decide +kernel) (by decide +kernel)
set_option maxRecDepth 20000 in
theorem gX3_count_X3_isPair : GoodIn wsX3_count (wsV RX3 85 RX3 yX3_isPair wsX3_isPair) := goodIn_app (goodIn_of _ (by decide +kernel)) ggX3_count_X3_isPair
set_option maxRecDepth 20000 in
theorem ggX3_count_X3_length : GoodIn wsX3_count wsX3_length := goodIn_r _ [22, 2, 23, 24, 25, 9, 26, 27, 28, 29, 30, 1, 31, 32, 33, 34, 35, 36, 37, 38, 39, 40, 41, 42, 43, 44, 45, 46, 47, 48, 49, 50, 55, 56, 57, 58, 59, 60, 61, 62, 63, 64, 65, 66, 67, 68, 69, 70] (by decide +kernel) (by decide +kernel)
set_option maxRecDepth 20000 in
theorem gX3_count_X3_length : GoodIn wsX3_count (wsV RX3 128 RX3 yX3_length wsX3_length) := goodIn_app (goodIn_of _ (by decide +kernel)) ggX3_count_X3_length
set_option maxRecDepth 20000 in
theorem ggX3_count_X3_load : GoodIn wsX3_count wsX3_load := goodIn_r _ [54, 2, 1, 11, 31, 46, 32, 16, 17, 9, 18, 23, 24, 25, 26, 27, 28, 29, 30, 33, 34, 35, 36, 37, 38, 39, 40, 41, 42, 43, 44, 45, 55, 56, 57, 58, 59, 60, 61, 62, 63, 64, 65, 66, 67, 68, 69, 70] (by decide +kernel) (by decide +kernel)
set_option maxRecDepth 20000 in
theorem gX3_count_X3_load : GoodIn wsX3_count (wsV RX3 131 RX3 yX3_load wsX3_load) := goodIn_app (goodIn_of _ (by decide +kernel)) ggX3_count_X3_load
theorem dX3_count_0 : decode cX3_count 0 = .ok (.iconst 0, 1) := by decide +kernel
theorem dX3_count_1 : decode cX3_count 1 = .ok (.istore_n 2, 1) := by decide +kernel
theorem dX3_count_2 : decode cX3_count 2 = .ok (.iconst 0, 1) := by decide +kernel
theorem dX3_count_3 : decode cX3_count 3 = .ok (.istore_n 3, 1) := by decide +kernel
theorem dX3_count_4 : decode cX3_count 4 = .ok (.iconst 0, 1) := by decide +kernel
theorem dX3_count_5 : decode cX3_count 5 = .ok (.istore 4, 2) := by decide +kernel
theorem dX3_count_7 : decode cX3_count 7 = .ok (.iload 4, 2) := by decide +kernel
theorem dX3_count_9 : decode cX3_count 9 = .ok (.aload_n 0, 1) := by decide +kernel
theorem dX3_count_10 : decode cX3_count 10 = .ok (.getfield 48, 3) := by decide +kernel
theorem dX3_count_13 : decode cX3_count 13 = .ok (.if_icmp .ge 109, 3) := by decide +kernel
theorem dX3_count_16 : decode cX3_count 16 = .ok (.iconst 0, 1) := by decide +kernel
theorem dX3_count_17 : decode cX3_count 17 = .ok (.istore 5, 2) := by decide +kernel
theorem dX3_count_19 : decode cX3_count 19 = .ok (.iload 5, 2) := by decide +kernel
theorem dX3_count_21 : decode cX3_count 21 = .ok (.aload_n 0, 1) := by decide +kernel
theorem dX3_count_22 : decode cX3_count 22 = .ok (.getfield 48, 3) := by decide +kernel
theorem dX3_count_25 : decode cX3_count 25 = .ok (.if_icmp .ge 91, 3) := by decide +kernel
theorem dX3_count_28 : decode cX3_count 28 = .ok (.aload_n 0, 1) := by decide +kernel
theorem dX3_count_29 : decode cX3_count 29 = .ok (.getfield 19, 3) := by decide +kernel
theorem dX3_count_32 : decode cX3_count 32 = .ok (.bipush 12, 2) := by decide +kernel
theorem dX3_count_34 : decode cX3_count 34 = .ok (.iload 4, 2) := by decide +kernel
theorem dX3_count_36 : decode cX3_count 36 = .ok (.imul, 1) := by decide +kernel
theorem dX3_count_37 : decode cX3_count 37 = .ok (.iload 5, 2) := by decide +kernel
theorem dX3_count_39 : decode cX3_count 39 = .ok (.iadd, 1) := by decide +kernel
theorem dX3_count_40 : decode cX3_count 40 = .ok (.baload, 1) := by decide +kernel
theorem dX3_count_41 : decode cX3_count 41 = .ok (.ifCond .eq 9, 3) := by decide +kernel
theorem dX3_count_44 : decode cX3_count 44 = .ok (.iload_n 2, 1) := by decide +kernel
theorem dX3_count_45 : decode cX3_count 45 = .ok (.iconst 1, 1) := by decide +kernel
theorem dX3_count_46 : decode cX3_count 46 = .ok (.iadd, 1) := by decide +kernel
theorem dX3_count_47 : decode cX3_count 47 = .ok (.goto 4, 3) := by decide +kernel
theorem dX3_count_50 : decode cX3_count 50 = .ok (.iload_n 2, 1) := by decide +kernel
theorem dX3_count_51 : decode cX3_count 51 = .ok (.istore_n 2, 1) := by decide +kernel
theorem dX3_count_52 : decode cX3_count 52 = .ok (.iload 4, 2) := by decide +kernel
theorem dX3_count_54 : decode cX3_count 54 = .ok (.iload 5, 2) := by decide +kernel
theorem dX3_count_56 : decode cX3_count 56 = .ok (.if_icmp .ge 52, 3) := by decide +kernel
theorem dX3_count_59 : decode cX3_count 59 = .ok (.aload_n 0, 1) := by decide +kernel
theorem dX3_count_60 : decode cX3_count 60 = .ok (.iload 4, 2) := by decide +kernel
theorem dX3_count_62 : decode cX3_count 62 = .ok (.iload 5, 2) := by decide +kernel
theorem dX3_count_64 : decode cX3_count 64 = .ok (.invokevirtual 85, 3) := by decide +kernel
theorem dX3_count_67 : decode cX3_count 67 = .ok (.ifCond .eq 41, 3) := by decide +kernel
theorem dX3_count_70 : decode cX3_count 70 = .ok (.aload_n 0, 1) := by decide +kernel
theorem dX3_count_71 : decode cX3_count 71 = .ok (.getfield 19, 3) := by decide +kernel
theorem dX3_count_74 : decode cX3_count 74 = .ok (.bipush 12, 2) := by decide +kernel
theorem dX3_count_76 : decode cX3_count 76 = .ok (.iload 4, 2) := by decide +kernel
theorem dX3_count_78 : decode cX3_count 78 = .ok (.imul, 1) := by decide +kernel
theorem dX3_count_79 : decode cX3_count 79 = .ok (.iload 5, 2) := by decide +kernel
theorem dX3_count_81 : decode cX3_count 81 = .ok (.iadd, 1) := by decide +kernel
theorem dX3_count_82 : decode cX3_count 82 = .ok (.baload, 1) := by decide +kernel
theorem dX3_count_83 : decode cX3_count 83 = .ok (.ifCond .ne 25, 3) := by decide +kernel
theorem dX3_count_86 : decode cX3_count 86 = .ok (.aload_n 0, 1) := by decide +kernel
theorem dX3_count_87 : decode cX3_count 87 = .ok (.getfield 19, 3) := by decide +kernel
theorem dX3_count_90 : decode cX3_count 90 = .ok (.bipush 12, 2) := by decide +kernel
theorem dX3_count_92 : decode cX3_count 92 = .ok (.iload 5, 2) := by decide +kernel
theorem dX3_count_94 : decode cX3_count 94 = .ok (.imul, 1) := by decide +kernel
theorem dX3_count_95 : decode cX3_count 95 = .ok (.iload 4, 2) := by decide +kernel
theorem dX3_count_97 : decode cX3_count 97 = .ok (.iadd, 1) := by decide +kernel
theorem dX3_count_98 : decode cX3_count 98 = .ok (.baload, 1) := by decide +kernel
theorem dX3_count_99 : decode cX3_count 99 = .ok (.ifCond .ne 9, 3) := by decide +kernel
theorem dX3_count_102 : decode cX3_count 102 = .ok (.iload_n 3, 1) := by decide +kernel
theorem dX3_count_103 : decode cX3_count 103 = .ok (.iconst 1, 1) := by decide +kernel
theorem dX3_count_104 : decode cX3_count 104 = .ok (.iadd, 1) := by decide +kernel
theorem dX3_count_105 : decode cX3_count 105 = .ok (.goto 4, 3) := by decide +kernel
theorem dX3_count_108 : decode cX3_count 108 = .ok (.iload_n 3, 1) := by decide +kernel
theorem dX3_count_109 : decode cX3_count 109 = .ok (.istore_n 3, 1) := by decide +kernel
theorem dX3_count_110 : decode cX3_count 110 = .ok (.iinc 5 1, 3) := by decide +kernel
theorem dX3_count_113 : decode cX3_count 113 = .ok (.goto (-94), 3) := by decide +kernel
theorem dX3_count_116 : decode cX3_count 116 = .ok (.iinc 4 1, 3) := by decide +kernel
theorem dX3_count_119 : decode cX3_count 119 = .ok (.goto (-112), 3) := by decide +kernel
theorem dX3_count_122 : decode cX3_count 122 = .ok (.iload_n 1, 1) := by decide +kernel
theorem dX3_count_123 : decode cX3_count 123 = .ok (.tableswitch 115 0 5 #[37, 42, 47, 49, 51, 99], 37) := by decide +kernel
theorem dX3_count_160 : decode cX3_count 160 = .ok (.aload_n 0, 1) := by decide +kernel
theorem dX3_count_161 : decode cX3_count 161 = .ok (.getfield 63, 3) := by decide +kernel
theorem dX3_count_164 : decode cX3_count 164 = .ok (.ireturn, 1) := by decide +kernel
theorem dX3_count_165 : decode cX3_count 165 = .ok (.aload_n 0, 1) := by decide +kernel
theorem dX3_count_166 : decode cX3_count 166 = .ok (.getfield 48, 3) := by decide +kernel
theorem dX3_count_169 : decode cX3_count 169 = .ok (.ireturn, 1) := by decide +kernel
theorem dX3_count_170 : decode cX3_count 170 = .ok (.iload_n 2, 1) := by decide +kernel
theorem dX3_count_171 : decode cX3_count 171 = .ok (.ireturn, 1) := by decide +kernel
theorem dX3_count_172 : decode cX3_count 172 = .ok (.iload_n 3, 1) := by decide +kernel
theorem dX3_count_173 : decode cX3_count 173 = .ok (.ireturn, 1) := by decide +kernel
theorem dX3_count_174 : decode cX3_count 174 = .ok (.aload_n 0, 1) := by decide +kernel
theorem dX3_count_175 : decode cX3_count 175 = .ok (.invokevirtual 128, 3) := by decide +kernel
theorem dX3_count_178 : decode cX3_count 178 = .ok (.istore 4, 2) := by decide +kernel
theorem dX3_count_180 : decode cX3_count 180 = .ok (.iconst 0, 1) := by decide +kernel
theorem dX3_count_181 : decode cX3_count 181 = .ok (.istore 5, 2) := by decide +kernel
theorem dX3_count_183 : decode cX3_count 183 = .ok (.iload 5, 2) := by decide +kernel
theorem dX3_count_185 : decode cX3_count 185 = .ok (.iconst 4, 1) := by decide +kernel
theorem dX3_count_186 : decode cX3_count 186 = .ok (.if_icmp .ge 33, 3) := by decide +kernel
theorem dX3_count_189 : decode cX3_count 189 = .ok (.aload_n 0, 1) := by decide +kernel
theorem dX3_count_190 : decode cX3_count 190 = .ok (.iload 5, 2) := by decide +kernel
theorem dX3_count_192 : decode cX3_count 192 = .ok (.invokevirtual 131, 3) := by decide +kernel
theorem dX3_count_195 : decode cX3_count 195 = .ok (.istore 6, 2) := by decide +kernel
theorem dX3_count_197 : decode cX3_count 197 = .ok (.iload 6, 2) := by decide +kernel
theorem dX3_count_199 : decode cX3_count 199 = .ok (.iload 4, 2) := by decide +kernel
theorem dX3_count_201 : decode cX3_count 201 = .ok (.if_icmp .le 8, 3) := by decide +kernel
theorem dX3_count_204 : decode cX3_count 204 = .ok (.iload 6, 2) := by decide +kernel
theorem dX3_count_206 : decode cX3_count 206 = .ok (.goto 5, 3) := by decide +kernel
theorem dX3_count_209 : decode cX3_count 209 = .ok (.iload 4, 2) := by decide +kernel
theorem dX3_count_211 : decode cX3_count 211 = .ok (.istore 4, 2) := by decide +kernel
theorem dX3_count_213 : decode cX3_count 213 = .ok (.iinc 5 1, 3) := by decide +kernel
theorem dX3_count_216 : decode cX3_count 216 = .ok (.goto (-33), 3) := by decide +kernel
theorem dX3_count_219 : decode cX3_count 219 = .ok (.iload 4, 2) := by decide +kernel
theorem dX3_count_221 : decode cX3_count 221 = .ok (.ireturn, 1) := by decide +kernel
theorem dX3_count_222 : decode cX3_count 222 = .ok (.aload_n 0, 1) := by decide +kernel
theorem dX3_count_223 : decode cX3_count 223 = .ok (.getfield 59, 3) := by decide +kernel
theorem dX3_count_226 : decode cX3_count 226 = .ok (.ifCond .eq 10, 3) := by decide +kernel
theorem dX3_count_229 : decode cX3_count 229 = .ok (.aload_n 0, 1) := by decide +kernel
theorem dX3_count_230 : decode cX3_count 230 = .ok (.getfield 44, 3) := by decide +kernel
theorem dX3_count_233 : decode cX3_count 233 = .ok (.goto 4, 3) := by decide +kernel
theorem dX3_count_236 : decode cX3_count 236 = .ok (.iconst (-1), 1) := by decide +kernel
theorem dX3_count_237 : decode cX3_count 237 = .ok (.ireturn, 1) := by decide +kernel
theorem dX3_count_238 : decode cX3_count 238 = .ok (.bipush (-2), 2) := by decide +kernel
theorem dX3_count_240 : decode cX3_count 240 = .ok (.ireturn, 1) := by decide +kernel
