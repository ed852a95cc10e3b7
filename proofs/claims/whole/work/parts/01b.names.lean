theorem dX0_init_0 : decode cX0_init 0 = .ok (.aload_n 0, 1) := by decide +kernel
theorem dX0_init_1 : decode cX0_init 1 = .ok (.invokespecial 3, 3) := by decide +kernel
theorem dX0_init_4 : decode cX0_init 4 = .ok (.aload_n 0, 1) := by decide +kernel
theorem dX0_init_5 : decode cX0_init 5 = .ok (.iconst 4, 1) := by decide +kernel
theorem dX0_init_6 : decode cX0_init 6 = .ok (.newarray .int, 2) := by decide +kernel
theorem dX0_init_8 : decode cX0_init 8 = .ok (.putfield 9, 3) := by decide +kernel
theorem dX0_init_11 : decode cX0_init 11 = .ok (.aload_n 0, 1) := by decide +kernel
theorem dX0_init_12 : decode cX0_init 12 = .ok (.iconst 4, 1) := by decide +kernel
theorem dX0_init_13 : decode cX0_init 13 = .ok (.newarray .int, 2) := by decide +kernel
theorem dX0_init_15 : decode cX0_init 15 = .ok (.putfield 15, 3) := by decide +kernel
theorem dX0_init_18 : decode cX0_init 18 = .ok (.aload_n 0, 1) := by decide +kernel
theorem dX0_init_19 : decode cX0_init 19 = .ok (.bipush 12, 2) := by decide +kernel
theorem dX0_init_21 : decode cX0_init 21 = .ok (.newarray .int, 2) := by decide +kernel
theorem dX0_init_23 : decode cX0_init 23 = .ok (.putfield 18, 3) := by decide +kernel
theorem dX0_init_26 : decode cX0_init 26 = .ok (.aload_n 0, 1) := by decide +kernel
theorem dX0_init_27 : decode cX0_init 27 = .ok (.bipush 12, 2) := by decide +kernel
theorem dX0_init_29 : decode cX0_init 29 = .ok (.newarray .int, 2) := by decide +kernel
theorem dX0_init_31 : decode cX0_init 31 = .ok (.putfield 21, 3) := by decide +kernel
theorem dX0_init_34 : decode cX0_init 34 = .ok (.aload_n 0, 1) := by decide +kernel
theorem dX0_init_35 : decode cX0_init 35 = .ok (.bipush 12, 2) := by decide +kernel
theorem dX0_init_37 : decode cX0_init 37 = .ok (.newarray .int, 2) := by decide +kernel
theorem dX0_init_39 : decode cX0_init 39 = .ok (.putfield 24, 3) := by decide +kernel
theorem dX0_init_42 : decode cX0_init 42 = .ok (.aload_n 0, 1) := by decide +kernel
theorem dX0_init_43 : decode cX0_init 43 = .ok (.bipush 12, 2) := by decide +kernel
theorem dX0_init_45 : decode cX0_init 45 = .ok (.newarray .int, 2) := by decide +kernel
theorem dX0_init_47 : decode cX0_init 47 = .ok (.putfield 27, 3) := by decide +kernel
theorem dX0_init_50 : decode cX0_init 50 = .ok (.aload_n 0, 1) := by decide +kernel
theorem dX0_init_51 : decode cX0_init 51 = .ok (.bipush 12, 2) := by decide +kernel
theorem dX0_init_53 : decode cX0_init 53 = .ok (.newarray .int, 2) := by decide +kernel
theorem dX0_init_55 : decode cX0_init 55 = .ok (.putfield 30, 3) := by decide +kernel
theorem dX0_init_58 : decode cX0_init 58 = .ok (.aload_n 0, 1) := by decide +kernel
theorem dX0_init_59 : decode cX0_init 59 = .ok (.bipush 12, 2) := by decide +kernel
theorem dX0_init_61 : decode cX0_init 61 = .ok (.newarray .int, 2) := by decide +kernel
theorem dX0_init_63 : decode cX0_init 63 = .ok (.putfield 33, 3) := by decide +kernel
theorem dX0_init_66 : decode cX0_init 66 = .ok (.aload_n 0, 1) := by decide +kernel
theorem dX0_init_67 : decode cX0_init 67 = .ok (.bipush 12, 2) := by decide +kernel
theorem dX0_init_69 : decode cX0_init 69 = .ok (.newarray .int, 2) := by decide +kernel
theorem dX0_init_71 : decode cX0_init 71 = .ok (.putfield 36, 3) := by decide +kernel
theorem dX0_init_74 : decode cX0_init 74 = .ok (.aload_n 0, 1) := by decide +kernel
theorem dX0_init_75 : decode cX0_init 75 = .ok (.bipush 12, 2) := by decide +kernel
theorem dX0_init_77 : decode cX0_init 77 = .ok (.newarray .int, 2) := by decide +kernel
theorem dX0_init_79 : decode cX0_init 79 = .ok (.putfield 39, 3) := by decide +kernel
theorem dX0_init_82 : decode cX0_init 82 = .ok (.return_, 1) := by decide +kernel
theorem dX0_empty_0 : decode cX0_empty 0 = .ok (.aload_n 0, 1) := by decide +kernel
theorem dX0_empty_1 : decode cX0_empty 1 = .ok (.iconst 0, 1) := by decide +kernel
theorem dX0_empty_2 : decode cX0_empty 2 = .ok (.putfield 42, 3) := by decide +kernel
theorem dX0_empty_5 : decode cX0_empty 5 = .ok (.aload_n 0, 1) := by decide +kernel
theorem dX0_empty_6 : decode cX0_empty 6 = .ok (.iconst 0, 1) := by decide +kernel
theorem dX0_empty_7 : decode cX0_empty 7 = .ok (.putfield 46, 3) := by decide +kernel
theorem dX0_empty_10 : decode cX0_empty 10 = .ok (.return_, 1) := by decide +kernel
theorem dX0_isJob_0 : decode cX0_isJob 0 = .ok (.iload_n 1, 1) := by decide +kernel
theorem dX0_isJob_1 : decode cX0_isJob 1 = .ok (.ifCond .lt 15, 3) := by decide +kernel
theorem dX0_isJob_4 : decode cX0_isJob 4 = .ok (.iload_n 1, 1) := by decide +kernel
theorem dX0_isJob_5 : decode cX0_isJob 5 = .ok (.aload_n 0, 1) := by decide +kernel
theorem dX0_isJob_6 : decode cX0_isJob 6 = .ok (.getfield 42, 3) := by decide +kernel
theorem dX0_isJob_9 : decode cX0_isJob 9 = .ok (.if_icmp .ge 7, 3) := by decide +kernel
theorem dX0_isJob_12 : decode cX0_isJob 12 = .ok (.iconst 1, 1) := by decide +kernel
theorem dX0_isJob_13 : decode cX0_isJob 13 = .ok (.goto 4, 3) := by decide +kernel
theorem dX0_isJob_16 : decode cX0_isJob 16 = .ok (.iconst 0, 1) := by decide +kernel
theorem dX0_isJob_17 : decode cX0_isJob 17 = .ok (.ireturn, 1) := by decide +kernel
theorem dX0_isOperation_0 : decode cX0_isOperation 0 = .ok (.iload_n 1, 1) := by decide +kernel
theorem dX0_isOperation_1 : decode cX0_isOperation 1 = .ok (.ifCond .lt 15, 3) := by decide +kernel
theorem dX0_isOperation_4 : decode cX0_isOperation 4 = .ok (.iload_n 1, 1) := by decide +kernel
theorem dX0_isOperation_5 : decode cX0_isOperation 5 = .ok (.aload_n 0, 1) := by decide +kernel
theorem dX0_isOperation_6 : decode cX0_isOperation 6 = .ok (.getfield 46, 3) := by decide +kernel
theorem dX0_isOperation_9 : decode cX0_isOperation 9 = .ok (.if_icmp .ge 7, 3) := by decide +kernel
theorem dX0_isOperation_12 : decode cX0_isOperation 12 = .ok (.iconst 1, 1) := by decide +kernel
theorem dX0_isOperation_13 : decode cX0_isOperation 13 = .ok (.goto 4, 3) := by decide +kernel
theorem dX0_isOperation_16 : decode cX0_isOperation 16 = .ok (.iconst 0, 1) := by decide +kernel
theorem dX0_isOperation_17 : decode cX0_isOperation 17 = .ok (.ireturn, 1) := by decide +kernel
set_option maxRecDepth 20000 in
theorem ggX0_isPair_X0_isOperation : GoodIn wsX0_isPair wsX0_isOperation := goodIn_r _ [6, 7, 8, 9, 10, 11, 12, 13, 14, 15, 16, 17, 18, 19] (by decide +kernel) (by decide +kernel)
set_option maxRecDepth 20000 in
theorem gX0_isPair_X0_isOperation : GoodIn wsX0_isPair (wsV RX0 49 RX0 yX0_isOperation wsX0_isOperation) := goodIn_app (goodIn_of _ (by decide +kernel)) ggX0_isPair_X0_isOperation
theorem dX0_isPair_0 : decode cX0_isPair 0 = .ok (.aload_n 0, 1) := by decide +kernel
theorem dX0_isPair_1 : decode cX0_isPair 1 = .ok (.iload_n 1, 1) := by decide +kernel
theorem dX0_isPair_2 : decode cX0_isPair 2 = .ok (.invokevirtual 49, 3) := by decide +kernel
theorem dX0_isPair_5 : decode cX0_isPair 5 = .ok (.ifCond .eq 35, 3) := by decide +kernel
theorem dX0_isPair_8 : decode cX0_isPair 8 = .ok (.aload_n 0, 1) := by decide +kernel
theorem dX0_isPair_9 : decode cX0_isPair 9 = .ok (.iload_n 2, 1) := by decide +kernel
theorem dX0_isPair_10 : decode cX0_isPair 10 = .ok (.invokevirtual 49, 3) := by decide +kernel
theorem dX0_isPair_13 : decode cX0_isPair 13 = .ok (.ifCond .eq 27, 3) := by decide +kernel
theorem dX0_isPair_16 : decode cX0_isPair 16 = .ok (.iload_n 1, 1) := by decide +kernel
theorem dX0_isPair_17 : decode cX0_isPair 17 = .ok (.iload_n 2, 1) := by decide +kernel
theorem dX0_isPair_18 : decode cX0_isPair 18 = .ok (.if_icmp .eq 22, 3) := by decide +kernel
theorem dX0_isPair_21 : decode cX0_isPair 21 = .ok (.aload_n 0, 1) := by decide +kernel
theorem dX0_isPair_22 : decode cX0_isPair 22 = .ok (.getfield 21, 3) := by decide +kernel
theorem dX0_isPair_25 : decode cX0_isPair 25 = .ok (.iload_n 1, 1) := by decide +kernel
theorem dX0_isPair_26 : decode cX0_isPair 26 = .ok (.iaload, 1) := by decide +kernel
theorem dX0_isPair_27 : decode cX0_isPair 27 = .ok (.aload_n 0, 1) := by decide +kernel
theorem dX0_isPair_28 : decode cX0_isPair 28 = .ok (.getfield 21, 3) := by decide +kernel
theorem dX0_isPair_31 : decode cX0_isPair 31 = .ok (.iload_n 2, 1) := by decide +kernel
theorem dX0_isPair_32 : decode cX0_isPair 32 = .ok (.iaload, 1) := by decide +kernel
theorem dX0_isPair_33 : decode cX0_isPair 33 = .ok (.if_icmp .ne 7, 3) := by decide +kernel
theorem dX0_isPair_36 : decode cX0_isPair 36 = .ok (.iconst 1, 1) := by decide +kernel
theorem dX0_isPair_37 : decode cX0_isPair 37 = .ok (.goto 4, 3) := by decide +kernel
theorem dX0_isPair_40 : decode cX0_isPair 40 = .ok (.iconst 0, 1) := by decide +kernel
theorem dX0_isPair_41 : decode cX0_isPair 41 = .ok (.ireturn, 1) := by decide +kernel
theorem dX0_addJob_0 : decode cX0_addJob 0 = .ok (.aload_n 0, 1) := by decide +kernel
theorem dX0_addJob_1 : decode cX0_addJob 1 = .ok (.getfield 42, 3) := by decide +kernel
theorem dX0_addJob_4 : decode cX0_addJob 4 = .ok (.istore_n 1, 1) := by decide +kernel
theorem dX0_addJob_5 : decode cX0_addJob 5 = .ok (.aload_n 0, 1) := by decide +kernel
theorem dX0_addJob_6 : decode cX0_addJob 6 = .ok (.getfield 9, 3) := by decide +kernel
theorem dX0_addJob_9 : decode cX0_addJob 9 = .ok (.iload_n 1, 1) := by decide +kernel
theorem dX0_addJob_10 : decode cX0_addJob 10 = .ok (.iconst (-1), 1) := by decide +kernel
theorem dX0_addJob_11 : decode cX0_addJob 11 = .ok (.iastore, 1) := by decide +kernel
theorem dX0_addJob_12 : decode cX0_addJob 12 = .ok (.aload_n 0, 1) := by decide +kernel
theorem dX0_addJob_13 : decode cX0_addJob 13 = .ok (.getfield 15, 3) := by decide +kernel
theorem dX0_addJob_16 : decode cX0_addJob 16 = .ok (.iload_n 1, 1) := by decide +kernel
theorem dX0_addJob_17 : decode cX0_addJob 17 = .ok (.iconst (-1), 1) := by decide +kernel
theorem dX0_addJob_18 : decode cX0_addJob 18 = .ok (.iastore, 1) := by decide +kernel
theorem dX0_addJob_19 : decode cX0_addJob 19 = .ok (.aload_n 0, 1) := by decide +kernel
theorem dX0_addJob_20 : decode cX0_addJob 20 = .ok (.dup, 1) := by decide +kernel
theorem dX0_addJob_21 : decode cX0_addJob 21 = .ok (.getfield 42, 3) := by decide +kernel
theorem dX0_addJob_24 : decode cX0_addJob 24 = .ok (.iconst 1, 1) := by decide +kernel
theorem dX0_addJob_25 : decode cX0_addJob 25 = .ok (.iadd, 1) := by decide +kernel
theorem dX0_addJob_26 : decode cX0_addJob 26 = .ok (.putfield 42, 3) := by decide +kernel
theorem dX0_addJob_29 : decode cX0_addJob 29 = .ok (.iload_n 1, 1) := by decide +kernel
theorem dX0_addJob_30 : decode cX0_addJob 30 = .ok (.ireturn, 1) := by decide +kernel
theorem dX0_visits_0 : decode cX0_visits 0 = .ok (.iconst 0, 1) := by decide +kernel
theorem dX0_visits_1 : decode cX0_visits 1 = .ok (.istore_n 3, 1) := by decide +kernel
theorem dX0_visits_2 : decode cX0_visits 2 = .ok (.iload_n 3, 1) := by decide +kernel
theorem dX0_visits_3 : decode cX0_visits 3 = .ok (.aload_n 0, 1) := by decide +kernel
theorem dX0_visits_4 : decode cX0_visits 4 = .ok (.getfield 46, 3) := by decide +kernel
theorem dX0_visits_7 : decode cX0_visits 7 = .ok (.if_icmp .ge 31, 3) := by decide +kernel
theorem dX0_visits_10 : decode cX0_visits 10 = .ok (.aload_n 0, 1) := by decide +kernel
theorem dX0_visits_11 : decode cX0_visits 11 = .ok (.getfield 18, 3) := by decide +kernel
theorem dX0_visits_14 : decode cX0_visits 14 = .ok (.iload_n 3, 1) := by decide +kernel
theorem dX0_visits_15 : decode cX0_visits 15 = .ok (.iaload, 1) := by decide +kernel
theorem dX0_visits_16 : decode cX0_visits 16 = .ok (.iload_n 1, 1) := by decide +kernel
theorem dX0_visits_17 : decode cX0_visits 17 = .ok (.if_icmp .ne 15, 3) := by decide +kernel
theorem dX0_visits_20 : decode cX0_visits 20 = .ok (.aload_n 0, 1) := by decide +kernel
theorem dX0_visits_21 : decode cX0_visits 21 = .ok (.getfield 21, 3) := by decide +kernel
theorem dX0_visits_24 : decode cX0_visits 24 = .ok (.iload_n 3, 1) := by decide +kernel
theorem dX0_visits_25 : decode cX0_visits 25 = .ok (.iaload, 1) := by decide +kernel
theorem dX0_visits_26 : decode cX0_visits 26 = .ok (.iload_n 2, 1) := by decide +kernel
theorem dX0_visits_27 : decode cX0_visits 27 = .ok (.if_icmp .ne 5, 3) := by decide +kernel
theorem dX0_visits_30 : decode cX0_visits 30 = .ok (.iconst 1, 1) := by decide +kernel
theorem dX0_visits_31 : decode cX0_visits 31 = .ok (.ireturn, 1) := by decide +kernel
theorem dX0_visits_32 : decode cX0_visits 32 = .ok (.iinc 3 1, 3) := by decide +kernel
theorem dX0_visits_35 : decode cX0_visits 35 = .ok (.goto (-33), 3) := by decide +kernel
theorem dX0_visits_38 : decode cX0_visits 38 = .ok (.iconst 0, 1) := by decide +kernel
theorem dX0_visits_39 : decode cX0_visits 39 = .ok (.ireturn, 1) := by decide +kernel
set_option maxRecDepth 20000 in
theorem ggX0_addOperation_X0_isOperation : GoodIn wsX0_addOperation wsX0_isOperation := goodIn_r _ [13, 1, 31, 32, 33, 34, 35, 36, 37, 38, 39, 40, 41, 42] (by decide +kernel) (by decide +kernel)
set_option maxRecDepth 20000 in
theorem gX0_addOperation_X0_isOperation : GoodIn wsX0_addOperation (wsV RX0 49 RX0 yX0_isOperation wsX0_isOperation) := goodIn_app (goodIn_of _ (by decide +kernel)) ggX0_addOperation_X0_isOperation
set_option maxRecDepth 20000 in
theorem ggX0_addOperation_X0_measure : GoodIn wsX0_addOperation wsX0_measure := goodIn_r _ [17, 1, 18, 19, 20, 21, 22, 12, 23, 4, 24, 25, 26, 27, 5, 6, 28, 29, 30, 31, 32, 33, 34, 35, 36, 37, 38, 39, 40, 41, 42] (by decide +kernel) (by decide +kernel)
set_option maxRecDepth 20000 in
theorem gX0_addOperation_X0_measure : GoodIn wsX0_addOperation (wsV RX0 53 RX0 yX0_measure wsX0_measure) := goodIn_app (goodIn_of _ (by decide +kernel)) ggX0_addOperation_X0_measure
theorem dX0_addOperation_0 : decode cX0_addOperation 0 = .ok (.aload_n 0, 1) := by decide +kernel
theorem dX0_addOperation_1 : decode cX0_addOperation 1 = .ok (.getfield 46, 3) := by decide +kernel
theorem dX0_addOperation_4 : decode cX0_addOperation 4 = .ok (.istore 4, 2) := by decide +kernel
theorem dX0_addOperation_6 : decode cX0_addOperation 6 = .ok (.aload_n 0, 1) := by decide +kernel
theorem dX0_addOperation_7 : decode cX0_addOperation 7 = .ok (.getfield 18, 3) := by decide +kernel
theorem dX0_addOperation_10 : decode cX0_addOperation 10 = .ok (.iload 4, 2) := by decide +kernel
theorem dX0_addOperation_12 : decode cX0_addOperation 12 = .ok (.iload_n 1, 1) := by decide +kernel
theorem dX0_addOperation_13 : decode cX0_addOperation 13 = .ok (.iastore, 1) := by decide +kernel
theorem dX0_addOperation_14 : decode cX0_addOperation 14 = .ok (.aload_n 0, 1) := by decide +kernel
theorem dX0_addOperation_15 : decode cX0_addOperation 15 = .ok (.getfield 21, 3) := by decide +kernel
theorem dX0_addOperation_18 : decode cX0_addOperation 18 = .ok (.iload 4, 2) := by decide +kernel
theorem dX0_addOperation_20 : decode cX0_addOperation 20 = .ok (.iload_n 2, 1) := by decide +kernel
theorem dX0_addOperation_21 : decode cX0_addOperation 21 = .ok (.iastore, 1) := by decide +kernel
theorem dX0_addOperation_22 : decode cX0_addOperation 22 = .ok (.aload_n 0, 1) := by decide +kernel
theorem dX0_addOperation_23 : decode cX0_addOperation 23 = .ok (.getfield 24, 3) := by decide +kernel
theorem dX0_addOperation_26 : decode cX0_addOperation 26 = .ok (.iload 4, 2) := by decide +kernel
theorem dX0_addOperation_28 : decode cX0_addOperation 28 = .ok (.iload_n 3, 1) := by decide +kernel
theorem dX0_addOperation_29 : decode cX0_addOperation 29 = .ok (.iastore, 1) := by decide +kernel
theorem dX0_addOperation_30 : decode cX0_addOperation 30 = .ok (.aload_n 0, 1) := by decide +kernel
theorem dX0_addOperation_31 : decode cX0_addOperation 31 = .ok (.getfield 27, 3) := by decide +kernel
theorem dX0_addOperation_34 : decode cX0_addOperation 34 = .ok (.iload 4, 2) := by decide +kernel
theorem dX0_addOperation_36 : decode cX0_addOperation 36 = .ok (.iconst (-1), 1) := by decide +kernel
theorem dX0_addOperation_37 : decode cX0_addOperation 37 = .ok (.iastore, 1) := by decide +kernel
theorem dX0_addOperation_38 : decode cX0_addOperation 38 = .ok (.aload_n 0, 1) := by decide +kernel
theorem dX0_addOperation_39 : decode cX0_addOperation 39 = .ok (.getfield 30, 3) := by decide +kernel
theorem dX0_addOperation_42 : decode cX0_addOperation 42 = .ok (.iload 4, 2) := by decide +kernel
theorem dX0_addOperation_44 : decode cX0_addOperation 44 = .ok (.iconst 0, 1) := by decide +kernel
theorem dX0_addOperation_45 : decode cX0_addOperation 45 = .ok (.iastore, 1) := by decide +kernel
theorem dX0_addOperation_46 : decode cX0_addOperation 46 = .ok (.aload_n 0, 1) := by decide +kernel
theorem dX0_addOperation_47 : decode cX0_addOperation 47 = .ok (.getfield 15, 3) := by decide +kernel
theorem dX0_addOperation_50 : decode cX0_addOperation 50 = .ok (.iload_n 1, 1) := by decide +kernel
theorem dX0_addOperation_51 : decode cX0_addOperation 51 = .ok (.iaload, 1) := by decide +kernel
theorem dX0_addOperation_52 : decode cX0_addOperation 52 = .ok (.istore 5, 2) := by decide +kernel
theorem dX0_addOperation_54 : decode cX0_addOperation 54 = .ok (.aload_n 0, 1) := by decide +kernel
theorem dX0_addOperation_55 : decode cX0_addOperation 55 = .ok (.iload 5, 2) := by decide +kernel
theorem dX0_addOperation_57 : decode cX0_addOperation 57 = .ok (.invokevirtual 49, 3) := by decide +kernel
theorem dX0_addOperation_60 : decode cX0_addOperation 60 = .ok (.ifCond .eq 15, 3) := by decide +kernel
theorem dX0_addOperation_63 : decode cX0_addOperation 63 = .ok (.aload_n 0, 1) := by decide +kernel
theorem dX0_addOperation_64 : decode cX0_addOperation 64 = .ok (.getfield 27, 3) := by decide +kernel
theorem dX0_addOperation_67 : decode cX0_addOperation 67 = .ok (.iload 5, 2) := by decide +kernel
theorem dX0_addOperation_69 : decode cX0_addOperation 69 = .ok (.iload 4, 2) := by decide +kernel
theorem dX0_addOperation_71 : decode cX0_addOperation 71 = .ok (.iastore, 1) := by decide +kernel
theorem dX0_addOperation_72 : decode cX0_addOperation 72 = .ok (.goto 11, 3) := by decide +kernel
theorem dX0_addOperation_75 : decode cX0_addOperation 75 = .ok (.aload_n 0, 1) := by decide +kernel
theorem dX0_addOperation_76 : decode cX0_addOperation 76 = .ok (.getfield 9, 3) := by decide +kernel
theorem dX0_addOperation_79 : decode cX0_addOperation 79 = .ok (.iload_n 1, 1) := by decide +kernel
theorem dX0_addOperation_80 : decode cX0_addOperation 80 = .ok (.iload 4, 2) := by decide +kernel
theorem dX0_addOperation_82 : decode cX0_addOperation 82 = .ok (.iastore, 1) := by decide +kernel
theorem dX0_addOperation_83 : decode cX0_addOperation 83 = .ok (.aload_n 0, 1) := by decide +kernel
theorem dX0_addOperation_84 : decode cX0_addOperation 84 = .ok (.getfield 15, 3) := by decide +kernel
theorem dX0_addOperation_87 : decode cX0_addOperation 87 = .ok (.iload_n 1, 1) := by decide +kernel
theorem dX0_addOperation_88 : decode cX0_addOperation 88 = .ok (.iload 4, 2) := by decide +kernel
theorem dX0_addOperation_90 : decode cX0_addOperation 90 = .ok (.iastore, 1) := by decide +kernel
theorem dX0_addOperation_91 : decode cX0_addOperation 91 = .ok (.aload_n 0, 1) := by decide +kernel
theorem dX0_addOperation_92 : decode cX0_addOperation 92 = .ok (.dup, 1) := by decide +kernel
theorem dX0_addOperation_93 : decode cX0_addOperation 93 = .ok (.getfield 46, 3) := by decide +kernel
theorem dX0_addOperation_96 : decode cX0_addOperation 96 = .ok (.iconst 1, 1) := by decide +kernel
theorem dX0_addOperation_97 : decode cX0_addOperation 97 = .ok (.iadd, 1) := by decide +kernel
theorem dX0_addOperation_98 : decode cX0_addOperation 98 = .ok (.putfield 46, 3) := by decide +kernel
theorem dX0_addOperation_101 : decode cX0_addOperation 101 = .ok (.aload_n 0, 1) := by decide +kernel
theorem dX0_addOperation_102 : decode cX0_addOperation 102 = .ok (.invokevirtual 53, 3) := by decide +kernel
theorem dX0_addOperation_105 : decode cX0_addOperation 105 = .ok (.iload 4, 2) := by decide +kernel
theorem dX0_addOperation_107 : decode cX0_addOperation 107 = .ok (.ireturn, 1) := by decide +kernel
set_option maxRecDepth 20000 in
theorem ggX0_hasArc_X2_isIn : GoodIn wsX0_hasArc wsX2_isIn := goodIn_r _ [4] (by decide +kernel) (by decide +kernel)
set_option maxRecDepth 20000 in
theorem gX0_hasArc_X2_isIn_n56 : GoodIn wsX0_hasArc (wsX2_isIn) := ggX0_hasArc_X2_isIn
theorem dX0_hasArc_0 : decode cX0_hasArc 0 = .ok (.aload_n 0, 1) := by decide +kernel
theorem dX0_hasArc_1 : decode cX0_hasArc 1 = .ok (.getfield 30, 3) := by decide +kernel
theorem dX0_hasArc_4 : decode cX0_hasArc 4 = .ok (.iload_n 1, 1) := by decide +kernel
theorem dX0_hasArc_5 : decode cX0_hasArc 5 = .ok (.iaload, 1) := by decide +kernel
theorem dX0_hasArc_6 : decode cX0_hasArc 6 = .ok (.iload_n 2, 1) := by decide +kernel
theorem dX0_hasArc_7 : decode cX0_hasArc 7 = .ok (.invokestatic 56, 3) := by decide +kernel
theorem dX0_hasArc_10 : decode cX0_hasArc 10 = .ok (.ireturn, 1) := by decide +kernel
set_option maxRecDepth 20000 in
theorem ggX0_isTied_X0_hasArc : GoodIn wsX0_isTied wsX0_hasArc := goodIn_r _ [5, 6, 7, 8, 9, 10, 11, 12, 13, 14, 15, 16, 17, 18, 19, 20, 21] (by decide +kernel) (by decide +kernel)
set_option maxRecDepth 20000 in
theorem gX0_isTied_X0_hasArc : GoodIn wsX0_isTied (wsV RX0 60 RX0 yX0_hasArc wsX0_hasArc) := goodIn_app (goodIn_of _ (by decide +kernel)) ggX0_isTied_X0_hasArc
theorem dX0_isTied_0 : decode cX0_isTied 0 = .ok (.aload_n 0, 1) := by decide +kernel
theorem dX0_isTied_1 : decode cX0_isTied 1 = .ok (.iload_n 1, 1) := by decide +kernel
theorem dX0_isTied_2 : decode cX0_isTied 2 = .ok (.iload_n 2, 1) := by decide +kernel
theorem dX0_isTied_3 : decode cX0_isTied 3 = .ok (.invokevirtual 60, 3) := by decide +kernel
theorem dX0_isTied_6 : decode cX0_isTied 6 = .ok (.ifCond .ne 12, 3) := by decide +kernel
theorem dX0_isTied_9 : decode cX0_isTied 9 = .ok (.aload_n 0, 1) := by decide +kernel
theorem dX0_isTied_10 : decode cX0_isTied 10 = .ok (.iload_n 2, 1) := by decide +kernel
theorem dX0_isTied_11 : decode cX0_isTied 11 = .ok (.iload_n 1, 1) := by decide +kernel
theorem dX0_isTied_12 : decode cX0_isTied 12 = .ok (.invokevirtual 60, 3) := by decide +kernel
theorem dX0_isTied_15 : decode cX0_isTied 15 = .ok (.ifCond .eq 7, 3) := by decide +kernel
theorem dX0_isTied_18 : decode cX0_isTied 18 = .ok (.iconst 1, 1) := by decide +kernel
theorem dX0_isTied_19 : decode cX0_isTied 19 = .ok (.goto 4, 3) := by decide +kernel
theorem dX0_isTied_22 : decode cX0_isTied 22 = .ok (.iconst 0, 1) := by decide +kernel
theorem dX0_isTied_23 : decode cX0_isTied 23 = .ok (.ireturn, 1) := by decide +kernel
set_option maxRecDepth 20000 in
theorem ggX0_putArc_X0_measure : GoodIn wsX0_putArc wsX0_measure := goodIn_r _ [6, 7, 8, 9, 10, 11, 12, 5, 13, 14, 15, 16, 17, 18, 19, 1, 20, 21, 22, 23, 24, 25, 26, 27, 28, 29, 30, 31, 32, 33, 34] (by decide +kernel) (by decide +kernel)
set_option maxRecDepth 20000 in
theorem gX0_putArc_X0_measure : GoodIn wsX0_putArc (wsV RX0 53 RX0 yX0_measure wsX0_measure) := goodIn_app (goodIn_of _ (by decide +kernel)) ggX0_putArc_X0_measure
theorem dX0_putArc_0 : decode cX0_putArc 0 = .ok (.aload_n 0, 1) := by decide +kernel
theorem dX0_putArc_1 : decode cX0_putArc 1 = .ok (.getfield 30, 3) := by decide +kernel
theorem dX0_putArc_4 : decode cX0_putArc 4 = .ok (.iload_n 1, 1) := by decide +kernel
theorem dX0_putArc_5 : decode cX0_putArc 5 = .ok (.dup2, 1) := by decide +kernel
theorem dX0_putArc_6 : decode cX0_putArc 6 = .ok (.iaload, 1) := by decide +kernel
theorem dX0_putArc_7 : decode cX0_putArc 7 = .ok (.iconst 1, 1) := by decide +kernel
theorem dX0_putArc_8 : decode cX0_putArc 8 = .ok (.iload_n 2, 1) := by decide +kernel
theorem dX0_putArc_9 : decode cX0_putArc 9 = .ok (.ishl, 1) := by decide +kernel
theorem dX0_putArc_10 : decode cX0_putArc 10 = .ok (.ior, 1) := by decide +kernel
theorem dX0_putArc_11 : decode cX0_putArc 11 = .ok (.iastore, 1) := by decide +kernel
theorem dX0_putArc_12 : decode cX0_putArc 12 = .ok (.aload_n 0, 1) := by decide +kernel
theorem dX0_putArc_13 : decode cX0_putArc 13 = .ok (.invokevirtual 53, 3) := by decide +kernel
theorem dX0_putArc_16 : decode cX0_putArc 16 = .ok (.return_, 1) := by decide +kernel
set_option maxRecDepth 20000 in
theorem ggX0_dropArcs_X0_measure : GoodIn wsX0_dropArcs wsX0_measure := goodIn_r _ [6, 7, 8, 9, 10, 11, 12, 5, 13, 14, 15, 16, 17, 18, 19, 1, 20, 21, 22, 23, 24, 25, 26, 27, 28, 29, 30, 31, 32, 33, 34] (by decide +kernel) (by decide +kernel)
set_option maxRecDepth 20000 in
theorem gX0_dropArcs_X0_measure : GoodIn wsX0_dropArcs (wsV RX0 53 RX0 yX0_measure wsX0_measure) := goodIn_app (goodIn_of _ (by decide +kernel)) ggX0_dropArcs_X0_measure
theorem dX0_dropArcs_0 : decode cX0_dropArcs 0 = .ok (.aload_n 0, 1) := by decide +kernel
theorem dX0_dropArcs_1 : decode cX0_dropArcs 1 = .ok (.getfield 30, 3) := by decide +kernel
theorem dX0_dropArcs_4 : decode cX0_dropArcs 4 = .ok (.iload_n 1, 1) := by decide +kernel
theorem dX0_dropArcs_5 : decode cX0_dropArcs 5 = .ok (.dup2, 1) := by decide +kernel
theorem dX0_dropArcs_6 : decode cX0_dropArcs 6 = .ok (.iaload, 1) := by decide +kernel
theorem dX0_dropArcs_7 : decode cX0_dropArcs 7 = .ok (.iconst 1, 1) := by decide +kernel
theorem dX0_dropArcs_8 : decode cX0_dropArcs 8 = .ok (.iload_n 2, 1) := by decide +kernel
theorem dX0_dropArcs_9 : decode cX0_dropArcs 9 = .ok (.ishl, 1) := by decide +kernel
theorem dX0_dropArcs_10 : decode cX0_dropArcs 10 = .ok (.iconst (-1), 1) := by decide +kernel
theorem dX0_dropArcs_11 : decode cX0_dropArcs 11 = .ok (.ixor, 1) := by decide +kernel
theorem dX0_dropArcs_12 : decode cX0_dropArcs 12 = .ok (.iand, 1) := by decide +kernel
theorem dX0_dropArcs_13 : decode cX0_dropArcs 13 = .ok (.iastore, 1) := by decide +kernel
theorem dX0_dropArcs_14 : decode cX0_dropArcs 14 = .ok (.aload_n 0, 1) := by decide +kernel
theorem dX0_dropArcs_15 : decode cX0_dropArcs 15 = .ok (.getfield 30, 3) := by decide +kernel
theorem dX0_dropArcs_18 : decode cX0_dropArcs 18 = .ok (.iload_n 2, 1) := by decide +kernel
theorem dX0_dropArcs_19 : decode cX0_dropArcs 19 = .ok (.dup2, 1) := by decide +kernel
theorem dX0_dropArcs_20 : decode cX0_dropArcs 20 = .ok (.iaload, 1) := by decide +kernel
theorem dX0_dropArcs_21 : decode cX0_dropArcs 21 = .ok (.iconst 1, 1) := by decide +kernel
theorem dX0_dropArcs_22 : decode cX0_dropArcs 22 = .ok (.iload_n 1, 1) := by decide +kernel
theorem dX0_dropArcs_23 : decode cX0_dropArcs 23 = .ok (.ishl, 1) := by decide +kernel
theorem dX0_dropArcs_24 : decode cX0_dropArcs 24 = .ok (.iconst (-1), 1) := by decide +kernel
theorem dX0_dropArcs_25 : decode cX0_dropArcs 25 = .ok (.ixor, 1) := by decide +kernel
theorem dX0_dropArcs_26 : decode cX0_dropArcs 26 = .ok (.iand, 1) := by decide +kernel
theorem dX0_dropArcs_27 : decode cX0_dropArcs 27 = .ok (.iastore, 1) := by decide +kernel
theorem dX0_dropArcs_28 : decode cX0_dropArcs 28 = .ok (.aload_n 0, 1) := by decide +kernel
theorem dX0_dropArcs_29 : decode cX0_dropArcs 29 = .ok (.invokevirtual 53, 3) := by decide +kernel
theorem dX0_dropArcs_32 : decode cX0_dropArcs 32 = .ok (.return_, 1) := by decide +kernel
theorem dX0_followers_0 : decode cX0_followers 0 = .ok (.aload_n 0, 1) := by decide +kernel
theorem dX0_followers_1 : decode cX0_followers 1 = .ok (.getfield 27, 3) := by decide +kernel
theorem dX0_followers_4 : decode cX0_followers 4 = .ok (.iload_n 1, 1) := by decide +kernel
theorem dX0_followers_5 : decode cX0_followers 5 = .ok (.iaload, 1) := by decide +kernel
theorem dX0_followers_6 : decode cX0_followers 6 = .ok (.iconst (-1), 1) := by decide +kernel
theorem dX0_followers_7 : decode cX0_followers 7 = .ok (.if_icmp .ne 12, 3) := by decide +kernel
theorem dX0_followers_10 : decode cX0_followers 10 = .ok (.aload_n 0, 1) := by decide +kernel
theorem dX0_followers_11 : decode cX0_followers 11 = .ok (.getfield 30, 3) := by decide +kernel
theorem dX0_followers_14 : decode cX0_followers 14 = .ok (.iload_n 1, 1) := by decide +kernel
theorem dX0_followers_15 : decode cX0_followers 15 = .ok (.iaload, 1) := by decide +kernel
theorem dX0_followers_16 : decode cX0_followers 16 = .ok (.goto 18, 3) := by decide +kernel
theorem dX0_followers_19 : decode cX0_followers 19 = .ok (.aload_n 0, 1) := by decide +kernel
theorem dX0_followers_20 : decode cX0_followers 20 = .ok (.getfield 30, 3) := by decide +kernel
theorem dX0_followers_23 : decode cX0_followers 23 = .ok (.iload_n 1, 1) := by decide +kernel
theorem dX0_followers_24 : decode cX0_followers 24 = .ok (.iaload, 1) := by decide +kernel
theorem dX0_followers_25 : decode cX0_followers 25 = .ok (.iconst 1, 1) := by decide +kernel
theorem dX0_followers_26 : decode cX0_followers 26 = .ok (.aload_n 0, 1) := by decide +kernel
theorem dX0_followers_27 : decode cX0_followers 27 = .ok (.getfield 27, 3) := by decide +kernel
theorem dX0_followers_30 : decode cX0_followers 30 = .ok (.iload_n 1, 1) := by decide +kernel
theorem dX0_followers_31 : decode cX0_followers 31 = .ok (.iaload, 1) := by decide +kernel
theorem dX0_followers_32 : decode cX0_followers 32 = .ok (.ishl, 1) := by decide +kernel
theorem dX0_followers_33 : decode cX0_followers 33 = .ok (.ior, 1) := by decide +kernel
theorem dX0_followers_34 : decode cX0_followers 34 = .ok (.ireturn, 1) := by decide +kernel
set_option maxRecDepth 20000 in
theorem ggX0_leads_X0_followers : GoodIn wsX0_leads wsX0_followers := goodIn_r _ [6, 7, 8, 12, 13, 14, 15, 16, 17, 18, 19, 20, 21, 22, 23] (by decide +kernel) (by decide +kernel)
set_option maxRecDepth 20000 in
theorem gX0_leads_X0_followers : GoodIn wsX0_leads (wsV RX0 63 RX0 yX0_followers wsX0_followers) := goodIn_app (goodIn_of _ (by decide +kernel)) ggX0_leads_X0_followers
set_option maxRecDepth 20000 in
theorem ggX0_leads_X2_isIn : GoodIn wsX0_leads wsX2_isIn := goodIn_r _ [11] (by decide +kernel) (by decide +kernel)
set_option maxRecDepth 20000 in
theorem gX0_leads_X2_isIn_n56 : GoodIn wsX0_leads (wsX2_isIn) := ggX0_leads_X2_isIn
theorem dX0_leads_0 : decode cX0_leads 0 = .ok (.aload_n 0, 1) := by decide +kernel
theorem dX0_leads_1 : decode cX0_leads 1 = .ok (.iload_n 1, 1) := by decide +kernel
theorem dX0_leads_2 : decode cX0_leads 2 = .ok (.invokevirtual 63, 3) := by decide +kernel
theorem dX0_leads_5 : decode cX0_leads 5 = .ok (.istore_n 3, 1) := by decide +kernel
theorem dX0_leads_6 : decode cX0_leads 6 = .ok (.iconst 0, 1) := by decide +kernel
theorem dX0_leads_7 : decode cX0_leads 7 = .ok (.istore 4, 2) := by decide +kernel
theorem dX0_leads_9 : decode cX0_leads 9 = .ok (.iconst 0, 1) := by decide +kernel
theorem dX0_leads_10 : decode cX0_leads 10 = .ok (.istore 5, 2) := by decide +kernel
theorem dX0_leads_12 : decode cX0_leads 12 = .ok (.iload 5, 2) := by decide +kernel
theorem dX0_leads_14 : decode cX0_leads 14 = .ok (.aload_n 0, 1) := by decide +kernel
theorem dX0_leads_15 : decode cX0_leads 15 = .ok (.getfield 46, 3) := by decide +kernel
theorem dX0_leads_18 : decode cX0_leads 18 = .ok (.if_icmp .ge 55, 3) := by decide +kernel
theorem dX0_leads_21 : decode cX0_leads 21 = .ok (.iload 4, 2) := by decide +kernel
theorem dX0_leads_23 : decode cX0_leads 23 = .ok (.iload_n 3, 1) := by decide +kernel
theorem dX0_leads_24 : decode cX0_leads 24 = .ok (.if_icmp .eq 49, 3) := by decide +kernel
theorem dX0_leads_27 : decode cX0_leads 27 = .ok (.iload_n 3, 1) := by decide +kernel
theorem dX0_leads_28 : decode cX0_leads 28 = .ok (.istore 4, 2) := by decide +kernel
theorem dX0_leads_30 : decode cX0_leads 30 = .ok (.iconst 0, 1) := by decide +kernel
theorem dX0_leads_31 : decode cX0_leads 31 = .ok (.istore 6, 2) := by decide +kernel
theorem dX0_leads_33 : decode cX0_leads 33 = .ok (.iload 6, 2) := by decide +kernel
theorem dX0_leads_35 : decode cX0_leads 35 = .ok (.aload_n 0, 1) := by decide +kernel
theorem dX0_leads_36 : decode cX0_leads 36 = .ok (.getfield 46, 3) := by decide +kernel
theorem dX0_leads_39 : decode cX0_leads 39 = .ok (.if_icmp .ge 28, 3) := by decide +kernel
theorem dX0_leads_42 : decode cX0_leads 42 = .ok (.iload 4, 2) := by decide +kernel
theorem dX0_leads_44 : decode cX0_leads 44 = .ok (.iload 6, 2) := by decide +kernel
theorem dX0_leads_46 : decode cX0_leads 46 = .ok (.invokestatic 56, 3) := by decide +kernel
theorem dX0_leads_49 : decode cX0_leads 49 = .ok (.ifCond .eq 12, 3) := by decide +kernel
theorem dX0_leads_52 : decode cX0_leads 52 = .ok (.iload_n 3, 1) := by decide +kernel
theorem dX0_leads_53 : decode cX0_leads 53 = .ok (.aload_n 0, 1) := by decide +kernel
theorem dX0_leads_54 : decode cX0_leads 54 = .ok (.iload 6, 2) := by decide +kernel
theorem dX0_leads_56 : decode cX0_leads 56 = .ok (.invokevirtual 63, 3) := by decide +kernel
theorem dX0_leads_59 : decode cX0_leads 59 = .ok (.ior, 1) := by decide +kernel
theorem dX0_leads_60 : decode cX0_leads 60 = .ok (.istore_n 3, 1) := by decide +kernel
theorem dX0_leads_61 : decode cX0_leads 61 = .ok (.iinc 6 1, 3) := by decide +kernel
theorem dX0_leads_64 : decode cX0_leads 64 = .ok (.goto (-31), 3) := by decide +kernel
theorem dX0_leads_67 : decode cX0_leads 67 = .ok (.iinc 5 1, 3) := by decide +kernel
theorem dX0_leads_70 : decode cX0_leads 70 = .ok (.goto (-58), 3) := by decide +kernel
theorem dX0_leads_73 : decode cX0_leads 73 = .ok (.iload_n 3, 1) := by decide +kernel
theorem dX0_leads_74 : decode cX0_leads 74 = .ok (.iload_n 2, 1) := by decide +kernel
theorem dX0_leads_75 : decode cX0_leads 75 = .ok (.invokestatic 56, 3) := by decide +kernel
theorem dX0_leads_78 : decode cX0_leads 78 = .ok (.ireturn, 1) := by decide +kernel
set_option maxRecDepth 20000 in
theorem ggX0_measure_X0_stretch : GoodIn wsX0_measure wsX0_stretch := goodIn_r _ [8, 1, 2, 9, 3, 10, 11, 12, 7, 13, 14, 15, 16, 17, 18, 19, 20, 21, 22, 23, 24, 25, 26, 27, 28, 29, 30] (by decide +kernel) (by decide +kernel)
set_option maxRecDepth 20000 in
theorem gX0_measure_X0_stretch : GoodIn wsX0_measure (wsV RX0 67 RX0 yX0_stretch wsX0_stretch) := goodIn_app (goodIn_of _ (by decide +kernel)) ggX0_measure_X0_stretch
theorem dX0_measure_0 : decode cX0_measure 0 = .ok (.iconst 0, 1) := by decide +kernel
theorem dX0_measure_1 : decode cX0_measure 1 = .ok (.istore_n 1, 1) := by decide +kernel
theorem dX0_measure_2 : decode cX0_measure 2 = .ok (.iload_n 1, 1) := by decide +kernel
theorem dX0_measure_3 : decode cX0_measure 3 = .ok (.aload_n 0, 1) := by decide +kernel
theorem dX0_measure_4 : decode cX0_measure 4 = .ok (.getfield 46, 3) := by decide +kernel
theorem dX0_measure_7 : decode cX0_measure 7 = .ok (.if_icmp .ge 23, 3) := by decide +kernel
theorem dX0_measure_10 : decode cX0_measure 10 = .ok (.aload_n 0, 1) := by decide +kernel
theorem dX0_measure_11 : decode cX0_measure 11 = .ok (.getfield 33, 3) := by decide +kernel
theorem dX0_measure_14 : decode cX0_measure 14 = .ok (.iload_n 1, 1) := by decide +kernel
theorem dX0_measure_15 : decode cX0_measure 15 = .ok (.iconst 0, 1) := by decide +kernel
theorem dX0_measure_16 : decode cX0_measure 16 = .ok (.iastore, 1) := by decide +kernel
theorem dX0_measure_17 : decode cX0_measure 17 = .ok (.aload_n 0, 1) := by decide +kernel
theorem dX0_measure_18 : decode cX0_measure 18 = .ok (.getfield 36, 3) := by decide +kernel
theorem dX0_measure_21 : decode cX0_measure 21 = .ok (.iload_n 1, 1) := by decide +kernel
theorem dX0_measure_22 : decode cX0_measure 22 = .ok (.iconst 0, 1) := by decide +kernel
theorem dX0_measure_23 : decode cX0_measure 23 = .ok (.iastore, 1) := by decide +kernel
theorem dX0_measure_24 : decode cX0_measure 24 = .ok (.iinc 1 1, 3) := by decide +kernel
theorem dX0_measure_27 : decode cX0_measure 27 = .ok (.goto (-25), 3) := by decide +kernel
theorem dX0_measure_30 : decode cX0_measure 30 = .ok (.iconst 1, 1) := by decide +kernel
theorem dX0_measure_31 : decode cX0_measure 31 = .ok (.istore_n 1, 1) := by decide +kernel
theorem dX0_measure_32 : decode cX0_measure 32 = .ok (.iconst 0, 1) := by decide +kernel
theorem dX0_measure_33 : decode cX0_measure 33 = .ok (.istore_n 2, 1) := by decide +kernel
theorem dX0_measure_34 : decode cX0_measure 34 = .ok (.iload_n 2, 1) := by decide +kernel
theorem dX0_measure_35 : decode cX0_measure 35 = .ok (.aload_n 0, 1) := by decide +kernel
theorem dX0_measure_36 : decode cX0_measure 36 = .ok (.getfield 46, 3) := by decide +kernel
theorem dX0_measure_39 : decode cX0_measure 39 = .ok (.if_icmp .ge 41, 3) := by decide +kernel
theorem dX0_measure_42 : decode cX0_measure 42 = .ok (.iload_n 1, 1) := by decide +kernel
theorem dX0_measure_43 : decode cX0_measure 43 = .ok (.ifCond .eq 37, 3) := by decide +kernel
theorem dX0_measure_46 : decode cX0_measure 46 = .ok (.iconst 0, 1) := by decide +kernel
theorem dX0_measure_47 : decode cX0_measure 47 = .ok (.istore_n 1, 1) := by decide +kernel
theorem dX0_measure_48 : decode cX0_measure 48 = .ok (.iconst 0, 1) := by decide +kernel
theorem dX0_measure_49 : decode cX0_measure 49 = .ok (.istore_n 3, 1) := by decide +kernel
theorem dX0_measure_50 : decode cX0_measure 50 = .ok (.iload_n 3, 1) := by decide +kernel
theorem dX0_measure_51 : decode cX0_measure 51 = .ok (.aload_n 0, 1) := by decide +kernel
theorem dX0_measure_52 : decode cX0_measure 52 = .ok (.getfield 46, 3) := by decide +kernel
theorem dX0_measure_55 : decode cX0_measure 55 = .ok (.if_icmp .ge 19, 3) := by decide +kernel
theorem dX0_measure_58 : decode cX0_measure 58 = .ok (.aload_n 0, 1) := by decide +kernel
theorem dX0_measure_59 : decode cX0_measure 59 = .ok (.iload_n 3, 1) := by decide +kernel
theorem dX0_measure_60 : decode cX0_measure 60 = .ok (.invokevirtual 67, 3) := by decide +kernel
theorem dX0_measure_63 : decode cX0_measure 63 = .ok (.ifCond .eq 5, 3) := by decide +kernel
theorem dX0_measure_66 : decode cX0_measure 66 = .ok (.iconst 1, 1) := by decide +kernel
theorem dX0_measure_67 : decode cX0_measure 67 = .ok (.istore_n 1, 1) := by decide +kernel
theorem dX0_measure_68 : decode cX0_measure 68 = .ok (.iinc 3 1, 3) := by decide +kernel
theorem dX0_measure_71 : decode cX0_measure 71 = .ok (.goto (-21), 3) := by decide +kernel
theorem dX0_measure_74 : decode cX0_measure 74 = .ok (.iinc 2 1, 3) := by decide +kernel
theorem dX0_measure_77 : decode cX0_measure 77 = .ok (.goto (-43), 3) := by decide +kernel
theorem dX0_measure_80 : decode cX0_measure 80 = .ok (.return_, 1) := by decide +kernel
set_option maxRecDepth 20000 in
theorem ggX0_stretch_X0_followers : GoodIn wsX0_stretch wsX0_followers := goodIn_r _ [9, 10, 11, 15, 16, 17, 18, 19, 20, 21, 22, 23, 24, 25, 26] (by decide +kernel) (by decide +kernel)
set_option maxRecDepth 20000 in
theorem gX0_stretch_X0_followers : GoodIn wsX0_stretch (wsV RX0 63 RX0 yX0_followers wsX0_followers) := goodIn_app (goodIn_of _ (by decide +kernel)) ggX0_stretch_X0_followers
set_option maxRecDepth 20000 in
theorem ggX0_stretch_X2_isIn : GoodIn wsX0_stretch wsX2_isIn := goodIn_r _ [14] (by decide +kernel) (by decide +kernel)
set_option maxRecDepth 20000 in
theorem gX0_stretch_X2_isIn_n56 : GoodIn wsX0_stretch (wsX2_isIn) := ggX0_stretch_X2_isIn
theorem dX0_stretch_0 : decode cX0_stretch 0 = .ok (.iconst 0, 1) := by decide +kernel
theorem dX0_stretch_1 : decode cX0_stretch 1 = .ok (.istore_n 2, 1) := by decide +kernel
theorem dX0_stretch_2 : decode cX0_stretch 2 = .ok (.aload_n 0, 1) := by decide +kernel
theorem dX0_stretch_3 : decode cX0_stretch 3 = .ok (.iload_n 1, 1) := by decide +kernel
theorem dX0_stretch_4 : decode cX0_stretch 4 = .ok (.invokevirtual 63, 3) := by decide +kernel
theorem dX0_stretch_7 : decode cX0_stretch 7 = .ok (.istore_n 3, 1) := by decide +kernel
theorem dX0_stretch_8 : decode cX0_stretch 8 = .ok (.iconst 0, 1) := by decide +kernel
theorem dX0_stretch_9 : decode cX0_stretch 9 = .ok (.istore 4, 2) := by decide +kernel
theorem dX0_stretch_11 : decode cX0_stretch 11 = .ok (.iload 4, 2) := by decide +kernel
theorem dX0_stretch_13 : decode cX0_stretch 13 = .ok (.aload_n 0, 1) := by decide +kernel
theorem dX0_stretch_14 : decode cX0_stretch 14 = .ok (.getfield 46, 3) := by decide +kernel
theorem dX0_stretch_17 : decode cX0_stretch 17 = .ok (.if_icmp .ge 110, 3) := by decide +kernel
theorem dX0_stretch_20 : decode cX0_stretch 20 = .ok (.iload_n 3, 1) := by decide +kernel
theorem dX0_stretch_21 : decode cX0_stretch 21 = .ok (.iload 4, 2) := by decide +kernel
theorem dX0_stretch_23 : decode cX0_stretch 23 = .ok (.invokestatic 56, 3) := by decide +kernel
theorem dX0_stretch_26 : decode cX0_stretch 26 = .ok (.ifCond .eq 95, 3) := by decide +kernel
theorem dX0_stretch_29 : decode cX0_stretch 29 = .ok (.aload_n 0, 1) := by decide +kernel
theorem dX0_stretch_30 : decode cX0_stretch 30 = .ok (.getfield 33, 3) := by decide +kernel
theorem dX0_stretch_33 : decode cX0_stretch 33 = .ok (.iload 4, 2) := by decide +kernel
theorem dX0_stretch_35 : decode cX0_stretch 35 = .ok (.iaload, 1) := by decide +kernel
theorem dX0_stretch_36 : decode cX0_stretch 36 = .ok (.aload_n 0, 1) := by decide +kernel
theorem dX0_stretch_37 : decode cX0_stretch 37 = .ok (.getfield 33, 3) := by decide +kernel
theorem dX0_stretch_40 : decode cX0_stretch 40 = .ok (.iload_n 1, 1) := by decide +kernel
theorem dX0_stretch_41 : decode cX0_stretch 41 = .ok (.iaload, 1) := by decide +kernel
theorem dX0_stretch_42 : decode cX0_stretch 42 = .ok (.aload_n 0, 1) := by decide +kernel
theorem dX0_stretch_43 : decode cX0_stretch 43 = .ok (.getfield 24, 3) := by decide +kernel
theorem dX0_stretch_46 : decode cX0_stretch 46 = .ok (.iload_n 1, 1) := by decide +kernel
theorem dX0_stretch_47 : decode cX0_stretch 47 = .ok (.iaload, 1) := by decide +kernel
theorem dX0_stretch_48 : decode cX0_stretch 48 = .ok (.iadd, 1) := by decide +kernel
theorem dX0_stretch_49 : decode cX0_stretch 49 = .ok (.if_icmp .ge 25, 3) := by decide +kernel
theorem dX0_stretch_52 : decode cX0_stretch 52 = .ok (.aload_n 0, 1) := by decide +kernel
theorem dX0_stretch_53 : decode cX0_stretch 53 = .ok (.getfield 33, 3) := by decide +kernel
theorem dX0_stretch_56 : decode cX0_stretch 56 = .ok (.iload 4, 2) := by decide +kernel
theorem dX0_stretch_58 : decode cX0_stretch 58 = .ok (.aload_n 0, 1) := by decide +kernel
theorem dX0_stretch_59 : decode cX0_stretch 59 = .ok (.getfield 33, 3) := by decide +kernel
theorem dX0_stretch_62 : decode cX0_stretch 62 = .ok (.iload_n 1, 1) := by decide +kernel
theorem dX0_stretch_63 : decode cX0_stretch 63 = .ok (.iaload, 1) := by decide +kernel
theorem dX0_stretch_64 : decode cX0_stretch 64 = .ok (.aload_n 0, 1) := by decide +kernel
theorem dX0_stretch_65 : decode cX0_stretch 65 = .ok (.getfield 24, 3) := by decide +kernel
theorem dX0_stretch_68 : decode cX0_stretch 68 = .ok (.iload_n 1, 1) := by decide +kernel
theorem dX0_stretch_69 : decode cX0_stretch 69 = .ok (.iaload, 1) := by decide +kernel
theorem dX0_stretch_70 : decode cX0_stretch 70 = .ok (.iadd, 1) := by decide +kernel
theorem dX0_stretch_71 : decode cX0_stretch 71 = .ok (.iastore, 1) := by decide +kernel
theorem dX0_stretch_72 : decode cX0_stretch 72 = .ok (.iconst 1, 1) := by decide +kernel
theorem dX0_stretch_73 : decode cX0_stretch 73 = .ok (.istore_n 2, 1) := by decide +kernel
theorem dX0_stretch_74 : decode cX0_stretch 74 = .ok (.aload_n 0, 1) := by decide +kernel
theorem dX0_stretch_75 : decode cX0_stretch 75 = .ok (.getfield 36, 3) := by decide +kernel
theorem dX0_stretch_78 : decode cX0_stretch 78 = .ok (.iload_n 1, 1) := by decide +kernel
theorem dX0_stretch_79 : decode cX0_stretch 79 = .ok (.iaload, 1) := by decide +kernel
theorem dX0_stretch_80 : decode cX0_stretch 80 = .ok (.aload_n 0, 1) := by decide +kernel
theorem dX0_stretch_81 : decode cX0_stretch 81 = .ok (.getfield 24, 3) := by decide +kernel
theorem dX0_stretch_84 : decode cX0_stretch 84 = .ok (.iload 4, 2) := by decide +kernel
theorem dX0_stretch_86 : decode cX0_stretch 86 = .ok (.iaload, 1) := by decide +kernel
theorem dX0_stretch_87 : decode cX0_stretch 87 = .ok (.aload_n 0, 1) := by decide +kernel
theorem dX0_stretch_88 : decode cX0_stretch 88 = .ok (.getfield 36, 3) := by decide +kernel
theorem dX0_stretch_91 : decode cX0_stretch 91 = .ok (.iload 4, 2) := by decide +kernel
theorem dX0_stretch_93 : decode cX0_stretch 93 = .ok (.iaload, 1) := by decide +kernel
theorem dX0_stretch_94 : decode cX0_stretch 94 = .ok (.iadd, 1) := by decide +kernel
theorem dX0_stretch_95 : decode cX0_stretch 95 = .ok (.if_icmp .ge 26, 3) := by decide +kernel
theorem dX0_stretch_98 : decode cX0_stretch 98 = .ok (.aload_n 0, 1) := by decide +kernel
theorem dX0_stretch_99 : decode cX0_stretch 99 = .ok (.getfield 36, 3) := by decide +kernel
theorem dX0_stretch_102 : decode cX0_stretch 102 = .ok (.iload_n 1, 1) := by decide +kernel
theorem dX0_stretch_103 : decode cX0_stretch 103 = .ok (.aload_n 0, 1) := by decide +kernel
theorem dX0_stretch_104 : decode cX0_stretch 104 = .ok (.getfield 24, 3) := by decide +kernel
theorem dX0_stretch_107 : decode cX0_stretch 107 = .ok (.iload 4, 2) := by decide +kernel
theorem dX0_stretch_109 : decode cX0_stretch 109 = .ok (.iaload, 1) := by decide +kernel
theorem dX0_stretch_110 : decode cX0_stretch 110 = .ok (.aload_n 0, 1) := by decide +kernel
theorem dX0_stretch_111 : decode cX0_stretch 111 = .ok (.getfield 36, 3) := by decide +kernel
theorem dX0_stretch_114 : decode cX0_stretch 114 = .ok (.iload 4, 2) := by decide +kernel
theorem dX0_stretch_116 : decode cX0_stretch 116 = .ok (.iaload, 1) := by decide +kernel
theorem dX0_stretch_117 : decode cX0_stretch 117 = .ok (.iadd, 1) := by decide +kernel
theorem dX0_stretch_118 : decode cX0_stretch 118 = .ok (.iastore, 1) := by decide +kernel
theorem dX0_stretch_119 : decode cX0_stretch 119 = .ok (.iconst 1, 1) := by decide +kernel
theorem dX0_stretch_120 : decode cX0_stretch 120 = .ok (.istore_n 2, 1) := by decide +kernel
theorem dX0_stretch_121 : decode cX0_stretch 121 = .ok (.iinc 4 1, 3) := by decide +kernel
theorem dX0_stretch_124 : decode cX0_stretch 124 = .ok (.goto (-113), 3) := by decide +kernel
theorem dX0_stretch_127 : decode cX0_stretch 127 = .ok (.iload_n 2, 1) := by decide +kernel
theorem dX0_stretch_128 : decode cX0_stretch 128 = .ok (.ireturn, 1) := by decide +kernel
theorem dX0_through_0 : decode cX0_through 0 = .ok (.aload_n 0, 1) := by decide +kernel
theorem dX0_through_1 : decode cX0_through 1 = .ok (.getfield 33, 3) := by decide +kernel
theorem dX0_through_4 : decode cX0_through 4 = .ok (.iload_n 1, 1) := by decide +kernel
theorem dX0_through_5 : decode cX0_through 5 = .ok (.iaload, 1) := by decide +kernel
theorem dX0_through_6 : decode cX0_through 6 = .ok (.aload_n 0, 1) := by decide +kernel
theorem dX0_through_7 : decode cX0_through 7 = .ok (.getfield 24, 3) := by decide +kernel
theorem dX0_through_10 : decode cX0_through 10 = .ok (.iload_n 1, 1) := by decide +kernel
theorem dX0_through_11 : decode cX0_through 11 = .ok (.iaload, 1) := by decide +kernel
theorem dX0_through_12 : decode cX0_through 12 = .ok (.iadd, 1) := by decide +kernel
theorem dX0_through_13 : decode cX0_through 13 = .ok (.aload_n 0, 1) := by decide +kernel
theorem dX0_through_14 : decode cX0_through 14 = .ok (.getfield 36, 3) := by decide +kernel
theorem dX0_through_17 : decode cX0_through 17 = .ok (.iload_n 1, 1) := by decide +kernel
theorem dX0_through_18 : decode cX0_through 18 = .ok (.iaload, 1) := by decide +kernel
theorem dX0_through_19 : decode cX0_through 19 = .ok (.iadd, 1) := by decide +kernel
theorem dX0_through_20 : decode cX0_through 20 = .ok (.ireturn, 1) := by decide +kernel
set_option maxRecDepth 20000 in
theorem ggX0_longest_X0_through : GoodIn wsX0_longest wsX0_through := goodIn_r _ [10, 11, 12, 13, 14, 15, 16, 17, 18, 19, 20, 21, 22, 23, 24, 25] (by decide +kernel) (by decide +kernel)
set_option maxRecDepth 20000 in
theorem gX0_longest_X0_through : GoodIn wsX0_longest (wsV RX0 70 RX0 yX0_through wsX0_through) := goodIn_app (goodIn_of _ (by decide +kernel)) ggX0_longest_X0_through
theorem dX0_longest_0 : decode cX0_longest 0 = .ok (.iconst 0, 1) := by decide +kernel
theorem dX0_longest_1 : decode cX0_longest 1 = .ok (.istore_n 1, 1) := by decide +kernel
theorem dX0_longest_2 : decode cX0_longest 2 = .ok (.iconst 0, 1) := by decide +kernel
theorem dX0_longest_3 : decode cX0_longest 3 = .ok (.istore_n 2, 1) := by decide +kernel
theorem dX0_longest_4 : decode cX0_longest 4 = .ok (.iload_n 2, 1) := by decide +kernel
theorem dX0_longest_5 : decode cX0_longest 5 = .ok (.aload_n 0, 1) := by decide +kernel
theorem dX0_longest_6 : decode cX0_longest 6 = .ok (.getfield 46, 3) := by decide +kernel
theorem dX0_longest_9 : decode cX0_longest 9 = .ok (.if_icmp .ge 19, 3) := by decide +kernel
theorem dX0_longest_12 : decode cX0_longest 12 = .ok (.iload_n 1, 1) := by decide +kernel
theorem dX0_longest_13 : decode cX0_longest 13 = .ok (.aload_n 0, 1) := by decide +kernel
theorem dX0_longest_14 : decode cX0_longest 14 = .ok (.iload_n 2, 1) := by decide +kernel
theorem dX0_longest_15 : decode cX0_longest 15 = .ok (.invokevirtual 70, 3) := by decide +kernel
theorem dX0_longest_18 : decode cX0_longest 18 = .ok (.invokestatic 73, 3) := by decide +kernel
theorem dX0_longest_21 : decode cX0_longest 21 = .ok (.istore_n 1, 1) := by decide +kernel
theorem dX0_longest_22 : decode cX0_longest 22 = .ok (.iinc 2 1, 3) := by decide +kernel
theorem dX0_longest_25 : decode cX0_longest 25 = .ok (.goto (-21), 3) := by decide +kernel
theorem dX0_longest_28 : decode cX0_longest 28 = .ok (.iload_n 1, 1) := by decide +kernel
theorem dX0_longest_29 : decode cX0_longest 29 = .ok (.ireturn, 1) := by decide +kernel
set_option maxRecDepth 20000 in
theorem ggX0_burden_X0_workFrom : GoodIn wsX0_burden wsX0_workFrom := goodIn_r _ [13, 1, 2, 3, 4, 14, 15, 16, 17, 18, 19, 20, 21, 22, 23, 24, 25, 26] (by decide +kernel) (by decide +kernel)
set_option maxRecDepth 20000 in
theorem gX0_burden_X0_workFrom : GoodIn wsX0_burden (wsV RX0 79 RX0 yX0_workFrom wsX0_workFrom) := goodIn_app (goodIn_of _ (by decide +kernel)) ggX0_burden_X0_workFrom
theorem dX0_burden_0 : decode cX0_burden 0 = .ok (.iconst 0, 1) := by decide +kernel
theorem dX0_burden_1 : decode cX0_burden 1 = .ok (.istore_n 2, 1) := by decide +kernel
theorem dX0_burden_2 : decode cX0_burden 2 = .ok (.iconst 0, 1) := by decide +kernel
theorem dX0_burden_3 : decode cX0_burden 3 = .ok (.istore_n 3, 1) := by decide +kernel
theorem dX0_burden_4 : decode cX0_burden 4 = .ok (.iload_n 3, 1) := by decide +kernel
theorem dX0_burden_5 : decode cX0_burden 5 = .ok (.aload_n 0, 1) := by decide +kernel
theorem dX0_burden_6 : decode cX0_burden 6 = .ok (.getfield 46, 3) := by decide +kernel
theorem dX0_burden_9 : decode cX0_burden 9 = .ok (.if_icmp .ge 95, 3) := by decide +kernel
theorem dX0_burden_12 : decode cX0_burden 12 = .ok (.iconst 0, 1) := by decide +kernel
theorem dX0_burden_13 : decode cX0_burden 13 = .ok (.istore 4, 2) := by decide +kernel
theorem dX0_burden_15 : decode cX0_burden 15 = .ok (.iload 4, 2) := by decide +kernel
theorem dX0_burden_17 : decode cX0_burden 17 = .ok (.aload_n 0, 1) := by decide +kernel
theorem dX0_burden_18 : decode cX0_burden 18 = .ok (.getfield 46, 3) := by decide +kernel
theorem dX0_burden_21 : decode cX0_burden 21 = .ok (.if_icmp .ge 77, 3) := by decide +kernel
theorem dX0_burden_24 : decode cX0_burden 24 = .ok (.aload_n 0, 1) := by decide +kernel
theorem dX0_burden_25 : decode cX0_burden 25 = .ok (.getfield 21, 3) := by decide +kernel
theorem dX0_burden_28 : decode cX0_burden 28 = .ok (.iload_n 3, 1) := by decide +kernel
theorem dX0_burden_29 : decode cX0_burden 29 = .ok (.iaload, 1) := by decide +kernel
theorem dX0_burden_30 : decode cX0_burden 30 = .ok (.iload_n 1, 1) := by decide +kernel
theorem dX0_burden_31 : decode cX0_burden 31 = .ok (.if_icmp .ne 61, 3) := by decide +kernel
theorem dX0_burden_34 : decode cX0_burden 34 = .ok (.aload_n 0, 1) := by decide +kernel
theorem dX0_burden_35 : decode cX0_burden 35 = .ok (.getfield 21, 3) := by decide +kernel
theorem dX0_burden_38 : decode cX0_burden 38 = .ok (.iload 4, 2) := by decide +kernel
theorem dX0_burden_40 : decode cX0_burden 40 = .ok (.iaload, 1) := by decide +kernel
theorem dX0_burden_41 : decode cX0_burden 41 = .ok (.iload_n 1, 1) := by decide +kernel
theorem dX0_burden_42 : decode cX0_burden 42 = .ok (.if_icmp .ne 50, 3) := by decide +kernel
theorem dX0_burden_45 : decode cX0_burden 45 = .ok (.aload_n 0, 1) := by decide +kernel
theorem dX0_burden_46 : decode cX0_burden 46 = .ok (.iload_n 1, 1) := by decide +kernel
theorem dX0_burden_47 : decode cX0_burden 47 = .ok (.aload_n 0, 1) := by decide +kernel
theorem dX0_burden_48 : decode cX0_burden 48 = .ok (.getfield 33, 3) := by decide +kernel
theorem dX0_burden_51 : decode cX0_burden 51 = .ok (.iload_n 3, 1) := by decide +kernel
theorem dX0_burden_52 : decode cX0_burden 52 = .ok (.iaload, 1) := by decide +kernel
theorem dX0_burden_53 : decode cX0_burden 53 = .ok (.aload_n 0, 1) := by decide +kernel
theorem dX0_burden_54 : decode cX0_burden 54 = .ok (.getfield 36, 3) := by decide +kernel
theorem dX0_burden_57 : decode cX0_burden 57 = .ok (.iload 4, 2) := by decide +kernel
theorem dX0_burden_59 : decode cX0_burden 59 = .ok (.iaload, 1) := by decide +kernel
theorem dX0_burden_60 : decode cX0_burden 60 = .ok (.invokevirtual 79, 3) := by decide +kernel
theorem dX0_burden_63 : decode cX0_burden 63 = .ok (.istore 5, 2) := by decide +kernel
theorem dX0_burden_65 : decode cX0_burden 65 = .ok (.iload 5, 2) := by decide +kernel
theorem dX0_burden_67 : decode cX0_burden 67 = .ok (.ifCond .le 25, 3) := by decide +kernel
theorem dX0_burden_70 : decode cX0_burden 70 = .ok (.iload_n 2, 1) := by decide +kernel
theorem dX0_burden_71 : decode cX0_burden 71 = .ok (.aload_n 0, 1) := by decide +kernel
theorem dX0_burden_72 : decode cX0_burden 72 = .ok (.getfield 33, 3) := by decide +kernel
theorem dX0_burden_75 : decode cX0_burden 75 = .ok (.iload_n 3, 1) := by decide +kernel
theorem dX0_burden_76 : decode cX0_burden 76 = .ok (.iaload, 1) := by decide +kernel
theorem dX0_burden_77 : decode cX0_burden 77 = .ok (.iload 5, 2) := by decide +kernel
theorem dX0_burden_79 : decode cX0_burden 79 = .ok (.iadd, 1) := by decide +kernel
theorem dX0_burden_80 : decode cX0_burden 80 = .ok (.aload_n 0, 1) := by decide +kernel
theorem dX0_burden_81 : decode cX0_burden 81 = .ok (.getfield 36, 3) := by decide +kernel
theorem dX0_burden_84 : decode cX0_burden 84 = .ok (.iload 4, 2) := by decide +kernel
theorem dX0_burden_86 : decode cX0_burden 86 = .ok (.iaload, 1) := by decide +kernel
theorem dX0_burden_87 : decode cX0_burden 87 = .ok (.iadd, 1) := by decide +kernel
theorem dX0_burden_88 : decode cX0_burden 88 = .ok (.invokestatic 73, 3) := by decide +kernel
theorem dX0_burden_91 : decode cX0_burden 91 = .ok (.istore_n 2, 1) := by decide +kernel
theorem dX0_burden_92 : decode cX0_burden 92 = .ok (.iinc 4 1, 3) := by decide +kernel
theorem dX0_burden_95 : decode cX0_burden 95 = .ok (.goto (-80), 3) := by decide +kernel
theorem dX0_burden_98 : decode cX0_burden 98 = .ok (.iinc 3 1, 3) := by decide +kernel
theorem dX0_burden_101 : decode cX0_burden 101 = .ok (.goto (-97), 3) := by decide +kernel
theorem dX0_burden_104 : decode cX0_burden 104 = .ok (.iload_n 2, 1) := by decide +kernel
theorem dX0_burden_105 : decode cX0_burden 105 = .ok (.ireturn, 1) := by decide +kernel
theorem dX0_workFrom_0 : decode cX0_workFrom 0 = .ok (.iconst 0, 1) := by decide +kernel
theorem dX0_workFrom_1 : decode cX0_workFrom 1 = .ok (.istore 4, 2) := by decide +kernel
theorem dX0_workFrom_3 : decode cX0_workFrom 3 = .ok (.iconst 0, 1) := by decide +kernel
theorem dX0_workFrom_4 : decode cX0_workFrom 4 = .ok (.istore 5, 2) := by decide +kernel
theorem dX0_workFrom_6 : decode cX0_workFrom 6 = .ok (.iload 5, 2) := by decide +kernel
theorem dX0_workFrom_8 : decode cX0_workFrom 8 = .ok (.aload_n 0, 1) := by decide +kernel
theorem dX0_workFrom_9 : decode cX0_workFrom 9 = .ok (.getfield 46, 3) := by decide +kernel
theorem dX0_workFrom_12 : decode cX0_workFrom 12 = .ok (.if_icmp .ge 54, 3) := by decide +kernel
theorem dX0_workFrom_15 : decode cX0_workFrom 15 = .ok (.aload_n 0, 1) := by decide +kernel
theorem dX0_workFrom_16 : decode cX0_workFrom 16 = .ok (.getfield 21, 3) := by decide +kernel
theorem dX0_workFrom_19 : decode cX0_workFrom 19 = .ok (.iload 5, 2) := by decide +kernel
theorem dX0_workFrom_21 : decode cX0_workFrom 21 = .ok (.iaload, 1) := by decide +kernel
theorem dX0_workFrom_22 : decode cX0_workFrom 22 = .ok (.iload_n 1, 1) := by decide +kernel
theorem dX0_workFrom_23 : decode cX0_workFrom 23 = .ok (.if_icmp .ne 37, 3) := by decide +kernel
theorem dX0_workFrom_26 : decode cX0_workFrom 26 = .ok (.aload_n 0, 1) := by decide +kernel
theorem dX0_workFrom_27 : decode cX0_workFrom 27 = .ok (.getfield 33, 3) := by decide +kernel
theorem dX0_workFrom_30 : decode cX0_workFrom 30 = .ok (.iload 5, 2) := by decide +kernel
theorem dX0_workFrom_32 : decode cX0_workFrom 32 = .ok (.iaload, 1) := by decide +kernel
theorem dX0_workFrom_33 : decode cX0_workFrom 33 = .ok (.iload_n 2, 1) := by decide +kernel
theorem dX0_workFrom_34 : decode cX0_workFrom 34 = .ok (.if_icmp .lt 26, 3) := by decide +kernel
theorem dX0_workFrom_37 : decode cX0_workFrom 37 = .ok (.aload_n 0, 1) := by decide +kernel
theorem dX0_workFrom_38 : decode cX0_workFrom 38 = .ok (.getfield 36, 3) := by decide +kernel
theorem dX0_workFrom_41 : decode cX0_workFrom 41 = .ok (.iload 5, 2) := by decide +kernel
theorem dX0_workFrom_43 : decode cX0_workFrom 43 = .ok (.iaload, 1) := by decide +kernel
theorem dX0_workFrom_44 : decode cX0_workFrom 44 = .ok (.iload_n 3, 1) := by decide +kernel
theorem dX0_workFrom_45 : decode cX0_workFrom 45 = .ok (.if_icmp .lt 15, 3) := by decide +kernel
theorem dX0_workFrom_48 : decode cX0_workFrom 48 = .ok (.iload 4, 2) := by decide +kernel
theorem dX0_workFrom_50 : decode cX0_workFrom 50 = .ok (.aload_n 0, 1) := by decide +kernel
theorem dX0_workFrom_51 : decode cX0_workFrom 51 = .ok (.getfield 24, 3) := by decide +kernel
theorem dX0_workFrom_54 : decode cX0_workFrom 54 = .ok (.iload 5, 2) := by decide +kernel
theorem dX0_workFrom_56 : decode cX0_workFrom 56 = .ok (.iaload, 1) := by decide +kernel
theorem dX0_workFrom_57 : decode cX0_workFrom 57 = .ok (.iadd, 1) := by decide +kernel
theorem dX0_workFrom_58 : decode cX0_workFrom 58 = .ok (.istore 4, 2) := by decide +kernel
theorem dX0_workFrom_60 : decode cX0_workFrom 60 = .ok (.iinc 5 1, 3) := by decide +kernel
theorem dX0_workFrom_63 : decode cX0_workFrom 63 = .ok (.goto (-57), 3) := by decide +kernel
theorem dX0_workFrom_66 : decode cX0_workFrom 66 = .ok (.iload 4, 2) := by decide +kernel
theorem dX0_workFrom_68 : decode cX0_workFrom 68 = .ok (.ireturn, 1) := by decide +kernel
set_option maxRecDepth 20000 in
theorem ggX0_bound_X0_longest : GoodIn wsX0_bound wsX0_longest := goodIn_r _ [9, 10, 1, 2, 3, 4, 11, 12, 13, 8, 14, 15, 16, 17, 27, 28, 29, 30, 31, 32, 33, 34, 35, 36, 37, 38] (by decide +kernel) (by decide +kernel)
set_option maxRecDepth 20000 in
theorem gX0_bound_X0_longest : GoodIn wsX0_bound (wsV RX0 83 RX0 yX0_longest wsX0_longest) := goodIn_app (goodIn_of _ (by decide +kernel)) ggX0_bound_X0_longest
set_option maxRecDepth 20000 in
theorem ggX0_bound_X0_burden : GoodIn wsX0_bound wsX0_burden := goodIn_r _ [21, 10, 22, 15, 17, 1, 2, 3, 4, 23, 24, 25, 8, 26, 16, 27, 28, 29, 30, 31, 32, 33, 34, 35, 36, 37, 38] (by decide +kernel) (by decide +kernel)
set_option maxRecDepth 20000 in
theorem gX0_bound_X0_burden : GoodIn wsX0_bound (wsV RX0 87 RX0 yX0_burden wsX0_burden) := goodIn_app (goodIn_of _ (by decide +kernel)) ggX0_bound_X0_burden
theorem dX0_bound_0 : decode cX0_bound 0 = .ok (.aload_n 0, 1) := by decide +kernel
theorem dX0_bound_1 : decode cX0_bound 1 = .ok (.invokevirtual 83, 3) := by decide +kernel
theorem dX0_bound_4 : decode cX0_bound 4 = .ok (.istore_n 1, 1) := by decide +kernel
theorem dX0_bound_5 : decode cX0_bound 5 = .ok (.iconst 0, 1) := by decide +kernel
theorem dX0_bound_6 : decode cX0_bound 6 = .ok (.istore_n 2, 1) := by decide +kernel
theorem dX0_bound_7 : decode cX0_bound 7 = .ok (.iload_n 2, 1) := by decide +kernel
theorem dX0_bound_8 : decode cX0_bound 8 = .ok (.iconst 4, 1) := by decide +kernel
theorem dX0_bound_9 : decode cX0_bound 9 = .ok (.if_icmp .ge 19, 3) := by decide +kernel
theorem dX0_bound_12 : decode cX0_bound 12 = .ok (.iload_n 1, 1) := by decide +kernel
theorem dX0_bound_13 : decode cX0_bound 13 = .ok (.aload_n 0, 1) := by decide +kernel
theorem dX0_bound_14 : decode cX0_bound 14 = .ok (.iload_n 2, 1) := by decide +kernel
theorem dX0_bound_15 : decode cX0_bound 15 = .ok (.invokevirtual 87, 3) := by decide +kernel
theorem dX0_bound_18 : decode cX0_bound 18 = .ok (.invokestatic 73, 3) := by decide +kernel
theorem dX0_bound_21 : decode cX0_bound 21 = .ok (.istore_n 1, 1) := by decide +kernel
theorem dX0_bound_22 : decode cX0_bound 22 = .ok (.iinc 2 1, 3) := by decide +kernel
theorem dX0_bound_25 : decode cX0_bound 25 = .ok (.goto (-18), 3) := by decide +kernel
theorem dX0_bound_28 : decode cX0_bound 28 = .ok (.iload_n 1, 1) := by decide +kernel
theorem dX0_bound_29 : decode cX0_bound 29 = .ok (.ireturn, 1) := by decide +kernel
theorem dX0_pairs_0 : decode cX0_pairs 0 = .ok (.iconst 0, 1) := by decide +kernel
theorem dX0_pairs_1 : decode cX0_pairs 1 = .ok (.istore_n 1, 1) := by decide +kernel
theorem dX0_pairs_2 : decode cX0_pairs 2 = .ok (.iconst 0, 1) := by decide +kernel
theorem dX0_pairs_3 : decode cX0_pairs 3 = .ok (.istore_n 2, 1) := by decide +kernel
theorem dX0_pairs_4 : decode cX0_pairs 4 = .ok (.iload_n 2, 1) := by decide +kernel
theorem dX0_pairs_5 : decode cX0_pairs 5 = .ok (.aload_n 0, 1) := by decide +kernel
theorem dX0_pairs_6 : decode cX0_pairs 6 = .ok (.getfield 46, 3) := by decide +kernel
theorem dX0_pairs_9 : decode cX0_pairs 9 = .ok (.if_icmp .ge 45, 3) := by decide +kernel
theorem dX0_pairs_12 : decode cX0_pairs 12 = .ok (.iload_n 2, 1) := by decide +kernel
theorem dX0_pairs_13 : decode cX0_pairs 13 = .ok (.iconst 1, 1) := by decide +kernel
theorem dX0_pairs_14 : decode cX0_pairs 14 = .ok (.iadd, 1) := by decide +kernel
theorem dX0_pairs_15 : decode cX0_pairs 15 = .ok (.istore_n 3, 1) := by decide +kernel
theorem dX0_pairs_16 : decode cX0_pairs 16 = .ok (.iload_n 3, 1) := by decide +kernel
theorem dX0_pairs_17 : decode cX0_pairs 17 = .ok (.aload_n 0, 1) := by decide +kernel
theorem dX0_pairs_18 : decode cX0_pairs 18 = .ok (.getfield 46, 3) := by decide +kernel
theorem dX0_pairs_21 : decode cX0_pairs 21 = .ok (.if_icmp .ge 27, 3) := by decide +kernel
theorem dX0_pairs_24 : decode cX0_pairs 24 = .ok (.aload_n 0, 1) := by decide +kernel
theorem dX0_pairs_25 : decode cX0_pairs 25 = .ok (.getfield 21, 3) := by decide +kernel
theorem dX0_pairs_28 : decode cX0_pairs 28 = .ok (.iload_n 2, 1) := by decide +kernel
theorem dX0_pairs_29 : decode cX0_pairs 29 = .ok (.iaload, 1) := by decide +kernel
theorem dX0_pairs_30 : decode cX0_pairs 30 = .ok (.aload_n 0, 1) := by decide +kernel
theorem dX0_pairs_31 : decode cX0_pairs 31 = .ok (.getfield 21, 3) := by decide +kernel
theorem dX0_pairs_34 : decode cX0_pairs 34 = .ok (.iload_n 3, 1) := by decide +kernel
theorem dX0_pairs_35 : decode cX0_pairs 35 = .ok (.iaload, 1) := by decide +kernel
theorem dX0_pairs_36 : decode cX0_pairs 36 = .ok (.if_icmp .ne 6, 3) := by decide +kernel
theorem dX0_pairs_39 : decode cX0_pairs 39 = .ok (.iinc 1 1, 3) := by decide +kernel
theorem dX0_pairs_42 : decode cX0_pairs 42 = .ok (.iinc 3 1, 3) := by decide +kernel
theorem dX0_pairs_45 : decode cX0_pairs 45 = .ok (.goto (-29), 3) := by decide +kernel
theorem dX0_pairs_48 : decode cX0_pairs 48 = .ok (.iinc 2 1, 3) := by decide +kernel
theorem dX0_pairs_51 : decode cX0_pairs 51 = .ok (.goto (-47), 3) := by decide +kernel
theorem dX0_pairs_54 : decode cX0_pairs 54 = .ok (.iload_n 1, 1) := by decide +kernel
theorem dX0_pairs_55 : decode cX0_pairs 55 = .ok (.ireturn, 1) := by decide +kernel
set_option maxRecDepth 20000 in
theorem ggX0_tiedPairs_J6_bitCount_0f7a4 : GoodIn wsX0_tiedPairs wsJ6_bitCount_0f7a4 := goodIn_r _ [6, 7, 8, 9] (by decide +kernel) (by decide +kernel)
set_option maxRecDepth 20000 in
theorem gX0_tiedPairs_J6_bitCount_0f7a4 : GoodIn wsX0_tiedPairs (va_wsS RX0 90 yJ6_bitCount_0f7a4 wsJ6_bitCount_0f7a4) := goodIn_app (goodIn_of _ (by decide +kernel)) ggX0_tiedPairs_J6_bitCount_0f7a4
theorem dX0_tiedPairs_0 : decode cX0_tiedPairs 0 = .ok (.iconst 0, 1) := by decide +kernel
theorem dX0_tiedPairs_1 : decode cX0_tiedPairs 1 = .ok (.istore_n 1, 1) := by decide +kernel
theorem dX0_tiedPairs_2 : decode cX0_tiedPairs 2 = .ok (.iconst 0, 1) := by decide +kernel
theorem dX0_tiedPairs_3 : decode cX0_tiedPairs 3 = .ok (.istore_n 2, 1) := by decide +kernel
theorem dX0_tiedPairs_4 : decode cX0_tiedPairs 4 = .ok (.iload_n 2, 1) := by decide +kernel
theorem dX0_tiedPairs_5 : decode cX0_tiedPairs 5 = .ok (.aload_n 0, 1) := by decide +kernel
theorem dX0_tiedPairs_6 : decode cX0_tiedPairs 6 = .ok (.getfield 46, 3) := by decide +kernel
theorem dX0_tiedPairs_9 : decode cX0_tiedPairs 9 = .ok (.if_icmp .ge 21, 3) := by decide +kernel
theorem dX0_tiedPairs_12 : decode cX0_tiedPairs 12 = .ok (.iload_n 1, 1) := by decide +kernel
theorem dX0_tiedPairs_13 : decode cX0_tiedPairs 13 = .ok (.aload_n 0, 1) := by decide +kernel
theorem dX0_tiedPairs_14 : decode cX0_tiedPairs 14 = .ok (.getfield 30, 3) := by decide +kernel
theorem dX0_tiedPairs_17 : decode cX0_tiedPairs 17 = .ok (.iload_n 2, 1) := by decide +kernel
theorem dX0_tiedPairs_18 : decode cX0_tiedPairs 18 = .ok (.iaload, 1) := by decide +kernel
theorem dX0_tiedPairs_19 : decode cX0_tiedPairs 19 = .ok (.invokestatic 90, 3) := by decide +kernel
theorem dX0_tiedPairs_22 : decode cX0_tiedPairs 22 = .ok (.iadd, 1) := by decide +kernel
theorem dX0_tiedPairs_23 : decode cX0_tiedPairs 23 = .ok (.istore_n 1, 1) := by decide +kernel
theorem dX0_tiedPairs_24 : decode cX0_tiedPairs 24 = .ok (.iinc 2 1, 3) := by decide +kernel
theorem dX0_tiedPairs_27 : decode cX0_tiedPairs 27 = .ok (.goto (-23), 3) := by decide +kernel
theorem dX0_tiedPairs_30 : decode cX0_tiedPairs 30 = .ok (.iload_n 1, 1) := by decide +kernel
theorem dX0_tiedPairs_31 : decode cX0_tiedPairs 31 = .ok (.ireturn, 1) := by decide +kernel
set_option maxRecDepth 20000 in
theorem ggX0_force_X0_tiedPairs : GoodIn wsX0_force wsX0_tiedPairs := goodIn_r _ [12, 3, 1, 13, 14, 15, 16, 17, 18, 19, 84, 85, 86, 87, 88, 89, 90, 91, 92, 93, 94, 95] (by decide +kernel) (by decide +kernel)
set_option maxRecDepth 20000 in
theorem gX0_force_X0_tiedPairs : GoodIn wsX0_force (wsV RX0 101 RX0 yX0_tiedPairs wsX0_tiedPairs) := goodIn_app (goodIn_of _ (by decide +kernel)) ggX0_force_X0_tiedPairs
set_option maxRecDepth 20000 in
theorem ggX0_force_X0_forceFrom : GoodIn wsX0_force wsX0_forceFrom := goodIn_r _ [23, 3, 24, 25, 26, 11, 27, 28, 29, 30, 31, 32, 33, 34, 35, 36, 37, 38, 39, 40, 1, 41, 42, 43, 44, 45, 46, 47, 48, 49, 50, 51, 52, 53, 54, 55, 56, 57, 58, 59, 60, 61, 62, 63, 64, 65, 66, 67, 68, 69, 70, 71, 84, 85, 86, 87, 88, 89, 90, 91, 92, 93, 94, 95] (by decide +kernel) (by decide +kernel)
set_option maxRecDepth 20000 in
theorem gX0_force_X0_forceFrom : GoodIn wsX0_force (wsV RX0 104 RX0 yX0_forceFrom wsX0_forceFrom) := goodIn_app (goodIn_of _ (by decide +kernel)) ggX0_force_X0_forceFrom
set_option maxRecDepth 20000 in
theorem ggX0_force_X0_longest : GoodIn wsX0_force wsX0_longest := goodIn_r _ [75, 3, 76, 77, 78, 79, 80, 81, 82, 11, 83, 48, 49, 50, 84, 85, 86, 87, 88, 89, 90, 91, 92, 93, 94, 95] (by decide +kernel) (by decide +kernel)
set_option maxRecDepth 20000 in
theorem gX0_force_X0_longest : GoodIn wsX0_force (wsV RX0 83 RX0 yX0_longest wsX0_longest) := goodIn_app (goodIn_of _ (by decide +kernel)) ggX0_force_X0_longest
set_option maxRecDepth 20000 in
theorem ggX0_force_X0_measure : GoodIn wsX0_force wsX0_measure := goodIn_r _ [67, 3, 48, 50, 68, 69, 70, 11, 71, 49, 55, 56, 57, 58, 59, 1, 41, 42, 43, 84, 85, 86, 87, 88, 89, 90, 91, 92, 93, 94, 95] (by decide +kernel) (by decide +kernel)
set_option maxRecDepth 20000 in
theorem gX0_force_X0_measure : GoodIn wsX0_force (wsV RX0 53 RX0 yX0_measure wsX0_measure) := goodIn_app (goodIn_of _ (by decide +kernel)) ggX0_force_X0_measure
theorem dX0_force_0 : decode cX0_force 0 = .ok (.aload_n 0, 1) := by decide +kernel
theorem dX0_force_1 : decode cX0_force 1 = .ok (.getfield 30, 3) := by decide +kernel
theorem dX0_force_4 : decode cX0_force 4 = .ok (.iconst 0, 1) := by decide +kernel
theorem dX0_force_5 : decode cX0_force 5 = .ok (.aload_n 0, 1) := by decide +kernel
theorem dX0_force_6 : decode cX0_force 6 = .ok (.getfield 39, 3) := by decide +kernel
theorem dX0_force_9 : decode cX0_force 9 = .ok (.iconst 0, 1) := by decide +kernel
theorem dX0_force_10 : decode cX0_force 10 = .ok (.aload_n 0, 1) := by decide +kernel
theorem dX0_force_11 : decode cX0_force 11 = .ok (.getfield 46, 3) := by decide +kernel
theorem dX0_force_14 : decode cX0_force 14 = .ok (.invokestatic 95, 3) := by decide +kernel
theorem dX0_force_17 : decode cX0_force 17 = .ok (.aload_n 0, 1) := by decide +kernel
theorem dX0_force_18 : decode cX0_force 18 = .ok (.invokevirtual 101, 3) := by decide +kernel
theorem dX0_force_21 : decode cX0_force 21 = .ok (.istore_n 2, 1) := by decide +kernel
theorem dX0_force_22 : decode cX0_force 22 = .ok (.iconst (-1), 1) := by decide +kernel
theorem dX0_force_23 : decode cX0_force 23 = .ok (.istore_n 3, 1) := by decide +kernel
theorem dX0_force_24 : decode cX0_force 24 = .ok (.iconst 1, 1) := by decide +kernel
theorem dX0_force_25 : decode cX0_force 25 = .ok (.istore 4, 2) := by decide +kernel
theorem dX0_force_27 : decode cX0_force 27 = .ok (.iconst 0, 1) := by decide +kernel
theorem dX0_force_28 : decode cX0_force 28 = .ok (.istore 5, 2) := by decide +kernel
theorem dX0_force_30 : decode cX0_force 30 = .ok (.iload 5, 2) := by decide +kernel
theorem dX0_force_32 : decode cX0_force 32 = .ok (.sipush 144, 3) := by decide +kernel
theorem dX0_force_35 : decode cX0_force 35 = .ok (.if_icmp .ge 59, 3) := by decide +kernel
theorem dX0_force_38 : decode cX0_force 38 = .ok (.iload 4, 2) := by decide +kernel
theorem dX0_force_40 : decode cX0_force 40 = .ok (.ifCond .eq 54, 3) := by decide +kernel
theorem dX0_force_43 : decode cX0_force 43 = .ok (.iload_n 3, 1) := by decide +kernel
theorem dX0_force_44 : decode cX0_force 44 = .ok (.aload_n 0, 1) := by decide +kernel
theorem dX0_force_45 : decode cX0_force 45 = .ok (.invokevirtual 101, 3) := by decide +kernel
theorem dX0_force_48 : decode cX0_force 48 = .ok (.if_icmp .eq 46, 3) := by decide +kernel
theorem dX0_force_51 : decode cX0_force 51 = .ok (.aload_n 0, 1) := by decide +kernel
theorem dX0_force_52 : decode cX0_force 52 = .ok (.invokevirtual 101, 3) := by decide +kernel
theorem dX0_force_55 : decode cX0_force 55 = .ok (.istore_n 3, 1) := by decide +kernel
theorem dX0_force_56 : decode cX0_force 56 = .ok (.iconst 0, 1) := by decide +kernel
theorem dX0_force_57 : decode cX0_force 57 = .ok (.istore 6, 2) := by decide +kernel
theorem dX0_force_59 : decode cX0_force 59 = .ok (.iload 6, 2) := by decide +kernel
theorem dX0_force_61 : decode cX0_force 61 = .ok (.aload_n 0, 1) := by decide +kernel
theorem dX0_force_62 : decode cX0_force 62 = .ok (.getfield 46, 3) := by decide +kernel
theorem dX0_force_65 : decode cX0_force 65 = .ok (.if_icmp .ge 23, 3) := by decide +kernel
theorem dX0_force_68 : decode cX0_force 68 = .ok (.iload 4, 2) := by decide +kernel
theorem dX0_force_70 : decode cX0_force 70 = .ok (.ifCond .eq 18, 3) := by decide +kernel
theorem dX0_force_73 : decode cX0_force 73 = .ok (.aload_n 0, 1) := by decide +kernel
theorem dX0_force_74 : decode cX0_force 74 = .ok (.iload 6, 2) := by decide +kernel
theorem dX0_force_76 : decode cX0_force 76 = .ok (.iload_n 1, 1) := by decide +kernel
theorem dX0_force_77 : decode cX0_force 77 = .ok (.invokevirtual 104, 3) := by decide +kernel
theorem dX0_force_80 : decode cX0_force 80 = .ok (.istore 4, 2) := by decide +kernel
theorem dX0_force_82 : decode cX0_force 82 = .ok (.iinc 6 1, 3) := by decide +kernel
theorem dX0_force_85 : decode cX0_force 85 = .ok (.goto (-26), 3) := by decide +kernel
theorem dX0_force_88 : decode cX0_force 88 = .ok (.iinc 5 1, 3) := by decide +kernel
theorem dX0_force_91 : decode cX0_force 91 = .ok (.goto (-61), 3) := by decide +kernel
theorem dX0_force_94 : decode cX0_force 94 = .ok (.iload 4, 2) := by decide +kernel
theorem dX0_force_96 : decode cX0_force 96 = .ok (.ifCond .eq 15, 3) := by decide +kernel
theorem dX0_force_99 : decode cX0_force 99 = .ok (.aload_n 0, 1) := by decide +kernel
theorem dX0_force_100 : decode cX0_force 100 = .ok (.invokevirtual 83, 3) := by decide +kernel
theorem dX0_force_103 : decode cX0_force 103 = .ok (.iload_n 1, 1) := by decide +kernel
theorem dX0_force_104 : decode cX0_force 104 = .ok (.if_icmp .ge 7, 3) := by decide +kernel
theorem dX0_force_107 : decode cX0_force 107 = .ok (.iload_n 3, 1) := by decide +kernel
theorem dX0_force_108 : decode cX0_force 108 = .ok (.iload_n 2, 1) := by decide +kernel
theorem dX0_force_109 : decode cX0_force 109 = .ok (.isub, 1) := by decide +kernel
theorem dX0_force_110 : decode cX0_force 110 = .ok (.ireturn, 1) := by decide +kernel
theorem dX0_force_111 : decode cX0_force 111 = .ok (.aload_n 0, 1) := by decide +kernel
theorem dX0_force_112 : decode cX0_force 112 = .ok (.getfield 39, 3) := by decide +kernel
theorem dX0_force_115 : decode cX0_force 115 = .ok (.iconst 0, 1) := by decide +kernel
theorem dX0_force_116 : decode cX0_force 116 = .ok (.aload_n 0, 1) := by decide +kernel
theorem dX0_force_117 : decode cX0_force 117 = .ok (.getfield 30, 3) := by decide +kernel
theorem dX0_force_120 : decode cX0_force 120 = .ok (.iconst 0, 1) := by decide +kernel
theorem dX0_force_121 : decode cX0_force 121 = .ok (.aload_n 0, 1) := by decide +kernel
theorem dX0_force_122 : decode cX0_force 122 = .ok (.getfield 46, 3) := by decide +kernel
theorem dX0_force_125 : decode cX0_force 125 = .ok (.invokestatic 95, 3) := by decide +kernel
theorem dX0_force_128 : decode cX0_force 128 = .ok (.aload_n 0, 1) := by decide +kernel
theorem dX0_force_129 : decode cX0_force 129 = .ok (.invokevirtual 53, 3) := by decide +kernel
theorem dX0_force_132 : decode cX0_force 132 = .ok (.bipush (-5), 2) := by decide +kernel
theorem dX0_force_134 : decode cX0_force 134 = .ok (.ireturn, 1) := by decide +kernel
set_option maxRecDepth 20000 in
theorem ggX0_forceFrom_X0_isPair : GoodIn wsX0_forceFrom wsX0_isPair := goodIn_r _ [6, 7, 8, 9, 10, 5, 11, 1, 52, 53, 54, 55, 56, 57, 58, 59, 60, 61, 62, 63] (by decide +kernel) (by decide +kernel)
set_option maxRecDepth 20000 in
theorem gX0_forceFrom_X0_isPair : GoodIn wsX0_forceFrom (wsV RX0 107 RX0 yX0_isPair wsX0_isPair) := goodIn_app (goodIn_of _ (by decide +kernel)) ggX0_forceFrom_X0_isPair
set_option maxRecDepth 20000 in
theorem ggX0_forceFrom_X0_isTied : GoodIn wsX0_forceFrom wsX0_isTied := goodIn_r _ [15, 16, 17, 18, 5, 19, 20, 21, 22, 23, 52, 53, 54, 55, 56, 57, 58, 59, 60, 61, 62, 63] (by decide +kernel) (by decide +kernel)
set_option maxRecDepth 20000 in
theorem gX0_forceFrom_X0_isTied : GoodIn wsX0_forceFrom (wsV RX0 110 RX0 yX0_isTied wsX0_isTied) := goodIn_app (goodIn_of _ (by decide +kernel)) ggX0_forceFrom_X0_isTied
set_option maxRecDepth 20000 in
theorem ggX0_forceFrom_X0_mustPrecede : GoodIn wsX0_forceFrom wsX0_mustPrecede := goodIn_r _ [27, 28, 29, 30, 52, 53, 54, 55, 56, 57, 58, 59, 60, 61, 62, 63] (by decide +kernel) (by decide +kernel)
set_option maxRecDepth 20000 in
theorem gX0_forceFrom_X0_mustPrecede : GoodIn wsX0_forceFrom (wsV RX0 113 RX0 yX0_mustPrecede wsX0_mustPrecede) := goodIn_app (goodIn_of _ (by decide +kernel)) ggX0_forceFrom_X0_mustPrecede
set_option maxRecDepth 20000 in
theorem ggX0_forceFrom_X0_leads : GoodIn wsX0_forceFrom wsX0_leads := goodIn_r _ [34, 1, 35, 36, 37, 5, 38, 39, 20, 21, 22, 23, 52, 53, 54, 55, 56, 57, 58, 59, 60, 61, 62, 63] (by decide +kernel) (by decide +kernel)
set_option maxRecDepth 20000 in
theorem gX0_forceFrom_X0_leads : GoodIn wsX0_forceFrom (wsV RX0 117 RX0 yX0_leads wsX0_leads) := goodIn_app (goodIn_of _ (by decide +kernel)) ggX0_forceFrom_X0_leads
set_option maxRecDepth 20000 in
theorem ggX0_forceFrom_X0_putArc : GoodIn wsX0_forceFrom wsX0_putArc := goodIn_r _ [43, 20, 44, 45, 46, 5, 47, 1, 28, 30, 48, 49, 50, 51, 29, 35, 36, 37, 38, 39, 21, 22, 23, 52, 53, 54, 55, 56, 57, 58, 59, 60, 61, 62, 63] (by decide +kernel) (by decide +kernel)
set_option maxRecDepth 20000 in
theorem gX0_forceFrom_X0_putArc : GoodIn wsX0_forceFrom (wsV RX0 120 RX0 yX0_putArc wsX0_putArc) := goodIn_app (goodIn_of _ (by decide +kernel)) ggX0_forceFrom_X0_putArc
theorem dX0_forceFrom_0 : decode cX0_forceFrom 0 = .ok (.iconst 0, 1) := by decide +kernel
theorem dX0_forceFrom_1 : decode cX0_forceFrom 1 = .ok (.istore_n 3, 1) := by decide +kernel
theorem dX0_forceFrom_2 : decode cX0_forceFrom 2 = .ok (.iload_n 3, 1) := by decide +kernel
theorem dX0_forceFrom_3 : decode cX0_forceFrom 3 = .ok (.aload_n 0, 1) := by decide +kernel
theorem dX0_forceFrom_4 : decode cX0_forceFrom 4 = .ok (.getfield 46, 3) := by decide +kernel
theorem dX0_forceFrom_7 : decode cX0_forceFrom 7 = .ok (.if_icmp .ge 64, 3) := by decide +kernel
theorem dX0_forceFrom_10 : decode cX0_forceFrom 10 = .ok (.aload_n 0, 1) := by decide +kernel
theorem dX0_forceFrom_11 : decode cX0_forceFrom 11 = .ok (.iload_n 1, 1) := by decide +kernel
theorem dX0_forceFrom_12 : decode cX0_forceFrom 12 = .ok (.iload_n 3, 1) := by decide +kernel
theorem dX0_forceFrom_13 : decode cX0_forceFrom 13 = .ok (.invokevirtual 107, 3) := by decide +kernel
theorem dX0_forceFrom_16 : decode cX0_forceFrom 16 = .ok (.ifCond .eq 49, 3) := by decide +kernel
theorem dX0_forceFrom_19 : decode cX0_forceFrom 19 = .ok (.aload_n 0, 1) := by decide +kernel
theorem dX0_forceFrom_20 : decode cX0_forceFrom 20 = .ok (.iload_n 1, 1) := by decide +kernel
theorem dX0_forceFrom_21 : decode cX0_forceFrom 21 = .ok (.iload_n 3, 1) := by decide +kernel
theorem dX0_forceFrom_22 : decode cX0_forceFrom 22 = .ok (.invokevirtual 110, 3) := by decide +kernel
theorem dX0_forceFrom_25 : decode cX0_forceFrom 25 = .ok (.ifCond .ne 40, 3) := by decide +kernel
theorem dX0_forceFrom_28 : decode cX0_forceFrom 28 = .ok (.aload_n 0, 1) := by decide +kernel
theorem dX0_forceFrom_29 : decode cX0_forceFrom 29 = .ok (.iload_n 1, 1) := by decide +kernel
theorem dX0_forceFrom_30 : decode cX0_forceFrom 30 = .ok (.iload_n 3, 1) := by decide +kernel
theorem dX0_forceFrom_31 : decode cX0_forceFrom 31 = .ok (.iload_n 2, 1) := by decide +kernel
theorem dX0_forceFrom_32 : decode cX0_forceFrom 32 = .ok (.invokevirtual 113, 3) := by decide +kernel
theorem dX0_forceFrom_35 : decode cX0_forceFrom 35 = .ok (.ifCond .eq 30, 3) := by decide +kernel
theorem dX0_forceFrom_38 : decode cX0_forceFrom 38 = .ok (.aload_n 0, 1) := by decide +kernel
theorem dX0_forceFrom_39 : decode cX0_forceFrom 39 = .ok (.iload_n 3, 1) := by decide +kernel
theorem dX0_forceFrom_40 : decode cX0_forceFrom 40 = .ok (.iload_n 1, 1) := by decide +kernel
theorem dX0_forceFrom_41 : decode cX0_forceFrom 41 = .ok (.iload_n 2, 1) := by decide +kernel
theorem dX0_forceFrom_42 : decode cX0_forceFrom 42 = .ok (.invokevirtual 113, 3) := by decide +kernel
theorem dX0_forceFrom_45 : decode cX0_forceFrom 45 = .ok (.ifCond .ne 12, 3) := by decide +kernel
theorem dX0_forceFrom_48 : decode cX0_forceFrom 48 = .ok (.aload_n 0, 1) := by decide +kernel
theorem dX0_forceFrom_49 : decode cX0_forceFrom 49 = .ok (.iload_n 3, 1) := by decide +kernel
theorem dX0_forceFrom_50 : decode cX0_forceFrom 50 = .ok (.iload_n 1, 1) := by decide +kernel
theorem dX0_forceFrom_51 : decode cX0_forceFrom 51 = .ok (.invokevirtual 117, 3) := by decide +kernel
theorem dX0_forceFrom_54 : decode cX0_forceFrom 54 = .ok (.ifCond .eq 5, 3) := by decide +kernel
theorem dX0_forceFrom_57 : decode cX0_forceFrom 57 = .ok (.iconst 0, 1) := by decide +kernel
theorem dX0_forceFrom_58 : decode cX0_forceFrom 58 = .ok (.ireturn, 1) := by decide +kernel
theorem dX0_forceFrom_59 : decode cX0_forceFrom 59 = .ok (.aload_n 0, 1) := by decide +kernel
theorem dX0_forceFrom_60 : decode cX0_forceFrom 60 = .ok (.iload_n 1, 1) := by decide +kernel
theorem dX0_forceFrom_61 : decode cX0_forceFrom 61 = .ok (.iload_n 3, 1) := by decide +kernel
theorem dX0_forceFrom_62 : decode cX0_forceFrom 62 = .ok (.invokevirtual 120, 3) := by decide +kernel
theorem dX0_forceFrom_65 : decode cX0_forceFrom 65 = .ok (.iinc 3 1, 3) := by decide +kernel
theorem dX0_forceFrom_68 : decode cX0_forceFrom 68 = .ok (.goto (-66), 3) := by decide +kernel
theorem dX0_forceFrom_71 : decode cX0_forceFrom 71 = .ok (.iconst 1, 1) := by decide +kernel
theorem dX0_forceFrom_72 : decode cX0_forceFrom 72 = .ok (.ireturn, 1) := by decide +kernel
theorem dX0_mustPrecede_0 : decode cX0_mustPrecede 0 = .ok (.aload_n 0, 1) := by decide +kernel
theorem dX0_mustPrecede_1 : decode cX0_mustPrecede 1 = .ok (.getfield 33, 3) := by decide +kernel
theorem dX0_mustPrecede_4 : decode cX0_mustPrecede 4 = .ok (.iload_n 2, 1) := by decide +kernel
theorem dX0_mustPrecede_5 : decode cX0_mustPrecede 5 = .ok (.iaload, 1) := by decide +kernel
theorem dX0_mustPrecede_6 : decode cX0_mustPrecede 6 = .ok (.aload_n 0, 1) := by decide +kernel
theorem dX0_mustPrecede_7 : decode cX0_mustPrecede 7 = .ok (.getfield 24, 3) := by decide +kernel
theorem dX0_mustPrecede_10 : decode cX0_mustPrecede 10 = .ok (.iload_n 2, 1) := by decide +kernel
theorem dX0_mustPrecede_11 : decode cX0_mustPrecede 11 = .ok (.iaload, 1) := by decide +kernel
theorem dX0_mustPrecede_12 : decode cX0_mustPrecede 12 = .ok (.iadd, 1) := by decide +kernel
theorem dX0_mustPrecede_13 : decode cX0_mustPrecede 13 = .ok (.aload_n 0, 1) := by decide +kernel
theorem dX0_mustPrecede_14 : decode cX0_mustPrecede 14 = .ok (.getfield 24, 3) := by decide +kernel
theorem dX0_mustPrecede_17 : decode cX0_mustPrecede 17 = .ok (.iload_n 1, 1) := by decide +kernel
theorem dX0_mustPrecede_18 : decode cX0_mustPrecede 18 = .ok (.iaload, 1) := by decide +kernel
theorem dX0_mustPrecede_19 : decode cX0_mustPrecede 19 = .ok (.iadd, 1) := by decide +kernel
theorem dX0_mustPrecede_20 : decode cX0_mustPrecede 20 = .ok (.aload_n 0, 1) := by decide +kernel
theorem dX0_mustPrecede_21 : decode cX0_mustPrecede 21 = .ok (.getfield 36, 3) := by decide +kernel
theorem dX0_mustPrecede_24 : decode cX0_mustPrecede 24 = .ok (.iload_n 1, 1) := by decide +kernel
theorem dX0_mustPrecede_25 : decode cX0_mustPrecede 25 = .ok (.iaload, 1) := by decide +kernel
theorem dX0_mustPrecede_26 : decode cX0_mustPrecede 26 = .ok (.iadd, 1) := by decide +kernel
theorem dX0_mustPrecede_27 : decode cX0_mustPrecede 27 = .ok (.iload_n 3, 1) := by decide +kernel
theorem dX0_mustPrecede_28 : decode cX0_mustPrecede 28 = .ok (.if_icmp .lt 7, 3) := by decide +kernel
theorem dX0_mustPrecede_31 : decode cX0_mustPrecede 31 = .ok (.iconst 1, 1) := by decide +kernel
theorem dX0_mustPrecede_32 : decode cX0_mustPrecede 32 = .ok (.goto 4, 3) := by decide +kernel
theorem dX0_mustPrecede_35 : decode cX0_mustPrecede 35 = .ok (.iconst 0, 1) := by decide +kernel
theorem dX0_mustPrecede_36 : decode cX0_mustPrecede 36 = .ok (.ireturn, 1) := by decide +kernel
theorem dJ6_bitCount_0f7a4_0 : decode cJ6_bitCount_0f7a4 0 = .ok (.iload_n 0, 1) := by decide +kernel
theorem dJ6_bitCount_0f7a4_1 : decode cJ6_bitCount_0f7a4 1 = .ok (.iload_n 0, 1) := by decide +kernel
theorem dJ6_bitCount_0f7a4_2 : decode cJ6_bitCount_0f7a4 2 = .ok (.iconst 1, 1) := by decide +kernel
theorem dJ6_bitCount_0f7a4_3 : decode cJ6_bitCount_0f7a4 3 = .ok (.iushr, 1) := by decide +kernel
theorem dJ6_bitCount_0f7a4_4 : decode cJ6_bitCount_0f7a4 4 = .ok (.ldc_w 265, 3) := by decide +kernel
theorem dJ6_bitCount_0f7a4_7 : decode cJ6_bitCount_0f7a4 7 = .ok (.iand, 1) := by decide +kernel
theorem dJ6_bitCount_0f7a4_8 : decode cJ6_bitCount_0f7a4 8 = .ok (.isub, 1) := by decide +kernel
theorem dJ6_bitCount_0f7a4_9 : decode cJ6_bitCount_0f7a4 9 = .ok (.istore_n 0, 1) := by decide +kernel
theorem dJ6_bitCount_0f7a4_10 : decode cJ6_bitCount_0f7a4 10 = .ok (.iload_n 0, 1) := by decide +kernel
theorem dJ6_bitCount_0f7a4_11 : decode cJ6_bitCount_0f7a4 11 = .ok (.ldc_w 266, 3) := by decide +kernel
theorem dJ6_bitCount_0f7a4_14 : decode cJ6_bitCount_0f7a4 14 = .ok (.iand, 1) := by decide +kernel
theorem dJ6_bitCount_0f7a4_15 : decode cJ6_bitCount_0f7a4 15 = .ok (.iload_n 0, 1) := by decide +kernel
theorem dJ6_bitCount_0f7a4_16 : decode cJ6_bitCount_0f7a4 16 = .ok (.iconst 2, 1) := by decide +kernel
theorem dJ6_bitCount_0f7a4_17 : decode cJ6_bitCount_0f7a4 17 = .ok (.iushr, 1) := by decide +kernel
theorem dJ6_bitCount_0f7a4_18 : decode cJ6_bitCount_0f7a4 18 = .ok (.ldc_w 266, 3) := by decide +kernel
theorem dJ6_bitCount_0f7a4_21 : decode cJ6_bitCount_0f7a4 21 = .ok (.iand, 1) := by decide +kernel
theorem dJ6_bitCount_0f7a4_22 : decode cJ6_bitCount_0f7a4 22 = .ok (.iadd, 1) := by decide +kernel
theorem dJ6_bitCount_0f7a4_23 : decode cJ6_bitCount_0f7a4 23 = .ok (.istore_n 0, 1) := by decide +kernel
theorem dJ6_bitCount_0f7a4_24 : decode cJ6_bitCount_0f7a4 24 = .ok (.iload_n 0, 1) := by decide +kernel
theorem dJ6_bitCount_0f7a4_25 : decode cJ6_bitCount_0f7a4 25 = .ok (.iload_n 0, 1) := by decide +kernel
theorem dJ6_bitCount_0f7a4_26 : decode cJ6_bitCount_0f7a4 26 = .ok (.iconst 4, 1) := by decide +kernel
theorem dJ6_bitCount_0f7a4_27 : decode cJ6_bitCount_0f7a4 27 = .ok (.iushr, 1) := by decide +kernel
theorem dJ6_bitCount_0f7a4_28 : decode cJ6_bitCount_0f7a4 28 = .ok (.iadd, 1) := by decide +kernel
theorem dJ6_bitCount_0f7a4_29 : decode cJ6_bitCount_0f7a4 29 = .ok (.ldc_w 267, 3) := by decide +kernel
theorem dJ6_bitCount_0f7a4_32 : decode cJ6_bitCount_0f7a4 32 = .ok (.iand, 1) := by decide +kernel
theorem dJ6_bitCount_0f7a4_33 : decode cJ6_bitCount_0f7a4 33 = .ok (.istore_n 0, 1) := by decide +kernel
theorem dJ6_bitCount_0f7a4_34 : decode cJ6_bitCount_0f7a4 34 = .ok (.iload_n 0, 1) := by decide +kernel
theorem dJ6_bitCount_0f7a4_35 : decode cJ6_bitCount_0f7a4 35 = .ok (.iload_n 0, 1) := by decide +kernel
theorem dJ6_bitCount_0f7a4_36 : decode cJ6_bitCount_0f7a4 36 = .ok (.bipush 8, 2) := by decide +kernel
theorem dJ6_bitCount_0f7a4_38 : decode cJ6_bitCount_0f7a4 38 = .ok (.iushr, 1) := by decide +kernel
theorem dJ6_bitCount_0f7a4_39 : decode cJ6_bitCount_0f7a4 39 = .ok (.iadd, 1) := by decide +kernel
theorem dJ6_bitCount_0f7a4_40 : decode cJ6_bitCount_0f7a4 40 = .ok (.istore_n 0, 1) := by decide +kernel
theorem dJ6_bitCount_0f7a4_41 : decode cJ6_bitCount_0f7a4 41 = .ok (.iload_n 0, 1) := by decide +kernel
theorem dJ6_bitCount_0f7a4_42 : decode cJ6_bitCount_0f7a4 42 = .ok (.iload_n 0, 1) := by decide +kernel
theorem dJ6_bitCount_0f7a4_43 : decode cJ6_bitCount_0f7a4 43 = .ok (.bipush 16, 2) := by decide +kernel
theorem dJ6_bitCount_0f7a4_45 : decode cJ6_bitCount_0f7a4 45 = .ok (.iushr, 1) := by decide +kernel
theorem dJ6_bitCount_0f7a4_46 : decode cJ6_bitCount_0f7a4 46 = .ok (.iadd, 1) := by decide +kernel
theorem dJ6_bitCount_0f7a4_47 : decode cJ6_bitCount_0f7a4 47 = .ok (.istore_n 0, 1) := by decide +kernel
theorem dJ6_bitCount_0f7a4_48 : decode cJ6_bitCount_0f7a4 48 = .ok (.iload_n 0, 1) := by decide +kernel
theorem dJ6_bitCount_0f7a4_49 : decode cJ6_bitCount_0f7a4 49 = .ok (.bipush 63, 2) := by decide +kernel
theorem dJ6_bitCount_0f7a4_51 : decode cJ6_bitCount_0f7a4 51 = .ok (.iand, 1) := by decide +kernel
theorem dJ6_bitCount_0f7a4_52 : decode cJ6_bitCount_0f7a4 52 = .ok (.ireturn, 1) := by decide +kernel
theorem dJ9_max_7cf53_0 : decode cJ9_max_7cf53 0 = .ok (.iload_n 0, 1) := by decide +kernel
theorem dJ9_max_7cf53_1 : decode cJ9_max_7cf53 1 = .ok (.iload_n 1, 1) := by decide +kernel
theorem dJ9_max_7cf53_2 : decode cJ9_max_7cf53 2 = .ok (.if_icmp .lt 7, 3) := by decide +kernel
theorem dJ9_max_7cf53_5 : decode cJ9_max_7cf53 5 = .ok (.iload_n 0, 1) := by decide +kernel
theorem dJ9_max_7cf53_6 : decode cJ9_max_7cf53 6 = .ok (.goto 4, 3) := by decide +kernel
theorem dJ9_max_7cf53_9 : decode cJ9_max_7cf53 9 = .ok (.iload_n 1, 1) := by decide +kernel
theorem dJ9_max_7cf53_10 : decode cJ9_max_7cf53 10 = .ok (.ireturn, 1) := by decide +kernel
