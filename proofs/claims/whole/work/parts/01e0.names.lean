theorem dX3_init_0 : decode cX3_init 0 = .ok (.aload_n 0, 1) := by decide +kernel
theorem dX3_init_1 : decode cX3_init 1 = .ok (.invokespecial 1, 3) := by decide +kernel
theorem dX3_init_4 : decode cX3_init 4 = .ok (.aload_n 0, 1) := by decide +kernel
theorem dX3_init_5 : decode cX3_init 5 = .ok (.bipush 12, 2) := by decide +kernel
theorem dX3_init_7 : decode cX3_init 7 = .ok (.newarray .int, 2) := by decide +kernel
theorem dX3_init_9 : decode cX3_init 9 = .ok (.putfield 7, 3) := by decide +kernel
theorem dX3_init_12 : decode cX3_init 12 = .ok (.aload_n 0, 1) := by decide +kernel
theorem dX3_init_13 : decode cX3_init 13 = .ok (.bipush 12, 2) := by decide +kernel
theorem dX3_init_15 : decode cX3_init 15 = .ok (.newarray .int, 2) := by decide +kernel
theorem dX3_init_17 : decode cX3_init 17 = .ok (.putfield 13, 3) := by decide +kernel
theorem dX3_init_20 : decode cX3_init 20 = .ok (.aload_n 0, 1) := by decide +kernel
theorem dX3_init_21 : decode cX3_init 21 = .ok (.bipush 12, 2) := by decide +kernel
theorem dX3_init_23 : decode cX3_init 23 = .ok (.newarray .int, 2) := by decide +kernel
theorem dX3_init_25 : decode cX3_init 25 = .ok (.putfield 16, 3) := by decide +kernel
theorem dX3_init_28 : decode cX3_init 28 = .ok (.aload_n 0, 1) := by decide +kernel
theorem dX3_init_29 : decode cX3_init 29 = .ok (.sipush 144, 3) := by decide +kernel
theorem dX3_init_32 : decode cX3_init 32 = .ok (.newarray .boolean, 2) := by decide +kernel
theorem dX3_init_34 : decode cX3_init 34 = .ok (.putfield 19, 3) := by decide +kernel
theorem dX3_init_37 : decode cX3_init 37 = .ok (.aload_n 0, 1) := by decide +kernel
theorem dX3_init_38 : decode cX3_init 38 = .ok (.bipush 12, 2) := by decide +kernel
theorem dX3_init_40 : decode cX3_init 40 = .ok (.newarray .int, 2) := by decide +kernel
theorem dX3_init_42 : decode cX3_init 42 = .ok (.putfield 23, 3) := by decide +kernel
theorem dX3_init_45 : decode cX3_init 45 = .ok (.aload_n 0, 1) := by decide +kernel
theorem dX3_init_46 : decode cX3_init 46 = .ok (.bipush 12, 2) := by decide +kernel
theorem dX3_init_48 : decode cX3_init 48 = .ok (.newarray .int, 2) := by decide +kernel
theorem dX3_init_50 : decode cX3_init 50 = .ok (.putfield 26, 3) := by decide +kernel
theorem dX3_init_53 : decode cX3_init 53 = .ok (.aload_n 0, 1) := by decide +kernel
theorem dX3_init_54 : decode cX3_init 54 = .ok (.bipush 12, 2) := by decide +kernel
theorem dX3_init_56 : decode cX3_init 56 = .ok (.newarray .int, 2) := by decide +kernel
theorem dX3_init_58 : decode cX3_init 58 = .ok (.putfield 29, 3) := by decide +kernel
theorem dX3_init_61 : decode cX3_init 61 = .ok (.aload_n 0, 1) := by decide +kernel
theorem dX3_init_62 : decode cX3_init 62 = .ok (.bipush 12, 2) := by decide +kernel
theorem dX3_init_64 : decode cX3_init 64 = .ok (.newarray .int, 2) := by decide +kernel
theorem dX3_init_66 : decode cX3_init 66 = .ok (.putfield 32, 3) := by decide +kernel
theorem dX3_init_69 : decode cX3_init 69 = .ok (.aload_n 0, 1) := by decide +kernel
theorem dX3_init_70 : decode cX3_init 70 = .ok (.sipush 144, 3) := by decide +kernel
theorem dX3_init_73 : decode cX3_init 73 = .ok (.newarray .boolean, 2) := by decide +kernel
theorem dX3_init_75 : decode cX3_init 75 = .ok (.putfield 35, 3) := by decide +kernel
theorem dX3_init_78 : decode cX3_init 78 = .ok (.aload_n 0, 1) := by decide +kernel
theorem dX3_init_79 : decode cX3_init 79 = .ok (.bipush 16, 2) := by decide +kernel
theorem dX3_init_81 : decode cX3_init 81 = .ok (.newarray .int, 2) := by decide +kernel
theorem dX3_init_83 : decode cX3_init 83 = .ok (.putfield 38, 3) := by decide +kernel
theorem dX3_init_86 : decode cX3_init 86 = .ok (.aload_n 0, 1) := by decide +kernel
theorem dX3_init_87 : decode cX3_init 87 = .ok (.iconst 4, 1) := by decide +kernel
theorem dX3_init_88 : decode cX3_init 88 = .ok (.newarray .int, 2) := by decide +kernel
theorem dX3_init_90 : decode cX3_init 90 = .ok (.putfield 41, 3) := by decide +kernel
theorem dX3_init_93 : decode cX3_init 93 = .ok (.aload_n 0, 1) := by decide +kernel
theorem dX3_init_94 : decode cX3_init 94 = .ok (.iconst (-1), 1) := by decide +kernel
theorem dX3_init_95 : decode cX3_init 95 = .ok (.putfield 44, 3) := by decide +kernel
theorem dX3_init_98 : decode cX3_init 98 = .ok (.return_, 1) := by decide +kernel
theorem dX3_in_0 : decode cX3_in 0 = .ok (.iload_n 0, 1) := by decide +kernel
theorem dX3_in_1 : decode cX3_in 1 = .ok (.iload_n 1, 1) := by decide +kernel
theorem dX3_in_2 : decode cX3_in 2 = .ok (.if_icmp .lt 12, 3) := by decide +kernel
theorem dX3_in_5 : decode cX3_in 5 = .ok (.iload_n 0, 1) := by decide +kernel
theorem dX3_in_6 : decode cX3_in 6 = .ok (.iload_n 2, 1) := by decide +kernel
theorem dX3_in_7 : decode cX3_in 7 = .ok (.if_icmp .gt 7, 3) := by decide +kernel
theorem dX3_in_10 : decode cX3_in 10 = .ok (.iconst 1, 1) := by decide +kernel
theorem dX3_in_11 : decode cX3_in 11 = .ok (.goto 4, 3) := by decide +kernel
theorem dX3_in_14 : decode cX3_in 14 = .ok (.iconst 0, 1) := by decide +kernel
theorem dX3_in_15 : decode cX3_in 15 = .ok (.ireturn, 1) := by decide +kernel
set_option maxRecDepth 20000 in
theorem ggX3_isOperation_X3_in : GoodIn wsX3_isOperation wsX3_in := goodIn_r _ [5] (by decide +kernel) (by decide +kernel)
set_option maxRecDepth 20000 in
theorem gX3_isOperation_X3_in : GoodIn wsX3_isOperation (va_wsS RX3 51 yX3_in wsX3_in) := goodIn_app (goodIn_of _ (by decide +kernel)) ggX3_isOperation_X3_in
theorem dX3_isOperation_0 : decode cX3_isOperation 0 = .ok (.iload_n 1, 1) := by decide +kernel
theorem dX3_isOperation_1 : decode cX3_isOperation 1 = .ok (.iconst 0, 1) := by decide +kernel
theorem dX3_isOperation_2 : decode cX3_isOperation 2 = .ok (.aload_n 0, 1) := by decide +kernel
theorem dX3_isOperation_3 : decode cX3_isOperation 3 = .ok (.getfield 48, 3) := by decide +kernel
theorem dX3_isOperation_6 : decode cX3_isOperation 6 = .ok (.iconst 1, 1) := by decide +kernel
theorem dX3_isOperation_7 : decode cX3_isOperation 7 = .ok (.isub, 1) := by decide +kernel
theorem dX3_isOperation_8 : decode cX3_isOperation 8 = .ok (.invokestatic 51, 3) := by decide +kernel
theorem dX3_isOperation_11 : decode cX3_isOperation 11 = .ok (.ireturn, 1) := by decide +kernel
set_option maxRecDepth 20000 in
theorem ggX3_isPair_X3_isOperation : GoodIn wsX3_isPair wsX3_isOperation := goodIn_r _ [6, 7, 8, 9, 5, 10, 11, 12, 13, 14, 15, 16, 17, 18, 19, 20, 21, 22, 23, 24, 25, 26] (by decide +kernel) (by decide +kernel)
set_option maxRecDepth 20000 in
theorem gX3_isPair_X3_isOperation : GoodIn wsX3_isPair (wsV RX3 55 RX3 yX3_isOperation wsX3_isOperation) := goodIn_app (goodIn_of _ (by decide +kernel)) ggX3_isPair_X3_isOperation
theorem dX3_isPair_0 : decode cX3_isPair 0 = .ok (.aload_n 0, 1) := by decide +kernel
theorem dX3_isPair_1 : decode cX3_isPair 1 = .ok (.iload_n 1, 1) := by decide +kernel
theorem dX3_isPair_2 : decode cX3_isPair 2 = .ok (.invokevirtual 55, 3) := by decide +kernel
theorem dX3_isPair_5 : decode cX3_isPair 5 = .ok (.ifCond .eq 35, 3) := by decide +kernel
theorem dX3_isPair_8 : decode cX3_isPair 8 = .ok (.aload_n 0, 1) := by decide +kernel
theorem dX3_isPair_9 : decode cX3_isPair 9 = .ok (.iload_n 2, 1) := by decide +kernel
theorem dX3_isPair_10 : decode cX3_isPair 10 = .ok (.invokevirtual 55, 3) := by decide +kernel
theorem dX3_isPair_13 : decode cX3_isPair 13 = .ok (.ifCond .eq 27, 3) := by decide +kernel
theorem dX3_isPair_16 : decode cX3_isPair 16 = .ok (.iload_n 1, 1) := by decide +kernel
theorem dX3_isPair_17 : decode cX3_isPair 17 = .ok (.iload_n 2, 1) := by decide +kernel
theorem dX3_isPair_18 : decode cX3_isPair 18 = .ok (.if_icmp .eq 22, 3) := by decide +kernel
theorem dX3_isPair_21 : decode cX3_isPair 21 = .ok (.aload_n 0, 1) := by decide +kernel
theorem dX3_isPair_22 : decode cX3_isPair 22 = .ok (.getfield 13, 3) := by decide +kernel
theorem dX3_isPair_25 : decode cX3_isPair 25 = .ok (.iload_n 1, 1) := by decide +kernel
theorem dX3_isPair_26 : decode cX3_isPair 26 = .ok (.iaload, 1) := by decide +kernel
theorem dX3_isPair_27 : decode cX3_isPair 27 = .ok (.aload_n 0, 1) := by decide +kernel
theorem dX3_isPair_28 : decode cX3_isPair 28 = .ok (.getfield 13, 3) := by decide +kernel
theorem dX3_isPair_31 : decode cX3_isPair 31 = .ok (.iload_n 2, 1) := by decide +kernel
theorem dX3_isPair_32 : decode cX3_isPair 32 = .ok (.iaload, 1) := by decide +kernel
theorem dX3_isPair_33 : decode cX3_isPair 33 = .ok (.if_icmp .ne 7, 3) := by decide +kernel
theorem dX3_isPair_36 : decode cX3_isPair 36 = .ok (.iconst 1, 1) := by decide +kernel
theorem dX3_isPair_37 : decode cX3_isPair 37 = .ok (.goto 4, 3) := by decide +kernel
theorem dX3_isPair_40 : decode cX3_isPair 40 = .ok (.iconst 0, 1) := by decide +kernel
theorem dX3_isPair_41 : decode cX3_isPair 41 = .ok (.ireturn, 1) := by decide +kernel
theorem dX3_forget_0 : decode cX3_forget 0 = .ok (.aload_n 0, 1) := by decide +kernel
theorem dX3_forget_1 : decode cX3_forget 1 = .ok (.iconst 0, 1) := by decide +kernel
theorem dX3_forget_2 : decode cX3_forget 2 = .ok (.putfield 59, 3) := by decide +kernel
theorem dX3_forget_5 : decode cX3_forget 5 = .ok (.return_, 1) := by decide +kernel
set_option maxRecDepth 20000 in
theorem ggX3_clear_X3_forget : GoodIn wsX3_clear wsX3_forget := goodIn_r _ [9, 10, 11, 12, 13, 14, 15, 16, 17, 18, 19, 20, 21, 22, 23, 24, 25, 26] (by decide +kernel) (by decide +kernel)
set_option maxRecDepth 20000 in
theorem gX3_clear_X3_forget : GoodIn wsX3_clear (wsV RX3 66 RX3 yX3_forget wsX3_forget) := goodIn_app (goodIn_of _ (by decide +kernel)) ggX3_clear_X3_forget
theorem dX3_clear_0 : decode cX3_clear 0 = .ok (.aload_n 0, 1) := by decide +kernel
theorem dX3_clear_1 : decode cX3_clear 1 = .ok (.getfield 48, 3) := by decide +kernel
theorem dX3_clear_4 : decode cX3_clear 4 = .ok (.istore_n 1, 1) := by decide +kernel
theorem dX3_clear_5 : decode cX3_clear 5 = .ok (.aload_n 0, 1) := by decide +kernel
theorem dX3_clear_6 : decode cX3_clear 6 = .ok (.iconst 0, 1) := by decide +kernel
theorem dX3_clear_7 : decode cX3_clear 7 = .ok (.putfield 63, 3) := by decide +kernel
theorem dX3_clear_10 : decode cX3_clear 10 = .ok (.aload_n 0, 1) := by decide +kernel
theorem dX3_clear_11 : decode cX3_clear 11 = .ok (.iconst 0, 1) := by decide +kernel
theorem dX3_clear_12 : decode cX3_clear 12 = .ok (.putfield 48, 3) := by decide +kernel
theorem dX3_clear_15 : decode cX3_clear 15 = .ok (.iconst 0, 1) := by decide +kernel
theorem dX3_clear_16 : decode cX3_clear 16 = .ok (.istore_n 2, 1) := by decide +kernel
theorem dX3_clear_17 : decode cX3_clear 17 = .ok (.iload_n 2, 1) := by decide +kernel
theorem dX3_clear_18 : decode cX3_clear 18 = .ok (.sipush 144, 3) := by decide +kernel
theorem dX3_clear_21 : decode cX3_clear 21 = .ok (.if_icmp .ge 16, 3) := by decide +kernel
theorem dX3_clear_24 : decode cX3_clear 24 = .ok (.aload_n 0, 1) := by decide +kernel
theorem dX3_clear_25 : decode cX3_clear 25 = .ok (.getfield 19, 3) := by decide +kernel
theorem dX3_clear_28 : decode cX3_clear 28 = .ok (.iload_n 2, 1) := by decide +kernel
theorem dX3_clear_29 : decode cX3_clear 29 = .ok (.iconst 0, 1) := by decide +kernel
theorem dX3_clear_30 : decode cX3_clear 30 = .ok (.bastore, 1) := by decide +kernel
theorem dX3_clear_31 : decode cX3_clear 31 = .ok (.iinc 2 1, 3) := by decide +kernel
theorem dX3_clear_34 : decode cX3_clear 34 = .ok (.goto (-17), 3) := by decide +kernel
theorem dX3_clear_37 : decode cX3_clear 37 = .ok (.iconst 0, 1) := by decide +kernel
theorem dX3_clear_38 : decode cX3_clear 38 = .ok (.istore_n 2, 1) := by decide +kernel
theorem dX3_clear_39 : decode cX3_clear 39 = .ok (.iload_n 2, 1) := by decide +kernel
theorem dX3_clear_40 : decode cX3_clear 40 = .ok (.bipush 12, 2) := by decide +kernel
theorem dX3_clear_42 : decode cX3_clear 42 = .ok (.if_icmp .ge 16, 3) := by decide +kernel
theorem dX3_clear_45 : decode cX3_clear 45 = .ok (.aload_n 0, 1) := by decide +kernel
theorem dX3_clear_46 : decode cX3_clear 46 = .ok (.getfield 23, 3) := by decide +kernel
theorem dX3_clear_49 : decode cX3_clear 49 = .ok (.iload_n 2, 1) := by decide +kernel
theorem dX3_clear_50 : decode cX3_clear 50 = .ok (.iconst 0, 1) := by decide +kernel
theorem dX3_clear_51 : decode cX3_clear 51 = .ok (.iastore, 1) := by decide +kernel
theorem dX3_clear_52 : decode cX3_clear 52 = .ok (.iinc 2 1, 3) := by decide +kernel
theorem dX3_clear_55 : decode cX3_clear 55 = .ok (.goto (-16), 3) := by decide +kernel
theorem dX3_clear_58 : decode cX3_clear 58 = .ok (.aload_n 0, 1) := by decide +kernel
theorem dX3_clear_59 : decode cX3_clear 59 = .ok (.invokevirtual 66, 3) := by decide +kernel
theorem dX3_clear_62 : decode cX3_clear 62 = .ok (.iload_n 1, 1) := by decide +kernel
theorem dX3_clear_63 : decode cX3_clear 63 = .ok (.ireturn, 1) := by decide +kernel
theorem dX3_job_0 : decode cX3_job 0 = .ok (.aload_n 0, 1) := by decide +kernel
theorem dX3_job_1 : decode cX3_job 1 = .ok (.getfield 63, 3) := by decide +kernel
theorem dX3_job_4 : decode cX3_job 4 = .ok (.iconst 4, 1) := by decide +kernel
theorem dX3_job_5 : decode cX3_job 5 = .ok (.if_icmp .ne 6, 3) := by decide +kernel
theorem dX3_job_8 : decode cX3_job 8 = .ok (.bipush (-3), 2) := by decide +kernel
theorem dX3_job_10 : decode cX3_job 10 = .ok (.ireturn, 1) := by decide +kernel
theorem dX3_job_11 : decode cX3_job 11 = .ok (.aload_n 0, 1) := by decide +kernel
theorem dX3_job_12 : decode cX3_job 12 = .ok (.dup, 1) := by decide +kernel
theorem dX3_job_13 : decode cX3_job 13 = .ok (.getfield 63, 3) := by decide +kernel
theorem dX3_job_16 : decode cX3_job 16 = .ok (.iconst 1, 1) := by decide +kernel
theorem dX3_job_17 : decode cX3_job 17 = .ok (.iadd, 1) := by decide +kernel
theorem dX3_job_18 : decode cX3_job 18 = .ok (.putfield 63, 3) := by decide +kernel
theorem dX3_job_21 : decode cX3_job 21 = .ok (.aload_n 0, 1) := by decide +kernel
theorem dX3_job_22 : decode cX3_job 22 = .ok (.getfield 63, 3) := by decide +kernel
theorem dX3_job_25 : decode cX3_job 25 = .ok (.iconst 1, 1) := by decide +kernel
theorem dX3_job_26 : decode cX3_job 26 = .ok (.isub, 1) := by decide +kernel
theorem dX3_job_27 : decode cX3_job 27 = .ok (.ireturn, 1) := by decide +kernel
set_option maxRecDepth 20000 in
theorem ggX3_operation_X3_in : GoodIn wsX3_operation wsX3_in := goodIn_r _ [10] (by decide +kernel) (by decide +kernel)
set_option maxRecDepth 20000 in
theorem gX3_operation_X3_in : GoodIn wsX3_operation (va_wsS RX3 51 yX3_in wsX3_in) := goodIn_app (goodIn_of _ (by decide +kernel)) ggX3_operation_X3_in
set_option maxRecDepth 20000 in
theorem ggX3_operation_X3_forget : GoodIn wsX3_operation wsX3_forget := goodIn_r _ [14, 15, 16, 17, 18, 19, 20, 21, 22, 23, 24, 25, 26, 27, 28, 29, 30, 31] (by decide +kernel) (by decide +kernel)
set_option maxRecDepth 20000 in
theorem gX3_operation_X3_forget : GoodIn wsX3_operation (wsV RX3 66 RX3 yX3_forget wsX3_forget) := goodIn_app (goodIn_of _ (by decide +kernel)) ggX3_operation_X3_forget
theorem dX3_operation_0 : decode cX3_operation 0 = .ok (.iload_n 1, 1) := by decide +kernel
theorem dX3_operation_1 : decode cX3_operation 1 = .ok (.iconst 0, 1) := by decide +kernel
theorem dX3_operation_2 : decode cX3_operation 2 = .ok (.aload_n 0, 1) := by decide +kernel
theorem dX3_operation_3 : decode cX3_operation 3 = .ok (.getfield 63, 3) := by decide +kernel
theorem dX3_operation_6 : decode cX3_operation 6 = .ok (.iconst 1, 1) := by decide +kernel
theorem dX3_operation_7 : decode cX3_operation 7 = .ok (.isub, 1) := by decide +kernel
theorem dX3_operation_8 : decode cX3_operation 8 = .ok (.invokestatic 51, 3) := by decide +kernel
theorem dX3_operation_11 : decode cX3_operation 11 = .ok (.ifCond .eq 22, 3) := by decide +kernel
theorem dX3_operation_14 : decode cX3_operation 14 = .ok (.iload_n 2, 1) := by decide +kernel
theorem dX3_operation_15 : decode cX3_operation 15 = .ok (.iconst 0, 1) := by decide +kernel
theorem dX3_operation_16 : decode cX3_operation 16 = .ok (.iconst 3, 1) := by decide +kernel
theorem dX3_operation_17 : decode cX3_operation 17 = .ok (.invokestatic 51, 3) := by decide +kernel
theorem dX3_operation_20 : decode cX3_operation 20 = .ok (.ifCond .eq 13, 3) := by decide +kernel
theorem dX3_operation_23 : decode cX3_operation 23 = .ok (.iload_n 3, 1) := by decide +kernel
theorem dX3_operation_24 : decode cX3_operation 24 = .ok (.iconst 1, 1) := by decide +kernel
theorem dX3_operation_25 : decode cX3_operation 25 = .ok (.bipush 50, 2) := by decide +kernel
theorem dX3_operation_27 : decode cX3_operation 27 = .ok (.invokestatic 51, 3) := by decide +kernel
theorem dX3_operation_30 : decode cX3_operation 30 = .ok (.ifCond .ne 6, 3) := by decide +kernel
theorem dX3_operation_33 : decode cX3_operation 33 = .ok (.bipush (-2), 2) := by decide +kernel
theorem dX3_operation_35 : decode cX3_operation 35 = .ok (.ireturn, 1) := by decide +kernel
theorem dX3_operation_36 : decode cX3_operation 36 = .ok (.iconst 0, 1) := by decide +kernel
theorem dX3_operation_37 : decode cX3_operation 37 = .ok (.istore 4, 2) := by decide +kernel
theorem dX3_operation_39 : decode cX3_operation 39 = .ok (.iload 4, 2) := by decide +kernel
theorem dX3_operation_41 : decode cX3_operation 41 = .ok (.aload_n 0, 1) := by decide +kernel
theorem dX3_operation_42 : decode cX3_operation 42 = .ok (.getfield 48, 3) := by decide +kernel
theorem dX3_operation_45 : decode cX3_operation 45 = .ok (.if_icmp .ge 34, 3) := by decide +kernel
theorem dX3_operation_48 : decode cX3_operation 48 = .ok (.aload_n 0, 1) := by decide +kernel
theorem dX3_operation_49 : decode cX3_operation 49 = .ok (.getfield 7, 3) := by decide +kernel
theorem dX3_operation_52 : decode cX3_operation 52 = .ok (.iload 4, 2) := by decide +kernel
theorem dX3_operation_54 : decode cX3_operation 54 = .ok (.iaload, 1) := by decide +kernel
theorem dX3_operation_55 : decode cX3_operation 55 = .ok (.iload_n 1, 1) := by decide +kernel
theorem dX3_operation_56 : decode cX3_operation 56 = .ok (.if_icmp .ne 17, 3) := by decide +kernel
theorem dX3_operation_59 : decode cX3_operation 59 = .ok (.aload_n 0, 1) := by decide +kernel
theorem dX3_operation_60 : decode cX3_operation 60 = .ok (.getfield 13, 3) := by decide +kernel
theorem dX3_operation_63 : decode cX3_operation 63 = .ok (.iload 4, 2) := by decide +kernel
theorem dX3_operation_65 : decode cX3_operation 65 = .ok (.iaload, 1) := by decide +kernel
theorem dX3_operation_66 : decode cX3_operation 66 = .ok (.iload_n 2, 1) := by decide +kernel
theorem dX3_operation_67 : decode cX3_operation 67 = .ok (.if_icmp .ne 6, 3) := by decide +kernel
theorem dX3_operation_70 : decode cX3_operation 70 = .ok (.bipush (-2), 2) := by decide +kernel
theorem dX3_operation_72 : decode cX3_operation 72 = .ok (.ireturn, 1) := by decide +kernel
theorem dX3_operation_73 : decode cX3_operation 73 = .ok (.iinc 4 1, 3) := by decide +kernel
theorem dX3_operation_76 : decode cX3_operation 76 = .ok (.goto (-37), 3) := by decide +kernel
theorem dX3_operation_79 : decode cX3_operation 79 = .ok (.aload_n 0, 1) := by decide +kernel
theorem dX3_operation_80 : decode cX3_operation 80 = .ok (.getfield 48, 3) := by decide +kernel
theorem dX3_operation_83 : decode cX3_operation 83 = .ok (.bipush 12, 2) := by decide +kernel
theorem dX3_operation_85 : decode cX3_operation 85 = .ok (.if_icmp .ne 6, 3) := by decide +kernel
theorem dX3_operation_88 : decode cX3_operation 88 = .ok (.bipush (-3), 2) := by decide +kernel
theorem dX3_operation_90 : decode cX3_operation 90 = .ok (.ireturn, 1) := by decide +kernel
theorem dX3_operation_91 : decode cX3_operation 91 = .ok (.aload_n 0, 1) := by decide +kernel
theorem dX3_operation_92 : decode cX3_operation 92 = .ok (.getfield 7, 3) := by decide +kernel
theorem dX3_operation_95 : decode cX3_operation 95 = .ok (.aload_n 0, 1) := by decide +kernel
theorem dX3_operation_96 : decode cX3_operation 96 = .ok (.getfield 48, 3) := by decide +kernel
theorem dX3_operation_99 : decode cX3_operation 99 = .ok (.iload_n 1, 1) := by decide +kernel
theorem dX3_operation_100 : decode cX3_operation 100 = .ok (.iastore, 1) := by decide +kernel
theorem dX3_operation_101 : decode cX3_operation 101 = .ok (.aload_n 0, 1) := by decide +kernel
theorem dX3_operation_102 : decode cX3_operation 102 = .ok (.getfield 13, 3) := by decide +kernel
theorem dX3_operation_105 : decode cX3_operation 105 = .ok (.aload_n 0, 1) := by decide +kernel
theorem dX3_operation_106 : decode cX3_operation 106 = .ok (.getfield 48, 3) := by decide +kernel
theorem dX3_operation_109 : decode cX3_operation 109 = .ok (.iload_n 2, 1) := by decide +kernel
theorem dX3_operation_110 : decode cX3_operation 110 = .ok (.iastore, 1) := by decide +kernel
theorem dX3_operation_111 : decode cX3_operation 111 = .ok (.aload_n 0, 1) := by decide +kernel
theorem dX3_operation_112 : decode cX3_operation 112 = .ok (.getfield 16, 3) := by decide +kernel
theorem dX3_operation_115 : decode cX3_operation 115 = .ok (.aload_n 0, 1) := by decide +kernel
theorem dX3_operation_116 : decode cX3_operation 116 = .ok (.getfield 48, 3) := by decide +kernel
theorem dX3_operation_119 : decode cX3_operation 119 = .ok (.iload_n 3, 1) := by decide +kernel
theorem dX3_operation_120 : decode cX3_operation 120 = .ok (.iastore, 1) := by decide +kernel
theorem dX3_operation_121 : decode cX3_operation 121 = .ok (.aload_n 0, 1) := by decide +kernel
theorem dX3_operation_122 : decode cX3_operation 122 = .ok (.dup, 1) := by decide +kernel
theorem dX3_operation_123 : decode cX3_operation 123 = .ok (.getfield 48, 3) := by decide +kernel
theorem dX3_operation_126 : decode cX3_operation 126 = .ok (.iconst 1, 1) := by decide +kernel
theorem dX3_operation_127 : decode cX3_operation 127 = .ok (.iadd, 1) := by decide +kernel
theorem dX3_operation_128 : decode cX3_operation 128 = .ok (.putfield 48, 3) := by decide +kernel
theorem dX3_operation_131 : decode cX3_operation 131 = .ok (.iconst 0, 1) := by decide +kernel
theorem dX3_operation_132 : decode cX3_operation 132 = .ok (.istore 4, 2) := by decide +kernel
theorem dX3_operation_134 : decode cX3_operation 134 = .ok (.iload 4, 2) := by decide +kernel
theorem dX3_operation_136 : decode cX3_operation 136 = .ok (.bipush 12, 2) := by decide +kernel
theorem dX3_operation_138 : decode cX3_operation 138 = .ok (.if_icmp .ge 17, 3) := by decide +kernel
theorem dX3_operation_141 : decode cX3_operation 141 = .ok (.aload_n 0, 1) := by decide +kernel
theorem dX3_operation_142 : decode cX3_operation 142 = .ok (.getfield 23, 3) := by decide +kernel
theorem dX3_operation_145 : decode cX3_operation 145 = .ok (.iload 4, 2) := by decide +kernel
theorem dX3_operation_147 : decode cX3_operation 147 = .ok (.iconst 0, 1) := by decide +kernel
theorem dX3_operation_148 : decode cX3_operation 148 = .ok (.iastore, 1) := by decide +kernel
theorem dX3_operation_149 : decode cX3_operation 149 = .ok (.iinc 4 1, 3) := by decide +kernel
theorem dX3_operation_152 : decode cX3_operation 152 = .ok (.goto (-18), 3) := by decide +kernel
theorem dX3_operation_155 : decode cX3_operation 155 = .ok (.aload_n 0, 1) := by decide +kernel
theorem dX3_operation_156 : decode cX3_operation 156 = .ok (.invokevirtual 66, 3) := by decide +kernel
theorem dX3_operation_159 : decode cX3_operation 159 = .ok (.aload_n 0, 1) := by decide +kernel
theorem dX3_operation_160 : decode cX3_operation 160 = .ok (.getfield 48, 3) := by decide +kernel
theorem dX3_operation_163 : decode cX3_operation 163 = .ok (.iconst 1, 1) := by decide +kernel
theorem dX3_operation_164 : decode cX3_operation 164 = .ok (.isub, 1) := by decide +kernel
theorem dX3_operation_165 : decode cX3_operation 165 = .ok (.ireturn, 1) := by decide +kernel
theorem dX3_nextOf_0 : decode cX3_nextOf 0 = .ok (.iload_n 1, 1) := by decide +kernel
theorem dX3_nextOf_1 : decode cX3_nextOf 1 = .ok (.iconst 1, 1) := by decide +kernel
theorem dX3_nextOf_2 : decode cX3_nextOf 2 = .ok (.iadd, 1) := by decide +kernel
theorem dX3_nextOf_3 : decode cX3_nextOf 3 = .ok (.istore_n 2, 1) := by decide +kernel
theorem dX3_nextOf_4 : decode cX3_nextOf 4 = .ok (.iload_n 2, 1) := by decide +kernel
theorem dX3_nextOf_5 : decode cX3_nextOf 5 = .ok (.aload_n 0, 1) := by decide +kernel
theorem dX3_nextOf_6 : decode cX3_nextOf 6 = .ok (.getfield 48, 3) := by decide +kernel
theorem dX3_nextOf_9 : decode cX3_nextOf 9 = .ok (.if_icmp .ge 24, 3) := by decide +kernel
theorem dX3_nextOf_12 : decode cX3_nextOf 12 = .ok (.aload_n 0, 1) := by decide +kernel
theorem dX3_nextOf_13 : decode cX3_nextOf 13 = .ok (.getfield 7, 3) := by decide +kernel
theorem dX3_nextOf_16 : decode cX3_nextOf 16 = .ok (.iload_n 2, 1) := by decide +kernel
theorem dX3_nextOf_17 : decode cX3_nextOf 17 = .ok (.iaload, 1) := by decide +kernel
theorem dX3_nextOf_18 : decode cX3_nextOf 18 = .ok (.aload_n 0, 1) := by decide +kernel
theorem dX3_nextOf_19 : decode cX3_nextOf 19 = .ok (.getfield 7, 3) := by decide +kernel
theorem dX3_nextOf_22 : decode cX3_nextOf 22 = .ok (.iload_n 1, 1) := by decide +kernel
theorem dX3_nextOf_23 : decode cX3_nextOf 23 = .ok (.iaload, 1) := by decide +kernel
theorem dX3_nextOf_24 : decode cX3_nextOf 24 = .ok (.if_icmp .eq 9, 3) := by decide +kernel
theorem dX3_nextOf_27 : decode cX3_nextOf 27 = .ok (.iinc 2 1, 3) := by decide +kernel
theorem dX3_nextOf_30 : decode cX3_nextOf 30 = .ok (.goto (-26), 3) := by decide +kernel
theorem dX3_nextOf_33 : decode cX3_nextOf 33 = .ok (.iload_n 2, 1) := by decide +kernel
theorem dX3_nextOf_34 : decode cX3_nextOf 34 = .ok (.aload_n 0, 1) := by decide +kernel
theorem dX3_nextOf_35 : decode cX3_nextOf 35 = .ok (.getfield 48, 3) := by decide +kernel
theorem dX3_nextOf_38 : decode cX3_nextOf 38 = .ok (.if_icmp .ge 7, 3) := by decide +kernel
theorem dX3_nextOf_41 : decode cX3_nextOf 41 = .ok (.iload_n 2, 1) := by decide +kernel
theorem dX3_nextOf_42 : decode cX3_nextOf 42 = .ok (.goto 4, 3) := by decide +kernel
theorem dX3_nextOf_45 : decode cX3_nextOf 45 = .ok (.iconst (-1), 1) := by decide +kernel
theorem dX3_nextOf_46 : decode cX3_nextOf 46 = .ok (.ireturn, 1) := by decide +kernel
set_option maxRecDepth 20000 in
theorem ggX3_leads_X3_nextOf : GoodIn wsX3_leads wsX3_nextOf := goodIn_r _ [5, 6, 7, 8, 9, 10, 11, 12, 13, 14, 15, 16, 17, 18, 19, 20, 21, 22, 23] (by decide +kernel) (by decide +kernel)
set_option maxRecDepth 20000 in
theorem gX3_leads_X3_nextOf : GoodIn wsX3_leads (wsV RX3 69 RX3 yX3_nextOf wsX3_nextOf) := goodIn_app (goodIn_of _ (by decide +kernel)) ggX3_leads_X3_nextOf
theorem dX3_leads_0 : decode cX3_leads 0 = .ok (.aload_n 1, 1) := by decide +kernel
theorem dX3_leads_1 : decode cX3_leads 1 = .ok (.bipush 12, 2) := by decide +kernel
theorem dX3_leads_3 : decode cX3_leads 3 = .ok (.iload_n 2, 1) := by decide +kernel
theorem dX3_leads_4 : decode cX3_leads 4 = .ok (.imul, 1) := by decide +kernel
theorem dX3_leads_5 : decode cX3_leads 5 = .ok (.iload_n 3, 1) := by decide +kernel
theorem dX3_leads_6 : decode cX3_leads 6 = .ok (.iadd, 1) := by decide +kernel
theorem dX3_leads_7 : decode cX3_leads 7 = .ok (.baload, 1) := by decide +kernel
theorem dX3_leads_8 : decode cX3_leads 8 = .ok (.ifCond .ne 12, 3) := by decide +kernel
theorem dX3_leads_11 : decode cX3_leads 11 = .ok (.aload_n 0, 1) := by decide +kernel
theorem dX3_leads_12 : decode cX3_leads 12 = .ok (.iload_n 2, 1) := by decide +kernel
theorem dX3_leads_13 : decode cX3_leads 13 = .ok (.invokevirtual 69, 3) := by decide +kernel
theorem dX3_leads_16 : decode cX3_leads 16 = .ok (.iload_n 3, 1) := by decide +kernel
theorem dX3_leads_17 : decode cX3_leads 17 = .ok (.if_icmp .ne 7, 3) := by decide +kernel
theorem dX3_leads_20 : decode cX3_leads 20 = .ok (.iconst 1, 1) := by decide +kernel
theorem dX3_leads_21 : decode cX3_leads 21 = .ok (.goto 4, 3) := by decide +kernel
theorem dX3_leads_24 : decode cX3_leads 24 = .ok (.iconst 0, 1) := by decide +kernel
theorem dX3_leads_25 : decode cX3_leads 25 = .ok (.ireturn, 1) := by decide +kernel
set_option maxRecDepth 20000 in
theorem ggX3_findHeads_X3_leads : GoodIn wsX3_findHeads wsX3_leads := goodIn_r _ [8, 9, 10, 11, 7, 12, 1, 13, 14, 15, 16, 17, 18, 19, 20, 21, 22, 23, 24, 25, 26, 27, 28, 29] (by decide +kernel) (by decide +kernel)
set_option maxRecDepth 20000 in
theorem gX3_findHeads_X3_leads : GoodIn wsX3_findHeads (wsV RX3 73 RX3 yX3_leads wsX3_leads) := goodIn_app (goodIn_of _ (by decide +kernel)) ggX3_findHeads_X3_leads
theorem dX3_findHeads_0 : decode cX3_findHeads 0 = .ok (.iconst 0, 1) := by decide +kernel
theorem dX3_findHeads_1 : decode cX3_findHeads 1 = .ok (.istore_n 2, 1) := by decide +kernel
theorem dX3_findHeads_2 : decode cX3_findHeads 2 = .ok (.iload_n 2, 1) := by decide +kernel
theorem dX3_findHeads_3 : decode cX3_findHeads 3 = .ok (.aload_n 0, 1) := by decide +kernel
theorem dX3_findHeads_4 : decode cX3_findHeads 4 = .ok (.getfield 48, 3) := by decide +kernel
theorem dX3_findHeads_7 : decode cX3_findHeads 7 = .ok (.if_icmp .ge 16, 3) := by decide +kernel
theorem dX3_findHeads_10 : decode cX3_findHeads 10 = .ok (.aload_n 0, 1) := by decide +kernel
theorem dX3_findHeads_11 : decode cX3_findHeads 11 = .ok (.getfield 29, 3) := by decide +kernel
theorem dX3_findHeads_14 : decode cX3_findHeads 14 = .ok (.iload_n 2, 1) := by decide +kernel
theorem dX3_findHeads_15 : decode cX3_findHeads 15 = .ok (.iconst 0, 1) := by decide +kernel
theorem dX3_findHeads_16 : decode cX3_findHeads 16 = .ok (.iastore, 1) := by decide +kernel
theorem dX3_findHeads_17 : decode cX3_findHeads 17 = .ok (.iinc 2 1, 3) := by decide +kernel
theorem dX3_findHeads_20 : decode cX3_findHeads 20 = .ok (.goto (-18), 3) := by decide +kernel
theorem dX3_findHeads_23 : decode cX3_findHeads 23 = .ok (.iconst 1, 1) := by decide +kernel
theorem dX3_findHeads_24 : decode cX3_findHeads 24 = .ok (.istore_n 2, 1) := by decide +kernel
theorem dX3_findHeads_25 : decode cX3_findHeads 25 = .ok (.iconst 0, 1) := by decide +kernel
theorem dX3_findHeads_26 : decode cX3_findHeads 26 = .ok (.istore_n 3, 1) := by decide +kernel
theorem dX3_findHeads_27 : decode cX3_findHeads 27 = .ok (.iload_n 2, 1) := by decide +kernel
theorem dX3_findHeads_28 : decode cX3_findHeads 28 = .ok (.ifCond .eq 108, 3) := by decide +kernel
theorem dX3_findHeads_31 : decode cX3_findHeads 31 = .ok (.iconst 0, 1) := by decide +kernel
theorem dX3_findHeads_32 : decode cX3_findHeads 32 = .ok (.istore_n 2, 1) := by decide +kernel
theorem dX3_findHeads_33 : decode cX3_findHeads 33 = .ok (.iconst 0, 1) := by decide +kernel
theorem dX3_findHeads_34 : decode cX3_findHeads 34 = .ok (.istore 4, 2) := by decide +kernel
theorem dX3_findHeads_36 : decode cX3_findHeads 36 = .ok (.iload 4, 2) := by decide +kernel
theorem dX3_findHeads_38 : decode cX3_findHeads 38 = .ok (.aload_n 0, 1) := by decide +kernel
theorem dX3_findHeads_39 : decode cX3_findHeads 39 = .ok (.getfield 48, 3) := by decide +kernel
theorem dX3_findHeads_42 : decode cX3_findHeads 42 = .ok (.if_icmp .ge 79, 3) := by decide +kernel
theorem dX3_findHeads_45 : decode cX3_findHeads 45 = .ok (.iconst 0, 1) := by decide +kernel
theorem dX3_findHeads_46 : decode cX3_findHeads 46 = .ok (.istore 5, 2) := by decide +kernel
theorem dX3_findHeads_48 : decode cX3_findHeads 48 = .ok (.iload 5, 2) := by decide +kernel
theorem dX3_findHeads_50 : decode cX3_findHeads 50 = .ok (.aload_n 0, 1) := by decide +kernel
theorem dX3_findHeads_51 : decode cX3_findHeads 51 = .ok (.getfield 48, 3) := by decide +kernel
theorem dX3_findHeads_54 : decode cX3_findHeads 54 = .ok (.if_icmp .ge 61, 3) := by decide +kernel
theorem dX3_findHeads_57 : decode cX3_findHeads 57 = .ok (.aload_n 0, 1) := by decide +kernel
theorem dX3_findHeads_58 : decode cX3_findHeads 58 = .ok (.getfield 29, 3) := by decide +kernel
theorem dX3_findHeads_61 : decode cX3_findHeads 61 = .ok (.iload 4, 2) := by decide +kernel
theorem dX3_findHeads_63 : decode cX3_findHeads 63 = .ok (.iaload, 1) := by decide +kernel
theorem dX3_findHeads_64 : decode cX3_findHeads 64 = .ok (.aload_n 0, 1) := by decide +kernel
theorem dX3_findHeads_65 : decode cX3_findHeads 65 = .ok (.getfield 16, 3) := by decide +kernel
theorem dX3_findHeads_68 : decode cX3_findHeads 68 = .ok (.iload 4, 2) := by decide +kernel
theorem dX3_findHeads_70 : decode cX3_findHeads 70 = .ok (.iaload, 1) := by decide +kernel
theorem dX3_findHeads_71 : decode cX3_findHeads 71 = .ok (.iadd, 1) := by decide +kernel
theorem dX3_findHeads_72 : decode cX3_findHeads 72 = .ok (.istore 6, 2) := by decide +kernel
theorem dX3_findHeads_74 : decode cX3_findHeads 74 = .ok (.aload_n 0, 1) := by decide +kernel
theorem dX3_findHeads_75 : decode cX3_findHeads 75 = .ok (.aload_n 1, 1) := by decide +kernel
theorem dX3_findHeads_76 : decode cX3_findHeads 76 = .ok (.iload 4, 2) := by decide +kernel
theorem dX3_findHeads_78 : decode cX3_findHeads 78 = .ok (.iload 5, 2) := by decide +kernel
theorem dX3_findHeads_80 : decode cX3_findHeads 80 = .ok (.invokevirtual 73, 3) := by decide +kernel
theorem dX3_findHeads_83 : decode cX3_findHeads 83 = .ok (.ifCond .eq 26, 3) := by decide +kernel
theorem dX3_findHeads_86 : decode cX3_findHeads 86 = .ok (.iload 6, 2) := by decide +kernel
theorem dX3_findHeads_88 : decode cX3_findHeads 88 = .ok (.aload_n 0, 1) := by decide +kernel
theorem dX3_findHeads_89 : decode cX3_findHeads 89 = .ok (.getfield 29, 3) := by decide +kernel
theorem dX3_findHeads_92 : decode cX3_findHeads 92 = .ok (.iload 5, 2) := by decide +kernel
theorem dX3_findHeads_94 : decode cX3_findHeads 94 = .ok (.iaload, 1) := by decide +kernel
theorem dX3_findHeads_95 : decode cX3_findHeads 95 = .ok (.if_icmp .le 14, 3) := by decide +kernel
theorem dX3_findHeads_98 : decode cX3_findHeads 98 = .ok (.aload_n 0, 1) := by decide +kernel
theorem dX3_findHeads_99 : decode cX3_findHeads 99 = .ok (.getfield 29, 3) := by decide +kernel
theorem dX3_findHeads_102 : decode cX3_findHeads 102 = .ok (.iload 5, 2) := by decide +kernel
theorem dX3_findHeads_104 : decode cX3_findHeads 104 = .ok (.iload 6, 2) := by decide +kernel
theorem dX3_findHeads_106 : decode cX3_findHeads 106 = .ok (.iastore, 1) := by decide +kernel
theorem dX3_findHeads_107 : decode cX3_findHeads 107 = .ok (.iconst 1, 1) := by decide +kernel
theorem dX3_findHeads_108 : decode cX3_findHeads 108 = .ok (.istore_n 2, 1) := by decide +kernel
theorem dX3_findHeads_109 : decode cX3_findHeads 109 = .ok (.iinc 5 1, 3) := by decide +kernel
theorem dX3_findHeads_112 : decode cX3_findHeads 112 = .ok (.goto (-64), 3) := by decide +kernel
theorem dX3_findHeads_115 : decode cX3_findHeads 115 = .ok (.iinc 4 1, 3) := by decide +kernel
theorem dX3_findHeads_118 : decode cX3_findHeads 118 = .ok (.goto (-82), 3) := by decide +kernel
theorem dX3_findHeads_121 : decode cX3_findHeads 121 = .ok (.iinc 3 1, 3) := by decide +kernel
theorem dX3_findHeads_124 : decode cX3_findHeads 124 = .ok (.iload_n 3, 1) := by decide +kernel
theorem dX3_findHeads_125 : decode cX3_findHeads 125 = .ok (.aload_n 0, 1) := by decide +kernel
theorem dX3_findHeads_126 : decode cX3_findHeads 126 = .ok (.getfield 48, 3) := by decide +kernel
theorem dX3_findHeads_129 : decode cX3_findHeads 129 = .ok (.iconst 1, 1) := by decide +kernel
theorem dX3_findHeads_130 : decode cX3_findHeads 130 = .ok (.iadd, 1) := by decide +kernel
theorem dX3_findHeads_131 : decode cX3_findHeads 131 = .ok (.if_icmp .le (-104), 3) := by decide +kernel
theorem dX3_findHeads_134 : decode cX3_findHeads 134 = .ok (.iconst 0, 1) := by decide +kernel
theorem dX3_findHeads_135 : decode cX3_findHeads 135 = .ok (.ireturn, 1) := by decide +kernel
theorem dX3_findHeads_136 : decode cX3_findHeads 136 = .ok (.iconst 1, 1) := by decide +kernel
theorem dX3_findHeads_137 : decode cX3_findHeads 137 = .ok (.ireturn, 1) := by decide +kernel
set_option maxRecDepth 20000 in
theorem ggX3_findTails_X3_leads : GoodIn wsX3_findTails wsX3_leads := goodIn_r _ [8, 9, 10, 11, 7, 12, 1, 13, 14, 15, 16, 17, 18, 19, 20, 21, 22, 23, 24, 25, 26, 27, 28, 29] (by decide +kernel) (by decide +kernel)
set_option maxRecDepth 20000 in
theorem gX3_findTails_X3_leads : GoodIn wsX3_findTails (wsV RX3 73 RX3 yX3_leads wsX3_leads) := goodIn_app (goodIn_of _ (by decide +kernel)) ggX3_findTails_X3_leads
theorem dX3_findTails_0 : decode cX3_findTails 0 = .ok (.iconst 0, 1) := by decide +kernel
theorem dX3_findTails_1 : decode cX3_findTails 1 = .ok (.istore_n 2, 1) := by decide +kernel
theorem dX3_findTails_2 : decode cX3_findTails 2 = .ok (.iload_n 2, 1) := by decide +kernel
theorem dX3_findTails_3 : decode cX3_findTails 3 = .ok (.aload_n 0, 1) := by decide +kernel
theorem dX3_findTails_4 : decode cX3_findTails 4 = .ok (.getfield 48, 3) := by decide +kernel
theorem dX3_findTails_7 : decode cX3_findTails 7 = .ok (.if_icmp .ge 16, 3) := by decide +kernel
theorem dX3_findTails_10 : decode cX3_findTails 10 = .ok (.aload_n 0, 1) := by decide +kernel
theorem dX3_findTails_11 : decode cX3_findTails 11 = .ok (.getfield 32, 3) := by decide +kernel
theorem dX3_findTails_14 : decode cX3_findTails 14 = .ok (.iload_n 2, 1) := by decide +kernel
theorem dX3_findTails_15 : decode cX3_findTails 15 = .ok (.iconst 0, 1) := by decide +kernel
theorem dX3_findTails_16 : decode cX3_findTails 16 = .ok (.iastore, 1) := by decide +kernel
theorem dX3_findTails_17 : decode cX3_findTails 17 = .ok (.iinc 2 1, 3) := by decide +kernel
theorem dX3_findTails_20 : decode cX3_findTails 20 = .ok (.goto (-18), 3) := by decide +kernel
theorem dX3_findTails_23 : decode cX3_findTails 23 = .ok (.iconst 1, 1) := by decide +kernel
theorem dX3_findTails_24 : decode cX3_findTails 24 = .ok (.istore_n 2, 1) := by decide +kernel
theorem dX3_findTails_25 : decode cX3_findTails 25 = .ok (.iload_n 2, 1) := by decide +kernel
theorem dX3_findTails_26 : decode cX3_findTails 26 = .ok (.ifCond .eq 91, 3) := by decide +kernel
theorem dX3_findTails_29 : decode cX3_findTails 29 = .ok (.iconst 0, 1) := by decide +kernel
theorem dX3_findTails_30 : decode cX3_findTails 30 = .ok (.istore_n 2, 1) := by decide +kernel
theorem dX3_findTails_31 : decode cX3_findTails 31 = .ok (.iconst 0, 1) := by decide +kernel
theorem dX3_findTails_32 : decode cX3_findTails 32 = .ok (.istore_n 3, 1) := by decide +kernel
theorem dX3_findTails_33 : decode cX3_findTails 33 = .ok (.iload_n 3, 1) := by decide +kernel
theorem dX3_findTails_34 : decode cX3_findTails 34 = .ok (.aload_n 0, 1) := by decide +kernel
theorem dX3_findTails_35 : decode cX3_findTails 35 = .ok (.getfield 48, 3) := by decide +kernel
theorem dX3_findTails_38 : decode cX3_findTails 38 = .ok (.if_icmp .ge 76, 3) := by decide +kernel
theorem dX3_findTails_41 : decode cX3_findTails 41 = .ok (.iconst 0, 1) := by decide +kernel
theorem dX3_findTails_42 : decode cX3_findTails 42 = .ok (.istore 4, 2) := by decide +kernel
theorem dX3_findTails_44 : decode cX3_findTails 44 = .ok (.iload 4, 2) := by decide +kernel
theorem dX3_findTails_46 : decode cX3_findTails 46 = .ok (.aload_n 0, 1) := by decide +kernel
theorem dX3_findTails_47 : decode cX3_findTails 47 = .ok (.getfield 48, 3) := by decide +kernel
theorem dX3_findTails_50 : decode cX3_findTails 50 = .ok (.if_icmp .ge 58, 3) := by decide +kernel
theorem dX3_findTails_53 : decode cX3_findTails 53 = .ok (.aload_n 0, 1) := by decide +kernel
theorem dX3_findTails_54 : decode cX3_findTails 54 = .ok (.getfield 32, 3) := by decide +kernel
theorem dX3_findTails_57 : decode cX3_findTails 57 = .ok (.iload 4, 2) := by decide +kernel
theorem dX3_findTails_59 : decode cX3_findTails 59 = .ok (.iaload, 1) := by decide +kernel
theorem dX3_findTails_60 : decode cX3_findTails 60 = .ok (.aload_n 0, 1) := by decide +kernel
theorem dX3_findTails_61 : decode cX3_findTails 61 = .ok (.getfield 16, 3) := by decide +kernel
theorem dX3_findTails_64 : decode cX3_findTails 64 = .ok (.iload 4, 2) := by decide +kernel
theorem dX3_findTails_66 : decode cX3_findTails 66 = .ok (.iaload, 1) := by decide +kernel
theorem dX3_findTails_67 : decode cX3_findTails 67 = .ok (.iadd, 1) := by decide +kernel
theorem dX3_findTails_68 : decode cX3_findTails 68 = .ok (.istore 5, 2) := by decide +kernel
theorem dX3_findTails_70 : decode cX3_findTails 70 = .ok (.aload_n 0, 1) := by decide +kernel
theorem dX3_findTails_71 : decode cX3_findTails 71 = .ok (.aload_n 1, 1) := by decide +kernel
theorem dX3_findTails_72 : decode cX3_findTails 72 = .ok (.iload_n 3, 1) := by decide +kernel
theorem dX3_findTails_73 : decode cX3_findTails 73 = .ok (.iload 4, 2) := by decide +kernel
theorem dX3_findTails_75 : decode cX3_findTails 75 = .ok (.invokevirtual 73, 3) := by decide +kernel
theorem dX3_findTails_78 : decode cX3_findTails 78 = .ok (.ifCond .eq 24, 3) := by decide +kernel
theorem dX3_findTails_81 : decode cX3_findTails 81 = .ok (.iload 5, 2) := by decide +kernel
theorem dX3_findTails_83 : decode cX3_findTails 83 = .ok (.aload_n 0, 1) := by decide +kernel
theorem dX3_findTails_84 : decode cX3_findTails 84 = .ok (.getfield 32, 3) := by decide +kernel
theorem dX3_findTails_87 : decode cX3_findTails 87 = .ok (.iload_n 3, 1) := by decide +kernel
theorem dX3_findTails_88 : decode cX3_findTails 88 = .ok (.iaload, 1) := by decide +kernel
theorem dX3_findTails_89 : decode cX3_findTails 89 = .ok (.if_icmp .le 13, 3) := by decide +kernel
theorem dX3_findTails_92 : decode cX3_findTails 92 = .ok (.aload_n 0, 1) := by decide +kernel
theorem dX3_findTails_93 : decode cX3_findTails 93 = .ok (.getfield 32, 3) := by decide +kernel
theorem dX3_findTails_96 : decode cX3_findTails 96 = .ok (.iload_n 3, 1) := by decide +kernel
theorem dX3_findTails_97 : decode cX3_findTails 97 = .ok (.iload 5, 2) := by decide +kernel
theorem dX3_findTails_99 : decode cX3_findTails 99 = .ok (.iastore, 1) := by decide +kernel
theorem dX3_findTails_100 : decode cX3_findTails 100 = .ok (.iconst 1, 1) := by decide +kernel
theorem dX3_findTails_101 : decode cX3_findTails 101 = .ok (.istore_n 2, 1) := by decide +kernel
theorem dX3_findTails_102 : decode cX3_findTails 102 = .ok (.iinc 4 1, 3) := by decide +kernel
theorem dX3_findTails_105 : decode cX3_findTails 105 = .ok (.goto (-61), 3) := by decide +kernel
theorem dX3_findTails_108 : decode cX3_findTails 108 = .ok (.iinc 3 1, 3) := by decide +kernel
theorem dX3_findTails_111 : decode cX3_findTails 111 = .ok (.goto (-78), 3) := by decide +kernel
theorem dX3_findTails_114 : decode cX3_findTails 114 = .ok (.goto (-89), 3) := by decide +kernel
theorem dX3_findTails_117 : decode cX3_findTails 117 = .ok (.return_, 1) := by decide +kernel
theorem dX3_longest_0 : decode cX3_longest 0 = .ok (.iconst 0, 1) := by decide +kernel
theorem dX3_longest_1 : decode cX3_longest 1 = .ok (.istore_n 1, 1) := by decide +kernel
theorem dX3_longest_2 : decode cX3_longest 2 = .ok (.iconst 0, 1) := by decide +kernel
theorem dX3_longest_3 : decode cX3_longest 3 = .ok (.istore_n 2, 1) := by decide +kernel
theorem dX3_longest_4 : decode cX3_longest 4 = .ok (.iload_n 2, 1) := by decide +kernel
theorem dX3_longest_5 : decode cX3_longest 5 = .ok (.aload_n 0, 1) := by decide +kernel
theorem dX3_longest_6 : decode cX3_longest 6 = .ok (.getfield 48, 3) := by decide +kernel
theorem dX3_longest_9 : decode cX3_longest 9 = .ok (.if_icmp .ge 41, 3) := by decide +kernel
theorem dX3_longest_12 : decode cX3_longest 12 = .ok (.aload_n 0, 1) := by decide +kernel
theorem dX3_longest_13 : decode cX3_longest 13 = .ok (.getfield 29, 3) := by decide +kernel
theorem dX3_longest_16 : decode cX3_longest 16 = .ok (.iload_n 2, 1) := by decide +kernel
theorem dX3_longest_17 : decode cX3_longest 17 = .ok (.iaload, 1) := by decide +kernel
theorem dX3_longest_18 : decode cX3_longest 18 = .ok (.aload_n 0, 1) := by decide +kernel
theorem dX3_longest_19 : decode cX3_longest 19 = .ok (.getfield 16, 3) := by decide +kernel
theorem dX3_longest_22 : decode cX3_longest 22 = .ok (.iload_n 2, 1) := by decide +kernel
theorem dX3_longest_23 : decode cX3_longest 23 = .ok (.iaload, 1) := by decide +kernel
theorem dX3_longest_24 : decode cX3_longest 24 = .ok (.iadd, 1) := by decide +kernel
theorem dX3_longest_25 : decode cX3_longest 25 = .ok (.aload_n 0, 1) := by decide +kernel
theorem dX3_longest_26 : decode cX3_longest 26 = .ok (.getfield 32, 3) := by decide +kernel
theorem dX3_longest_29 : decode cX3_longest 29 = .ok (.iload_n 2, 1) := by decide +kernel
theorem dX3_longest_30 : decode cX3_longest 30 = .ok (.iaload, 1) := by decide +kernel
theorem dX3_longest_31 : decode cX3_longest 31 = .ok (.iadd, 1) := by decide +kernel
theorem dX3_longest_32 : decode cX3_longest 32 = .ok (.istore_n 3, 1) := by decide +kernel
theorem dX3_longest_33 : decode cX3_longest 33 = .ok (.iload_n 3, 1) := by decide +kernel
theorem dX3_longest_34 : decode cX3_longest 34 = .ok (.iload_n 1, 1) := by decide +kernel
theorem dX3_longest_35 : decode cX3_longest 35 = .ok (.if_icmp .le 7, 3) := by decide +kernel
theorem dX3_longest_38 : decode cX3_longest 38 = .ok (.iload_n 3, 1) := by decide +kernel
theorem dX3_longest_39 : decode cX3_longest 39 = .ok (.goto 4, 3) := by decide +kernel
theorem dX3_longest_42 : decode cX3_longest 42 = .ok (.iload_n 1, 1) := by decide +kernel
theorem dX3_longest_43 : decode cX3_longest 43 = .ok (.istore_n 1, 1) := by decide +kernel
theorem dX3_longest_44 : decode cX3_longest 44 = .ok (.iinc 2 1, 3) := by decide +kernel
theorem dX3_longest_47 : decode cX3_longest 47 = .ok (.goto (-43), 3) := by decide +kernel
theorem dX3_longest_50 : decode cX3_longest 50 = .ok (.iload_n 1, 1) := by decide +kernel
theorem dX3_longest_51 : decode cX3_longest 51 = .ok (.ireturn, 1) := by decide +kernel
set_option maxRecDepth 20000 in
theorem ggX3_look_X3_findHeads : GoodIn wsX3_look wsX3_findHeads := goodIn_r _ [5, 6, 7, 8, 9, 10, 11, 4, 12, 13, 14, 15, 16, 17, 23, 24, 25, 26, 27, 28, 29, 30, 31, 32, 33, 34, 35, 36, 37, 38] (by decide +kernel) (by decide +kernel)
set_option maxRecDepth 20000 in
theorem gX3_look_X3_findHeads : GoodIn wsX3_look (wsV RX3 77 RX3 yX3_findHeads wsX3_findHeads) := goodIn_app (goodIn_of _ (by decide +kernel)) ggX3_look_X3_findHeads
set_option maxRecDepth 20000 in
theorem ggX3_look_X3_findTails : GoodIn wsX3_look wsX3_findTails := goodIn_r _ [21, 6, 22, 8, 9, 10, 11, 4, 12, 13, 14, 15, 16, 17, 23, 24, 25, 26, 27, 28, 29, 30, 31, 32, 33, 34, 35, 36, 37, 38] (by decide +kernel) (by decide +kernel)
set_option maxRecDepth 20000 in
theorem gX3_look_X3_findTails : GoodIn wsX3_look (wsV RX3 81 RX3 yX3_findTails wsX3_findTails) := goodIn_app (goodIn_of _ (by decide +kernel)) ggX3_look_X3_findTails
theorem dX3_look_0 : decode cX3_look 0 = .ok (.aload_n 0, 1) := by decide +kernel
theorem dX3_look_1 : decode cX3_look 1 = .ok (.aload_n 1, 1) := by decide +kernel
theorem dX3_look_2 : decode cX3_look 2 = .ok (.invokevirtual 77, 3) := by decide +kernel
theorem dX3_look_5 : decode cX3_look 5 = .ok (.istore_n 2, 1) := by decide +kernel
theorem dX3_look_6 : decode cX3_look 6 = .ok (.iload_n 2, 1) := by decide +kernel
theorem dX3_look_7 : decode cX3_look 7 = .ok (.ifCond .eq 8, 3) := by decide +kernel
theorem dX3_look_10 : decode cX3_look 10 = .ok (.aload_n 0, 1) := by decide +kernel
theorem dX3_look_11 : decode cX3_look 11 = .ok (.aload_n 1, 1) := by decide +kernel
theorem dX3_look_12 : decode cX3_look 12 = .ok (.invokevirtual 81, 3) := by decide +kernel
theorem dX3_look_15 : decode cX3_look 15 = .ok (.return_, 1) := by decide +kernel
set_option maxRecDepth 20000 in
theorem ggX3_hasPath_X3_leads : GoodIn wsX3_hasPath wsX3_leads := goodIn_r _ [6, 7, 8, 9, 5, 10, 1, 11, 12, 13, 14, 15, 16, 17, 18, 19, 20, 21, 22, 23, 24, 25, 26, 27] (by decide +kernel) (by decide +kernel)
set_option maxRecDepth 20000 in
theorem gX3_hasPath_X3_leads : GoodIn wsX3_hasPath (wsV RX3 73 RX3 yX3_leads wsX3_leads) := goodIn_app (goodIn_of _ (by decide +kernel)) ggX3_hasPath_X3_leads
theorem dX3_hasPath_0 : decode cX3_hasPath 0 = .ok (.iconst 1, 1) := by decide +kernel
theorem dX3_hasPath_1 : decode cX3_hasPath 1 = .ok (.iload_n 2, 1) := by decide +kernel
theorem dX3_hasPath_2 : decode cX3_hasPath 2 = .ok (.ishl, 1) := by decide +kernel
theorem dX3_hasPath_3 : decode cX3_hasPath 3 = .ok (.istore 4, 2) := by decide +kernel
theorem dX3_hasPath_5 : decode cX3_hasPath 5 = .ok (.iconst 0, 1) := by decide +kernel
theorem dX3_hasPath_6 : decode cX3_hasPath 6 = .ok (.istore 5, 2) := by decide +kernel
theorem dX3_hasPath_8 : decode cX3_hasPath 8 = .ok (.iload 5, 2) := by decide +kernel
theorem dX3_hasPath_10 : decode cX3_hasPath 10 = .ok (.iload 4, 2) := by decide +kernel
theorem dX3_hasPath_12 : decode cX3_hasPath 12 = .ok (.if_icmp .eq 83, 3) := by decide +kernel
theorem dX3_hasPath_15 : decode cX3_hasPath 15 = .ok (.iload 4, 2) := by decide +kernel
theorem dX3_hasPath_17 : decode cX3_hasPath 17 = .ok (.istore 5, 2) := by decide +kernel
theorem dX3_hasPath_19 : decode cX3_hasPath 19 = .ok (.iconst 0, 1) := by decide +kernel
theorem dX3_hasPath_20 : decode cX3_hasPath 20 = .ok (.istore 6, 2) := by decide +kernel
theorem dX3_hasPath_22 : decode cX3_hasPath 22 = .ok (.iload 6, 2) := by decide +kernel
theorem dX3_hasPath_24 : decode cX3_hasPath 24 = .ok (.aload_n 0, 1) := by decide +kernel
theorem dX3_hasPath_25 : decode cX3_hasPath 25 = .ok (.getfield 48, 3) := by decide +kernel
theorem dX3_hasPath_28 : decode cX3_hasPath 28 = .ok (.if_icmp .ge 64, 3) := by decide +kernel
theorem dX3_hasPath_31 : decode cX3_hasPath 31 = .ok (.iconst 0, 1) := by decide +kernel
theorem dX3_hasPath_32 : decode cX3_hasPath 32 = .ok (.istore 7, 2) := by decide +kernel
theorem dX3_hasPath_34 : decode cX3_hasPath 34 = .ok (.iload 7, 2) := by decide +kernel
theorem dX3_hasPath_36 : decode cX3_hasPath 36 = .ok (.aload_n 0, 1) := by decide +kernel
theorem dX3_hasPath_37 : decode cX3_hasPath 37 = .ok (.getfield 48, 3) := by decide +kernel
theorem dX3_hasPath_40 : decode cX3_hasPath 40 = .ok (.if_icmp .ge 46, 3) := by decide +kernel
theorem dX3_hasPath_43 : decode cX3_hasPath 43 = .ok (.iload 4, 2) := by decide +kernel
theorem dX3_hasPath_45 : decode cX3_hasPath 45 = .ok (.iload 6, 2) := by decide +kernel
theorem dX3_hasPath_47 : decode cX3_hasPath 47 = .ok (.ishr, 1) := by decide +kernel
theorem dX3_hasPath_48 : decode cX3_hasPath 48 = .ok (.iconst 1, 1) := by decide +kernel
theorem dX3_hasPath_49 : decode cX3_hasPath 49 = .ok (.iand, 1) := by decide +kernel
theorem dX3_hasPath_50 : decode cX3_hasPath 50 = .ok (.iconst 1, 1) := by decide +kernel
theorem dX3_hasPath_51 : decode cX3_hasPath 51 = .ok (.if_icmp .ne 25, 3) := by decide +kernel
theorem dX3_hasPath_54 : decode cX3_hasPath 54 = .ok (.aload_n 0, 1) := by decide +kernel
theorem dX3_hasPath_55 : decode cX3_hasPath 55 = .ok (.aload_n 1, 1) := by decide +kernel
theorem dX3_hasPath_56 : decode cX3_hasPath 56 = .ok (.iload 6, 2) := by decide +kernel
theorem dX3_hasPath_58 : decode cX3_hasPath 58 = .ok (.iload 7, 2) := by decide +kernel
theorem dX3_hasPath_60 : decode cX3_hasPath 60 = .ok (.invokevirtual 73, 3) := by decide +kernel
theorem dX3_hasPath_63 : decode cX3_hasPath 63 = .ok (.ifCond .eq 13, 3) := by decide +kernel
theorem dX3_hasPath_66 : decode cX3_hasPath 66 = .ok (.iload 4, 2) := by decide +kernel
theorem dX3_hasPath_68 : decode cX3_hasPath 68 = .ok (.iconst 1, 1) := by decide +kernel
theorem dX3_hasPath_69 : decode cX3_hasPath 69 = .ok (.iload 7, 2) := by decide +kernel
theorem dX3_hasPath_71 : decode cX3_hasPath 71 = .ok (.ishl, 1) := by decide +kernel
theorem dX3_hasPath_72 : decode cX3_hasPath 72 = .ok (.ior, 1) := by decide +kernel
theorem dX3_hasPath_73 : decode cX3_hasPath 73 = .ok (.goto 5, 3) := by decide +kernel
theorem dX3_hasPath_76 : decode cX3_hasPath 76 = .ok (.iload 4, 2) := by decide +kernel
theorem dX3_hasPath_78 : decode cX3_hasPath 78 = .ok (.istore 4, 2) := by decide +kernel
theorem dX3_hasPath_80 : decode cX3_hasPath 80 = .ok (.iinc 7 1, 3) := by decide +kernel
theorem dX3_hasPath_83 : decode cX3_hasPath 83 = .ok (.goto (-49), 3) := by decide +kernel
theorem dX3_hasPath_86 : decode cX3_hasPath 86 = .ok (.iinc 6 1, 3) := by decide +kernel
theorem dX3_hasPath_89 : decode cX3_hasPath 89 = .ok (.goto (-67), 3) := by decide +kernel
theorem dX3_hasPath_92 : decode cX3_hasPath 92 = .ok (.goto (-84), 3) := by decide +kernel
theorem dX3_hasPath_95 : decode cX3_hasPath 95 = .ok (.iload 4, 2) := by decide +kernel
theorem dX3_hasPath_97 : decode cX3_hasPath 97 = .ok (.iload_n 3, 1) := by decide +kernel
theorem dX3_hasPath_98 : decode cX3_hasPath 98 = .ok (.ishr, 1) := by decide +kernel
theorem dX3_hasPath_99 : decode cX3_hasPath 99 = .ok (.iconst 1, 1) := by decide +kernel
theorem dX3_hasPath_100 : decode cX3_hasPath 100 = .ok (.iand, 1) := by decide +kernel
theorem dX3_hasPath_101 : decode cX3_hasPath 101 = .ok (.iconst 1, 1) := by decide +kernel
theorem dX3_hasPath_102 : decode cX3_hasPath 102 = .ok (.if_icmp .ne 7, 3) := by decide +kernel
theorem dX3_hasPath_105 : decode cX3_hasPath 105 = .ok (.iconst 1, 1) := by decide +kernel
theorem dX3_hasPath_106 : decode cX3_hasPath 106 = .ok (.goto 4, 3) := by decide +kernel
theorem dX3_hasPath_109 : decode cX3_hasPath 109 = .ok (.iconst 0, 1) := by decide +kernel
theorem dX3_hasPath_110 : decode cX3_hasPath 110 = .ok (.ireturn, 1) := by decide +kernel
set_option maxRecDepth 20000 in
theorem ggX3_before_X3_isPair : GoodIn wsX3_before wsX3_isPair := goodIn_r _ [6, 7, 8, 9, 10, 5, 11, 12, 13, 14, 15, 34, 35, 36, 37, 38, 39, 40, 41, 42, 43, 44, 45, 46, 47, 48, 49] (by decide +kernel) (by decide +kernel)
set_option maxRecDepth 20000 in
theorem gX3_before_X3_isPair : GoodIn wsX3_before (wsV RX3 85 RX3 yX3_isPair wsX3_isPair) := goodIn_app (goodIn_of _ (by decide +kernel)) ggX3_before_X3_isPair
set_option maxRecDepth 20000 in
theorem ggX3_before_X3_hasPath : GoodIn wsX3_before wsX3_hasPath := goodIn_r _ [19, 12, 20, 21, 22, 5, 23, 24, 25, 26, 27, 28, 34, 35, 36, 37, 38, 39, 40, 41, 42, 43, 44, 45, 46, 47, 48, 49] (by decide +kernel) (by decide +kernel)
set_option maxRecDepth 20000 in
theorem gX3_before_X3_hasPath : GoodIn wsX3_before (wsV RX3 89 RX3 yX3_hasPath wsX3_hasPath) := goodIn_app (goodIn_of _ (by decide +kernel)) ggX3_before_X3_hasPath
set_option maxRecDepth 20000 in
theorem ggX3_before_X3_forget : GoodIn wsX3_before wsX3_forget := goodIn_r _ [32, 33, 34, 35, 36, 37, 38, 39, 40, 41, 42, 43, 44, 45, 46, 47, 48, 49] (by decide +kernel) (by decide +kernel)
set_option maxRecDepth 20000 in
theorem gX3_before_X3_forget : GoodIn wsX3_before (wsV RX3 66 RX3 yX3_forget wsX3_forget) := goodIn_app (goodIn_of _ (by decide +kernel)) ggX3_before_X3_forget
theorem dX3_before_0 : decode cX3_before 0 = .ok (.aload_n 0, 1) := by decide +kernel
theorem dX3_before_1 : decode cX3_before 1 = .ok (.iload_n 1, 1) := by decide +kernel
theorem dX3_before_2 : decode cX3_before 2 = .ok (.iload_n 2, 1) := by decide +kernel
theorem dX3_before_3 : decode cX3_before 3 = .ok (.invokevirtual 85, 3) := by decide +kernel
theorem dX3_before_6 : decode cX3_before 6 = .ok (.ifCond .ne 6, 3) := by decide +kernel
theorem dX3_before_9 : decode cX3_before 9 = .ok (.bipush (-2), 2) := by decide +kernel
theorem dX3_before_11 : decode cX3_before 11 = .ok (.ireturn, 1) := by decide +kernel
theorem dX3_before_12 : decode cX3_before 12 = .ok (.aload_n 0, 1) := by decide +kernel
theorem dX3_before_13 : decode cX3_before 13 = .ok (.aload_n 0, 1) := by decide +kernel
theorem dX3_before_14 : decode cX3_before 14 = .ok (.getfield 19, 3) := by decide +kernel
theorem dX3_before_17 : decode cX3_before 17 = .ok (.iload_n 2, 1) := by decide +kernel
theorem dX3_before_18 : decode cX3_before 18 = .ok (.iload_n 1, 1) := by decide +kernel
theorem dX3_before_19 : decode cX3_before 19 = .ok (.invokevirtual 89, 3) := by decide +kernel
theorem dX3_before_22 : decode cX3_before 22 = .ok (.ifCond .eq 6, 3) := by decide +kernel
theorem dX3_before_25 : decode cX3_before 25 = .ok (.bipush (-4), 2) := by decide +kernel
theorem dX3_before_27 : decode cX3_before 27 = .ok (.ireturn, 1) := by decide +kernel
theorem dX3_before_28 : decode cX3_before 28 = .ok (.aload_n 0, 1) := by decide +kernel
theorem dX3_before_29 : decode cX3_before 29 = .ok (.getfield 19, 3) := by decide +kernel
theorem dX3_before_32 : decode cX3_before 32 = .ok (.bipush 12, 2) := by decide +kernel
theorem dX3_before_34 : decode cX3_before 34 = .ok (.iload_n 1, 1) := by decide +kernel
theorem dX3_before_35 : decode cX3_before 35 = .ok (.imul, 1) := by decide +kernel
theorem dX3_before_36 : decode cX3_before 36 = .ok (.iload_n 2, 1) := by decide +kernel
theorem dX3_before_37 : decode cX3_before 37 = .ok (.iadd, 1) := by decide +kernel
theorem dX3_before_38 : decode cX3_before 38 = .ok (.baload, 1) := by decide +kernel
theorem dX3_before_39 : decode cX3_before 39 = .ok (.ifCond .eq 5, 3) := by decide +kernel
theorem dX3_before_42 : decode cX3_before 42 = .ok (.iconst 0, 1) := by decide +kernel
theorem dX3_before_43 : decode cX3_before 43 = .ok (.ireturn, 1) := by decide +kernel
theorem dX3_before_44 : decode cX3_before 44 = .ok (.aload_n 0, 1) := by decide +kernel
theorem dX3_before_45 : decode cX3_before 45 = .ok (.getfield 19, 3) := by decide +kernel
theorem dX3_before_48 : decode cX3_before 48 = .ok (.bipush 12, 2) := by decide +kernel
theorem dX3_before_50 : decode cX3_before 50 = .ok (.iload_n 1, 1) := by decide +kernel
theorem dX3_before_51 : decode cX3_before 51 = .ok (.imul, 1) := by decide +kernel
theorem dX3_before_52 : decode cX3_before 52 = .ok (.iload_n 2, 1) := by decide +kernel
theorem dX3_before_53 : decode cX3_before 53 = .ok (.iadd, 1) := by decide +kernel
theorem dX3_before_54 : decode cX3_before 54 = .ok (.iconst 1, 1) := by decide +kernel
theorem dX3_before_55 : decode cX3_before 55 = .ok (.bastore, 1) := by decide +kernel
theorem dX3_before_56 : decode cX3_before 56 = .ok (.aload_n 0, 1) := by decide +kernel
theorem dX3_before_57 : decode cX3_before 57 = .ok (.invokevirtual 66, 3) := by decide +kernel
theorem dX3_before_60 : decode cX3_before 60 = .ok (.iconst 1, 1) := by decide +kernel
theorem dX3_before_61 : decode cX3_before 61 = .ok (.ireturn, 1) := by decide +kernel
set_option maxRecDepth 20000 in
theorem ggX3_free_X3_isPair : GoodIn wsX3_free wsX3_isPair := goodIn_r _ [6, 7, 8, 9, 10, 5, 11, 12, 13, 14, 15, 21, 22, 23, 24, 25, 26, 27, 28, 29, 30, 31, 32, 33, 34, 35, 36] (by decide +kernel) (by decide +kernel)
set_option maxRecDepth 20000 in
theorem gX3_free_X3_isPair : GoodIn wsX3_free (wsV RX3 85 RX3 yX3_isPair wsX3_isPair) := goodIn_app (goodIn_of _ (by decide +kernel)) ggX3_free_X3_isPair
set_option maxRecDepth 20000 in
theorem ggX3_free_X3_forget : GoodIn wsX3_free wsX3_forget := goodIn_r _ [19, 20, 21, 22, 23, 24, 25, 26, 27, 28, 29, 30, 31, 32, 33, 34, 35, 36] (by decide +kernel) (by decide +kernel)
set_option maxRecDepth 20000 in
theorem gX3_free_X3_forget : GoodIn wsX3_free (wsV RX3 66 RX3 yX3_forget wsX3_forget) := goodIn_app (goodIn_of _ (by decide +kernel)) ggX3_free_X3_forget
theorem dX3_free_0 : decode cX3_free 0 = .ok (.aload_n 0, 1) := by decide +kernel
theorem dX3_free_1 : decode cX3_free 1 = .ok (.iload_n 1, 1) := by decide +kernel
theorem dX3_free_2 : decode cX3_free 2 = .ok (.iload_n 2, 1) := by decide +kernel
theorem dX3_free_3 : decode cX3_free 3 = .ok (.invokevirtual 85, 3) := by decide +kernel
theorem dX3_free_6 : decode cX3_free 6 = .ok (.ifCond .ne 6, 3) := by decide +kernel
theorem dX3_free_9 : decode cX3_free 9 = .ok (.bipush (-2), 2) := by decide +kernel
theorem dX3_free_11 : decode cX3_free 11 = .ok (.ireturn, 1) := by decide +kernel
theorem dX3_free_12 : decode cX3_free 12 = .ok (.aload_n 0, 1) := by decide +kernel
theorem dX3_free_13 : decode cX3_free 13 = .ok (.getfield 19, 3) := by decide +kernel
theorem dX3_free_16 : decode cX3_free 16 = .ok (.bipush 12, 2) := by decide +kernel
theorem dX3_free_18 : decode cX3_free 18 = .ok (.iload_n 1, 1) := by decide +kernel
theorem dX3_free_19 : decode cX3_free 19 = .ok (.imul, 1) := by decide +kernel
theorem dX3_free_20 : decode cX3_free 20 = .ok (.iload_n 2, 1) := by decide +kernel
theorem dX3_free_21 : decode cX3_free 21 = .ok (.iadd, 1) := by decide +kernel
theorem dX3_free_22 : decode cX3_free 22 = .ok (.baload, 1) := by decide +kernel
theorem dX3_free_23 : decode cX3_free 23 = .ok (.ifCond .ne 19, 3) := by decide +kernel
