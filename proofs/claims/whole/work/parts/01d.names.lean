set_option maxRecDepth 20000 in
theorem ggX2_init_X0_init : GoodIn wsX2_init wsX0_init := goodIn_r _ [16, 17, 2, 3, 12, 18, 19, 20, 21, 22, 23, 24, 25, 26, 27, 41, 42, 43, 44, 45, 46, 47, 48, 49, 50, 51, 52] (by decide +kernel) (by decide +kernel)
set_option maxRecDepth 20000 in
theorem gX2_init_X0_init_n9 : GoodIn wsX2_init (wsX0_init) := ggX2_init_X0_init
set_option maxRecDepth 20000 in
theorem ggX2_init_X1_init : GoodIn wsX2_init wsX1_init := goodIn_r _ [30, 31, 2, 3, 12, 32, 33, 34, 35, 36, 37, 38, 39, 40, 57, 58, 59, 60, 61, 62, 63, 64, 65, 66, 67, 68] (by decide +kernel) (by decide +kernel)
set_option maxRecDepth 20000 in
theorem gX2_init_X1_init : GoodIn wsX2_init (wsX1_init) := ggX2_init_X1_init
theorem dX2_init_0 : decode cX2_init 0 = .ok (.aload_n 0, 1) := by decide +kernel
theorem dX2_init_1 : decode cX2_init 1 = .ok (.invokespecial 1, 3) := by decide +kernel
theorem dX2_init_4 : decode cX2_init 4 = .ok (.aload_n 0, 1) := by decide +kernel
theorem dX2_init_5 : decode cX2_init 5 = .ok (.new 7, 3) := by decide +kernel
theorem dX2_init_8 : decode cX2_init 8 = .ok (.dup, 1) := by decide +kernel
theorem dX2_init_9 : decode cX2_init 9 = .ok (.invokespecial 9, 3) := by decide +kernel
theorem dX2_init_12 : decode cX2_init 12 = .ok (.putfield 10, 3) := by decide +kernel
theorem dX2_init_15 : decode cX2_init 15 = .ok (.aload_n 0, 1) := by decide +kernel
theorem dX2_init_16 : decode cX2_init 16 = .ok (.new 16, 3) := by decide +kernel
theorem dX2_init_19 : decode cX2_init 19 = .ok (.dup, 1) := by decide +kernel
theorem dX2_init_20 : decode cX2_init 20 = .ok (.aload_n 0, 1) := by decide +kernel
theorem dX2_init_21 : decode cX2_init 21 = .ok (.getfield 10, 3) := by decide +kernel
theorem dX2_init_24 : decode cX2_init 24 = .ok (.invokespecial 18, 3) := by decide +kernel
theorem dX2_init_27 : decode cX2_init 27 = .ok (.putfield 21, 3) := by decide +kernel
theorem dX2_init_30 : decode cX2_init 30 = .ok (.aload_n 0, 1) := by decide +kernel
theorem dX2_init_31 : decode cX2_init 31 = .ok (.bipush 12, 2) := by decide +kernel
theorem dX2_init_33 : decode cX2_init 33 = .ok (.newarray .int, 2) := by decide +kernel
theorem dX2_init_35 : decode cX2_init 35 = .ok (.putfield 25, 3) := by decide +kernel
theorem dX2_init_38 : decode cX2_init 38 = .ok (.aload_n 0, 1) := by decide +kernel
theorem dX2_init_39 : decode cX2_init 39 = .ok (.iconst 0, 1) := by decide +kernel
theorem dX2_init_40 : decode cX2_init 40 = .ok (.putfield 29, 3) := by decide +kernel
theorem dX2_init_43 : decode cX2_init 43 = .ok (.return_, 1) := by decide +kernel
set_option maxRecDepth 20000 in
theorem ggX2_clear_X0_empty : GoodIn wsX2_clear wsX0_empty := goodIn_r _ [8, 9, 10, 15, 16, 17, 18, 19, 20, 21, 22, 23, 24, 25, 26] (by decide +kernel) (by decide +kernel)
set_option maxRecDepth 20000 in
theorem gX2_clear_X0_empty : GoodIn wsX2_clear (wsV RX2 37 RX0 yX0_empty wsX0_empty) := goodIn_app (goodIn_of _ (by decide +kernel)) ggX2_clear_X0_empty
theorem dX2_clear_0 : decode cX2_clear 0 = .ok (.aload_n 0, 1) := by decide +kernel
theorem dX2_clear_1 : decode cX2_clear 1 = .ok (.getfield 10, 3) := by decide +kernel
theorem dX2_clear_4 : decode cX2_clear 4 = .ok (.getfield 33, 3) := by decide +kernel
theorem dX2_clear_7 : decode cX2_clear 7 = .ok (.istore_n 1, 1) := by decide +kernel
theorem dX2_clear_8 : decode cX2_clear 8 = .ok (.aload_n 0, 1) := by decide +kernel
theorem dX2_clear_9 : decode cX2_clear 9 = .ok (.getfield 10, 3) := by decide +kernel
theorem dX2_clear_12 : decode cX2_clear 12 = .ok (.invokevirtual 37, 3) := by decide +kernel
theorem dX2_clear_15 : decode cX2_clear 15 = .ok (.aload_n 0, 1) := by decide +kernel
theorem dX2_clear_16 : decode cX2_clear 16 = .ok (.iconst 0, 1) := by decide +kernel
theorem dX2_clear_17 : decode cX2_clear 17 = .ok (.putfield 29, 3) := by decide +kernel
theorem dX2_clear_20 : decode cX2_clear 20 = .ok (.iload_n 1, 1) := by decide +kernel
theorem dX2_clear_21 : decode cX2_clear 21 = .ok (.ireturn, 1) := by decide +kernel
set_option maxRecDepth 20000 in
theorem ggX2_job_X0_addJob : GoodIn wsX2_job wsX0_addJob := goodIn_r _ [7, 8, 9, 10, 15, 16, 17, 18, 19, 20, 21, 22, 23, 24, 25, 26] (by decide +kernel) (by decide +kernel)
set_option maxRecDepth 20000 in
theorem gX2_job_X0_addJob : GoodIn wsX2_job (wsV RX2 43 RX0 yX0_addJob wsX0_addJob) := goodIn_app (goodIn_of _ (by decide +kernel)) ggX2_job_X0_addJob
theorem dX2_job_0 : decode cX2_job 0 = .ok (.aload_n 0, 1) := by decide +kernel
theorem dX2_job_1 : decode cX2_job 1 = .ok (.getfield 10, 3) := by decide +kernel
theorem dX2_job_4 : decode cX2_job 4 = .ok (.getfield 40, 3) := by decide +kernel
theorem dX2_job_7 : decode cX2_job 7 = .ok (.iconst 4, 1) := by decide +kernel
theorem dX2_job_8 : decode cX2_job 8 = .ok (.if_icmp .ge 13, 3) := by decide +kernel
theorem dX2_job_11 : decode cX2_job 11 = .ok (.aload_n 0, 1) := by decide +kernel
theorem dX2_job_12 : decode cX2_job 12 = .ok (.getfield 10, 3) := by decide +kernel
theorem dX2_job_15 : decode cX2_job 15 = .ok (.invokevirtual 43, 3) := by decide +kernel
theorem dX2_job_18 : decode cX2_job 18 = .ok (.goto 5, 3) := by decide +kernel
theorem dX2_job_21 : decode cX2_job 21 = .ok (.bipush (-3), 2) := by decide +kernel
theorem dX2_job_23 : decode cX2_job 23 = .ok (.ireturn, 1) := by decide +kernel
set_option maxRecDepth 20000 in
theorem ggX2_operation_X0_isJob : GoodIn wsX2_operation wsX0_isJob := goodIn_r _ [9, 10, 55, 56, 57, 58, 59, 60, 61, 62, 63, 64, 65, 66] (by decide +kernel) (by decide +kernel)
set_option maxRecDepth 20000 in
theorem gX2_operation_X0_isJob : GoodIn wsX2_operation (wsV RX2 47 RX0 yX0_isJob wsX0_isJob) := goodIn_app (goodIn_of _ (by decide +kernel)) ggX2_operation_X0_isJob
set_option maxRecDepth 20000 in
theorem ggX2_operation_X2_isMachine : GoodIn wsX2_operation wsX2_isMachine := goodIn_r _ [14] (by decide +kernel) (by decide +kernel)
set_option maxRecDepth 20000 in
theorem gX2_operation_X2_isMachine : GoodIn wsX2_operation (va_wsS RX2 51 yX2_isMachine wsX2_isMachine) := goodIn_app (goodIn_of _ (by decide +kernel)) ggX2_operation_X2_isMachine
set_option maxRecDepth 20000 in
theorem ggX2_operation_X0_visits : GoodIn wsX2_operation wsX0_visits := goodIn_r _ [18, 19, 20, 21, 55, 56, 57, 58, 59, 60, 61, 62, 63, 64, 65, 66] (by decide +kernel) (by decide +kernel)
set_option maxRecDepth 20000 in
theorem gX2_operation_X0_visits : GoodIn wsX2_operation (wsV RX2 54 RX0 yX0_visits wsX0_visits) := goodIn_app (goodIn_of _ (by decide +kernel)) ggX2_operation_X0_visits
set_option maxRecDepth 20000 in
theorem ggX2_operation_X0_addOperation : GoodIn wsX2_operation wsX0_addOperation := goodIn_r _ [25, 19, 20, 21, 26, 27, 28, 29, 30, 31, 32, 33, 8, 34, 35, 36, 37, 38, 39, 40, 41, 42, 43, 44, 45, 46, 47, 48, 49, 13, 50, 55, 56, 57, 58, 59, 60, 61, 62, 63, 64, 65, 66] (by decide +kernel) (by decide +kernel)
set_option maxRecDepth 20000 in
theorem gX2_operation_X0_addOperation : GoodIn wsX2_operation (wsV RX2 58 RX0 yX0_addOperation wsX0_addOperation) := goodIn_app (goodIn_of _ (by decide +kernel)) ggX2_operation_X0_addOperation
theorem dX2_operation_0 : decode cX2_operation 0 = .ok (.aload_n 0, 1) := by decide +kernel
theorem dX2_operation_1 : decode cX2_operation 1 = .ok (.getfield 10, 3) := by decide +kernel
theorem dX2_operation_4 : decode cX2_operation 4 = .ok (.iload_n 1, 1) := by decide +kernel
theorem dX2_operation_5 : decode cX2_operation 5 = .ok (.invokevirtual 47, 3) := by decide +kernel
theorem dX2_operation_8 : decode cX2_operation 8 = .ok (.ifCond .eq 21, 3) := by decide +kernel
theorem dX2_operation_11 : decode cX2_operation 11 = .ok (.iload_n 2, 1) := by decide +kernel
theorem dX2_operation_12 : decode cX2_operation 12 = .ok (.invokestatic 51, 3) := by decide +kernel
theorem dX2_operation_15 : decode cX2_operation 15 = .ok (.ifCond .eq 14, 3) := by decide +kernel
theorem dX2_operation_18 : decode cX2_operation 18 = .ok (.iload_n 3, 1) := by decide +kernel
theorem dX2_operation_19 : decode cX2_operation 19 = .ok (.iconst 1, 1) := by decide +kernel
theorem dX2_operation_20 : decode cX2_operation 20 = .ok (.if_icmp .lt 9, 3) := by decide +kernel
theorem dX2_operation_23 : decode cX2_operation 23 = .ok (.iload_n 3, 1) := by decide +kernel
theorem dX2_operation_24 : decode cX2_operation 24 = .ok (.bipush 50, 2) := by decide +kernel
theorem dX2_operation_26 : decode cX2_operation 26 = .ok (.if_icmp .le 6, 3) := by decide +kernel
theorem dX2_operation_29 : decode cX2_operation 29 = .ok (.bipush (-2), 2) := by decide +kernel
theorem dX2_operation_31 : decode cX2_operation 31 = .ok (.ireturn, 1) := by decide +kernel
theorem dX2_operation_32 : decode cX2_operation 32 = .ok (.aload_n 0, 1) := by decide +kernel
theorem dX2_operation_33 : decode cX2_operation 33 = .ok (.getfield 10, 3) := by decide +kernel
theorem dX2_operation_36 : decode cX2_operation 36 = .ok (.iload_n 1, 1) := by decide +kernel
theorem dX2_operation_37 : decode cX2_operation 37 = .ok (.iload_n 2, 1) := by decide +kernel
theorem dX2_operation_38 : decode cX2_operation 38 = .ok (.invokevirtual 54, 3) := by decide +kernel
theorem dX2_operation_41 : decode cX2_operation 41 = .ok (.ifCond .eq 6, 3) := by decide +kernel
theorem dX2_operation_44 : decode cX2_operation 44 = .ok (.bipush (-2), 2) := by decide +kernel
theorem dX2_operation_46 : decode cX2_operation 46 = .ok (.ireturn, 1) := by decide +kernel
theorem dX2_operation_47 : decode cX2_operation 47 = .ok (.aload_n 0, 1) := by decide +kernel
theorem dX2_operation_48 : decode cX2_operation 48 = .ok (.getfield 10, 3) := by decide +kernel
theorem dX2_operation_51 : decode cX2_operation 51 = .ok (.getfield 33, 3) := by decide +kernel
theorem dX2_operation_54 : decode cX2_operation 54 = .ok (.bipush 12, 2) := by decide +kernel
theorem dX2_operation_56 : decode cX2_operation 56 = .ok (.if_icmp .lt 6, 3) := by decide +kernel
theorem dX2_operation_59 : decode cX2_operation 59 = .ok (.bipush (-3), 2) := by decide +kernel
theorem dX2_operation_61 : decode cX2_operation 61 = .ok (.ireturn, 1) := by decide +kernel
theorem dX2_operation_62 : decode cX2_operation 62 = .ok (.aload_n 0, 1) := by decide +kernel
theorem dX2_operation_63 : decode cX2_operation 63 = .ok (.iconst 0, 1) := by decide +kernel
theorem dX2_operation_64 : decode cX2_operation 64 = .ok (.putfield 29, 3) := by decide +kernel
theorem dX2_operation_67 : decode cX2_operation 67 = .ok (.aload_n 0, 1) := by decide +kernel
theorem dX2_operation_68 : decode cX2_operation 68 = .ok (.getfield 10, 3) := by decide +kernel
theorem dX2_operation_71 : decode cX2_operation 71 = .ok (.iload_n 1, 1) := by decide +kernel
theorem dX2_operation_72 : decode cX2_operation 72 = .ok (.iload_n 2, 1) := by decide +kernel
theorem dX2_operation_73 : decode cX2_operation 73 = .ok (.iload_n 3, 1) := by decide +kernel
theorem dX2_operation_74 : decode cX2_operation 74 = .ok (.invokevirtual 58, 3) := by decide +kernel
theorem dX2_operation_77 : decode cX2_operation 77 = .ok (.istore 4, 2) := by decide +kernel
theorem dX2_operation_79 : decode cX2_operation 79 = .ok (.iconst 0, 1) := by decide +kernel
theorem dX2_operation_80 : decode cX2_operation 80 = .ok (.istore 5, 2) := by decide +kernel
theorem dX2_operation_82 : decode cX2_operation 82 = .ok (.iload 5, 2) := by decide +kernel
theorem dX2_operation_84 : decode cX2_operation 84 = .ok (.aload_n 0, 1) := by decide +kernel
theorem dX2_operation_85 : decode cX2_operation 85 = .ok (.getfield 10, 3) := by decide +kernel
theorem dX2_operation_88 : decode cX2_operation 88 = .ok (.getfield 33, 3) := by decide +kernel
theorem dX2_operation_91 : decode cX2_operation 91 = .ok (.if_icmp .ge 17, 3) := by decide +kernel
theorem dX2_operation_94 : decode cX2_operation 94 = .ok (.aload_n 0, 1) := by decide +kernel
theorem dX2_operation_95 : decode cX2_operation 95 = .ok (.getfield 25, 3) := by decide +kernel
theorem dX2_operation_98 : decode cX2_operation 98 = .ok (.iload 5, 2) := by decide +kernel
theorem dX2_operation_100 : decode cX2_operation 100 = .ok (.iconst 0, 1) := by decide +kernel
theorem dX2_operation_101 : decode cX2_operation 101 = .ok (.iastore, 1) := by decide +kernel
theorem dX2_operation_102 : decode cX2_operation 102 = .ok (.iinc 5 1, 3) := by decide +kernel
theorem dX2_operation_105 : decode cX2_operation 105 = .ok (.goto (-23), 3) := by decide +kernel
theorem dX2_operation_108 : decode cX2_operation 108 = .ok (.iload 4, 2) := by decide +kernel
theorem dX2_operation_110 : decode cX2_operation 110 = .ok (.ireturn, 1) := by decide +kernel
set_option maxRecDepth 20000 in
theorem ggX2_before_X0_isPair : GoodIn wsX2_before wsX0_isPair := goodIn_r _ [7, 8, 9, 10, 11, 6, 12, 13, 50, 51, 52, 53, 54, 55, 56, 57, 58, 59, 60, 61] (by decide +kernel) (by decide +kernel)
set_option maxRecDepth 20000 in
theorem gX2_before_X0_isPair : GoodIn wsX2_before (wsV RX2 62 RX0 yX0_isPair wsX0_isPair) := goodIn_app (goodIn_of _ (by decide +kernel)) ggX2_before_X0_isPair
set_option maxRecDepth 20000 in
theorem ggX2_before_X0_leads : GoodIn wsX2_before wsX0_leads := goodIn_r _ [17, 13, 18, 19, 20, 6, 21, 22, 23, 24, 25, 26, 50, 51, 52, 53, 54, 55, 56, 57, 58, 59, 60, 61] (by decide +kernel) (by decide +kernel)
set_option maxRecDepth 20000 in
theorem gX2_before_X0_leads : GoodIn wsX2_before (wsV RX2 65 RX0 yX0_leads wsX0_leads) := goodIn_app (goodIn_of _ (by decide +kernel)) ggX2_before_X0_leads
set_option maxRecDepth 20000 in
theorem ggX2_before_X0_hasArc : GoodIn wsX2_before wsX0_hasArc := goodIn_r _ [30, 23, 24, 25, 26, 50, 51, 52, 53, 54, 55, 56, 57, 58, 59, 60, 61] (by decide +kernel) (by decide +kernel)
set_option maxRecDepth 20000 in
theorem gX2_before_X0_hasArc : GoodIn wsX2_before (wsV RX2 68 RX0 yX0_hasArc wsX0_hasArc) := goodIn_app (goodIn_of _ (by decide +kernel)) ggX2_before_X0_hasArc
set_option maxRecDepth 20000 in
theorem ggX2_before_X0_putArc : GoodIn wsX2_before wsX0_putArc := goodIn_r _ [34, 23, 35, 36, 37, 6, 38, 13, 39, 40, 41, 42, 43, 44, 45, 18, 19, 20, 21, 22, 24, 25, 26, 50, 51, 52, 53, 54, 55, 56, 57, 58, 59, 60, 61] (by decide +kernel) (by decide +kernel)
set_option maxRecDepth 20000 in
theorem gX2_before_X0_putArc : GoodIn wsX2_before (wsV RX2 71 RX0 yX0_putArc wsX0_putArc) := goodIn_app (goodIn_of _ (by decide +kernel)) ggX2_before_X0_putArc
theorem dX2_before_0 : decode cX2_before 0 = .ok (.aload_n 0, 1) := by decide +kernel
theorem dX2_before_1 : decode cX2_before 1 = .ok (.getfield 10, 3) := by decide +kernel
theorem dX2_before_4 : decode cX2_before 4 = .ok (.iload_n 1, 1) := by decide +kernel
theorem dX2_before_5 : decode cX2_before 5 = .ok (.iload_n 2, 1) := by decide +kernel
theorem dX2_before_6 : decode cX2_before 6 = .ok (.invokevirtual 62, 3) := by decide +kernel
theorem dX2_before_9 : decode cX2_before 9 = .ok (.ifCond .ne 6, 3) := by decide +kernel
theorem dX2_before_12 : decode cX2_before 12 = .ok (.bipush (-2), 2) := by decide +kernel
theorem dX2_before_14 : decode cX2_before 14 = .ok (.ireturn, 1) := by decide +kernel
theorem dX2_before_15 : decode cX2_before 15 = .ok (.aload_n 0, 1) := by decide +kernel
theorem dX2_before_16 : decode cX2_before 16 = .ok (.getfield 10, 3) := by decide +kernel
theorem dX2_before_19 : decode cX2_before 19 = .ok (.iload_n 2, 1) := by decide +kernel
theorem dX2_before_20 : decode cX2_before 20 = .ok (.iload_n 1, 1) := by decide +kernel
theorem dX2_before_21 : decode cX2_before 21 = .ok (.invokevirtual 65, 3) := by decide +kernel
theorem dX2_before_24 : decode cX2_before 24 = .ok (.ifCond .eq 6, 3) := by decide +kernel
theorem dX2_before_27 : decode cX2_before 27 = .ok (.bipush (-4), 2) := by decide +kernel
theorem dX2_before_29 : decode cX2_before 29 = .ok (.ireturn, 1) := by decide +kernel
theorem dX2_before_30 : decode cX2_before 30 = .ok (.aload_n 0, 1) := by decide +kernel
theorem dX2_before_31 : decode cX2_before 31 = .ok (.getfield 10, 3) := by decide +kernel
theorem dX2_before_34 : decode cX2_before 34 = .ok (.iload_n 1, 1) := by decide +kernel
theorem dX2_before_35 : decode cX2_before 35 = .ok (.iload_n 2, 1) := by decide +kernel
theorem dX2_before_36 : decode cX2_before 36 = .ok (.invokevirtual 68, 3) := by decide +kernel
theorem dX2_before_39 : decode cX2_before 39 = .ok (.ifCond .eq 5, 3) := by decide +kernel
theorem dX2_before_42 : decode cX2_before 42 = .ok (.iconst 0, 1) := by decide +kernel
theorem dX2_before_43 : decode cX2_before 43 = .ok (.ireturn, 1) := by decide +kernel
theorem dX2_before_44 : decode cX2_before 44 = .ok (.aload_n 0, 1) := by decide +kernel
theorem dX2_before_45 : decode cX2_before 45 = .ok (.getfield 10, 3) := by decide +kernel
theorem dX2_before_48 : decode cX2_before 48 = .ok (.iload_n 1, 1) := by decide +kernel
theorem dX2_before_49 : decode cX2_before 49 = .ok (.iload_n 2, 1) := by decide +kernel
theorem dX2_before_50 : decode cX2_before 50 = .ok (.invokevirtual 71, 3) := by decide +kernel
theorem dX2_before_53 : decode cX2_before 53 = .ok (.aload_n 0, 1) := by decide +kernel
theorem dX2_before_54 : decode cX2_before 54 = .ok (.iconst 0, 1) := by decide +kernel
theorem dX2_before_55 : decode cX2_before 55 = .ok (.putfield 29, 3) := by decide +kernel
theorem dX2_before_58 : decode cX2_before 58 = .ok (.iconst 1, 1) := by decide +kernel
theorem dX2_before_59 : decode cX2_before 59 = .ok (.ireturn, 1) := by decide +kernel
set_option maxRecDepth 20000 in
theorem ggX2_free_X0_isPair : GoodIn wsX2_free wsX0_isPair := goodIn_r _ [7, 8, 9, 10, 11, 6, 12, 13, 50, 51, 52, 53, 54, 55, 56, 57, 58, 59, 60, 61] (by decide +kernel) (by decide +kernel)
set_option maxRecDepth 20000 in
theorem gX2_free_X0_isPair : GoodIn wsX2_free (wsV RX2 62 RX0 yX0_isPair wsX0_isPair) := goodIn_app (goodIn_of _ (by decide +kernel)) ggX2_free_X0_isPair
set_option maxRecDepth 20000 in
theorem ggX2_free_X0_isTied : GoodIn wsX2_free wsX0_isTied := goodIn_r _ [17, 18, 19, 20, 6, 21, 22, 23, 24, 25, 50, 51, 52, 53, 54, 55, 56, 57, 58, 59, 60, 61] (by decide +kernel) (by decide +kernel)
set_option maxRecDepth 20000 in
theorem gX2_free_X0_isTied : GoodIn wsX2_free (wsV RX2 75 RX0 yX0_isTied wsX0_isTied) := goodIn_app (goodIn_of _ (by decide +kernel)) ggX2_free_X0_isTied
set_option maxRecDepth 20000 in
theorem ggX2_free_X0_dropArcs : GoodIn wsX2_free wsX0_dropArcs := goodIn_r _ [29, 22, 30, 31, 32, 6, 33, 13, 34, 35, 36, 37, 38, 39, 40, 41, 42, 43, 44, 45, 23, 24, 25, 50, 51, 52, 53, 54, 55, 56, 57, 58, 59, 60, 61] (by decide +kernel) (by decide +kernel)
set_option maxRecDepth 20000 in
theorem gX2_free_X0_dropArcs : GoodIn wsX2_free (wsV RX2 78 RX0 yX0_dropArcs wsX0_dropArcs) := goodIn_app (goodIn_of _ (by decide +kernel)) ggX2_free_X0_dropArcs
theorem dX2_free_0 : decode cX2_free 0 = .ok (.aload_n 0, 1) := by decide +kernel
theorem dX2_free_1 : decode cX2_free 1 = .ok (.getfield 10, 3) := by decide +kernel
theorem dX2_free_4 : decode cX2_free 4 = .ok (.iload_n 1, 1) := by decide +kernel
theorem dX2_free_5 : decode cX2_free 5 = .ok (.iload_n 2, 1) := by decide +kernel
theorem dX2_free_6 : decode cX2_free 6 = .ok (.invokevirtual 62, 3) := by decide +kernel
theorem dX2_free_9 : decode cX2_free 9 = .ok (.ifCond .ne 6, 3) := by decide +kernel
theorem dX2_free_12 : decode cX2_free 12 = .ok (.bipush (-2), 2) := by decide +kernel
theorem dX2_free_14 : decode cX2_free 14 = .ok (.ireturn, 1) := by decide +kernel
theorem dX2_free_15 : decode cX2_free 15 = .ok (.aload_n 0, 1) := by decide +kernel
theorem dX2_free_16 : decode cX2_free 16 = .ok (.getfield 10, 3) := by decide +kernel
theorem dX2_free_19 : decode cX2_free 19 = .ok (.iload_n 1, 1) := by decide +kernel
theorem dX2_free_20 : decode cX2_free 20 = .ok (.iload_n 2, 1) := by decide +kernel
theorem dX2_free_21 : decode cX2_free 21 = .ok (.invokevirtual 75, 3) := by decide +kernel
theorem dX2_free_24 : decode cX2_free 24 = .ok (.ifCond .ne 5, 3) := by decide +kernel
theorem dX2_free_27 : decode cX2_free 27 = .ok (.iconst 0, 1) := by decide +kernel
theorem dX2_free_28 : decode cX2_free 28 = .ok (.ireturn, 1) := by decide +kernel
theorem dX2_free_29 : decode cX2_free 29 = .ok (.aload_n 0, 1) := by decide +kernel
theorem dX2_free_30 : decode cX2_free 30 = .ok (.getfield 10, 3) := by decide +kernel
theorem dX2_free_33 : decode cX2_free 33 = .ok (.iload_n 1, 1) := by decide +kernel
theorem dX2_free_34 : decode cX2_free 34 = .ok (.iload_n 2, 1) := by decide +kernel
theorem dX2_free_35 : decode cX2_free 35 = .ok (.invokevirtual 78, 3) := by decide +kernel
theorem dX2_free_38 : decode cX2_free 38 = .ok (.aload_n 0, 1) := by decide +kernel
theorem dX2_free_39 : decode cX2_free 39 = .ok (.iconst 0, 1) := by decide +kernel
theorem dX2_free_40 : decode cX2_free 40 = .ok (.putfield 29, 3) := by decide +kernel
theorem dX2_free_43 : decode cX2_free 43 = .ok (.iconst 1, 1) := by decide +kernel
theorem dX2_free_44 : decode cX2_free 44 = .ok (.ireturn, 1) := by decide +kernel
set_option maxRecDepth 20000 in
theorem ggX2_arc_X0_isPair : GoodIn wsX2_arc wsX0_isPair := goodIn_r _ [6, 7, 8, 9, 10, 5, 11, 12, 25, 26, 27, 28, 29, 30, 31, 32, 33, 34, 35, 36] (by decide +kernel) (by decide +kernel)
set_option maxRecDepth 20000 in
theorem gX2_arc_X0_isPair : GoodIn wsX2_arc (wsV RX2 62 RX0 yX0_isPair wsX0_isPair) := goodIn_app (goodIn_of _ (by decide +kernel)) ggX2_arc_X0_isPair
set_option maxRecDepth 20000 in
theorem ggX2_arc_X0_hasArc : GoodIn wsX2_arc wsX0_hasArc := goodIn_r _ [16, 17, 18, 19, 20, 25, 26, 27, 28, 29, 30, 31, 32, 33, 34, 35, 36] (by decide +kernel) (by decide +kernel)
set_option maxRecDepth 20000 in
theorem gX2_arc_X0_hasArc : GoodIn wsX2_arc (wsV RX2 68 RX0 yX0_hasArc wsX0_hasArc) := goodIn_app (goodIn_of _ (by decide +kernel)) ggX2_arc_X0_hasArc
theorem dX2_arc_0 : decode cX2_arc 0 = .ok (.aload_n 0, 1) := by decide +kernel
theorem dX2_arc_1 : decode cX2_arc 1 = .ok (.getfield 10, 3) := by decide +kernel
theorem dX2_arc_4 : decode cX2_arc 4 = .ok (.iload_n 1, 1) := by decide +kernel
theorem dX2_arc_5 : decode cX2_arc 5 = .ok (.iload_n 2, 1) := by decide +kernel
theorem dX2_arc_6 : decode cX2_arc 6 = .ok (.invokevirtual 62, 3) := by decide +kernel
theorem dX2_arc_9 : decode cX2_arc 9 = .ok (.ifCond .ne 6, 3) := by decide +kernel
theorem dX2_arc_12 : decode cX2_arc 12 = .ok (.bipush (-2), 2) := by decide +kernel
theorem dX2_arc_14 : decode cX2_arc 14 = .ok (.ireturn, 1) := by decide +kernel
theorem dX2_arc_15 : decode cX2_arc 15 = .ok (.aload_n 0, 1) := by decide +kernel
theorem dX2_arc_16 : decode cX2_arc 16 = .ok (.getfield 10, 3) := by decide +kernel
theorem dX2_arc_19 : decode cX2_arc 19 = .ok (.iload_n 1, 1) := by decide +kernel
theorem dX2_arc_20 : decode cX2_arc 20 = .ok (.iload_n 2, 1) := by decide +kernel
theorem dX2_arc_21 : decode cX2_arc 21 = .ok (.invokevirtual 68, 3) := by decide +kernel
theorem dX2_arc_24 : decode cX2_arc 24 = .ok (.ifCond .eq 7, 3) := by decide +kernel
theorem dX2_arc_27 : decode cX2_arc 27 = .ok (.iconst 1, 1) := by decide +kernel
theorem dX2_arc_28 : decode cX2_arc 28 = .ok (.goto 4, 3) := by decide +kernel
theorem dX2_arc_31 : decode cX2_arc 31 = .ok (.iconst 0, 1) := by decide +kernel
theorem dX2_arc_32 : decode cX2_arc 32 = .ok (.ireturn, 1) := by decide +kernel
set_option maxRecDepth 20000 in
theorem ggX2_told_X0_isOperation : GoodIn wsX2_told wsX0_isOperation := goodIn_r _ [14, 15, 36, 37, 38, 39, 40, 41, 42, 43, 44, 45, 46, 47] (by decide +kernel) (by decide +kernel)
set_option maxRecDepth 20000 in
theorem gX2_told_X0_isOperation : GoodIn wsX2_told (wsV RX2 81 RX0 yX0_isOperation wsX0_isOperation) := goodIn_app (goodIn_of _ (by decide +kernel)) ggX2_told_X0_isOperation
set_option maxRecDepth 20000 in
theorem ggX2_told_X0_through : GoodIn wsX2_told wsX0_through := goodIn_r _ [19, 20, 21, 22, 36, 37, 38, 39, 40, 41, 42, 43, 44, 45, 46, 47] (by decide +kernel) (by decide +kernel)
set_option maxRecDepth 20000 in
theorem gX2_told_X0_through : GoodIn wsX2_told (wsV RX2 99 RX0 yX0_through wsX0_through) := goodIn_app (goodIn_of _ (by decide +kernel)) ggX2_told_X0_through
set_option maxRecDepth 20000 in
theorem ggX2_told_X0_longest : GoodIn wsX2_told wsX0_longest := goodIn_r _ [26, 15, 27, 28, 29, 30, 31, 17, 18, 13, 19, 20, 21, 22, 36, 37, 38, 39, 40, 41, 42, 43, 44, 45, 46, 47] (by decide +kernel) (by decide +kernel)
set_option maxRecDepth 20000 in
theorem gX2_told_X0_longest : GoodIn wsX2_told (wsV RX2 103 RX0 yX0_longest wsX0_longest) := goodIn_app (goodIn_of _ (by decide +kernel)) ggX2_told_X0_longest
theorem dX2_told_0 : decode cX2_told 0 = .ok (.aload_n 0, 1) := by decide +kernel
theorem dX2_told_1 : decode cX2_told 1 = .ok (.getfield 10, 3) := by decide +kernel
theorem dX2_told_4 : decode cX2_told 4 = .ok (.iload_n 1, 1) := by decide +kernel
theorem dX2_told_5 : decode cX2_told 5 = .ok (.invokevirtual 81, 3) := by decide +kernel
theorem dX2_told_8 : decode cX2_told 8 = .ok (.ifCond .ne 5, 3) := by decide +kernel
theorem dX2_told_11 : decode cX2_told 11 = .ok (.iconst (-1), 1) := by decide +kernel
theorem dX2_told_12 : decode cX2_told 12 = .ok (.ireturn, 1) := by decide +kernel
theorem dX2_told_13 : decode cX2_told 13 = .ok (.iload_n 2, 1) := by decide +kernel
theorem dX2_told_14 : decode cX2_told 14 = .ok (.tableswitch 137 0 6 #[42, 52, 62, 72, 82, 92, 116], 42) := by decide +kernel
theorem dX2_told_56 : decode cX2_told 56 = .ok (.aload_n 0, 1) := by decide +kernel
theorem dX2_told_57 : decode cX2_told 57 = .ok (.getfield 10, 3) := by decide +kernel
theorem dX2_told_60 : decode cX2_told 60 = .ok (.getfield 84, 3) := by decide +kernel
theorem dX2_told_63 : decode cX2_told 63 = .ok (.iload_n 1, 1) := by decide +kernel
theorem dX2_told_64 : decode cX2_told 64 = .ok (.iaload, 1) := by decide +kernel
theorem dX2_told_65 : decode cX2_told 65 = .ok (.ireturn, 1) := by decide +kernel
theorem dX2_told_66 : decode cX2_told 66 = .ok (.aload_n 0, 1) := by decide +kernel
theorem dX2_told_67 : decode cX2_told 67 = .ok (.getfield 10, 3) := by decide +kernel
theorem dX2_told_70 : decode cX2_told 70 = .ok (.getfield 87, 3) := by decide +kernel
theorem dX2_told_73 : decode cX2_told 73 = .ok (.iload_n 1, 1) := by decide +kernel
theorem dX2_told_74 : decode cX2_told 74 = .ok (.iaload, 1) := by decide +kernel
theorem dX2_told_75 : decode cX2_told 75 = .ok (.ireturn, 1) := by decide +kernel
theorem dX2_told_76 : decode cX2_told 76 = .ok (.aload_n 0, 1) := by decide +kernel
theorem dX2_told_77 : decode cX2_told 77 = .ok (.getfield 10, 3) := by decide +kernel
theorem dX2_told_80 : decode cX2_told 80 = .ok (.getfield 90, 3) := by decide +kernel
theorem dX2_told_83 : decode cX2_told 83 = .ok (.iload_n 1, 1) := by decide +kernel
theorem dX2_told_84 : decode cX2_told 84 = .ok (.iaload, 1) := by decide +kernel
theorem dX2_told_85 : decode cX2_told 85 = .ok (.ireturn, 1) := by decide +kernel
theorem dX2_told_86 : decode cX2_told 86 = .ok (.aload_n 0, 1) := by decide +kernel
theorem dX2_told_87 : decode cX2_told 87 = .ok (.getfield 10, 3) := by decide +kernel
theorem dX2_told_90 : decode cX2_told 90 = .ok (.getfield 93, 3) := by decide +kernel
theorem dX2_told_93 : decode cX2_told 93 = .ok (.iload_n 1, 1) := by decide +kernel
theorem dX2_told_94 : decode cX2_told 94 = .ok (.iaload, 1) := by decide +kernel
theorem dX2_told_95 : decode cX2_told 95 = .ok (.ireturn, 1) := by decide +kernel
theorem dX2_told_96 : decode cX2_told 96 = .ok (.aload_n 0, 1) := by decide +kernel
theorem dX2_told_97 : decode cX2_told 97 = .ok (.getfield 10, 3) := by decide +kernel
theorem dX2_told_100 : decode cX2_told 100 = .ok (.getfield 96, 3) := by decide +kernel
theorem dX2_told_103 : decode cX2_told 103 = .ok (.iload_n 1, 1) := by decide +kernel
theorem dX2_told_104 : decode cX2_told 104 = .ok (.iaload, 1) := by decide +kernel
theorem dX2_told_105 : decode cX2_told 105 = .ok (.ireturn, 1) := by decide +kernel
theorem dX2_told_106 : decode cX2_told 106 = .ok (.aload_n 0, 1) := by decide +kernel
theorem dX2_told_107 : decode cX2_told 107 = .ok (.getfield 10, 3) := by decide +kernel
theorem dX2_told_110 : decode cX2_told 110 = .ok (.iload_n 1, 1) := by decide +kernel
theorem dX2_told_111 : decode cX2_told 111 = .ok (.invokevirtual 99, 3) := by decide +kernel
theorem dX2_told_114 : decode cX2_told 114 = .ok (.aload_n 0, 1) := by decide +kernel
theorem dX2_told_115 : decode cX2_told 115 = .ok (.getfield 10, 3) := by decide +kernel
theorem dX2_told_118 : decode cX2_told 118 = .ok (.invokevirtual 103, 3) := by decide +kernel
theorem dX2_told_121 : decode cX2_told 121 = .ok (.if_icmp .ne 7, 3) := by decide +kernel
theorem dX2_told_124 : decode cX2_told 124 = .ok (.iconst 1, 1) := by decide +kernel
theorem dX2_told_125 : decode cX2_told 125 = .ok (.goto 4, 3) := by decide +kernel
theorem dX2_told_128 : decode cX2_told 128 = .ok (.iconst 0, 1) := by decide +kernel
theorem dX2_told_129 : decode cX2_told 129 = .ok (.ireturn, 1) := by decide +kernel
theorem dX2_told_130 : decode cX2_told 130 = .ok (.aload_n 0, 1) := by decide +kernel
theorem dX2_told_131 : decode cX2_told 131 = .ok (.getfield 29, 3) := by decide +kernel
theorem dX2_told_134 : decode cX2_told 134 = .ok (.ifCond .eq 15, 3) := by decide +kernel
theorem dX2_told_137 : decode cX2_told 137 = .ok (.aload_n 0, 1) := by decide +kernel
theorem dX2_told_138 : decode cX2_told 138 = .ok (.getfield 21, 3) := by decide +kernel
theorem dX2_told_141 : decode cX2_told 141 = .ok (.getfield 106, 3) := by decide +kernel
theorem dX2_told_144 : decode cX2_told 144 = .ok (.iload_n 1, 1) := by decide +kernel
theorem dX2_told_145 : decode cX2_told 145 = .ok (.iaload, 1) := by decide +kernel
theorem dX2_told_146 : decode cX2_told 146 = .ok (.goto 4, 3) := by decide +kernel
theorem dX2_told_149 : decode cX2_told 149 = .ok (.iconst (-1), 1) := by decide +kernel
theorem dX2_told_150 : decode cX2_told 150 = .ok (.ireturn, 1) := by decide +kernel
theorem dX2_told_151 : decode cX2_told 151 = .ok (.bipush (-2), 2) := by decide +kernel
theorem dX2_told_153 : decode cX2_told 153 = .ok (.ireturn, 1) := by decide +kernel
set_option maxRecDepth 20000 in
theorem ggX2_length_X0_longest : GoodIn wsX2_length wsX0_longest := goodIn_r _ [6, 7, 8, 9, 10, 11, 12, 13, 14, 5, 15, 16, 17, 18, 23, 24, 25, 26, 27, 28, 29, 30, 31, 32, 33, 34] (by decide +kernel) (by decide +kernel)
set_option maxRecDepth 20000 in
theorem gX2_length_X0_longest : GoodIn wsX2_length (wsV RX2 103 RX0 yX0_longest wsX0_longest) := goodIn_app (goodIn_of _ (by decide +kernel)) ggX2_length_X0_longest
theorem dX2_length_0 : decode cX2_length 0 = .ok (.aload_n 0, 1) := by decide +kernel
theorem dX2_length_1 : decode cX2_length 1 = .ok (.getfield 10, 3) := by decide +kernel
theorem dX2_length_4 : decode cX2_length 4 = .ok (.invokevirtual 103, 3) := by decide +kernel
theorem dX2_length_7 : decode cX2_length 7 = .ok (.ireturn, 1) := by decide +kernel
set_option maxRecDepth 20000 in
theorem ggX2_load_X2_isMachine : GoodIn wsX2_load wsX2_isMachine := goodIn_r _ [5] (by decide +kernel) (by decide +kernel)
set_option maxRecDepth 20000 in
theorem gX2_load_X2_isMachine : GoodIn wsX2_load (va_wsS RX2 51 yX2_isMachine wsX2_isMachine) := goodIn_app (goodIn_of _ (by decide +kernel)) ggX2_load_X2_isMachine
set_option maxRecDepth 20000 in
theorem ggX2_load_X0_burden : GoodIn wsX2_load wsX0_burden := goodIn_r _ [10, 11, 12, 13, 14, 15, 16, 17, 18, 19, 20, 21, 9, 22, 23, 28, 29, 30, 31, 32, 33, 34, 35, 36, 37, 38, 39] (by decide +kernel) (by decide +kernel)
set_option maxRecDepth 20000 in
theorem gX2_load_X0_burden : GoodIn wsX2_load (wsV RX2 109 RX0 yX0_burden wsX0_burden) := goodIn_app (goodIn_of _ (by decide +kernel)) ggX2_load_X0_burden
theorem dX2_load_0 : decode cX2_load 0 = .ok (.iload_n 1, 1) := by decide +kernel
theorem dX2_load_1 : decode cX2_load 1 = .ok (.invokestatic 51, 3) := by decide +kernel
theorem dX2_load_4 : decode cX2_load 4 = .ok (.ifCond .eq 14, 3) := by decide +kernel
theorem dX2_load_7 : decode cX2_load 7 = .ok (.aload_n 0, 1) := by decide +kernel
theorem dX2_load_8 : decode cX2_load 8 = .ok (.getfield 10, 3) := by decide +kernel
theorem dX2_load_11 : decode cX2_load 11 = .ok (.iload_n 1, 1) := by decide +kernel
theorem dX2_load_12 : decode cX2_load 12 = .ok (.invokevirtual 109, 3) := by decide +kernel
theorem dX2_load_15 : decode cX2_load 15 = .ok (.goto 5, 3) := by decide +kernel
theorem dX2_load_18 : decode cX2_load 18 = .ok (.bipush (-2), 2) := by decide +kernel
theorem dX2_load_20 : decode cX2_load 20 = .ok (.ireturn, 1) := by decide +kernel
set_option maxRecDepth 20000 in
theorem ggX2_select_X0_force : GoodIn wsX2_select wsX0_force := goodIn_r _ [7, 8, 9, 10, 11, 12, 13, 14, 15, 16, 17, 6, 18, 19, 20, 21, 22, 23, 24, 25, 26, 27, 28, 29, 30, 31, 32, 33, 34, 35, 36, 37, 38, 39, 40, 41, 42, 43, 44, 45, 46, 47, 48, 49, 50, 51, 52, 53, 54, 55, 56, 57, 58, 59, 60, 61, 62, 63, 64, 65, 66, 67, 68, 69, 70, 71, 72, 73, 74, 75, 76, 77, 78, 79, 80, 81, 82, 83, 84, 85, 86, 87, 88, 89, 94, 95, 96, 97, 98, 99, 100, 101, 102, 103, 104, 105] (by decide +kernel) (by decide +kernel)
set_option maxRecDepth 20000 in
theorem gX2_select_X0_force : GoodIn wsX2_select (wsV RX2 112 RX0 yX0_force wsX0_force) := goodIn_app (goodIn_of _ (by decide +kernel)) ggX2_select_X0_force
theorem dX2_select_0 : decode cX2_select 0 = .ok (.aload_n 0, 1) := by decide +kernel
theorem dX2_select_1 : decode cX2_select 1 = .ok (.getfield 10, 3) := by decide +kernel
theorem dX2_select_4 : decode cX2_select 4 = .ok (.iload_n 1, 1) := by decide +kernel
theorem dX2_select_5 : decode cX2_select 5 = .ok (.invokevirtual 112, 3) := by decide +kernel
theorem dX2_select_8 : decode cX2_select 8 = .ok (.istore_n 2, 1) := by decide +kernel
theorem dX2_select_9 : decode cX2_select 9 = .ok (.iload_n 2, 1) := by decide +kernel
theorem dX2_select_10 : decode cX2_select 10 = .ok (.ifCond .le 8, 3) := by decide +kernel
theorem dX2_select_13 : decode cX2_select 13 = .ok (.aload_n 0, 1) := by decide +kernel
theorem dX2_select_14 : decode cX2_select 14 = .ok (.iconst 0, 1) := by decide +kernel
theorem dX2_select_15 : decode cX2_select 15 = .ok (.putfield 29, 3) := by decide +kernel
theorem dX2_select_18 : decode cX2_select 18 = .ok (.iload_n 2, 1) := by decide +kernel
theorem dX2_select_19 : decode cX2_select 19 = .ok (.ireturn, 1) := by decide +kernel
set_option maxRecDepth 20000 in
theorem ggX2_solve_X1_run : GoodIn wsX2_solve wsX1_run := goodIn_r _ [8, 9, 10, 11, 12, 7, 13, 14, 15, 16, 17, 18, 19, 20, 21, 22, 23, 24, 25, 26, 27, 28, 29, 30, 31, 32, 33, 34, 35, 36, 37, 38, 39, 40, 41, 42, 43, 44, 45, 46, 47, 48, 49, 50, 51, 52, 53, 54, 55, 56, 57, 58, 59, 60, 61, 62, 63, 64, 65, 66, 67, 68, 69, 70, 71, 72, 73, 74, 75, 76, 77, 78, 79, 80, 81, 82, 83, 84, 85, 86, 87, 88, 89, 90, 91, 92, 93, 94, 95, 96, 101, 102, 103, 104, 105, 106, 107, 108, 109, 110, 111, 112, 113, 114, 115, 116, 117, 118, 119, 120, 121, 122, 123, 124] (by decide +kernel) (by decide +kernel)
set_option maxRecDepth 20000 in
theorem gX2_solve_X1_run : GoodIn wsX2_solve (wsV RX2 115 RX1 yX1_run wsX1_run) := goodIn_app (goodIn_of _ (by decide +kernel)) ggX2_solve_X1_run
theorem dX2_solve_0 : decode cX2_solve 0 = .ok (.aload_n 0, 1) := by decide +kernel
theorem dX2_solve_1 : decode cX2_solve 1 = .ok (.getfield 29, 3) := by decide +kernel
theorem dX2_solve_4 : decode cX2_solve 4 = .ok (.ifCond .ne 15, 3) := by decide +kernel
theorem dX2_solve_7 : decode cX2_solve 7 = .ok (.aload_n 0, 1) := by decide +kernel
theorem dX2_solve_8 : decode cX2_solve 8 = .ok (.getfield 21, 3) := by decide +kernel
theorem dX2_solve_11 : decode cX2_solve 11 = .ok (.invokevirtual 115, 3) := by decide +kernel
theorem dX2_solve_14 : decode cX2_solve 14 = .ok (.aload_n 0, 1) := by decide +kernel
theorem dX2_solve_15 : decode cX2_solve 15 = .ok (.iconst 1, 1) := by decide +kernel
theorem dX2_solve_16 : decode cX2_solve 16 = .ok (.putfield 29, 3) := by decide +kernel
theorem dX2_solve_19 : decode cX2_solve 19 = .ok (.aload_n 0, 1) := by decide +kernel
theorem dX2_solve_20 : decode cX2_solve 20 = .ok (.getfield 21, 3) := by decide +kernel
theorem dX2_solve_23 : decode cX2_solve 23 = .ok (.getfield 118, 3) := by decide +kernel
theorem dX2_solve_26 : decode cX2_solve 26 = .ok (.ireturn, 1) := by decide +kernel
theorem dX2_optima_0 : decode cX2_optima 0 = .ok (.aload_n 0, 1) := by decide +kernel
theorem dX2_optima_1 : decode cX2_optima 1 = .ok (.getfield 29, 3) := by decide +kernel
theorem dX2_optima_4 : decode cX2_optima 4 = .ok (.ifCond .eq 13, 3) := by decide +kernel
theorem dX2_optima_7 : decode cX2_optima 7 = .ok (.aload_n 0, 1) := by decide +kernel
theorem dX2_optima_8 : decode cX2_optima 8 = .ok (.getfield 21, 3) := by decide +kernel
theorem dX2_optima_11 : decode cX2_optima 11 = .ok (.getfield 121, 3) := by decide +kernel
theorem dX2_optima_14 : decode cX2_optima 14 = .ok (.goto 4, 3) := by decide +kernel
theorem dX2_optima_17 : decode cX2_optima 17 = .ok (.iconst (-1), 1) := by decide +kernel
theorem dX2_optima_18 : decode cX2_optima 18 = .ok (.ireturn, 1) := by decide +kernel
set_option maxRecDepth 20000 in
theorem ggX2_at_X2_isMachine : GoodIn wsX2_at wsX2_isMachine := goodIn_r _ [11] (by decide +kernel) (by decide +kernel)
set_option maxRecDepth 20000 in
theorem gX2_at_X2_isMachine : GoodIn wsX2_at (va_wsS RX2 51 yX2_isMachine wsX2_isMachine) := goodIn_app (goodIn_of _ (by decide +kernel)) ggX2_at_X2_isMachine
theorem dX2_at_0 : decode cX2_at 0 = .ok (.iload_n 1, 1) := by decide +kernel
theorem dX2_at_1 : decode cX2_at 1 = .ok (.invokestatic 51, 3) := by decide +kernel
theorem dX2_at_4 : decode cX2_at 4 = .ok (.ifCond .ne 6, 3) := by decide +kernel
theorem dX2_at_7 : decode cX2_at 7 = .ok (.bipush (-2), 2) := by decide +kernel
theorem dX2_at_9 : decode cX2_at 9 = .ok (.ireturn, 1) := by decide +kernel
theorem dX2_at_10 : decode cX2_at 10 = .ok (.aload_n 0, 1) := by decide +kernel
theorem dX2_at_11 : decode cX2_at 11 = .ok (.getfield 29, 3) := by decide +kernel
theorem dX2_at_14 : decode cX2_at 14 = .ok (.ifCond .ne 5, 3) := by decide +kernel
theorem dX2_at_17 : decode cX2_at 17 = .ok (.iconst (-1), 1) := by decide +kernel
theorem dX2_at_18 : decode cX2_at 18 = .ok (.ireturn, 1) := by decide +kernel
theorem dX2_at_19 : decode cX2_at 19 = .ok (.iconst 0, 1) := by decide +kernel
theorem dX2_at_20 : decode cX2_at 20 = .ok (.istore_n 3, 1) := by decide +kernel
theorem dX2_at_21 : decode cX2_at 21 = .ok (.iload_n 3, 1) := by decide +kernel
theorem dX2_at_22 : decode cX2_at 22 = .ok (.aload_n 0, 1) := by decide +kernel
theorem dX2_at_23 : decode cX2_at 23 = .ok (.getfield 10, 3) := by decide +kernel
theorem dX2_at_26 : decode cX2_at 26 = .ok (.getfield 33, 3) := by decide +kernel
theorem dX2_at_29 : decode cX2_at 29 = .ok (.if_icmp .ge 57, 3) := by decide +kernel
theorem dX2_at_32 : decode cX2_at 32 = .ok (.aload_n 0, 1) := by decide +kernel
theorem dX2_at_33 : decode cX2_at 33 = .ok (.getfield 21, 3) := by decide +kernel
theorem dX2_at_36 : decode cX2_at 36 = .ok (.getfield 106, 3) := by decide +kernel
theorem dX2_at_39 : decode cX2_at 39 = .ok (.iload_n 3, 1) := by decide +kernel
theorem dX2_at_40 : decode cX2_at 40 = .ok (.iaload, 1) := by decide +kernel
theorem dX2_at_41 : decode cX2_at 41 = .ok (.istore 4, 2) := by decide +kernel
theorem dX2_at_43 : decode cX2_at 43 = .ok (.aload_n 0, 1) := by decide +kernel
theorem dX2_at_44 : decode cX2_at 44 = .ok (.getfield 10, 3) := by decide +kernel
theorem dX2_at_47 : decode cX2_at 47 = .ok (.getfield 87, 3) := by decide +kernel
theorem dX2_at_50 : decode cX2_at 50 = .ok (.iload_n 3, 1) := by decide +kernel
theorem dX2_at_51 : decode cX2_at 51 = .ok (.iaload, 1) := by decide +kernel
theorem dX2_at_52 : decode cX2_at 52 = .ok (.iload_n 1, 1) := by decide +kernel
theorem dX2_at_53 : decode cX2_at 53 = .ok (.if_icmp .ne 27, 3) := by decide +kernel
theorem dX2_at_56 : decode cX2_at 56 = .ok (.iload 4, 2) := by decide +kernel
theorem dX2_at_58 : decode cX2_at 58 = .ok (.iload_n 2, 1) := by decide +kernel
theorem dX2_at_59 : decode cX2_at 59 = .ok (.if_icmp .gt 21, 3) := by decide +kernel
theorem dX2_at_62 : decode cX2_at 62 = .ok (.iload_n 2, 1) := by decide +kernel
theorem dX2_at_63 : decode cX2_at 63 = .ok (.iload 4, 2) := by decide +kernel
theorem dX2_at_65 : decode cX2_at 65 = .ok (.aload_n 0, 1) := by decide +kernel
theorem dX2_at_66 : decode cX2_at 66 = .ok (.getfield 10, 3) := by decide +kernel
theorem dX2_at_69 : decode cX2_at 69 = .ok (.getfield 90, 3) := by decide +kernel
theorem dX2_at_72 : decode cX2_at 72 = .ok (.iload_n 3, 1) := by decide +kernel
theorem dX2_at_73 : decode cX2_at 73 = .ok (.iaload, 1) := by decide +kernel
theorem dX2_at_74 : decode cX2_at 74 = .ok (.iadd, 1) := by decide +kernel
theorem dX2_at_75 : decode cX2_at 75 = .ok (.if_icmp .ge 5, 3) := by decide +kernel
theorem dX2_at_78 : decode cX2_at 78 = .ok (.iload_n 3, 1) := by decide +kernel
theorem dX2_at_79 : decode cX2_at 79 = .ok (.ireturn, 1) := by decide +kernel
theorem dX2_at_80 : decode cX2_at 80 = .ok (.iinc 3 1, 3) := by decide +kernel
theorem dX2_at_83 : decode cX2_at 83 = .ok (.goto (-62), 3) := by decide +kernel
theorem dX2_at_86 : decode cX2_at 86 = .ok (.iconst (-1), 1) := by decide +kernel
theorem dX2_at_87 : decode cX2_at 87 = .ok (.ireturn, 1) := by decide +kernel
set_option maxRecDepth 20000 in
theorem ggX2_draft_X0_isOperation : GoodIn wsX2_draft wsX0_isOperation := goodIn_r _ [7, 8, 13, 14, 15, 16, 17, 18, 19, 20, 21, 22, 23, 24] (by decide +kernel) (by decide +kernel)
set_option maxRecDepth 20000 in
theorem gX2_draft_X0_isOperation : GoodIn wsX2_draft (wsV RX2 81 RX0 yX0_isOperation wsX0_isOperation) := goodIn_app (goodIn_of _ (by decide +kernel)) ggX2_draft_X0_isOperation
theorem dX2_draft_0 : decode cX2_draft 0 = .ok (.aload_n 0, 1) := by decide +kernel
theorem dX2_draft_1 : decode cX2_draft 1 = .ok (.getfield 10, 3) := by decide +kernel
theorem dX2_draft_4 : decode cX2_draft 4 = .ok (.iload_n 1, 1) := by decide +kernel
theorem dX2_draft_5 : decode cX2_draft 5 = .ok (.invokevirtual 81, 3) := by decide +kernel
theorem dX2_draft_8 : decode cX2_draft 8 = .ok (.ifCond .eq 14, 3) := by decide +kernel
theorem dX2_draft_11 : decode cX2_draft 11 = .ok (.iload_n 2, 1) := by decide +kernel
theorem dX2_draft_12 : decode cX2_draft 12 = .ok (.ifCond .lt 10, 3) := by decide +kernel
theorem dX2_draft_15 : decode cX2_draft 15 = .ok (.iload_n 2, 1) := by decide +kernel
theorem dX2_draft_16 : decode cX2_draft 16 = .ok (.sipush 1000, 3) := by decide +kernel
theorem dX2_draft_19 : decode cX2_draft 19 = .ok (.if_icmp .le 6, 3) := by decide +kernel
theorem dX2_draft_22 : decode cX2_draft 22 = .ok (.bipush (-2), 2) := by decide +kernel
theorem dX2_draft_24 : decode cX2_draft 24 = .ok (.ireturn, 1) := by decide +kernel
theorem dX2_draft_25 : decode cX2_draft 25 = .ok (.aload_n 0, 1) := by decide +kernel
theorem dX2_draft_26 : decode cX2_draft 26 = .ok (.getfield 25, 3) := by decide +kernel
theorem dX2_draft_29 : decode cX2_draft 29 = .ok (.iload_n 1, 1) := by decide +kernel
theorem dX2_draft_30 : decode cX2_draft 30 = .ok (.iaload, 1) := by decide +kernel
theorem dX2_draft_31 : decode cX2_draft 31 = .ok (.istore_n 3, 1) := by decide +kernel
theorem dX2_draft_32 : decode cX2_draft 32 = .ok (.aload_n 0, 1) := by decide +kernel
theorem dX2_draft_33 : decode cX2_draft 33 = .ok (.getfield 25, 3) := by decide +kernel
theorem dX2_draft_36 : decode cX2_draft 36 = .ok (.iload_n 1, 1) := by decide +kernel
theorem dX2_draft_37 : decode cX2_draft 37 = .ok (.iload_n 2, 1) := by decide +kernel
theorem dX2_draft_38 : decode cX2_draft 38 = .ok (.iastore, 1) := by decide +kernel
theorem dX2_draft_39 : decode cX2_draft 39 = .ok (.iload_n 3, 1) := by decide +kernel
theorem dX2_draft_40 : decode cX2_draft 40 = .ok (.ireturn, 1) := by decide +kernel
set_option maxRecDepth 20000 in
theorem ggX2_check_X2_endsTooLate : GoodIn wsX2_check wsX2_endsTooLate := goodIn_r _ [11, 1, 2, 12, 13, 14, 15, 16, 17, 18, 19, 20, 21, 10, 22, 23, 24, 25, 26, 27, 33, 34, 35, 36, 37, 38, 39, 40, 41, 42, 43, 44, 45, 46, 47, 48] (by decide +kernel) (by decide +kernel)
set_option maxRecDepth 20000 in
theorem gX2_check_X2_endsTooLate : GoodIn wsX2_check (wsV RX2 124 RX2 yX2_endsTooLate wsX2_endsTooLate) := goodIn_app (goodIn_of _ (by decide +kernel)) ggX2_check_X2_endsTooLate
set_option maxRecDepth 20000 in
theorem ggX2_check_X2_meetsGreater : GoodIn wsX2_check wsX2_meetsGreater := goodIn_r _ [31, 1, 2, 32, 12, 23, 24, 25, 10, 26, 27, 33, 34, 35, 36, 37, 38, 39, 40, 41, 42, 43, 44, 45, 46, 47, 48] (by decide +kernel) (by decide +kernel)
set_option maxRecDepth 20000 in
theorem gX2_check_X2_meetsGreater : GoodIn wsX2_check (wsV RX2 127 RX2 yX2_meetsGreater wsX2_meetsGreater) := goodIn_app (goodIn_of _ (by decide +kernel)) ggX2_check_X2_meetsGreater
set_option maxRecDepth 20000 in
theorem ggX2_check_X2_draftEnd : GoodIn wsX2_check wsX2_draftEnd := goodIn_r _ [26, 12, 1, 27, 33, 34, 35, 36, 37, 38, 39, 40, 41, 42, 43, 44, 45, 46, 47, 48] (by decide +kernel) (by decide +kernel)
set_option maxRecDepth 20000 in
theorem gX2_check_X2_draftEnd : GoodIn wsX2_check (wsV RX2 130 RX2 yX2_draftEnd wsX2_draftEnd) := goodIn_app (goodIn_of _ (by decide +kernel)) ggX2_check_X2_draftEnd
theorem dX2_check_0 : decode cX2_check 0 = .ok (.iconst 0, 1) := by decide +kernel
theorem dX2_check_1 : decode cX2_check 1 = .ok (.istore_n 1, 1) := by decide +kernel
theorem dX2_check_2 : decode cX2_check 2 = .ok (.iload_n 1, 1) := by decide +kernel
theorem dX2_check_3 : decode cX2_check 3 = .ok (.aload_n 0, 1) := by decide +kernel
theorem dX2_check_4 : decode cX2_check 4 = .ok (.getfield 10, 3) := by decide +kernel
theorem dX2_check_7 : decode cX2_check 7 = .ok (.getfield 33, 3) := by decide +kernel
theorem dX2_check_10 : decode cX2_check 10 = .ok (.if_icmp .ge 22, 3) := by decide +kernel
theorem dX2_check_13 : decode cX2_check 13 = .ok (.aload_n 0, 1) := by decide +kernel
theorem dX2_check_14 : decode cX2_check 14 = .ok (.iload_n 1, 1) := by decide +kernel
theorem dX2_check_15 : decode cX2_check 15 = .ok (.invokevirtual 124, 3) := by decide +kernel
theorem dX2_check_18 : decode cX2_check 18 = .ok (.ifCond .eq 8, 3) := by decide +kernel
theorem dX2_check_21 : decode cX2_check 21 = .ok (.bipush (-10), 2) := by decide +kernel
theorem dX2_check_23 : decode cX2_check 23 = .ok (.iload_n 1, 1) := by decide +kernel
theorem dX2_check_24 : decode cX2_check 24 = .ok (.isub, 1) := by decide +kernel
theorem dX2_check_25 : decode cX2_check 25 = .ok (.ireturn, 1) := by decide +kernel
theorem dX2_check_26 : decode cX2_check 26 = .ok (.iinc 1 1, 3) := by decide +kernel
theorem dX2_check_29 : decode cX2_check 29 = .ok (.goto (-27), 3) := by decide +kernel
theorem dX2_check_32 : decode cX2_check 32 = .ok (.iconst 0, 1) := by decide +kernel
theorem dX2_check_33 : decode cX2_check 33 = .ok (.istore_n 1, 1) := by decide +kernel
theorem dX2_check_34 : decode cX2_check 34 = .ok (.iload_n 1, 1) := by decide +kernel
theorem dX2_check_35 : decode cX2_check 35 = .ok (.aload_n 0, 1) := by decide +kernel
theorem dX2_check_36 : decode cX2_check 36 = .ok (.getfield 10, 3) := by decide +kernel
theorem dX2_check_39 : decode cX2_check 39 = .ok (.getfield 33, 3) := by decide +kernel
theorem dX2_check_42 : decode cX2_check 42 = .ok (.if_icmp .ge 22, 3) := by decide +kernel
theorem dX2_check_45 : decode cX2_check 45 = .ok (.aload_n 0, 1) := by decide +kernel
theorem dX2_check_46 : decode cX2_check 46 = .ok (.iload_n 1, 1) := by decide +kernel
theorem dX2_check_47 : decode cX2_check 47 = .ok (.invokevirtual 127, 3) := by decide +kernel
theorem dX2_check_50 : decode cX2_check 50 = .ok (.ifCond .eq 8, 3) := by decide +kernel
theorem dX2_check_53 : decode cX2_check 53 = .ok (.bipush (-30), 2) := by decide +kernel
theorem dX2_check_55 : decode cX2_check 55 = .ok (.iload_n 1, 1) := by decide +kernel
theorem dX2_check_56 : decode cX2_check 56 = .ok (.isub, 1) := by decide +kernel
theorem dX2_check_57 : decode cX2_check 57 = .ok (.ireturn, 1) := by decide +kernel
theorem dX2_check_58 : decode cX2_check 58 = .ok (.iinc 1 1, 3) := by decide +kernel
theorem dX2_check_61 : decode cX2_check 61 = .ok (.goto (-27), 3) := by decide +kernel
theorem dX2_check_64 : decode cX2_check 64 = .ok (.iconst 0, 1) := by decide +kernel
theorem dX2_check_65 : decode cX2_check 65 = .ok (.istore_n 1, 1) := by decide +kernel
theorem dX2_check_66 : decode cX2_check 66 = .ok (.iconst 0, 1) := by decide +kernel
theorem dX2_check_67 : decode cX2_check 67 = .ok (.istore_n 2, 1) := by decide +kernel
theorem dX2_check_68 : decode cX2_check 68 = .ok (.iload_n 2, 1) := by decide +kernel
theorem dX2_check_69 : decode cX2_check 69 = .ok (.aload_n 0, 1) := by decide +kernel
theorem dX2_check_70 : decode cX2_check 70 = .ok (.getfield 10, 3) := by decide +kernel
theorem dX2_check_73 : decode cX2_check 73 = .ok (.getfield 33, 3) := by decide +kernel
theorem dX2_check_76 : decode cX2_check 76 = .ok (.if_icmp .ge 19, 3) := by decide +kernel
theorem dX2_check_79 : decode cX2_check 79 = .ok (.iload_n 1, 1) := by decide +kernel
theorem dX2_check_80 : decode cX2_check 80 = .ok (.aload_n 0, 1) := by decide +kernel
theorem dX2_check_81 : decode cX2_check 81 = .ok (.iload_n 2, 1) := by decide +kernel
theorem dX2_check_82 : decode cX2_check 82 = .ok (.invokevirtual 130, 3) := by decide +kernel
theorem dX2_check_85 : decode cX2_check 85 = .ok (.invokestatic 133, 3) := by decide +kernel
theorem dX2_check_88 : decode cX2_check 88 = .ok (.istore_n 1, 1) := by decide +kernel
theorem dX2_check_89 : decode cX2_check 89 = .ok (.iinc 2 1, 3) := by decide +kernel
theorem dX2_check_92 : decode cX2_check 92 = .ok (.goto (-24), 3) := by decide +kernel
theorem dX2_check_95 : decode cX2_check 95 = .ok (.iload_n 1, 1) := by decide +kernel
theorem dX2_check_96 : decode cX2_check 96 = .ok (.ireturn, 1) := by decide +kernel
theorem dX2_adopt_0 : decode cX2_adopt 0 = .ok (.aload_n 0, 1) := by decide +kernel
theorem dX2_adopt_1 : decode cX2_adopt 1 = .ok (.getfield 29, 3) := by decide +kernel
theorem dX2_adopt_4 : decode cX2_adopt 4 = .ok (.ifCond .ne 5, 3) := by decide +kernel
theorem dX2_adopt_7 : decode cX2_adopt 7 = .ok (.iconst (-1), 1) := by decide +kernel
theorem dX2_adopt_8 : decode cX2_adopt 8 = .ok (.ireturn, 1) := by decide +kernel
theorem dX2_adopt_9 : decode cX2_adopt 9 = .ok (.iconst 0, 1) := by decide +kernel
theorem dX2_adopt_10 : decode cX2_adopt 10 = .ok (.istore_n 1, 1) := by decide +kernel
theorem dX2_adopt_11 : decode cX2_adopt 11 = .ok (.iload_n 1, 1) := by decide +kernel
theorem dX2_adopt_12 : decode cX2_adopt 12 = .ok (.aload_n 0, 1) := by decide +kernel
theorem dX2_adopt_13 : decode cX2_adopt 13 = .ok (.getfield 10, 3) := by decide +kernel
theorem dX2_adopt_16 : decode cX2_adopt 16 = .ok (.getfield 33, 3) := by decide +kernel
theorem dX2_adopt_19 : decode cX2_adopt 19 = .ok (.if_icmp .ge 24, 3) := by decide +kernel
theorem dX2_adopt_22 : decode cX2_adopt 22 = .ok (.aload_n 0, 1) := by decide +kernel
theorem dX2_adopt_23 : decode cX2_adopt 23 = .ok (.getfield 25, 3) := by decide +kernel
theorem dX2_adopt_26 : decode cX2_adopt 26 = .ok (.iload_n 1, 1) := by decide +kernel
theorem dX2_adopt_27 : decode cX2_adopt 27 = .ok (.aload_n 0, 1) := by decide +kernel
theorem dX2_adopt_28 : decode cX2_adopt 28 = .ok (.getfield 21, 3) := by decide +kernel
theorem dX2_adopt_31 : decode cX2_adopt 31 = .ok (.getfield 106, 3) := by decide +kernel
theorem dX2_adopt_34 : decode cX2_adopt 34 = .ok (.iload_n 1, 1) := by decide +kernel
theorem dX2_adopt_35 : decode cX2_adopt 35 = .ok (.iaload, 1) := by decide +kernel
theorem dX2_adopt_36 : decode cX2_adopt 36 = .ok (.iastore, 1) := by decide +kernel
theorem dX2_adopt_37 : decode cX2_adopt 37 = .ok (.iinc 1 1, 3) := by decide +kernel
theorem dX2_adopt_40 : decode cX2_adopt 40 = .ok (.goto (-29), 3) := by decide +kernel
theorem dX2_adopt_43 : decode cX2_adopt 43 = .ok (.aload_n 0, 1) := by decide +kernel
theorem dX2_adopt_44 : decode cX2_adopt 44 = .ok (.getfield 21, 3) := by decide +kernel
theorem dX2_adopt_47 : decode cX2_adopt 47 = .ok (.getfield 118, 3) := by decide +kernel
theorem dX2_adopt_50 : decode cX2_adopt 50 = .ok (.ireturn, 1) := by decide +kernel
set_option maxRecDepth 20000 in
theorem ggX2_count_X0_tiedPairs : GoodIn wsX2_count wsX0_tiedPairs := goodIn_r _ [11, 12, 13, 14, 15, 16, 17, 18, 19, 20, 57, 58, 59, 60, 61, 62, 63, 64, 65, 66, 67, 68] (by decide +kernel) (by decide +kernel)
set_option maxRecDepth 20000 in
theorem gX2_count_X0_tiedPairs : GoodIn wsX2_count (wsV RX2 139 RX0 yX0_tiedPairs wsX0_tiedPairs) := goodIn_app (goodIn_of _ (by decide +kernel)) ggX2_count_X0_tiedPairs
set_option maxRecDepth 20000 in
theorem ggX2_count_X0_pairs : GoodIn wsX2_count wsX0_pairs := goodIn_r _ [24, 12, 25, 57, 58, 59, 60, 61, 62, 63, 64, 65, 66, 67, 68] (by decide +kernel) (by decide +kernel)
set_option maxRecDepth 20000 in
theorem gX2_count_X0_pairs : GoodIn wsX2_count (wsV RX2 142 RX0 yX0_pairs wsX0_pairs) := goodIn_app (goodIn_of _ (by decide +kernel)) ggX2_count_X0_pairs
set_option maxRecDepth 20000 in
theorem ggX2_count_X0_bound : GoodIn wsX2_count wsX0_bound := goodIn_r _ [29, 30, 31, 32, 33, 34, 35, 36, 10, 37, 12, 38, 39, 40, 41, 42, 43, 44, 45, 46, 47, 48, 25, 49, 50, 51, 52, 57, 58, 59, 60, 61, 62, 63, 64, 65, 66, 67, 68] (by decide +kernel) (by decide +kernel)
set_option maxRecDepth 20000 in
theorem gX2_count_X0_bound : GoodIn wsX2_count (wsV RX2 145 RX0 yX0_bound wsX0_bound) := goodIn_app (goodIn_of _ (by decide +kernel)) ggX2_count_X0_bound
theorem dX2_count_0 : decode cX2_count 0 = .ok (.iload_n 1, 1) := by decide +kernel
theorem dX2_count_1 : decode cX2_count 1 = .ok (.tableswitch 106 0 5 #[39, 47, 55, 63, 79, 87], 39) := by decide +kernel
theorem dX2_count_40 : decode cX2_count 40 = .ok (.aload_n 0, 1) := by decide +kernel
theorem dX2_count_41 : decode cX2_count 41 = .ok (.getfield 10, 3) := by decide +kernel
theorem dX2_count_44 : decode cX2_count 44 = .ok (.getfield 40, 3) := by decide +kernel
theorem dX2_count_47 : decode cX2_count 47 = .ok (.ireturn, 1) := by decide +kernel
theorem dX2_count_48 : decode cX2_count 48 = .ok (.aload_n 0, 1) := by decide +kernel
theorem dX2_count_49 : decode cX2_count 49 = .ok (.getfield 10, 3) := by decide +kernel
theorem dX2_count_52 : decode cX2_count 52 = .ok (.getfield 33, 3) := by decide +kernel
theorem dX2_count_55 : decode cX2_count 55 = .ok (.ireturn, 1) := by decide +kernel
theorem dX2_count_56 : decode cX2_count 56 = .ok (.aload_n 0, 1) := by decide +kernel
theorem dX2_count_57 : decode cX2_count 57 = .ok (.getfield 10, 3) := by decide +kernel
theorem dX2_count_60 : decode cX2_count 60 = .ok (.invokevirtual 139, 3) := by decide +kernel
theorem dX2_count_63 : decode cX2_count 63 = .ok (.ireturn, 1) := by decide +kernel
theorem dX2_count_64 : decode cX2_count 64 = .ok (.aload_n 0, 1) := by decide +kernel
theorem dX2_count_65 : decode cX2_count 65 = .ok (.getfield 10, 3) := by decide +kernel
theorem dX2_count_68 : decode cX2_count 68 = .ok (.invokevirtual 142, 3) := by decide +kernel
theorem dX2_count_71 : decode cX2_count 71 = .ok (.aload_n 0, 1) := by decide +kernel
theorem dX2_count_72 : decode cX2_count 72 = .ok (.getfield 10, 3) := by decide +kernel
theorem dX2_count_75 : decode cX2_count 75 = .ok (.invokevirtual 139, 3) := by decide +kernel
theorem dX2_count_78 : decode cX2_count 78 = .ok (.isub, 1) := by decide +kernel
theorem dX2_count_79 : decode cX2_count 79 = .ok (.ireturn, 1) := by decide +kernel
theorem dX2_count_80 : decode cX2_count 80 = .ok (.aload_n 0, 1) := by decide +kernel
theorem dX2_count_81 : decode cX2_count 81 = .ok (.getfield 10, 3) := by decide +kernel
theorem dX2_count_84 : decode cX2_count 84 = .ok (.invokevirtual 145, 3) := by decide +kernel
theorem dX2_count_87 : decode cX2_count 87 = .ok (.ireturn, 1) := by decide +kernel
theorem dX2_count_88 : decode cX2_count 88 = .ok (.aload_n 0, 1) := by decide +kernel
theorem dX2_count_89 : decode cX2_count 89 = .ok (.getfield 29, 3) := by decide +kernel
theorem dX2_count_92 : decode cX2_count 92 = .ok (.ifCond .eq 13, 3) := by decide +kernel
theorem dX2_count_95 : decode cX2_count 95 = .ok (.aload_n 0, 1) := by decide +kernel
theorem dX2_count_96 : decode cX2_count 96 = .ok (.getfield 21, 3) := by decide +kernel
theorem dX2_count_99 : decode cX2_count 99 = .ok (.getfield 118, 3) := by decide +kernel
theorem dX2_count_102 : decode cX2_count 102 = .ok (.goto 4, 3) := by decide +kernel
theorem dX2_count_105 : decode cX2_count 105 = .ok (.iconst (-1), 1) := by decide +kernel
theorem dX2_count_106 : decode cX2_count 106 = .ok (.ireturn, 1) := by decide +kernel
theorem dX2_count_107 : decode cX2_count 107 = .ok (.bipush (-2), 2) := by decide +kernel
theorem dX2_count_109 : decode cX2_count 109 = .ok (.ireturn, 1) := by decide +kernel
theorem dX2_isMachine_0 : decode cX2_isMachine 0 = .ok (.iload_n 0, 1) := by decide +kernel
theorem dX2_isMachine_1 : decode cX2_isMachine 1 = .ok (.ifCond .lt 12, 3) := by decide +kernel
theorem dX2_isMachine_4 : decode cX2_isMachine 4 = .ok (.iload_n 0, 1) := by decide +kernel
theorem dX2_isMachine_5 : decode cX2_isMachine 5 = .ok (.iconst 4, 1) := by decide +kernel
theorem dX2_isMachine_6 : decode cX2_isMachine 6 = .ok (.if_icmp .ge 7, 3) := by decide +kernel
theorem dX2_isMachine_9 : decode cX2_isMachine 9 = .ok (.iconst 1, 1) := by decide +kernel
theorem dX2_isMachine_10 : decode cX2_isMachine 10 = .ok (.goto 4, 3) := by decide +kernel
theorem dX2_isMachine_13 : decode cX2_isMachine 13 = .ok (.iconst 0, 1) := by decide +kernel
theorem dX2_isMachine_14 : decode cX2_isMachine 14 = .ok (.ireturn, 1) := by decide +kernel
theorem dX2_isIn_0 : decode cX2_isIn 0 = .ok (.iload_n 0, 1) := by decide +kernel
theorem dX2_isIn_1 : decode cX2_isIn 1 = .ok (.iload_n 1, 1) := by decide +kernel
theorem dX2_isIn_2 : decode cX2_isIn 2 = .ok (.ishr, 1) := by decide +kernel
theorem dX2_isIn_3 : decode cX2_isIn 3 = .ok (.iconst 1, 1) := by decide +kernel
theorem dX2_isIn_4 : decode cX2_isIn 4 = .ok (.iand, 1) := by decide +kernel
theorem dX2_isIn_5 : decode cX2_isIn 5 = .ok (.ifCond .eq 7, 3) := by decide +kernel
theorem dX2_isIn_8 : decode cX2_isIn 8 = .ok (.iconst 1, 1) := by decide +kernel
theorem dX2_isIn_9 : decode cX2_isIn 9 = .ok (.goto 4, 3) := by decide +kernel
theorem dX2_isIn_12 : decode cX2_isIn 12 = .ok (.iconst 0, 1) := by decide +kernel
theorem dX2_isIn_13 : decode cX2_isIn 13 = .ok (.ireturn, 1) := by decide +kernel
theorem dX2_draftEnd_0 : decode cX2_draftEnd 0 = .ok (.aload_n 0, 1) := by decide +kernel
theorem dX2_draftEnd_1 : decode cX2_draftEnd 1 = .ok (.getfield 25, 3) := by decide +kernel
theorem dX2_draftEnd_4 : decode cX2_draftEnd 4 = .ok (.iload_n 1, 1) := by decide +kernel
theorem dX2_draftEnd_5 : decode cX2_draftEnd 5 = .ok (.iaload, 1) := by decide +kernel
theorem dX2_draftEnd_6 : decode cX2_draftEnd 6 = .ok (.aload_n 0, 1) := by decide +kernel
theorem dX2_draftEnd_7 : decode cX2_draftEnd 7 = .ok (.getfield 10, 3) := by decide +kernel
theorem dX2_draftEnd_10 : decode cX2_draftEnd 10 = .ok (.getfield 90, 3) := by decide +kernel
theorem dX2_draftEnd_13 : decode cX2_draftEnd 13 = .ok (.iload_n 1, 1) := by decide +kernel
theorem dX2_draftEnd_14 : decode cX2_draftEnd 14 = .ok (.iaload, 1) := by decide +kernel
theorem dX2_draftEnd_15 : decode cX2_draftEnd 15 = .ok (.iadd, 1) := by decide +kernel
theorem dX2_draftEnd_16 : decode cX2_draftEnd 16 = .ok (.ireturn, 1) := by decide +kernel
set_option maxRecDepth 20000 in
theorem ggX2_endsTooLate_X0_followers : GoodIn wsX2_endsTooLate wsX0_followers := goodIn_r _ [8, 9, 10, 24, 25, 26, 27, 28, 29, 30, 31, 32, 33, 34, 35] (by decide +kernel) (by decide +kernel)
set_option maxRecDepth 20000 in
theorem gX2_endsTooLate_X0_followers : GoodIn wsX2_endsTooLate (wsV RX2 148 RX0 yX0_followers wsX0_followers) := goodIn_app (goodIn_of _ (by decide +kernel)) ggX2_endsTooLate_X0_followers
set_option maxRecDepth 20000 in
theorem ggX2_endsTooLate_X2_isIn : GoodIn wsX2_endsTooLate wsX2_isIn := goodIn_r _ [14] (by decide +kernel) (by decide +kernel)
set_option maxRecDepth 20000 in
theorem gX2_endsTooLate_X2_isIn : GoodIn wsX2_endsTooLate (va_wsS RX2 151 yX2_isIn wsX2_isIn) := goodIn_app (goodIn_of _ (by decide +kernel)) ggX2_endsTooLate_X2_isIn
set_option maxRecDepth 20000 in
theorem ggX2_endsTooLate_X2_draftEnd : GoodIn wsX2_endsTooLate wsX2_draftEnd := goodIn_r _ [18, 3, 1, 19, 20, 21, 22, 23, 24, 25, 26, 27, 28, 29, 30, 31, 32, 33, 34, 35] (by decide +kernel) (by decide +kernel)
set_option maxRecDepth 20000 in
theorem gX2_endsTooLate_X2_draftEnd : GoodIn wsX2_endsTooLate (wsV RX2 130 RX2 yX2_draftEnd wsX2_draftEnd) := goodIn_app (goodIn_of _ (by decide +kernel)) ggX2_endsTooLate_X2_draftEnd
theorem dX2_endsTooLate_0 : decode cX2_endsTooLate 0 = .ok (.aload_n 0, 1) := by decide +kernel
theorem dX2_endsTooLate_1 : decode cX2_endsTooLate 1 = .ok (.getfield 10, 3) := by decide +kernel
theorem dX2_endsTooLate_4 : decode cX2_endsTooLate 4 = .ok (.iload_n 1, 1) := by decide +kernel
theorem dX2_endsTooLate_5 : decode cX2_endsTooLate 5 = .ok (.invokevirtual 148, 3) := by decide +kernel
theorem dX2_endsTooLate_8 : decode cX2_endsTooLate 8 = .ok (.istore_n 2, 1) := by decide +kernel
theorem dX2_endsTooLate_9 : decode cX2_endsTooLate 9 = .ok (.iconst 0, 1) := by decide +kernel
theorem dX2_endsTooLate_10 : decode cX2_endsTooLate 10 = .ok (.istore_n 3, 1) := by decide +kernel
theorem dX2_endsTooLate_11 : decode cX2_endsTooLate 11 = .ok (.iload_n 3, 1) := by decide +kernel
theorem dX2_endsTooLate_12 : decode cX2_endsTooLate 12 = .ok (.aload_n 0, 1) := by decide +kernel
theorem dX2_endsTooLate_13 : decode cX2_endsTooLate 13 = .ok (.getfield 10, 3) := by decide +kernel
theorem dX2_endsTooLate_16 : decode cX2_endsTooLate 16 = .ok (.getfield 33, 3) := by decide +kernel
theorem dX2_endsTooLate_19 : decode cX2_endsTooLate 19 = .ok (.if_icmp .ge 33, 3) := by decide +kernel
theorem dX2_endsTooLate_22 : decode cX2_endsTooLate 22 = .ok (.iload_n 2, 1) := by decide +kernel
theorem dX2_endsTooLate_23 : decode cX2_endsTooLate 23 = .ok (.iload_n 3, 1) := by decide +kernel
theorem dX2_endsTooLate_24 : decode cX2_endsTooLate 24 = .ok (.invokestatic 151, 3) := by decide +kernel
theorem dX2_endsTooLate_27 : decode cX2_endsTooLate 27 = .ok (.ifCond .eq 19, 3) := by decide +kernel
theorem dX2_endsTooLate_30 : decode cX2_endsTooLate 30 = .ok (.aload_n 0, 1) := by decide +kernel
theorem dX2_endsTooLate_31 : decode cX2_endsTooLate 31 = .ok (.iload_n 1, 1) := by decide +kernel
theorem dX2_endsTooLate_32 : decode cX2_endsTooLate 32 = .ok (.invokevirtual 130, 3) := by decide +kernel
theorem dX2_endsTooLate_35 : decode cX2_endsTooLate 35 = .ok (.aload_n 0, 1) := by decide +kernel
theorem dX2_endsTooLate_36 : decode cX2_endsTooLate 36 = .ok (.getfield 25, 3) := by decide +kernel
theorem dX2_endsTooLate_39 : decode cX2_endsTooLate 39 = .ok (.iload_n 3, 1) := by decide +kernel
theorem dX2_endsTooLate_40 : decode cX2_endsTooLate 40 = .ok (.iaload, 1) := by decide +kernel
theorem dX2_endsTooLate_41 : decode cX2_endsTooLate 41 = .ok (.if_icmp .le 5, 3) := by decide +kernel
theorem dX2_endsTooLate_44 : decode cX2_endsTooLate 44 = .ok (.iconst 1, 1) := by decide +kernel
theorem dX2_endsTooLate_45 : decode cX2_endsTooLate 45 = .ok (.ireturn, 1) := by decide +kernel
theorem dX2_endsTooLate_46 : decode cX2_endsTooLate 46 = .ok (.iinc 3 1, 3) := by decide +kernel
theorem dX2_endsTooLate_49 : decode cX2_endsTooLate 49 = .ok (.goto (-38), 3) := by decide +kernel
theorem dX2_endsTooLate_52 : decode cX2_endsTooLate 52 = .ok (.iconst 0, 1) := by decide +kernel
theorem dX2_endsTooLate_53 : decode cX2_endsTooLate 53 = .ok (.ireturn, 1) := by decide +kernel
set_option maxRecDepth 20000 in
theorem ggX2_meetsGreater_X2_draftEnd : GoodIn wsX2_meetsGreater wsX2_draftEnd := goodIn_r _ [9, 4, 1, 10, 11, 12, 13, 14, 15, 16, 17, 18, 19, 20, 21, 22, 23, 24, 25, 26] (by decide +kernel) (by decide +kernel)
set_option maxRecDepth 20000 in
theorem gX2_meetsGreater_X2_draftEnd : GoodIn wsX2_meetsGreater (wsV RX2 130 RX2 yX2_draftEnd wsX2_draftEnd) := goodIn_app (goodIn_of _ (by decide +kernel)) ggX2_meetsGreater_X2_draftEnd
theorem dX2_meetsGreater_0 : decode cX2_meetsGreater 0 = .ok (.iload_n 1, 1) := by decide +kernel
theorem dX2_meetsGreater_1 : decode cX2_meetsGreater 1 = .ok (.iconst 1, 1) := by decide +kernel
theorem dX2_meetsGreater_2 : decode cX2_meetsGreater 2 = .ok (.iadd, 1) := by decide +kernel
theorem dX2_meetsGreater_3 : decode cX2_meetsGreater 3 = .ok (.istore_n 2, 1) := by decide +kernel
theorem dX2_meetsGreater_4 : decode cX2_meetsGreater 4 = .ok (.iload_n 2, 1) := by decide +kernel
theorem dX2_meetsGreater_5 : decode cX2_meetsGreater 5 = .ok (.aload_n 0, 1) := by decide +kernel
theorem dX2_meetsGreater_6 : decode cX2_meetsGreater 6 = .ok (.getfield 10, 3) := by decide +kernel
theorem dX2_meetsGreater_9 : decode cX2_meetsGreater 9 = .ok (.getfield 33, 3) := by decide +kernel
theorem dX2_meetsGreater_12 : decode cX2_meetsGreater 12 = .ok (.if_icmp .ge 60, 3) := by decide +kernel
theorem dX2_meetsGreater_15 : decode cX2_meetsGreater 15 = .ok (.aload_n 0, 1) := by decide +kernel
theorem dX2_meetsGreater_16 : decode cX2_meetsGreater 16 = .ok (.getfield 10, 3) := by decide +kernel
theorem dX2_meetsGreater_19 : decode cX2_meetsGreater 19 = .ok (.getfield 87, 3) := by decide +kernel
theorem dX2_meetsGreater_22 : decode cX2_meetsGreater 22 = .ok (.iload_n 2, 1) := by decide +kernel
theorem dX2_meetsGreater_23 : decode cX2_meetsGreater 23 = .ok (.iaload, 1) := by decide +kernel
theorem dX2_meetsGreater_24 : decode cX2_meetsGreater 24 = .ok (.aload_n 0, 1) := by decide +kernel
theorem dX2_meetsGreater_25 : decode cX2_meetsGreater 25 = .ok (.getfield 10, 3) := by decide +kernel
theorem dX2_meetsGreater_28 : decode cX2_meetsGreater 28 = .ok (.getfield 87, 3) := by decide +kernel
theorem dX2_meetsGreater_31 : decode cX2_meetsGreater 31 = .ok (.iload_n 1, 1) := by decide +kernel
theorem dX2_meetsGreater_32 : decode cX2_meetsGreater 32 = .ok (.iaload, 1) := by decide +kernel
theorem dX2_meetsGreater_33 : decode cX2_meetsGreater 33 = .ok (.if_icmp .ne 33, 3) := by decide +kernel
theorem dX2_meetsGreater_36 : decode cX2_meetsGreater 36 = .ok (.aload_n 0, 1) := by decide +kernel
theorem dX2_meetsGreater_37 : decode cX2_meetsGreater 37 = .ok (.getfield 25, 3) := by decide +kernel
theorem dX2_meetsGreater_40 : decode cX2_meetsGreater 40 = .ok (.iload_n 1, 1) := by decide +kernel
theorem dX2_meetsGreater_41 : decode cX2_meetsGreater 41 = .ok (.iaload, 1) := by decide +kernel
theorem dX2_meetsGreater_42 : decode cX2_meetsGreater 42 = .ok (.aload_n 0, 1) := by decide +kernel
theorem dX2_meetsGreater_43 : decode cX2_meetsGreater 43 = .ok (.iload_n 2, 1) := by decide +kernel
theorem dX2_meetsGreater_44 : decode cX2_meetsGreater 44 = .ok (.invokevirtual 130, 3) := by decide +kernel
theorem dX2_meetsGreater_47 : decode cX2_meetsGreater 47 = .ok (.if_icmp .ge 19, 3) := by decide +kernel
theorem dX2_meetsGreater_50 : decode cX2_meetsGreater 50 = .ok (.aload_n 0, 1) := by decide +kernel
theorem dX2_meetsGreater_51 : decode cX2_meetsGreater 51 = .ok (.getfield 25, 3) := by decide +kernel
theorem dX2_meetsGreater_54 : decode cX2_meetsGreater 54 = .ok (.iload_n 2, 1) := by decide +kernel
theorem dX2_meetsGreater_55 : decode cX2_meetsGreater 55 = .ok (.iaload, 1) := by decide +kernel
theorem dX2_meetsGreater_56 : decode cX2_meetsGreater 56 = .ok (.aload_n 0, 1) := by decide +kernel
theorem dX2_meetsGreater_57 : decode cX2_meetsGreater 57 = .ok (.iload_n 1, 1) := by decide +kernel
theorem dX2_meetsGreater_58 : decode cX2_meetsGreater 58 = .ok (.invokevirtual 130, 3) := by decide +kernel
theorem dX2_meetsGreater_61 : decode cX2_meetsGreater 61 = .ok (.if_icmp .ge 5, 3) := by decide +kernel
theorem dX2_meetsGreater_64 : decode cX2_meetsGreater 64 = .ok (.iconst 1, 1) := by decide +kernel
theorem dX2_meetsGreater_65 : decode cX2_meetsGreater 65 = .ok (.ireturn, 1) := by decide +kernel
theorem dX2_meetsGreater_66 : decode cX2_meetsGreater 66 = .ok (.iinc 2 1, 3) := by decide +kernel
theorem dX2_meetsGreater_69 : decode cX2_meetsGreater 69 = .ok (.goto (-65), 3) := by decide +kernel
theorem dX2_meetsGreater_72 : decode cX2_meetsGreater 72 = .ok (.iconst 0, 1) := by decide +kernel
theorem dX2_meetsGreater_73 : decode cX2_meetsGreater 73 = .ok (.ireturn, 1) := by decide +kernel
