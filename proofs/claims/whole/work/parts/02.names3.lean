theorem dX5_init_61 : decode cX5_init 61 = .ok (.sipush 256, 3) := by decide +kernel
theorem dX5_init_64 : decode cX5_init 64 = .ok (.newarray .boolean, 2) := by decide +kernel
theorem dX5_init_66 : decode cX5_init 66 = .ok (.putfield 32, 3) := by decide +kernel
theorem dX5_init_69 : decode cX5_init 69 = .ok (.aload_n 0, 1) := by decide +kernel
theorem dX5_init_70 : decode cX5_init 70 = .ok (.bipush 16, 2) := by decide +kernel
theorem dX5_init_72 : decode cX5_init 72 = .ok (.newarray .int, 2) := by decide +kernel
theorem dX5_init_74 : decode cX5_init 74 = .ok (.putfield 36, 3) := by decide +kernel
theorem dX5_init_77 : decode cX5_init 77 = .ok (.aload_n 0, 1) := by decide +kernel
theorem dX5_init_78 : decode cX5_init 78 = .ok (.bipush 8, 2) := by decide +kernel
theorem dX5_init_80 : decode cX5_init 80 = .ok (.newarray .int, 2) := by decide +kernel
theorem dX5_init_82 : decode cX5_init 82 = .ok (.putfield 39, 3) := by decide +kernel
theorem dX5_init_85 : decode cX5_init 85 = .ok (.aload_n 0, 1) := by decide +kernel
theorem dX5_init_86 : decode cX5_init 86 = .ok (.iconst 1, 1) := by decide +kernel
theorem dX5_init_87 : decode cX5_init 87 = .ok (.invokevirtual 42, 3) := by decide +kernel
theorem dX5_init_90 : decode cX5_init 90 = .ok (.return_, 1) := by decide +kernel
theorem dX5_refuse_0 : decode cX5_refuse 0 = .ok (.aload_n 0, 1) := by decide +kernel
theorem dX5_refuse_1 : decode cX5_refuse 1 = .ok (.getfield 7, 3) := by decide +kernel
theorem dX5_refuse_4 : decode cX5_refuse 4 = .ok (.iload_n 1, 1) := by decide +kernel
theorem dX5_refuse_5 : decode cX5_refuse 5 = .ok (.ineg, 1) := by decide +kernel
theorem dX5_refuse_6 : decode cX5_refuse 6 = .ok (.dup2, 1) := by decide +kernel
theorem dX5_refuse_7 : decode cX5_refuse 7 = .ok (.iaload, 1) := by decide +kernel
theorem dX5_refuse_8 : decode cX5_refuse 8 = .ok (.iconst 1, 1) := by decide +kernel
theorem dX5_refuse_9 : decode cX5_refuse 9 = .ok (.iadd, 1) := by decide +kernel
theorem dX5_refuse_10 : decode cX5_refuse 10 = .ok (.iastore, 1) := by decide +kernel
theorem dX5_refuse_11 : decode cX5_refuse 11 = .ok (.iload_n 1, 1) := by decide +kernel
theorem dX5_refuse_12 : decode cX5_refuse 12 = .ok (.ireturn, 1) := by decide +kernel
theorem dX5_isIn_0 : decode cX5_isIn 0 = .ok (.iload_n 0, 1) := by decide +kernel
theorem dX5_isIn_1 : decode cX5_isIn 1 = .ok (.ifCond .lt 12, 3) := by decide +kernel
theorem dX5_isIn_4 : decode cX5_isIn 4 = .ok (.iload_n 0, 1) := by decide +kernel
theorem dX5_isIn_5 : decode cX5_isIn 5 = .ok (.iload_n 1, 1) := by decide +kernel
theorem dX5_isIn_6 : decode cX5_isIn 6 = .ok (.if_icmp .ge 7, 3) := by decide +kernel
theorem dX5_isIn_9 : decode cX5_isIn 9 = .ok (.iconst 1, 1) := by decide +kernel
theorem dX5_isIn_10 : decode cX5_isIn 10 = .ok (.goto 4, 3) := by decide +kernel
theorem dX5_isIn_13 : decode cX5_isIn 13 = .ok (.iconst 0, 1) := by decide +kernel
theorem dX5_isIn_14 : decode cX5_isIn 14 = .ok (.ireturn, 1) := by decide +kernel
set_option maxRecDepth 20000 in
theorem ggX5_lay_X5_extend : GoodIn wsX5_lay wsX5_extend := goodIn_r _ [12, 1, 5, 3, 8, 9, 10, 11, 13, 14, 15, 16, 17, 18, 19, 20, 21, 22, 23, 24, 25, 26, 27, 28, 29] (by decide +kernel) (by decide +kernel)
set_option maxRecDepth 20000 in
theorem gX5_lay_X5_extend : GoodIn wsX5_lay (wsV RX5 56 RX5 yX5_extend wsX5_extend) := goodIn_app (goodIn_of _ (by decide +kernel)) ggX5_lay_X5_extend
theorem dX5_lay_0 : decode cX5_lay 0 = .ok (.aload_n 0, 1) := by decide +kernel
theorem dX5_lay_1 : decode cX5_lay 1 = .ok (.iload_n 1, 1) := by decide +kernel
theorem dX5_lay_2 : decode cX5_lay 2 = .ok (.putfield 46, 3) := by decide +kernel
theorem dX5_lay_5 : decode cX5_lay 5 = .ok (.aload_n 0, 1) := by decide +kernel
theorem dX5_lay_6 : decode cX5_lay 6 = .ok (.iconst 0, 1) := by decide +kernel
theorem dX5_lay_7 : decode cX5_lay 7 = .ok (.putfield 50, 3) := by decide +kernel
theorem dX5_lay_10 : decode cX5_lay 10 = .ok (.aload_n 0, 1) := by decide +kernel
theorem dX5_lay_11 : decode cX5_lay 11 = .ok (.iconst 0, 1) := by decide +kernel
theorem dX5_lay_12 : decode cX5_lay 12 = .ok (.putfield 53, 3) := by decide +kernel
theorem dX5_lay_15 : decode cX5_lay 15 = .ok (.aload_n 0, 1) := by decide +kernel
theorem dX5_lay_16 : decode cX5_lay 16 = .ok (.iconst 0, 1) := by decide +kernel
theorem dX5_lay_17 : decode cX5_lay 17 = .ok (.iconst 0, 1) := by decide +kernel
theorem dX5_lay_18 : decode cX5_lay 18 = .ok (.iconst 0, 1) := by decide +kernel
theorem dX5_lay_19 : decode cX5_lay 19 = .ok (.invokevirtual 56, 3) := by decide +kernel
theorem dX5_lay_22 : decode cX5_lay 22 = .ok (.iconst 0, 1) := by decide +kernel
theorem dX5_lay_23 : decode cX5_lay 23 = .ok (.istore_n 2, 1) := by decide +kernel
theorem dX5_lay_24 : decode cX5_lay 24 = .ok (.iload_n 2, 1) := by decide +kernel
theorem dX5_lay_25 : decode cX5_lay 25 = .ok (.aload_n 0, 1) := by decide +kernel
theorem dX5_lay_26 : decode cX5_lay 26 = .ok (.getfield 53, 3) := by decide +kernel
theorem dX5_lay_29 : decode cX5_lay 29 = .ok (.if_icmp .ge 21, 3) := by decide +kernel
theorem dX5_lay_32 : decode cX5_lay 32 = .ok (.aload_n 0, 1) := by decide +kernel
theorem dX5_lay_33 : decode cX5_lay 33 = .ok (.getfield 26, 3) := by decide +kernel
theorem dX5_lay_36 : decode cX5_lay 36 = .ok (.iload_n 2, 1) := by decide +kernel
theorem dX5_lay_37 : decode cX5_lay 37 = .ok (.aload_n 0, 1) := by decide +kernel
theorem dX5_lay_38 : decode cX5_lay 38 = .ok (.getfield 23, 3) := by decide +kernel
theorem dX5_lay_41 : decode cX5_lay 41 = .ok (.iload_n 2, 1) := by decide +kernel
theorem dX5_lay_42 : decode cX5_lay 42 = .ok (.iaload, 1) := by decide +kernel
theorem dX5_lay_43 : decode cX5_lay 43 = .ok (.iastore, 1) := by decide +kernel
theorem dX5_lay_44 : decode cX5_lay 44 = .ok (.iinc 2 1, 3) := by decide +kernel
theorem dX5_lay_47 : decode cX5_lay 47 = .ok (.goto (-23), 3) := by decide +kernel
theorem dX5_lay_50 : decode cX5_lay 50 = .ok (.aload_n 0, 1) := by decide +kernel
theorem dX5_lay_51 : decode cX5_lay 51 = .ok (.aload_n 0, 1) := by decide +kernel
theorem dX5_lay_52 : decode cX5_lay 52 = .ok (.getfield 53, 3) := by decide +kernel
theorem dX5_lay_55 : decode cX5_lay 55 = .ok (.putfield 60, 3) := by decide +kernel
theorem dX5_lay_58 : decode cX5_lay 58 = .ok (.aload_n 0, 1) := by decide +kernel
theorem dX5_lay_59 : decode cX5_lay 59 = .ok (.iconst 0, 1) := by decide +kernel
theorem dX5_lay_60 : decode cX5_lay 60 = .ok (.putfield 63, 3) := by decide +kernel
theorem dX5_lay_63 : decode cX5_lay 63 = .ok (.return_, 1) := by decide +kernel
set_option maxRecDepth 20000 in
theorem ggX5_extend_X5_extend : GoodIn wsX5_extend wsX5_extend := goodIn_r _ [0, 1, 2, 3, 4, 5, 6, 7, 8, 9, 10, 11, 12, 13, 14, 15, 16, 17, 18, 19, 20, 21, 22, 23, 24] (by decide +kernel) (by decide +kernel)
set_option maxRecDepth 20000 in
theorem gX5_extend_X5_extend : GoodIn wsX5_extend (wsV RX5 56 RX5 yX5_extend wsX5_extend) := goodIn_app (goodIn_of _ (by decide +kernel)) ggX5_extend_X5_extend
theorem dX5_extend_0 : decode cX5_extend 0 = .ok (.iload_n 3, 1) := by decide +kernel
theorem dX5_extend_1 : decode cX5_extend 1 = .ok (.aload_n 0, 1) := by decide +kernel
theorem dX5_extend_2 : decode cX5_extend 2 = .ok (.getfield 46, 3) := by decide +kernel
theorem dX5_extend_5 : decode cX5_extend 5 = .ok (.if_icmp .ne 24, 3) := by decide +kernel
theorem dX5_extend_8 : decode cX5_extend 8 = .ok (.aload_n 0, 1) := by decide +kernel
theorem dX5_extend_9 : decode cX5_extend 9 = .ok (.getfield 23, 3) := by decide +kernel
theorem dX5_extend_12 : decode cX5_extend 12 = .ok (.aload_n 0, 1) := by decide +kernel
theorem dX5_extend_13 : decode cX5_extend 13 = .ok (.getfield 53, 3) := by decide +kernel
theorem dX5_extend_16 : decode cX5_extend 16 = .ok (.iload_n 1, 1) := by decide +kernel
theorem dX5_extend_17 : decode cX5_extend 17 = .ok (.iastore, 1) := by decide +kernel
theorem dX5_extend_18 : decode cX5_extend 18 = .ok (.aload_n 0, 1) := by decide +kernel
theorem dX5_extend_19 : decode cX5_extend 19 = .ok (.dup, 1) := by decide +kernel
theorem dX5_extend_20 : decode cX5_extend 20 = .ok (.getfield 53, 3) := by decide +kernel
theorem dX5_extend_23 : decode cX5_extend 23 = .ok (.iconst 1, 1) := by decide +kernel
theorem dX5_extend_24 : decode cX5_extend 24 = .ok (.iadd, 1) := by decide +kernel
theorem dX5_extend_25 : decode cX5_extend 25 = .ok (.putfield 53, 3) := by decide +kernel
theorem dX5_extend_28 : decode cX5_extend 28 = .ok (.return_, 1) := by decide +kernel
theorem dX5_extend_29 : decode cX5_extend 29 = .ok (.iconst 0, 1) := by decide +kernel
theorem dX5_extend_30 : decode cX5_extend 30 = .ok (.istore 4, 2) := by decide +kernel
theorem dX5_extend_32 : decode cX5_extend 32 = .ok (.iload 4, 2) := by decide +kernel
theorem dX5_extend_34 : decode cX5_extend 34 = .ok (.aload_n 0, 1) := by decide +kernel
theorem dX5_extend_35 : decode cX5_extend 35 = .ok (.getfield 46, 3) := by decide +kernel
theorem dX5_extend_38 : decode cX5_extend 38 = .ok (.if_icmp .ge 37, 3) := by decide +kernel
theorem dX5_extend_41 : decode cX5_extend 41 = .ok (.iload_n 2, 1) := by decide +kernel
theorem dX5_extend_42 : decode cX5_extend 42 = .ok (.iload 4, 2) := by decide +kernel
theorem dX5_extend_44 : decode cX5_extend 44 = .ok (.ishr, 1) := by decide +kernel
theorem dX5_extend_45 : decode cX5_extend 45 = .ok (.iconst 1, 1) := by decide +kernel
theorem dX5_extend_46 : decode cX5_extend 46 = .ok (.iand, 1) := by decide +kernel
theorem dX5_extend_47 : decode cX5_extend 47 = .ok (.ifCond .ne 22, 3) := by decide +kernel
theorem dX5_extend_50 : decode cX5_extend 50 = .ok (.aload_n 0, 1) := by decide +kernel
theorem dX5_extend_51 : decode cX5_extend 51 = .ok (.iload_n 1, 1) := by decide +kernel
theorem dX5_extend_52 : decode cX5_extend 52 = .ok (.iconst 4, 1) := by decide +kernel
theorem dX5_extend_53 : decode cX5_extend 53 = .ok (.ishl, 1) := by decide +kernel
theorem dX5_extend_54 : decode cX5_extend 54 = .ok (.iload 4, 2) := by decide +kernel
theorem dX5_extend_56 : decode cX5_extend 56 = .ok (.ior, 1) := by decide +kernel
theorem dX5_extend_57 : decode cX5_extend 57 = .ok (.iload_n 2, 1) := by decide +kernel
theorem dX5_extend_58 : decode cX5_extend 58 = .ok (.iconst 1, 1) := by decide +kernel
theorem dX5_extend_59 : decode cX5_extend 59 = .ok (.iload 4, 2) := by decide +kernel
theorem dX5_extend_61 : decode cX5_extend 61 = .ok (.ishl, 1) := by decide +kernel
theorem dX5_extend_62 : decode cX5_extend 62 = .ok (.ior, 1) := by decide +kernel
theorem dX5_extend_63 : decode cX5_extend 63 = .ok (.iload_n 3, 1) := by decide +kernel
theorem dX5_extend_64 : decode cX5_extend 64 = .ok (.iconst 1, 1) := by decide +kernel
theorem dX5_extend_65 : decode cX5_extend 65 = .ok (.iadd, 1) := by decide +kernel
theorem dX5_extend_66 : decode cX5_extend 66 = .ok (.invokevirtual 56, 3) := by decide +kernel
theorem dX5_extend_69 : decode cX5_extend 69 = .ok (.iinc 4 1, 3) := by decide +kernel
theorem dX5_extend_72 : decode cX5_extend 72 = .ok (.goto (-40), 3) := by decide +kernel
theorem dX5_extend_75 : decode cX5_extend 75 = .ok (.return_, 1) := by decide +kernel
theorem dX5_columnAt_0 : decode cX5_columnAt 0 = .ok (.iload_n 1, 1) := by decide +kernel
theorem dX5_columnAt_1 : decode cX5_columnAt 1 = .ok (.iconst 4, 1) := by decide +kernel
theorem dX5_columnAt_2 : decode cX5_columnAt 2 = .ok (.aload_n 0, 1) := by decide +kernel
theorem dX5_columnAt_3 : decode cX5_columnAt 3 = .ok (.getfield 46, 3) := by decide +kernel
theorem dX5_columnAt_6 : decode cX5_columnAt 6 = .ok (.iconst 1, 1) := by decide +kernel
theorem dX5_columnAt_7 : decode cX5_columnAt 7 = .ok (.isub, 1) := by decide +kernel
theorem dX5_columnAt_8 : decode cX5_columnAt 8 = .ok (.iload_n 2, 1) := by decide +kernel
theorem dX5_columnAt_9 : decode cX5_columnAt 9 = .ok (.isub, 1) := by decide +kernel
theorem dX5_columnAt_10 : decode cX5_columnAt 10 = .ok (.imul, 1) := by decide +kernel
theorem dX5_columnAt_11 : decode cX5_columnAt 11 = .ok (.ishr, 1) := by decide +kernel
theorem dX5_columnAt_12 : decode cX5_columnAt 12 = .ok (.bipush 15, 2) := by decide +kernel
theorem dX5_columnAt_14 : decode cX5_columnAt 14 = .ok (.iand, 1) := by decide +kernel
theorem dX5_columnAt_15 : decode cX5_columnAt 15 = .ok (.ireturn, 1) := by decide +kernel
set_option maxRecDepth 20000 in
theorem ggX5_placeOf_X5_columnAt : GoodIn wsX5_placeOf wsX5_columnAt := goodIn_r _ [5, 6, 7, 8, 9, 10, 11, 12, 13, 14, 15, 16, 17, 18, 19, 20, 21, 22, 23] (by decide +kernel) (by decide +kernel)
set_option maxRecDepth 20000 in
theorem gX5_placeOf_X5_columnAt : GoodIn wsX5_placeOf (wsV RX5 67 RX5 yX5_columnAt wsX5_columnAt) := goodIn_app (goodIn_of _ (by decide +kernel)) ggX5_placeOf_X5_columnAt
theorem dX5_placeOf_0 : decode cX5_placeOf 0 = .ok (.iconst 0, 1) := by decide +kernel
theorem dX5_placeOf_1 : decode cX5_placeOf 1 = .ok (.istore_n 3, 1) := by decide +kernel
theorem dX5_placeOf_2 : decode cX5_placeOf 2 = .ok (.aload_n 0, 1) := by decide +kernel
theorem dX5_placeOf_3 : decode cX5_placeOf 3 = .ok (.iload_n 1, 1) := by decide +kernel
theorem dX5_placeOf_4 : decode cX5_placeOf 4 = .ok (.iload_n 3, 1) := by decide +kernel
theorem dX5_placeOf_5 : decode cX5_placeOf 5 = .ok (.invokevirtual 67, 3) := by decide +kernel
theorem dX5_placeOf_8 : decode cX5_placeOf 8 = .ok (.iload_n 2, 1) := by decide +kernel
theorem dX5_placeOf_9 : decode cX5_placeOf 9 = .ok (.if_icmp .eq 9, 3) := by decide +kernel
theorem dX5_placeOf_12 : decode cX5_placeOf 12 = .ok (.iinc 3 1, 3) := by decide +kernel
theorem dX5_placeOf_15 : decode cX5_placeOf 15 = .ok (.goto (-13), 3) := by decide +kernel
theorem dX5_placeOf_18 : decode cX5_placeOf 18 = .ok (.iload_n 3, 1) := by decide +kernel
theorem dX5_placeOf_19 : decode cX5_placeOf 19 = .ok (.ireturn, 1) := by decide +kernel
set_option maxRecDepth 20000 in
theorem ggX5_runs_X5_columnAt : GoodIn wsX5_runs wsX5_columnAt := goodIn_r _ [6, 1, 7, 8, 9, 10, 11, 12, 13, 14, 15, 16, 17, 18, 19, 20, 21, 22, 23] (by decide +kernel) (by decide +kernel)
set_option maxRecDepth 20000 in
theorem gX5_runs_X5_columnAt : GoodIn wsX5_runs (wsV RX5 67 RX5 yX5_columnAt wsX5_columnAt) := goodIn_app (goodIn_of _ (by decide +kernel)) ggX5_runs_X5_columnAt
theorem dX5_runs_0 : decode cX5_runs 0 = .ok (.iconst 0, 1) := by decide +kernel
theorem dX5_runs_1 : decode cX5_runs 1 = .ok (.istore_n 3, 1) := by decide +kernel
theorem dX5_runs_2 : decode cX5_runs 2 = .ok (.iconst 0, 1) := by decide +kernel
theorem dX5_runs_3 : decode cX5_runs 3 = .ok (.istore 4, 2) := by decide +kernel
theorem dX5_runs_5 : decode cX5_runs 5 = .ok (.iconst 0, 1) := by decide +kernel
theorem dX5_runs_6 : decode cX5_runs 6 = .ok (.istore 5, 2) := by decide +kernel
theorem dX5_runs_8 : decode cX5_runs 8 = .ok (.iload 5, 2) := by decide +kernel
theorem dX5_runs_10 : decode cX5_runs 10 = .ok (.aload_n 0, 1) := by decide +kernel
theorem dX5_runs_11 : decode cX5_runs 11 = .ok (.getfield 46, 3) := by decide +kernel
theorem dX5_runs_14 : decode cX5_runs 14 = .ok (.if_icmp .ge 53, 3) := by decide +kernel
theorem dX5_runs_17 : decode cX5_runs 17 = .ok (.iload_n 2, 1) := by decide +kernel
theorem dX5_runs_18 : decode cX5_runs 18 = .ok (.aload_n 0, 1) := by decide +kernel
theorem dX5_runs_19 : decode cX5_runs 19 = .ok (.iload_n 1, 1) := by decide +kernel
theorem dX5_runs_20 : decode cX5_runs 20 = .ok (.iload 5, 2) := by decide +kernel
theorem dX5_runs_22 : decode cX5_runs 22 = .ok (.invokevirtual 67, 3) := by decide +kernel
theorem dX5_runs_25 : decode cX5_runs 25 = .ok (.ishr, 1) := by decide +kernel
theorem dX5_runs_26 : decode cX5_runs 26 = .ok (.iconst 1, 1) := by decide +kernel
theorem dX5_runs_27 : decode cX5_runs 27 = .ok (.iand, 1) := by decide +kernel
theorem dX5_runs_28 : decode cX5_runs 28 = .ok (.iconst 1, 1) := by decide +kernel
theorem dX5_runs_29 : decode cX5_runs 29 = .ok (.if_icmp .ne 7, 3) := by decide +kernel
theorem dX5_runs_32 : decode cX5_runs 32 = .ok (.iconst 1, 1) := by decide +kernel
theorem dX5_runs_33 : decode cX5_runs 33 = .ok (.goto 4, 3) := by decide +kernel
theorem dX5_runs_36 : decode cX5_runs 36 = .ok (.iconst 0, 1) := by decide +kernel
theorem dX5_runs_37 : decode cX5_runs 37 = .ok (.istore 6, 2) := by decide +kernel
theorem dX5_runs_39 : decode cX5_runs 39 = .ok (.iload_n 3, 1) := by decide +kernel
theorem dX5_runs_40 : decode cX5_runs 40 = .ok (.iload 6, 2) := by decide +kernel
theorem dX5_runs_42 : decode cX5_runs 42 = .ok (.ifCond .eq 12, 3) := by decide +kernel
theorem dX5_runs_45 : decode cX5_runs 45 = .ok (.iload 4, 2) := by decide +kernel
theorem dX5_runs_47 : decode cX5_runs 47 = .ok (.ifCond .ne 7, 3) := by decide +kernel
theorem dX5_runs_50 : decode cX5_runs 50 = .ok (.iconst 1, 1) := by decide +kernel
theorem dX5_runs_51 : decode cX5_runs 51 = .ok (.goto 4, 3) := by decide +kernel
theorem dX5_runs_54 : decode cX5_runs 54 = .ok (.iconst 0, 1) := by decide +kernel
theorem dX5_runs_55 : decode cX5_runs 55 = .ok (.iadd, 1) := by decide +kernel
theorem dX5_runs_56 : decode cX5_runs 56 = .ok (.istore_n 3, 1) := by decide +kernel
theorem dX5_runs_57 : decode cX5_runs 57 = .ok (.iload 6, 2) := by decide +kernel
theorem dX5_runs_59 : decode cX5_runs 59 = .ok (.istore 4, 2) := by decide +kernel
theorem dX5_runs_61 : decode cX5_runs 61 = .ok (.iinc 5 1, 3) := by decide +kernel
theorem dX5_runs_64 : decode cX5_runs 64 = .ok (.goto (-56), 3) := by decide +kernel
theorem dX5_runs_67 : decode cX5_runs 67 = .ok (.iload_n 3, 1) := by decide +kernel
theorem dX5_runs_68 : decode cX5_runs 68 = .ok (.ireturn, 1) := by decide +kernel
set_option maxRecDepth 20000 in
theorem ggX5_isTogether_X5_runs : GoodIn wsX5_isTogether wsX5_runs := goodIn_r _ [5, 6, 7, 8, 9, 4, 10, 11, 12, 13, 14, 15, 16, 17, 18, 19, 20, 21, 22, 23, 24, 25, 26, 27] (by decide +kernel) (by decide +kernel)
set_option maxRecDepth 20000 in
theorem gX5_isTogether_X5_runs : GoodIn wsX5_isTogether (wsV RX5 71 RX5 yX5_runs wsX5_runs) := goodIn_app (goodIn_of _ (by decide +kernel)) ggX5_isTogether_X5_runs
theorem dX5_isTogether_0 : decode cX5_isTogether 0 = .ok (.aload_n 0, 1) := by decide +kernel
theorem dX5_isTogether_1 : decode cX5_isTogether 1 = .ok (.iload_n 1, 1) := by decide +kernel
theorem dX5_isTogether_2 : decode cX5_isTogether 2 = .ok (.iload_n 2, 1) := by decide +kernel
theorem dX5_isTogether_3 : decode cX5_isTogether 3 = .ok (.invokevirtual 71, 3) := by decide +kernel
theorem dX5_isTogether_6 : decode cX5_isTogether 6 = .ok (.iconst 2, 1) := by decide +kernel
theorem dX5_isTogether_7 : decode cX5_isTogether 7 = .ok (.if_icmp .ge 7, 3) := by decide +kernel
theorem dX5_isTogether_10 : decode cX5_isTogether 10 = .ok (.iconst 1, 1) := by decide +kernel
theorem dX5_isTogether_11 : decode cX5_isTogether 11 = .ok (.goto 4, 3) := by decide +kernel
theorem dX5_isTogether_14 : decode cX5_isTogether 14 = .ok (.iconst 0, 1) := by decide +kernel
theorem dX5_isTogether_15 : decode cX5_isTogether 15 = .ok (.ireturn, 1) := by decide +kernel
set_option maxRecDepth 20000 in
theorem ggX5_table_X5_refuse : GoodIn wsX5_table wsX5_refuse := goodIn_r _ [5, 6, 22, 23, 24, 25, 26, 27, 28, 29, 30, 31, 32, 33, 34, 35, 36, 37, 38] (by decide +kernel) (by decide +kernel)
set_option maxRecDepth 20000 in
theorem gX5_table_X5_refuse : GoodIn wsX5_table (wsV RX5 74 RX5 yX5_refuse wsX5_refuse) := goodIn_app (goodIn_of _ (by decide +kernel)) ggX5_table_X5_refuse
set_option maxRecDepth 20000 in
theorem ggX5_table_X5_lay : GoodIn wsX5_table wsX5_lay := goodIn_r _ [10, 11, 12, 13, 14, 15, 16, 17, 18, 19, 20, 4, 21, 22, 23, 24, 25, 26, 27, 28, 29, 30, 31, 32, 33, 34, 35, 36, 37, 38] (by decide +kernel) (by decide +kernel)
set_option maxRecDepth 20000 in
theorem gX5_table_X5_lay : GoodIn wsX5_table (wsV RX5 42 RX5 yX5_lay wsX5_lay) := goodIn_app (goodIn_of _ (by decide +kernel)) ggX5_table_X5_lay
theorem dX5_table_0 : decode cX5_table 0 = .ok (.iload_n 1, 1) := by decide +kernel
theorem dX5_table_1 : decode cX5_table 1 = .ok (.iconst 1, 1) := by decide +kernel
theorem dX5_table_2 : decode cX5_table 2 = .ok (.if_icmp .ge 10, 3) := by decide +kernel
theorem dX5_table_5 : decode cX5_table 5 = .ok (.aload_n 0, 1) := by decide +kernel
theorem dX5_table_6 : decode cX5_table 6 = .ok (.bipush (-4), 2) := by decide +kernel
theorem dX5_table_8 : decode cX5_table 8 = .ok (.invokevirtual 74, 3) := by decide +kernel
theorem dX5_table_11 : decode cX5_table 11 = .ok (.ireturn, 1) := by decide +kernel
theorem dX5_table_12 : decode cX5_table 12 = .ok (.iload_n 1, 1) := by decide +kernel
theorem dX5_table_13 : decode cX5_table 13 = .ok (.bipush 8, 2) := by decide +kernel
theorem dX5_table_15 : decode cX5_table 15 = .ok (.if_icmp .le 10, 3) := by decide +kernel
theorem dX5_table_18 : decode cX5_table 18 = .ok (.aload_n 0, 1) := by decide +kernel
theorem dX5_table_19 : decode cX5_table 19 = .ok (.bipush (-6), 2) := by decide +kernel
theorem dX5_table_21 : decode cX5_table 21 = .ok (.invokevirtual 74, 3) := by decide +kernel
theorem dX5_table_24 : decode cX5_table 24 = .ok (.ireturn, 1) := by decide +kernel
theorem dX5_table_25 : decode cX5_table 25 = .ok (.aload_n 0, 1) := by decide +kernel
theorem dX5_table_26 : decode cX5_table 26 = .ok (.iload_n 1, 1) := by decide +kernel
theorem dX5_table_27 : decode cX5_table 27 = .ok (.invokevirtual 42, 3) := by decide +kernel
theorem dX5_table_30 : decode cX5_table 30 = .ok (.iconst 1, 1) := by decide +kernel
theorem dX5_table_31 : decode cX5_table 31 = .ok (.ireturn, 1) := by decide +kernel
theorem dX5_isSet_0 : decode cX5_isSet 0 = .ok (.iload_n 1, 1) := by decide +kernel
theorem dX5_isSet_1 : decode cX5_isSet 1 = .ok (.ifCond .lt 17, 3) := by decide +kernel
theorem dX5_isSet_4 : decode cX5_isSet 4 = .ok (.iload_n 1, 1) := by decide +kernel
theorem dX5_isSet_5 : decode cX5_isSet 5 = .ok (.iconst 1, 1) := by decide +kernel
theorem dX5_isSet_6 : decode cX5_isSet 6 = .ok (.aload_n 0, 1) := by decide +kernel
theorem dX5_isSet_7 : decode cX5_isSet 7 = .ok (.getfield 46, 3) := by decide +kernel
theorem dX5_isSet_10 : decode cX5_isSet 10 = .ok (.ishl, 1) := by decide +kernel
theorem dX5_isSet_11 : decode cX5_isSet 11 = .ok (.if_icmp .ge 7, 3) := by decide +kernel
theorem dX5_isSet_14 : decode cX5_isSet 14 = .ok (.iconst 1, 1) := by decide +kernel
theorem dX5_isSet_15 : decode cX5_isSet 15 = .ok (.goto 4, 3) := by decide +kernel
theorem dX5_isSet_18 : decode cX5_isSet 18 = .ok (.iconst 0, 1) := by decide +kernel
theorem dX5_isSet_19 : decode cX5_isSet 19 = .ok (.ireturn, 1) := by decide +kernel
set_option maxRecDepth 20000 in
theorem ggX5_isLine_X5_isIn : GoodIn wsX5_isLine wsX5_isIn := goodIn_r _ [5] (by decide +kernel) (by decide +kernel)
set_option maxRecDepth 20000 in
theorem gX5_isLine_X5_isIn : GoodIn wsX5_isLine (va_wsS RX5 78 yX5_isIn wsX5_isIn) := goodIn_app (goodIn_of _ (by decide +kernel)) ggX5_isLine_X5_isIn
theorem dX5_isLine_0 : decode cX5_isLine 0 = .ok (.iload_n 1, 1) := by decide +kernel
theorem dX5_isLine_1 : decode cX5_isLine 1 = .ok (.aload_n 0, 1) := by decide +kernel
theorem dX5_isLine_2 : decode cX5_isLine 2 = .ok (.getfield 50, 3) := by decide +kernel
theorem dX5_isLine_5 : decode cX5_isLine 5 = .ok (.invokestatic 78, 3) := by decide +kernel
theorem dX5_isLine_8 : decode cX5_isLine 8 = .ok (.ireturn, 1) := by decide +kernel
set_option maxRecDepth 20000 in
theorem ggX5_filter_X5_isTogether : GoodIn wsX5_filter wsX5_isTogether := goodIn_r _ [5, 6, 7, 8, 4, 9, 10, 11, 12, 13, 14, 15, 16, 17, 18, 19, 20, 21, 22, 23, 24, 25, 26, 27, 28, 29, 30, 31] (by decide +kernel) (by decide +kernel)
set_option maxRecDepth 20000 in
theorem gX5_filter_X5_isTogether : GoodIn wsX5_filter (wsV RX5 82 RX5 yX5_isTogether wsX5_isTogether) := goodIn_app (goodIn_of _ (by decide +kernel)) ggX5_filter_X5_isTogether
theorem dX5_filter_0 : decode cX5_filter 0 = .ok (.iconst 0, 1) := by decide +kernel
theorem dX5_filter_1 : decode cX5_filter 1 = .ok (.istore 4, 2) := by decide +kernel
theorem dX5_filter_3 : decode cX5_filter 3 = .ok (.iconst 0, 1) := by decide +kernel
theorem dX5_filter_4 : decode cX5_filter 4 = .ok (.istore 5, 2) := by decide +kernel
theorem dX5_filter_6 : decode cX5_filter 6 = .ok (.iload 5, 2) := by decide +kernel
theorem dX5_filter_8 : decode cX5_filter 8 = .ok (.iload_n 2, 1) := by decide +kernel
theorem dX5_filter_9 : decode cX5_filter 9 = .ok (.if_icmp .ge 35, 3) := by decide +kernel
theorem dX5_filter_12 : decode cX5_filter 12 = .ok (.aload_n 0, 1) := by decide +kernel
theorem dX5_filter_13 : decode cX5_filter 13 = .ok (.aload_n 1, 1) := by decide +kernel
theorem dX5_filter_14 : decode cX5_filter 14 = .ok (.iload 5, 2) := by decide +kernel
theorem dX5_filter_16 : decode cX5_filter 16 = .ok (.iaload, 1) := by decide +kernel
theorem dX5_filter_17 : decode cX5_filter 17 = .ok (.iload_n 3, 1) := by decide +kernel
theorem dX5_filter_18 : decode cX5_filter 18 = .ok (.invokevirtual 82, 3) := by decide +kernel
theorem dX5_filter_21 : decode cX5_filter 21 = .ok (.ifCond .ne 6, 3) := by decide +kernel
theorem dX5_filter_24 : decode cX5_filter 24 = .ok (.goto 14, 3) := by decide +kernel
theorem dX5_filter_27 : decode cX5_filter 27 = .ok (.aload_n 1, 1) := by decide +kernel
theorem dX5_filter_28 : decode cX5_filter 28 = .ok (.iload 4, 2) := by decide +kernel
theorem dX5_filter_30 : decode cX5_filter 30 = .ok (.aload_n 1, 1) := by decide +kernel
theorem dX5_filter_31 : decode cX5_filter 31 = .ok (.iload 5, 2) := by decide +kernel
theorem dX5_filter_33 : decode cX5_filter 33 = .ok (.iaload, 1) := by decide +kernel
theorem dX5_filter_34 : decode cX5_filter 34 = .ok (.iastore, 1) := by decide +kernel
theorem dX5_filter_35 : decode cX5_filter 35 = .ok (.iinc 4 1, 3) := by decide +kernel
theorem dX5_filter_38 : decode cX5_filter 38 = .ok (.iinc 5 1, 3) := by decide +kernel
theorem dX5_filter_41 : decode cX5_filter 41 = .ok (.goto (-35), 3) := by decide +kernel
theorem dX5_filter_44 : decode cX5_filter 44 = .ok (.iload 4, 2) := by decide +kernel
theorem dX5_filter_46 : decode cX5_filter 46 = .ok (.ireturn, 1) := by decide +kernel
set_option maxRecDepth 20000 in
theorem ggX5_isAny_X5_isTogether : GoodIn wsX5_isAny wsX5_isTogether := goodIn_r _ [7, 8, 9, 10, 6, 11, 12, 13, 14, 15, 16, 17, 18, 19, 20, 21, 22, 23, 24, 25, 26, 27, 28, 29, 30, 31, 32, 33] (by decide +kernel) (by decide +kernel)
set_option maxRecDepth 20000 in
theorem gX5_isAny_X5_isTogether : GoodIn wsX5_isAny (wsV RX5 82 RX5 yX5_isTogether wsX5_isTogether) := goodIn_app (goodIn_of _ (by decide +kernel)) ggX5_isAny_X5_isTogether
theorem dX5_isAny_0 : decode cX5_isAny 0 = .ok (.iconst 0, 1) := by decide +kernel
theorem dX5_isAny_1 : decode cX5_isAny 1 = .ok (.istore_n 2, 1) := by decide +kernel
theorem dX5_isAny_2 : decode cX5_isAny 2 = .ok (.iconst 0, 1) := by decide +kernel
theorem dX5_isAny_3 : decode cX5_isAny 3 = .ok (.istore_n 3, 1) := by decide +kernel
theorem dX5_isAny_4 : decode cX5_isAny 4 = .ok (.iload_n 3, 1) := by decide +kernel
theorem dX5_isAny_5 : decode cX5_isAny 5 = .ok (.aload_n 0, 1) := by decide +kernel
theorem dX5_isAny_6 : decode cX5_isAny 6 = .ok (.getfield 60, 3) := by decide +kernel
theorem dX5_isAny_9 : decode cX5_isAny 9 = .ok (.if_icmp .ge 25, 3) := by decide +kernel
theorem dX5_isAny_12 : decode cX5_isAny 12 = .ok (.iload_n 2, 1) := by decide +kernel
theorem dX5_isAny_13 : decode cX5_isAny 13 = .ok (.ifCond .ne 21, 3) := by decide +kernel
theorem dX5_isAny_16 : decode cX5_isAny 16 = .ok (.aload_n 0, 1) := by decide +kernel
theorem dX5_isAny_17 : decode cX5_isAny 17 = .ok (.aload_n 0, 1) := by decide +kernel
theorem dX5_isAny_18 : decode cX5_isAny 18 = .ok (.getfield 26, 3) := by decide +kernel
theorem dX5_isAny_21 : decode cX5_isAny 21 = .ok (.iload_n 3, 1) := by decide +kernel
theorem dX5_isAny_22 : decode cX5_isAny 22 = .ok (.iaload, 1) := by decide +kernel
theorem dX5_isAny_23 : decode cX5_isAny 23 = .ok (.iload_n 1, 1) := by decide +kernel
theorem dX5_isAny_24 : decode cX5_isAny 24 = .ok (.invokevirtual 82, 3) := by decide +kernel
theorem dX5_isAny_27 : decode cX5_isAny 27 = .ok (.istore_n 2, 1) := by decide +kernel
theorem dX5_isAny_28 : decode cX5_isAny 28 = .ok (.iinc 3 1, 3) := by decide +kernel
theorem dX5_isAny_31 : decode cX5_isAny 31 = .ok (.goto (-27), 3) := by decide +kernel
theorem dX5_isAny_34 : decode cX5_isAny 34 = .ok (.iload_n 2, 1) := by decide +kernel
theorem dX5_isAny_35 : decode cX5_isAny 35 = .ok (.ireturn, 1) := by decide +kernel
set_option maxRecDepth 20000 in
theorem ggX5_takes_X5_isAny : GoodIn wsX5_takes wsX5_isAny := goodIn_r _ [10, 4, 3, 11, 12, 13, 9, 14, 15, 16, 17, 18, 19, 20, 21, 22, 23, 28, 29, 30, 31, 32, 33, 34, 35, 36, 37, 38, 39, 40, 41, 42, 43, 44] (by decide +kernel) (by decide +kernel)
set_option maxRecDepth 20000 in
theorem gX5_takes_X5_isAny : GoodIn wsX5_takes (wsV RX5 85 RX5 yX5_isAny wsX5_isAny) := goodIn_app (goodIn_of _ (by decide +kernel)) ggX5_takes_X5_isAny
set_option maxRecDepth 20000 in
theorem ggX5_takes_X5_filter : GoodIn wsX5_takes wsX5_filter := goodIn_r _ [27, 11, 12, 13, 9, 14, 15, 16, 17, 18, 19, 20, 21, 22, 23, 28, 29, 30, 31, 32, 33, 34, 35, 36, 37, 38, 39, 40, 41, 42, 43, 44] (by decide +kernel) (by decide +kernel)
set_option maxRecDepth 20000 in
theorem gX5_takes_X5_filter : GoodIn wsX5_takes (wsV RX5 89 RX5 yX5_filter wsX5_filter) := goodIn_app (goodIn_of _ (by decide +kernel)) ggX5_takes_X5_filter
theorem dX5_takes_0 : decode cX5_takes 0 = .ok (.aload_n 0, 1) := by decide +kernel
theorem dX5_takes_1 : decode cX5_takes 1 = .ok (.getfield 16, 3) := by decide +kernel
theorem dX5_takes_4 : decode cX5_takes 4 = .ok (.iload_n 1, 1) := by decide +kernel
theorem dX5_takes_5 : decode cX5_takes 5 = .ok (.aload_n 0, 1) := by decide +kernel
theorem dX5_takes_6 : decode cX5_takes 6 = .ok (.aload_n 0, 1) := by decide +kernel
theorem dX5_takes_7 : decode cX5_takes 7 = .ok (.getfield 13, 3) := by decide +kernel
theorem dX5_takes_10 : decode cX5_takes 10 = .ok (.iload_n 1, 1) := by decide +kernel
theorem dX5_takes_11 : decode cX5_takes 11 = .ok (.iaload, 1) := by decide +kernel
theorem dX5_takes_12 : decode cX5_takes 12 = .ok (.invokevirtual 85, 3) := by decide +kernel
theorem dX5_takes_15 : decode cX5_takes 15 = .ok (.ifCond .eq 7, 3) := by decide +kernel
theorem dX5_takes_18 : decode cX5_takes 18 = .ok (.iconst 0, 1) := by decide +kernel
theorem dX5_takes_19 : decode cX5_takes 19 = .ok (.goto 4, 3) := by decide +kernel
theorem dX5_takes_22 : decode cX5_takes 22 = .ok (.iconst 1, 1) := by decide +kernel
theorem dX5_takes_23 : decode cX5_takes 23 = .ok (.iastore, 1) := by decide +kernel
theorem dX5_takes_24 : decode cX5_takes 24 = .ok (.aload_n 0, 1) := by decide +kernel
theorem dX5_takes_25 : decode cX5_takes 25 = .ok (.getfield 16, 3) := by decide +kernel
theorem dX5_takes_28 : decode cX5_takes 28 = .ok (.iload_n 1, 1) := by decide +kernel
theorem dX5_takes_29 : decode cX5_takes 29 = .ok (.iaload, 1) := by decide +kernel
theorem dX5_takes_30 : decode cX5_takes 30 = .ok (.iconst 1, 1) := by decide +kernel
theorem dX5_takes_31 : decode cX5_takes 31 = .ok (.if_icmp .ne 4, 3) := by decide +kernel
theorem dX5_takes_34 : decode cX5_takes 34 = .ok (.return_, 1) := by decide +kernel
theorem dX5_takes_35 : decode cX5_takes 35 = .ok (.aload_n 0, 1) := by decide +kernel
theorem dX5_takes_36 : decode cX5_takes 36 = .ok (.aload_n 0, 1) := by decide +kernel
theorem dX5_takes_37 : decode cX5_takes 37 = .ok (.aload_n 0, 1) := by decide +kernel
theorem dX5_takes_38 : decode cX5_takes 38 = .ok (.getfield 26, 3) := by decide +kernel
theorem dX5_takes_41 : decode cX5_takes 41 = .ok (.aload_n 0, 1) := by decide +kernel
theorem dX5_takes_42 : decode cX5_takes 42 = .ok (.getfield 60, 3) := by decide +kernel
theorem dX5_takes_45 : decode cX5_takes 45 = .ok (.aload_n 0, 1) := by decide +kernel
theorem dX5_takes_46 : decode cX5_takes 46 = .ok (.getfield 13, 3) := by decide +kernel
theorem dX5_takes_49 : decode cX5_takes 49 = .ok (.iload_n 1, 1) := by decide +kernel
theorem dX5_takes_50 : decode cX5_takes 50 = .ok (.iaload, 1) := by decide +kernel
theorem dX5_takes_51 : decode cX5_takes 51 = .ok (.invokevirtual 89, 3) := by decide +kernel
theorem dX5_takes_54 : decode cX5_takes 54 = .ok (.putfield 60, 3) := by decide +kernel
theorem dX5_takes_57 : decode cX5_takes 57 = .ok (.aload_n 0, 1) := by decide +kernel
theorem dX5_takes_58 : decode cX5_takes 58 = .ok (.iconst 0, 1) := by decide +kernel
theorem dX5_takes_59 : decode cX5_takes 59 = .ok (.putfield 63, 3) := by decide +kernel
theorem dX5_takes_62 : decode cX5_takes 62 = .ok (.return_, 1) := by decide +kernel
set_option maxRecDepth 20000 in
theorem ggX5_goodWithout_X5_filter : GoodIn wsX5_goodWithout wsX5_filter := goodIn_r _ [10, 11, 12, 13, 9, 14, 15, 16, 17, 18, 19, 20, 21, 22, 23, 24, 25, 26, 27, 28, 29, 30, 31, 32, 33, 34, 35, 36, 37, 38, 39, 40] (by decide +kernel) (by decide +kernel)
set_option maxRecDepth 20000 in
theorem gX5_goodWithout_X5_filter : GoodIn wsX5_goodWithout (wsV RX5 89 RX5 yX5_filter wsX5_filter) := goodIn_app (goodIn_of _ (by decide +kernel)) ggX5_goodWithout_X5_filter
theorem dX5_goodWithout_0 : decode cX5_goodWithout 0 = .ok (.iconst 0, 1) := by decide +kernel
theorem dX5_goodWithout_1 : decode cX5_goodWithout 1 = .ok (.istore_n 3, 1) := by decide +kernel
theorem dX5_goodWithout_2 : decode cX5_goodWithout 2 = .ok (.iload_n 3, 1) := by decide +kernel
theorem dX5_goodWithout_3 : decode cX5_goodWithout 3 = .ok (.aload_n 0, 1) := by decide +kernel
theorem dX5_goodWithout_4 : decode cX5_goodWithout 4 = .ok (.getfield 53, 3) := by decide +kernel
theorem dX5_goodWithout_7 : decode cX5_goodWithout 7 = .ok (.if_icmp .ge 18, 3) := by decide +kernel
theorem dX5_goodWithout_10 : decode cX5_goodWithout 10 = .ok (.aload_n 1, 1) := by decide +kernel
theorem dX5_goodWithout_11 : decode cX5_goodWithout 11 = .ok (.iload_n 3, 1) := by decide +kernel
theorem dX5_goodWithout_12 : decode cX5_goodWithout 12 = .ok (.aload_n 0, 1) := by decide +kernel
theorem dX5_goodWithout_13 : decode cX5_goodWithout 13 = .ok (.getfield 23, 3) := by decide +kernel
theorem dX5_goodWithout_16 : decode cX5_goodWithout 16 = .ok (.iload_n 3, 1) := by decide +kernel
theorem dX5_goodWithout_17 : decode cX5_goodWithout 17 = .ok (.iaload, 1) := by decide +kernel
theorem dX5_goodWithout_18 : decode cX5_goodWithout 18 = .ok (.iastore, 1) := by decide +kernel
theorem dX5_goodWithout_19 : decode cX5_goodWithout 19 = .ok (.iinc 3 1, 3) := by decide +kernel
theorem dX5_goodWithout_22 : decode cX5_goodWithout 22 = .ok (.goto (-20), 3) := by decide +kernel
theorem dX5_goodWithout_25 : decode cX5_goodWithout 25 = .ok (.aload_n 0, 1) := by decide +kernel
theorem dX5_goodWithout_26 : decode cX5_goodWithout 26 = .ok (.getfield 53, 3) := by decide +kernel
theorem dX5_goodWithout_29 : decode cX5_goodWithout 29 = .ok (.istore_n 3, 1) := by decide +kernel
theorem dX5_goodWithout_30 : decode cX5_goodWithout 30 = .ok (.iconst 0, 1) := by decide +kernel
theorem dX5_goodWithout_31 : decode cX5_goodWithout 31 = .ok (.istore 4, 2) := by decide +kernel
theorem dX5_goodWithout_33 : decode cX5_goodWithout 33 = .ok (.iload 4, 2) := by decide +kernel
theorem dX5_goodWithout_35 : decode cX5_goodWithout 35 = .ok (.aload_n 0, 1) := by decide +kernel
theorem dX5_goodWithout_36 : decode cX5_goodWithout 36 = .ok (.getfield 50, 3) := by decide +kernel
theorem dX5_goodWithout_39 : decode cX5_goodWithout 39 = .ok (.if_icmp .ge 39, 3) := by decide +kernel
theorem dX5_goodWithout_42 : decode cX5_goodWithout 42 = .ok (.iload 4, 2) := by decide +kernel
theorem dX5_goodWithout_44 : decode cX5_goodWithout 44 = .ok (.iload_n 2, 1) := by decide +kernel
theorem dX5_goodWithout_45 : decode cX5_goodWithout 45 = .ok (.if_icmp .eq 27, 3) := by decide +kernel
theorem dX5_goodWithout_48 : decode cX5_goodWithout 48 = .ok (.aload_n 0, 1) := by decide +kernel
theorem dX5_goodWithout_49 : decode cX5_goodWithout 49 = .ok (.getfield 16, 3) := by decide +kernel
theorem dX5_goodWithout_52 : decode cX5_goodWithout 52 = .ok (.iload 4, 2) := by decide +kernel
theorem dX5_goodWithout_54 : decode cX5_goodWithout 54 = .ok (.iaload, 1) := by decide +kernel
theorem dX5_goodWithout_55 : decode cX5_goodWithout 55 = .ok (.ifCond .ne 17, 3) := by decide +kernel
theorem dX5_goodWithout_58 : decode cX5_goodWithout 58 = .ok (.aload_n 0, 1) := by decide +kernel
theorem dX5_goodWithout_59 : decode cX5_goodWithout 59 = .ok (.aload_n 1, 1) := by decide +kernel
theorem dX5_goodWithout_60 : decode cX5_goodWithout 60 = .ok (.iload_n 3, 1) := by decide +kernel
theorem dX5_goodWithout_61 : decode cX5_goodWithout 61 = .ok (.aload_n 0, 1) := by decide +kernel
theorem dX5_goodWithout_62 : decode cX5_goodWithout 62 = .ok (.getfield 13, 3) := by decide +kernel
theorem dX5_goodWithout_65 : decode cX5_goodWithout 65 = .ok (.iload 4, 2) := by decide +kernel
theorem dX5_goodWithout_67 : decode cX5_goodWithout 67 = .ok (.iaload, 1) := by decide +kernel
theorem dX5_goodWithout_68 : decode cX5_goodWithout 68 = .ok (.invokevirtual 89, 3) := by decide +kernel
theorem dX5_goodWithout_71 : decode cX5_goodWithout 71 = .ok (.istore_n 3, 1) := by decide +kernel
theorem dX5_goodWithout_72 : decode cX5_goodWithout 72 = .ok (.iinc 4 1, 3) := by decide +kernel
theorem dX5_goodWithout_75 : decode cX5_goodWithout 75 = .ok (.goto (-42), 3) := by decide +kernel
theorem dX5_goodWithout_78 : decode cX5_goodWithout 78 = .ok (.iload_n 3, 1) := by decide +kernel
theorem dX5_goodWithout_79 : decode cX5_goodWithout 79 = .ok (.ireturn, 1) := by decide +kernel
set_option maxRecDepth 20000 in
theorem ggX5_line_X5_isSet : GoodIn wsX5_line wsX5_isSet := goodIn_r _ [8, 9, 43, 44, 45, 46, 47, 48, 49, 50, 51, 52, 53, 54, 55, 56, 57, 58, 59] (by decide +kernel) (by decide +kernel)
set_option maxRecDepth 20000 in
theorem gX5_line_X5_isSet : GoodIn wsX5_line (wsV RX5 93 RX5 yX5_isSet wsX5_isSet) := goodIn_app (goodIn_of _ (by decide +kernel)) ggX5_line_X5_isSet
set_option maxRecDepth 20000 in
theorem ggX5_line_X5_refuse : GoodIn wsX5_line wsX5_refuse := goodIn_r _ [13, 14, 43, 44, 45, 46, 47, 48, 49, 50, 51, 52, 53, 54, 55, 56, 57, 58, 59] (by decide +kernel) (by decide +kernel)
set_option maxRecDepth 20000 in
theorem gX5_line_X5_refuse : GoodIn wsX5_line (wsV RX5 74 RX5 yX5_refuse wsX5_refuse) := goodIn_app (goodIn_of _ (by decide +kernel)) ggX5_line_X5_refuse
set_option maxRecDepth 20000 in
theorem ggX5_line_X5_takes : GoodIn wsX5_line wsX5_takes := goodIn_r _ [18, 19, 2, 20, 21, 22, 23, 24, 25, 7, 26, 27, 28, 29, 30, 31, 32, 33, 34, 9, 35, 36, 37, 38, 39, 40, 41, 42, 43, 44, 45, 46, 47, 48, 49, 50, 51, 52, 53, 54, 55, 56, 57, 58, 59] (by decide +kernel) (by decide +kernel)
set_option maxRecDepth 20000 in
theorem gX5_line_X5_takes : GoodIn wsX5_line (wsV RX5 96 RX5 yX5_takes wsX5_takes) := goodIn_app (goodIn_of _ (by decide +kernel)) ggX5_line_X5_takes
theorem dX5_line_0 : decode cX5_line 0 = .ok (.aload_n 0, 1) := by decide +kernel
theorem dX5_line_1 : decode cX5_line 1 = .ok (.iload_n 1, 1) := by decide +kernel
theorem dX5_line_2 : decode cX5_line 2 = .ok (.invokevirtual 93, 3) := by decide +kernel
theorem dX5_line_5 : decode cX5_line 5 = .ok (.ifCond .ne 10, 3) := by decide +kernel
theorem dX5_line_8 : decode cX5_line 8 = .ok (.aload_n 0, 1) := by decide +kernel
theorem dX5_line_9 : decode cX5_line 9 = .ok (.bipush (-2), 2) := by decide +kernel
theorem dX5_line_11 : decode cX5_line 11 = .ok (.invokevirtual 74, 3) := by decide +kernel
theorem dX5_line_14 : decode cX5_line 14 = .ok (.ireturn, 1) := by decide +kernel
theorem dX5_line_15 : decode cX5_line 15 = .ok (.aload_n 0, 1) := by decide +kernel
theorem dX5_line_16 : decode cX5_line 16 = .ok (.getfield 50, 3) := by decide +kernel
theorem dX5_line_19 : decode cX5_line 19 = .ok (.bipush 40, 2) := by decide +kernel
theorem dX5_line_21 : decode cX5_line 21 = .ok (.if_icmp .ne 10, 3) := by decide +kernel
theorem dX5_line_24 : decode cX5_line 24 = .ok (.aload_n 0, 1) := by decide +kernel
theorem dX5_line_25 : decode cX5_line 25 = .ok (.bipush (-6), 2) := by decide +kernel
theorem dX5_line_27 : decode cX5_line 27 = .ok (.invokevirtual 74, 3) := by decide +kernel
theorem dX5_line_30 : decode cX5_line 30 = .ok (.ireturn, 1) := by decide +kernel
theorem dX5_line_31 : decode cX5_line 31 = .ok (.aload_n 0, 1) := by decide +kernel
theorem dX5_line_32 : decode cX5_line 32 = .ok (.getfield 13, 3) := by decide +kernel
theorem dX5_line_35 : decode cX5_line 35 = .ok (.aload_n 0, 1) := by decide +kernel
theorem dX5_line_36 : decode cX5_line 36 = .ok (.getfield 50, 3) := by decide +kernel
theorem dX5_line_39 : decode cX5_line 39 = .ok (.iload_n 1, 1) := by decide +kernel
theorem dX5_line_40 : decode cX5_line 40 = .ok (.iastore, 1) := by decide +kernel
theorem dX5_line_41 : decode cX5_line 41 = .ok (.aload_n 0, 1) := by decide +kernel
theorem dX5_line_42 : decode cX5_line 42 = .ok (.getfield 19, 3) := by decide +kernel
theorem dX5_line_45 : decode cX5_line 45 = .ok (.aload_n 0, 1) := by decide +kernel
theorem dX5_line_46 : decode cX5_line 46 = .ok (.getfield 50, 3) := by decide +kernel
theorem dX5_line_49 : decode cX5_line 49 = .ok (.iconst 1, 1) := by decide +kernel
theorem dX5_line_50 : decode cX5_line 50 = .ok (.iastore, 1) := by decide +kernel
theorem dX5_line_51 : decode cX5_line 51 = .ok (.aload_n 0, 1) := by decide +kernel
theorem dX5_line_52 : decode cX5_line 52 = .ok (.dup, 1) := by decide +kernel
theorem dX5_line_53 : decode cX5_line 53 = .ok (.getfield 50, 3) := by decide +kernel
theorem dX5_line_56 : decode cX5_line 56 = .ok (.iconst 1, 1) := by decide +kernel
theorem dX5_line_57 : decode cX5_line 57 = .ok (.iadd, 1) := by decide +kernel
theorem dX5_line_58 : decode cX5_line 58 = .ok (.putfield 50, 3) := by decide +kernel
theorem dX5_line_61 : decode cX5_line 61 = .ok (.aload_n 0, 1) := by decide +kernel
theorem dX5_line_62 : decode cX5_line 62 = .ok (.aload_n 0, 1) := by decide +kernel
theorem dX5_line_63 : decode cX5_line 63 = .ok (.getfield 50, 3) := by decide +kernel
theorem dX5_line_66 : decode cX5_line 66 = .ok (.iconst 1, 1) := by decide +kernel
theorem dX5_line_67 : decode cX5_line 67 = .ok (.isub, 1) := by decide +kernel
theorem dX5_line_68 : decode cX5_line 68 = .ok (.invokevirtual 96, 3) := by decide +kernel
theorem dX5_line_71 : decode cX5_line 71 = .ok (.aload_n 0, 1) := by decide +kernel
theorem dX5_line_72 : decode cX5_line 72 = .ok (.getfield 50, 3) := by decide +kernel
theorem dX5_line_75 : decode cX5_line 75 = .ok (.iconst 1, 1) := by decide +kernel
theorem dX5_line_76 : decode cX5_line 76 = .ok (.isub, 1) := by decide +kernel
theorem dX5_line_77 : decode cX5_line 77 = .ok (.ireturn, 1) := by decide +kernel
set_option maxRecDepth 20000 in
theorem ggX5_drop_X5_isLine : GoodIn wsX5_drop wsX5_isLine := goodIn_r _ [9, 10, 11, 12, 8, 13, 43, 44, 45, 46, 47, 48, 49, 50, 51, 52, 53, 54, 55, 56, 57, 58, 59] (by decide +kernel) (by decide +kernel)
set_option maxRecDepth 20000 in
theorem gX5_drop_X5_isLine : GoodIn wsX5_drop (wsV RX5 99 RX5 yX5_isLine wsX5_isLine) := goodIn_app (goodIn_of _ (by decide +kernel)) ggX5_drop_X5_isLine
set_option maxRecDepth 20000 in
theorem ggX5_drop_X5_refuse : GoodIn wsX5_drop wsX5_refuse := goodIn_r _ [17, 18, 43, 44, 45, 46, 47, 48, 49, 50, 51, 52, 53, 54, 55, 56, 57, 58, 59] (by decide +kernel) (by decide +kernel)
set_option maxRecDepth 20000 in
theorem gX5_drop_X5_refuse : GoodIn wsX5_drop (wsV RX5 74 RX5 yX5_refuse wsX5_refuse) := goodIn_app (goodIn_of _ (by decide +kernel)) ggX5_drop_X5_refuse
set_option maxRecDepth 20000 in
theorem ggX5_drop_X5_goodWithout : GoodIn wsX5_drop wsX5_goodWithout := goodIn_r _ [22, 23, 24, 10, 1, 25, 26, 27, 28, 8, 29, 30, 31, 32, 33, 34, 35, 36, 37, 38, 39, 40, 41, 42, 43, 44, 45, 46, 47, 48, 49, 50, 51, 52, 53, 54, 55, 56, 57, 58, 59] (by decide +kernel) (by decide +kernel)
set_option maxRecDepth 20000 in
theorem gX5_drop_X5_goodWithout : GoodIn wsX5_drop (wsV RX5 102 RX5 yX5_goodWithout wsX5_goodWithout) := goodIn_app (goodIn_of _ (by decide +kernel)) ggX5_drop_X5_goodWithout
theorem dX5_drop_0 : decode cX5_drop 0 = .ok (.aload_n 0, 1) := by decide +kernel
theorem dX5_drop_1 : decode cX5_drop 1 = .ok (.iload_n 1, 1) := by decide +kernel
theorem dX5_drop_2 : decode cX5_drop 2 = .ok (.invokevirtual 99, 3) := by decide +kernel
theorem dX5_drop_5 : decode cX5_drop 5 = .ok (.ifCond .ne 9, 3) := by decide +kernel
theorem dX5_drop_8 : decode cX5_drop 8 = .ok (.aload_n 0, 1) := by decide +kernel
theorem dX5_drop_9 : decode cX5_drop 9 = .ok (.iconst (-1), 1) := by decide +kernel
theorem dX5_drop_10 : decode cX5_drop 10 = .ok (.invokevirtual 74, 3) := by decide +kernel
theorem dX5_drop_13 : decode cX5_drop 13 = .ok (.ireturn, 1) := by decide +kernel
theorem dX5_drop_14 : decode cX5_drop 14 = .ok (.aload_n 0, 1) := by decide +kernel
theorem dX5_drop_15 : decode cX5_drop 15 = .ok (.getfield 16, 3) := by decide +kernel
theorem dX5_drop_18 : decode cX5_drop 18 = .ok (.iload_n 1, 1) := by decide +kernel
theorem dX5_drop_19 : decode cX5_drop 19 = .ok (.iaload, 1) := by decide +kernel
theorem dX5_drop_20 : decode cX5_drop 20 = .ok (.iconst 2, 1) := by decide +kernel
theorem dX5_drop_21 : decode cX5_drop 21 = .ok (.if_icmp .ne 10, 3) := by decide +kernel
theorem dX5_drop_24 : decode cX5_drop 24 = .ok (.aload_n 0, 1) := by decide +kernel
theorem dX5_drop_25 : decode cX5_drop 25 = .ok (.bipush (-3), 2) := by decide +kernel
theorem dX5_drop_27 : decode cX5_drop 27 = .ok (.invokevirtual 74, 3) := by decide +kernel
theorem dX5_drop_30 : decode cX5_drop 30 = .ok (.ireturn, 1) := by decide +kernel
theorem dX5_drop_31 : decode cX5_drop 31 = .ok (.aload_n 0, 1) := by decide +kernel
theorem dX5_drop_32 : decode cX5_drop 32 = .ok (.getfield 16, 3) := by decide +kernel
theorem dX5_drop_35 : decode cX5_drop 35 = .ok (.iload_n 1, 1) := by decide +kernel
theorem dX5_drop_36 : decode cX5_drop 36 = .ok (.iaload, 1) := by decide +kernel
theorem dX5_drop_37 : decode cX5_drop 37 = .ok (.ifCond .ne 7, 3) := by decide +kernel
theorem dX5_drop_40 : decode cX5_drop 40 = .ok (.iconst 1, 1) := by decide +kernel
theorem dX5_drop_41 : decode cX5_drop 41 = .ok (.goto 4, 3) := by decide +kernel
theorem dX5_drop_44 : decode cX5_drop 44 = .ok (.iconst 0, 1) := by decide +kernel
theorem dX5_drop_45 : decode cX5_drop 45 = .ok (.istore_n 2, 1) := by decide +kernel
theorem dX5_drop_46 : decode cX5_drop 46 = .ok (.aload_n 0, 1) := by decide +kernel
theorem dX5_drop_47 : decode cX5_drop 47 = .ok (.getfield 16, 3) := by decide +kernel
theorem dX5_drop_50 : decode cX5_drop 50 = .ok (.iload_n 1, 1) := by decide +kernel
theorem dX5_drop_51 : decode cX5_drop 51 = .ok (.iconst 2, 1) := by decide +kernel
theorem dX5_drop_52 : decode cX5_drop 52 = .ok (.iastore, 1) := by decide +kernel
theorem dX5_drop_53 : decode cX5_drop 53 = .ok (.iload_n 2, 1) := by decide +kernel
theorem dX5_drop_54 : decode cX5_drop 54 = .ok (.ifCond .eq 21, 3) := by decide +kernel
theorem dX5_drop_57 : decode cX5_drop 57 = .ok (.aload_n 0, 1) := by decide +kernel
theorem dX5_drop_58 : decode cX5_drop 58 = .ok (.aload_n 0, 1) := by decide +kernel
theorem dX5_drop_59 : decode cX5_drop 59 = .ok (.aload_n 0, 1) := by decide +kernel
theorem dX5_drop_60 : decode cX5_drop 60 = .ok (.getfield 26, 3) := by decide +kernel
theorem dX5_drop_63 : decode cX5_drop 63 = .ok (.iconst (-1), 1) := by decide +kernel
theorem dX5_drop_64 : decode cX5_drop 64 = .ok (.invokevirtual 102, 3) := by decide +kernel
theorem dX5_drop_67 : decode cX5_drop 67 = .ok (.putfield 60, 3) := by decide +kernel
theorem dX5_drop_70 : decode cX5_drop 70 = .ok (.aload_n 0, 1) := by decide +kernel
theorem dX5_drop_71 : decode cX5_drop 71 = .ok (.iconst 0, 1) := by decide +kernel
theorem dX5_drop_72 : decode cX5_drop 72 = .ok (.putfield 63, 3) := by decide +kernel
theorem dX5_drop_75 : decode cX5_drop 75 = .ok (.iconst 1, 1) := by decide +kernel
theorem dX5_drop_76 : decode cX5_drop 76 = .ok (.ireturn, 1) := by decide +kernel
set_option maxRecDepth 20000 in
theorem ggX5_again_X5_isLine : GoodIn wsX5_again wsX5_isLine := goodIn_r _ [6, 7, 8, 9, 5, 10, 45, 46, 47, 48, 49, 50, 51, 52, 53, 54, 55, 56, 57, 58, 59, 60, 61] (by decide +kernel) (by decide +kernel)
set_option maxRecDepth 20000 in
theorem gX5_again_X5_isLine : GoodIn wsX5_again (wsV RX5 99 RX5 yX5_isLine wsX5_isLine) := goodIn_app (goodIn_of _ (by decide +kernel)) ggX5_again_X5_isLine
set_option maxRecDepth 20000 in
theorem ggX5_again_X5_refuse : GoodIn wsX5_again wsX5_refuse := goodIn_r _ [14, 15, 45, 46, 47, 48, 49, 50, 51, 52, 53, 54, 55, 56, 57, 58, 59, 60, 61] (by decide +kernel) (by decide +kernel)
set_option maxRecDepth 20000 in
theorem gX5_again_X5_refuse : GoodIn wsX5_again (wsV RX5 74 RX5 yX5_refuse wsX5_refuse) := goodIn_app (goodIn_of _ (by decide +kernel)) ggX5_again_X5_refuse
set_option maxRecDepth 20000 in
theorem ggX5_again_X5_takes : GoodIn wsX5_again wsX5_takes := goodIn_r _ [19, 1, 20, 21, 22, 23, 24, 25, 26, 5, 27, 28, 29, 30, 31, 32, 33, 34, 35, 36, 37, 38, 39, 40, 41, 42, 43, 44, 45, 46, 47, 48, 49, 50, 51, 52, 53, 54, 55, 56, 57, 58, 59, 60, 61] (by decide +kernel) (by decide +kernel)
set_option maxRecDepth 20000 in
theorem gX5_again_X5_takes : GoodIn wsX5_again (wsV RX5 96 RX5 yX5_takes wsX5_takes) := goodIn_app (goodIn_of _ (by decide +kernel)) ggX5_again_X5_takes
theorem dX5_again_0 : decode cX5_again 0 = .ok (.aload_n 0, 1) := by decide +kernel
theorem dX5_again_1 : decode cX5_again 1 = .ok (.iload_n 1, 1) := by decide +kernel
theorem dX5_again_2 : decode cX5_again 2 = .ok (.invokevirtual 99, 3) := by decide +kernel
theorem dX5_again_5 : decode cX5_again 5 = .ok (.ifCond .ne 9, 3) := by decide +kernel
theorem dX5_again_8 : decode cX5_again 8 = .ok (.aload_n 0, 1) := by decide +kernel
theorem dX5_again_9 : decode cX5_again 9 = .ok (.iconst (-1), 1) := by decide +kernel
theorem dX5_again_10 : decode cX5_again 10 = .ok (.invokevirtual 74, 3) := by decide +kernel
theorem dX5_again_13 : decode cX5_again 13 = .ok (.ireturn, 1) := by decide +kernel
theorem dX5_again_14 : decode cX5_again 14 = .ok (.aload_n 0, 1) := by decide +kernel
theorem dX5_again_15 : decode cX5_again 15 = .ok (.getfield 16, 3) := by decide +kernel
theorem dX5_again_18 : decode cX5_again 18 = .ok (.iload_n 1, 1) := by decide +kernel
theorem dX5_again_19 : decode cX5_again 19 = .ok (.iaload, 1) := by decide +kernel
theorem dX5_again_20 : decode cX5_again 20 = .ok (.ifCond .ne 10, 3) := by decide +kernel
theorem dX5_again_23 : decode cX5_again 23 = .ok (.aload_n 0, 1) := by decide +kernel
theorem dX5_again_24 : decode cX5_again 24 = .ok (.bipush (-3), 2) := by decide +kernel
theorem dX5_again_26 : decode cX5_again 26 = .ok (.invokevirtual 74, 3) := by decide +kernel
theorem dX5_again_29 : decode cX5_again 29 = .ok (.ireturn, 1) := by decide +kernel
theorem dX5_again_30 : decode cX5_again 30 = .ok (.aload_n 0, 1) := by decide +kernel
theorem dX5_again_31 : decode cX5_again 31 = .ok (.iload_n 1, 1) := by decide +kernel
theorem dX5_again_32 : decode cX5_again 32 = .ok (.invokevirtual 96, 3) := by decide +kernel
theorem dX5_again_35 : decode cX5_again 35 = .ok (.aload_n 0, 1) := by decide +kernel
theorem dX5_again_36 : decode cX5_again 36 = .ok (.getfield 16, 3) := by decide +kernel
theorem dX5_again_39 : decode cX5_again 39 = .ok (.iload_n 1, 1) := by decide +kernel
theorem dX5_again_40 : decode cX5_again 40 = .ok (.iaload, 1) := by decide +kernel
theorem dX5_again_41 : decode cX5_again 41 = .ok (.ifCond .ne 7, 3) := by decide +kernel
theorem dX5_again_44 : decode cX5_again 44 = .ok (.iconst 1, 1) := by decide +kernel
theorem dX5_again_45 : decode cX5_again 45 = .ok (.goto 4, 3) := by decide +kernel
theorem dX5_again_48 : decode cX5_again 48 = .ok (.iconst 0, 1) := by decide +kernel
theorem dX5_again_49 : decode cX5_again 49 = .ok (.ireturn, 1) := by decide +kernel
set_option maxRecDepth 20000 in
theorem ggX5_weight_X5_isLine : GoodIn wsX5_weight wsX5_isLine := goodIn_r _ [6, 7, 8, 9, 5, 10, 16, 17, 18, 19, 20, 21, 22, 23, 24, 25, 26, 27, 28, 29, 30, 31, 32] (by decide +kernel) (by decide +kernel)
set_option maxRecDepth 20000 in
theorem gX5_weight_X5_isLine : GoodIn wsX5_weight (wsV RX5 99 RX5 yX5_isLine wsX5_isLine) := goodIn_app (goodIn_of _ (by decide +kernel)) ggX5_weight_X5_isLine
set_option maxRecDepth 20000 in
theorem ggX5_weight_X5_refuse : GoodIn wsX5_weight wsX5_refuse := goodIn_r _ [14, 15, 16, 17, 18, 19, 20, 21, 22, 23, 24, 25, 26, 27, 28, 29, 30, 31, 32] (by decide +kernel) (by decide +kernel)
set_option maxRecDepth 20000 in
theorem gX5_weight_X5_refuse : GoodIn wsX5_weight (wsV RX5 74 RX5 yX5_refuse wsX5_refuse) := goodIn_app (goodIn_of _ (by decide +kernel)) ggX5_weight_X5_refuse
theorem dX5_weight_0 : decode cX5_weight 0 = .ok (.aload_n 0, 1) := by decide +kernel
theorem dX5_weight_1 : decode cX5_weight 1 = .ok (.iload_n 1, 1) := by decide +kernel
theorem dX5_weight_2 : decode cX5_weight 2 = .ok (.invokevirtual 99, 3) := by decide +kernel
theorem dX5_weight_5 : decode cX5_weight 5 = .ok (.ifCond .ne 9, 3) := by decide +kernel
theorem dX5_weight_8 : decode cX5_weight 8 = .ok (.aload_n 0, 1) := by decide +kernel
theorem dX5_weight_9 : decode cX5_weight 9 = .ok (.iconst (-1), 1) := by decide +kernel
theorem dX5_weight_10 : decode cX5_weight 10 = .ok (.invokevirtual 74, 3) := by decide +kernel
theorem dX5_weight_13 : decode cX5_weight 13 = .ok (.ireturn, 1) := by decide +kernel
theorem dX5_weight_14 : decode cX5_weight 14 = .ok (.iload_n 2, 1) := by decide +kernel
theorem dX5_weight_15 : decode cX5_weight 15 = .ok (.ifCond .ge 10, 3) := by decide +kernel
theorem dX5_weight_18 : decode cX5_weight 18 = .ok (.aload_n 0, 1) := by decide +kernel
theorem dX5_weight_19 : decode cX5_weight 19 = .ok (.bipush (-4), 2) := by decide +kernel
theorem dX5_weight_21 : decode cX5_weight 21 = .ok (.invokevirtual 74, 3) := by decide +kernel
theorem dX5_weight_24 : decode cX5_weight 24 = .ok (.ireturn, 1) := by decide +kernel
theorem dX5_weight_25 : decode cX5_weight 25 = .ok (.iload_n 2, 1) := by decide +kernel
theorem dX5_weight_26 : decode cX5_weight 26 = .ok (.bipush 100, 2) := by decide +kernel
theorem dX5_weight_28 : decode cX5_weight 28 = .ok (.if_icmp .le 10, 3) := by decide +kernel
theorem dX5_weight_31 : decode cX5_weight 31 = .ok (.aload_n 0, 1) := by decide +kernel
theorem dX5_weight_32 : decode cX5_weight 32 = .ok (.bipush (-6), 2) := by decide +kernel
theorem dX5_weight_34 : decode cX5_weight 34 = .ok (.invokevirtual 74, 3) := by decide +kernel
theorem dX5_weight_37 : decode cX5_weight 37 = .ok (.ireturn, 1) := by decide +kernel
theorem dX5_weight_38 : decode cX5_weight 38 = .ok (.aload_n 0, 1) := by decide +kernel
theorem dX5_weight_39 : decode cX5_weight 39 = .ok (.getfield 19, 3) := by decide +kernel
theorem dX5_weight_42 : decode cX5_weight 42 = .ok (.iload_n 1, 1) := by decide +kernel
theorem dX5_weight_43 : decode cX5_weight 43 = .ok (.iaload, 1) := by decide +kernel
theorem dX5_weight_44 : decode cX5_weight 44 = .ok (.istore_n 3, 1) := by decide +kernel
theorem dX5_weight_45 : decode cX5_weight 45 = .ok (.aload_n 0, 1) := by decide +kernel
theorem dX5_weight_46 : decode cX5_weight 46 = .ok (.getfield 19, 3) := by decide +kernel
theorem dX5_weight_49 : decode cX5_weight 49 = .ok (.iload_n 1, 1) := by decide +kernel
theorem dX5_weight_50 : decode cX5_weight 50 = .ok (.iload_n 2, 1) := by decide +kernel
theorem dX5_weight_51 : decode cX5_weight 51 = .ok (.iastore, 1) := by decide +kernel
theorem dX5_weight_52 : decode cX5_weight 52 = .ok (.iload_n 3, 1) := by decide +kernel
theorem dX5_weight_53 : decode cX5_weight 53 = .ok (.ireturn, 1) := by decide +kernel
theorem dX5_bits_0 : decode cX5_bits 0 = .ok (.iconst 0, 1) := by decide +kernel
theorem dX5_bits_1 : decode cX5_bits 1 = .ok (.istore_n 1, 1) := by decide +kernel
theorem dX5_bits_2 : decode cX5_bits 2 = .ok (.iload_n 0, 1) := by decide +kernel
theorem dX5_bits_3 : decode cX5_bits 3 = .ok (.istore_n 2, 1) := by decide +kernel
theorem dX5_bits_4 : decode cX5_bits 4 = .ok (.iload_n 2, 1) := by decide +kernel
theorem dX5_bits_5 : decode cX5_bits 5 = .ok (.ifCond .eq 15, 3) := by decide +kernel
theorem dX5_bits_8 : decode cX5_bits 8 = .ok (.iinc 1 1, 3) := by decide +kernel
theorem dX5_bits_11 : decode cX5_bits 11 = .ok (.iload_n 2, 1) := by decide +kernel
theorem dX5_bits_12 : decode cX5_bits 12 = .ok (.iload_n 2, 1) := by decide +kernel
theorem dX5_bits_13 : decode cX5_bits 13 = .ok (.iconst 1, 1) := by decide +kernel
theorem dX5_bits_14 : decode cX5_bits 14 = .ok (.isub, 1) := by decide +kernel
theorem dX5_bits_15 : decode cX5_bits 15 = .ok (.iand, 1) := by decide +kernel
theorem dX5_bits_16 : decode cX5_bits 16 = .ok (.istore_n 2, 1) := by decide +kernel
theorem dX5_bits_17 : decode cX5_bits 17 = .ok (.goto (-13), 3) := by decide +kernel
theorem dX5_bits_20 : decode cX5_bits 20 = .ok (.iload_n 1, 1) := by decide +kernel
theorem dX5_bits_21 : decode cX5_bits 21 = .ok (.ireturn, 1) := by decide +kernel
set_option maxRecDepth 20000 in
theorem ggX5_lineOf_X5_isLine : GoodIn wsX5_lineOf wsX5_isLine := goodIn_r _ [8, 9, 10, 11, 7, 12, 21, 22, 23, 24, 25, 26, 27, 28, 29, 30, 31, 32, 33, 34, 35, 36, 37] (by decide +kernel) (by decide +kernel)
set_option maxRecDepth 20000 in
theorem gX5_lineOf_X5_isLine : GoodIn wsX5_lineOf (wsV RX5 99 RX5 yX5_isLine wsX5_isLine) := goodIn_app (goodIn_of _ (by decide +kernel)) ggX5_lineOf_X5_isLine
set_option maxRecDepth 20000 in
theorem ggX5_lineOf_X5_refuse : GoodIn wsX5_lineOf wsX5_refuse := goodIn_r _ [16, 17, 21, 22, 23, 24, 25, 26, 27, 28, 29, 30, 31, 32, 33, 34, 35, 36, 37] (by decide +kernel) (by decide +kernel)
set_option maxRecDepth 20000 in
theorem gX5_lineOf_X5_refuse : GoodIn wsX5_lineOf (wsV RX5 74 RX5 yX5_refuse wsX5_refuse) := goodIn_app (goodIn_of _ (by decide +kernel)) ggX5_lineOf_X5_refuse
set_option maxRecDepth 20000 in
theorem ggX5_lineOf_X5_bits : GoodIn wsX5_lineOf wsX5_bits := goodIn_r _ [20] (by decide +kernel) (by decide +kernel)
set_option maxRecDepth 20000 in
theorem gX5_lineOf_X5_bits : GoodIn wsX5_lineOf (va_wsS RX5 106 yX5_bits wsX5_bits) := goodIn_app (goodIn_of _ (by decide +kernel)) ggX5_lineOf_X5_bits
theorem dX5_lineOf_0 : decode cX5_lineOf 0 = .ok (.aload_n 0, 1) := by decide +kernel
theorem dX5_lineOf_1 : decode cX5_lineOf 1 = .ok (.iload_n 1, 1) := by decide +kernel
theorem dX5_lineOf_2 : decode cX5_lineOf 2 = .ok (.invokevirtual 99, 3) := by decide +kernel
theorem dX5_lineOf_5 : decode cX5_lineOf 5 = .ok (.ifCond .ne 9, 3) := by decide +kernel
theorem dX5_lineOf_8 : decode cX5_lineOf 8 = .ok (.aload_n 0, 1) := by decide +kernel
theorem dX5_lineOf_9 : decode cX5_lineOf 9 = .ok (.iconst (-1), 1) := by decide +kernel
theorem dX5_lineOf_10 : decode cX5_lineOf 10 = .ok (.invokevirtual 74, 3) := by decide +kernel
theorem dX5_lineOf_13 : decode cX5_lineOf 13 = .ok (.ireturn, 1) := by decide +kernel
theorem dX5_lineOf_14 : decode cX5_lineOf 14 = .ok (.iload_n 2, 1) := by decide +kernel
theorem dX5_lineOf_15 : decode cX5_lineOf 15 = .ok (.tableswitch 60 0 3 #[29, 36, 43, 50], 29) := by decide +kernel
theorem dX5_lineOf_44 : decode cX5_lineOf 44 = .ok (.aload_n 0, 1) := by decide +kernel
theorem dX5_lineOf_45 : decode cX5_lineOf 45 = .ok (.getfield 13, 3) := by decide +kernel
theorem dX5_lineOf_48 : decode cX5_lineOf 48 = .ok (.iload_n 1, 1) := by decide +kernel
theorem dX5_lineOf_49 : decode cX5_lineOf 49 = .ok (.iaload, 1) := by decide +kernel
theorem dX5_lineOf_50 : decode cX5_lineOf 50 = .ok (.ireturn, 1) := by decide +kernel
theorem dX5_lineOf_51 : decode cX5_lineOf 51 = .ok (.aload_n 0, 1) := by decide +kernel
theorem dX5_lineOf_52 : decode cX5_lineOf 52 = .ok (.getfield 16, 3) := by decide +kernel
theorem dX5_lineOf_55 : decode cX5_lineOf 55 = .ok (.iload_n 1, 1) := by decide +kernel
theorem dX5_lineOf_56 : decode cX5_lineOf 56 = .ok (.iaload, 1) := by decide +kernel
theorem dX5_lineOf_57 : decode cX5_lineOf 57 = .ok (.ireturn, 1) := by decide +kernel
theorem dX5_lineOf_58 : decode cX5_lineOf 58 = .ok (.aload_n 0, 1) := by decide +kernel
theorem dX5_lineOf_59 : decode cX5_lineOf 59 = .ok (.getfield 19, 3) := by decide +kernel
theorem dX5_lineOf_62 : decode cX5_lineOf 62 = .ok (.iload_n 1, 1) := by decide +kernel
theorem dX5_lineOf_63 : decode cX5_lineOf 63 = .ok (.iaload, 1) := by decide +kernel
theorem dX5_lineOf_64 : decode cX5_lineOf 64 = .ok (.ireturn, 1) := by decide +kernel
theorem dX5_lineOf_65 : decode cX5_lineOf 65 = .ok (.aload_n 0, 1) := by decide +kernel
theorem dX5_lineOf_66 : decode cX5_lineOf 66 = .ok (.getfield 13, 3) := by decide +kernel
theorem dX5_lineOf_69 : decode cX5_lineOf 69 = .ok (.iload_n 1, 1) := by decide +kernel
theorem dX5_lineOf_70 : decode cX5_lineOf 70 = .ok (.iaload, 1) := by decide +kernel
theorem dX5_lineOf_71 : decode cX5_lineOf 71 = .ok (.invokestatic 106, 3) := by decide +kernel
theorem dX5_lineOf_74 : decode cX5_lineOf 74 = .ok (.ireturn, 1) := by decide +kernel
theorem dX5_lineOf_75 : decode cX5_lineOf 75 = .ok (.aload_n 0, 1) := by decide +kernel
theorem dX5_lineOf_76 : decode cX5_lineOf 76 = .ok (.bipush (-2), 2) := by decide +kernel
theorem dX5_lineOf_78 : decode cX5_lineOf 78 = .ok (.invokevirtual 74, 3) := by decide +kernel
theorem dX5_lineOf_81 : decode cX5_lineOf 81 = .ok (.ireturn, 1) := by decide +kernel
set_option maxRecDepth 20000 in
theorem ggX5_why_X5_isLine : GoodIn wsX5_why wsX5_isLine := goodIn_r _ [11, 6, 12, 13, 10, 14, 37, 38, 39, 40, 41, 42, 43, 44, 45, 46, 47, 48, 49, 50, 51, 52, 53] (by decide +kernel) (by decide +kernel)
set_option maxRecDepth 20000 in
theorem gX5_why_X5_isLine : GoodIn wsX5_why (wsV RX5 99 RX5 yX5_isLine wsX5_isLine) := goodIn_app (goodIn_of _ (by decide +kernel)) ggX5_why_X5_isLine
set_option maxRecDepth 20000 in
theorem ggX5_why_X5_refuse : GoodIn wsX5_why wsX5_refuse := goodIn_r _ [18, 19, 37, 38, 39, 40, 41, 42, 43, 44, 45, 46, 47, 48, 49, 50, 51, 52, 53] (by decide +kernel) (by decide +kernel)
set_option maxRecDepth 20000 in
theorem gX5_why_X5_refuse : GoodIn wsX5_why (wsV RX5 74 RX5 yX5_refuse wsX5_refuse) := goodIn_app (goodIn_of _ (by decide +kernel)) ggX5_why_X5_refuse
set_option maxRecDepth 20000 in
theorem ggX5_why_X5_filter : GoodIn wsX5_why wsX5_filter := goodIn_r _ [23, 24, 25, 26, 10, 27, 28, 29, 30, 31, 32, 33, 34, 35, 36, 37, 38, 39, 40, 41, 42, 43, 44, 45, 46, 47, 48, 49, 50, 51, 52, 53] (by decide +kernel) (by decide +kernel)
set_option maxRecDepth 20000 in
theorem gX5_why_X5_filter : GoodIn wsX5_why (wsV RX5 89 RX5 yX5_filter wsX5_filter) := goodIn_app (goodIn_of _ (by decide +kernel)) ggX5_why_X5_filter
theorem dX5_why_0 : decode cX5_why 0 = .ok (.aload_n 0, 1) := by decide +kernel
theorem dX5_why_1 : decode cX5_why 1 = .ok (.iload_n 1, 1) := by decide +kernel
theorem dX5_why_2 : decode cX5_why 2 = .ok (.invokevirtual 99, 3) := by decide +kernel
theorem dX5_why_5 : decode cX5_why 5 = .ok (.ifCond .ne 9, 3) := by decide +kernel
theorem dX5_why_8 : decode cX5_why 8 = .ok (.aload_n 0, 1) := by decide +kernel
theorem dX5_why_9 : decode cX5_why 9 = .ok (.iconst (-1), 1) := by decide +kernel
theorem dX5_why_10 : decode cX5_why 10 = .ok (.invokevirtual 74, 3) := by decide +kernel
theorem dX5_why_13 : decode cX5_why 13 = .ok (.ireturn, 1) := by decide +kernel
theorem dX5_why_14 : decode cX5_why 14 = .ok (.aload_n 0, 1) := by decide +kernel
theorem dX5_why_15 : decode cX5_why 15 = .ok (.getfield 16, 3) := by decide +kernel
theorem dX5_why_18 : decode cX5_why 18 = .ok (.iload_n 1, 1) := by decide +kernel
theorem dX5_why_19 : decode cX5_why 19 = .ok (.iaload, 1) := by decide +kernel
theorem dX5_why_20 : decode cX5_why 20 = .ok (.iconst 1, 1) := by decide +kernel
theorem dX5_why_21 : decode cX5_why 21 = .ok (.if_icmp .eq 10, 3) := by decide +kernel
theorem dX5_why_24 : decode cX5_why 24 = .ok (.aload_n 0, 1) := by decide +kernel
theorem dX5_why_25 : decode cX5_why 25 = .ok (.bipush (-3), 2) := by decide +kernel
theorem dX5_why_27 : decode cX5_why 27 = .ok (.invokevirtual 74, 3) := by decide +kernel
theorem dX5_why_30 : decode cX5_why 30 = .ok (.ireturn, 1) := by decide +kernel
theorem dX5_why_31 : decode cX5_why 31 = .ok (.iconst 0, 1) := by decide +kernel
theorem dX5_why_32 : decode cX5_why 32 = .ok (.istore_n 2, 1) := by decide +kernel
theorem dX5_why_33 : decode cX5_why 33 = .ok (.iload_n 2, 1) := by decide +kernel
theorem dX5_why_34 : decode cX5_why 34 = .ok (.aload_n 0, 1) := by decide +kernel
theorem dX5_why_35 : decode cX5_why 35 = .ok (.getfield 53, 3) := by decide +kernel
theorem dX5_why_38 : decode cX5_why 38 = .ok (.if_icmp .ge 21, 3) := by decide +kernel
theorem dX5_why_41 : decode cX5_why 41 = .ok (.aload_n 0, 1) := by decide +kernel
theorem dX5_why_42 : decode cX5_why 42 = .ok (.getfield 29, 3) := by decide +kernel
theorem dX5_why_45 : decode cX5_why 45 = .ok (.iload_n 2, 1) := by decide +kernel
theorem dX5_why_46 : decode cX5_why 46 = .ok (.aload_n 0, 1) := by decide +kernel
theorem dX5_why_47 : decode cX5_why 47 = .ok (.getfield 23, 3) := by decide +kernel
theorem dX5_why_50 : decode cX5_why 50 = .ok (.iload_n 2, 1) := by decide +kernel
theorem dX5_why_51 : decode cX5_why 51 = .ok (.iaload, 1) := by decide +kernel
theorem dX5_why_52 : decode cX5_why 52 = .ok (.iastore, 1) := by decide +kernel
theorem dX5_why_53 : decode cX5_why 53 = .ok (.iinc 2 1, 3) := by decide +kernel
theorem dX5_why_56 : decode cX5_why 56 = .ok (.goto (-23), 3) := by decide +kernel
theorem dX5_why_59 : decode cX5_why 59 = .ok (.aload_n 0, 1) := by decide +kernel
theorem dX5_why_60 : decode cX5_why 60 = .ok (.aload_n 0, 1) := by decide +kernel
theorem dX5_why_61 : decode cX5_why 61 = .ok (.getfield 29, 3) := by decide +kernel
theorem dX5_why_64 : decode cX5_why 64 = .ok (.aload_n 0, 1) := by decide +kernel
theorem dX5_why_65 : decode cX5_why 65 = .ok (.getfield 53, 3) := by decide +kernel
theorem dX5_why_68 : decode cX5_why 68 = .ok (.aload_n 0, 1) := by decide +kernel
theorem dX5_why_69 : decode cX5_why 69 = .ok (.getfield 13, 3) := by decide +kernel
theorem dX5_why_72 : decode cX5_why 72 = .ok (.iload_n 1, 1) := by decide +kernel
theorem dX5_why_73 : decode cX5_why 73 = .ok (.iaload, 1) := by decide +kernel
theorem dX5_why_74 : decode cX5_why 74 = .ok (.invokevirtual 89, 3) := by decide +kernel
theorem dX5_why_77 : decode cX5_why 77 = .ok (.istore_n 2, 1) := by decide +kernel
theorem dX5_why_78 : decode cX5_why 78 = .ok (.iconst 0, 1) := by decide +kernel
theorem dX5_why_79 : decode cX5_why 79 = .ok (.istore_n 3, 1) := by decide +kernel
theorem dX5_why_80 : decode cX5_why 80 = .ok (.iload_n 3, 1) := by decide +kernel
theorem dX5_why_81 : decode cX5_why 81 = .ok (.aload_n 0, 1) := by decide +kernel
theorem dX5_why_82 : decode cX5_why 82 = .ok (.getfield 50, 3) := by decide +kernel
theorem dX5_why_85 : decode cX5_why 85 = .ok (.if_icmp .ge 43, 3) := by decide +kernel
theorem dX5_why_88 : decode cX5_why 88 = .ok (.aload_n 0, 1) := by decide +kernel
theorem dX5_why_89 : decode cX5_why 89 = .ok (.getfield 16, 3) := by decide +kernel
theorem dX5_why_92 : decode cX5_why 92 = .ok (.iload_n 3, 1) := by decide +kernel
theorem dX5_why_93 : decode cX5_why 93 = .ok (.iaload, 1) := by decide +kernel
theorem dX5_why_94 : decode cX5_why 94 = .ok (.ifCond .eq 6, 3) := by decide +kernel
theorem dX5_why_97 : decode cX5_why 97 = .ok (.goto 25, 3) := by decide +kernel
theorem dX5_why_100 : decode cX5_why 100 = .ok (.aload_n 0, 1) := by decide +kernel
theorem dX5_why_101 : decode cX5_why 101 = .ok (.aload_n 0, 1) := by decide +kernel
theorem dX5_why_102 : decode cX5_why 102 = .ok (.getfield 29, 3) := by decide +kernel
theorem dX5_why_105 : decode cX5_why 105 = .ok (.iload_n 2, 1) := by decide +kernel
theorem dX5_why_106 : decode cX5_why 106 = .ok (.aload_n 0, 1) := by decide +kernel
theorem dX5_why_107 : decode cX5_why 107 = .ok (.getfield 13, 3) := by decide +kernel
theorem dX5_why_110 : decode cX5_why 110 = .ok (.iload_n 3, 1) := by decide +kernel
theorem dX5_why_111 : decode cX5_why 111 = .ok (.iaload, 1) := by decide +kernel
theorem dX5_why_112 : decode cX5_why 112 = .ok (.invokevirtual 89, 3) := by decide +kernel
theorem dX5_why_115 : decode cX5_why 115 = .ok (.istore_n 2, 1) := by decide +kernel
theorem dX5_why_116 : decode cX5_why 116 = .ok (.iload_n 2, 1) := by decide +kernel
theorem dX5_why_117 : decode cX5_why 117 = .ok (.ifCond .ne 5, 3) := by decide +kernel
theorem dX5_why_120 : decode cX5_why 120 = .ok (.iload_n 3, 1) := by decide +kernel
theorem dX5_why_121 : decode cX5_why 121 = .ok (.ireturn, 1) := by decide +kernel
theorem dX5_why_122 : decode cX5_why 122 = .ok (.iinc 3 1, 3) := by decide +kernel
theorem dX5_why_125 : decode cX5_why 125 = .ok (.goto (-45), 3) := by decide +kernel
theorem dX5_why_128 : decode cX5_why 128 = .ok (.bipush (-9), 2) := by decide +kernel
theorem dX5_why_130 : decode cX5_why 130 = .ok (.ireturn, 1) := by decide +kernel
theorem dX5_rows_0 : decode cX5_rows 0 = .ok (.aload_n 0, 1) := by decide +kernel
theorem dX5_rows_1 : decode cX5_rows 1 = .ok (.getfield 60, 3) := by decide +kernel
theorem dX5_rows_4 : decode cX5_rows 4 = .ok (.ireturn, 1) := by decide +kernel
set_option maxRecDepth 20000 in
theorem ggX5_row_X5_isIn : GoodIn wsX5_row wsX5_isIn := goodIn_r _ [7] (by decide +kernel) (by decide +kernel)
set_option maxRecDepth 20000 in
theorem gX5_row_X5_isIn : GoodIn wsX5_row (va_wsS RX5 78 yX5_isIn wsX5_isIn) := goodIn_app (goodIn_of _ (by decide +kernel)) ggX5_row_X5_isIn
set_option maxRecDepth 20000 in
theorem ggX5_row_X5_refuse : GoodIn wsX5_row wsX5_refuse := goodIn_r _ [11, 12, 17, 18, 19, 20, 21, 22, 23, 24, 25, 26, 27, 28, 29, 30, 31, 32, 33] (by decide +kernel) (by decide +kernel)
set_option maxRecDepth 20000 in
theorem gX5_row_X5_refuse : GoodIn wsX5_row (wsV RX5 74 RX5 yX5_refuse wsX5_refuse) := goodIn_app (goodIn_of _ (by decide +kernel)) ggX5_row_X5_refuse
set_option maxRecDepth 20000 in
theorem ggX5_row_X5_columnAt : GoodIn wsX5_row wsX5_columnAt := goodIn_r _ [16, 2, 17, 18, 19, 20, 21, 22, 23, 24, 25, 26, 27, 28, 29, 30, 31, 32, 33] (by decide +kernel) (by decide +kernel)
set_option maxRecDepth 20000 in
theorem gX5_row_X5_columnAt : GoodIn wsX5_row (wsV RX5 67 RX5 yX5_columnAt wsX5_columnAt) := goodIn_app (goodIn_of _ (by decide +kernel)) ggX5_row_X5_columnAt
theorem dX5_row_0 : decode cX5_row 0 = .ok (.iload_n 1, 1) := by decide +kernel
theorem dX5_row_1 : decode cX5_row 1 = .ok (.aload_n 0, 1) := by decide +kernel
theorem dX5_row_2 : decode cX5_row 2 = .ok (.getfield 60, 3) := by decide +kernel
theorem dX5_row_5 : decode cX5_row 5 = .ok (.invokestatic 78, 3) := by decide +kernel
theorem dX5_row_8 : decode cX5_row 8 = .ok (.ifCond .ne 9, 3) := by decide +kernel
theorem dX5_row_11 : decode cX5_row 11 = .ok (.aload_n 0, 1) := by decide +kernel
theorem dX5_row_12 : decode cX5_row 12 = .ok (.iconst (-1), 1) := by decide +kernel
theorem dX5_row_13 : decode cX5_row 13 = .ok (.invokevirtual 74, 3) := by decide +kernel
theorem dX5_row_16 : decode cX5_row 16 = .ok (.ireturn, 1) := by decide +kernel
theorem dX5_row_17 : decode cX5_row 17 = .ok (.iload_n 2, 1) := by decide +kernel
theorem dX5_row_18 : decode cX5_row 18 = .ok (.ifCond .ge 10, 3) := by decide +kernel
theorem dX5_row_21 : decode cX5_row 21 = .ok (.aload_n 0, 1) := by decide +kernel
theorem dX5_row_22 : decode cX5_row 22 = .ok (.bipush (-4), 2) := by decide +kernel
theorem dX5_row_24 : decode cX5_row 24 = .ok (.invokevirtual 74, 3) := by decide +kernel
theorem dX5_row_27 : decode cX5_row 27 = .ok (.ireturn, 1) := by decide +kernel
theorem dX5_row_28 : decode cX5_row 28 = .ok (.iload_n 2, 1) := by decide +kernel
theorem dX5_row_29 : decode cX5_row 29 = .ok (.aload_n 0, 1) := by decide +kernel
theorem dX5_row_30 : decode cX5_row 30 = .ok (.getfield 46, 3) := by decide +kernel
theorem dX5_row_33 : decode cX5_row 33 = .ok (.if_icmp .lt 12, 3) := by decide +kernel
theorem dX5_row_36 : decode cX5_row 36 = .ok (.aload_n 0, 1) := by decide +kernel
theorem dX5_row_37 : decode cX5_row 37 = .ok (.bipush (-6), 2) := by decide +kernel
theorem dX5_row_39 : decode cX5_row 39 = .ok (.invokevirtual 74, 3) := by decide +kernel
theorem dX5_row_42 : decode cX5_row 42 = .ok (.goto 14, 3) := by decide +kernel
theorem dX5_row_45 : decode cX5_row 45 = .ok (.aload_n 0, 1) := by decide +kernel
theorem dX5_row_46 : decode cX5_row 46 = .ok (.aload_n 0, 1) := by decide +kernel
theorem dX5_row_47 : decode cX5_row 47 = .ok (.getfield 26, 3) := by decide +kernel
theorem dX5_row_50 : decode cX5_row 50 = .ok (.iload_n 1, 1) := by decide +kernel
theorem dX5_row_51 : decode cX5_row 51 = .ok (.iaload, 1) := by decide +kernel
theorem dX5_row_52 : decode cX5_row 52 = .ok (.iload_n 2, 1) := by decide +kernel
theorem dX5_row_53 : decode cX5_row 53 = .ok (.invokevirtual 67, 3) := by decide +kernel
theorem dX5_row_56 : decode cX5_row 56 = .ok (.ireturn, 1) := by decide +kernel
theorem dX5_rank_0 : decode cX5_rank 0 = .ok (.iconst 0, 1) := by decide +kernel
theorem dX5_rank_1 : decode cX5_rank 1 = .ok (.istore_n 2, 1) := by decide +kernel
theorem dX5_rank_2 : decode cX5_rank 2 = .ok (.iload_n 2, 1) := by decide +kernel
theorem dX5_rank_3 : decode cX5_rank 3 = .ok (.aload_n 0, 1) := by decide +kernel
theorem dX5_rank_4 : decode cX5_rank 4 = .ok (.getfield 60, 3) := by decide +kernel
theorem dX5_rank_7 : decode cX5_rank 7 = .ok (.if_icmp .ge 21, 3) := by decide +kernel
theorem dX5_rank_10 : decode cX5_rank 10 = .ok (.aload_n 0, 1) := by decide +kernel
theorem dX5_rank_11 : decode cX5_rank 11 = .ok (.getfield 26, 3) := by decide +kernel
theorem dX5_rank_14 : decode cX5_rank 14 = .ok (.iload_n 2, 1) := by decide +kernel
theorem dX5_rank_15 : decode cX5_rank 15 = .ok (.iaload, 1) := by decide +kernel
theorem dX5_rank_16 : decode cX5_rank 16 = .ok (.iload_n 1, 1) := by decide +kernel
theorem dX5_rank_17 : decode cX5_rank 17 = .ok (.if_icmp .ne 5, 3) := by decide +kernel
theorem dX5_rank_20 : decode cX5_rank 20 = .ok (.iload_n 2, 1) := by decide +kernel
theorem dX5_rank_21 : decode cX5_rank 21 = .ok (.ireturn, 1) := by decide +kernel
theorem dX5_rank_22 : decode cX5_rank 22 = .ok (.iinc 2 1, 3) := by decide +kernel
theorem dX5_rank_25 : decode cX5_rank 25 = .ok (.goto (-23), 3) := by decide +kernel
theorem dX5_rank_28 : decode cX5_rank 28 = .ok (.bipush (-9), 2) := by decide +kernel
theorem dX5_rank_30 : decode cX5_rank 30 = .ok (.ireturn, 1) := by decide +kernel
theorem dX5_told_0 : decode cX5_told 0 = .ok (.iload_n 1, 1) := by decide +kernel
theorem dX5_told_1 : decode cX5_told 1 = .ok (.aload_n 0, 1) := by decide +kernel
theorem dX5_told_2 : decode cX5_told 2 = .ok (.getfield 60, 3) := by decide +kernel
theorem dX5_told_5 : decode cX5_told 5 = .ok (.if_icmp .ne 7, 3) := by decide +kernel
theorem dX5_told_8 : decode cX5_told 8 = .ok (.iconst 2, 1) := by decide +kernel
theorem dX5_told_9 : decode cX5_told 9 = .ok (.goto 12, 3) := by decide +kernel
theorem dX5_told_12 : decode cX5_told 12 = .ok (.iload_n 1, 1) := by decide +kernel
theorem dX5_told_13 : decode cX5_told 13 = .ok (.ifCond .le 7, 3) := by decide +kernel
theorem dX5_told_16 : decode cX5_told 16 = .ok (.iconst 1, 1) := by decide +kernel
theorem dX5_told_17 : decode cX5_told 17 = .ok (.goto 4, 3) := by decide +kernel
theorem dX5_told_20 : decode cX5_told 20 = .ok (.iconst 0, 1) := by decide +kernel
theorem dX5_told_21 : decode cX5_told 21 = .ok (.ireturn, 1) := by decide +kernel
set_option maxRecDepth 20000 in
theorem ggX5_together_X5_isSet : GoodIn wsX5_together wsX5_isSet := goodIn_r _ [7, 8, 30, 31, 32, 33, 34, 35, 36, 37, 38, 39, 40, 41, 42, 43, 44, 45, 46] (by decide +kernel) (by decide +kernel)
set_option maxRecDepth 20000 in
theorem gX5_together_X5_isSet : GoodIn wsX5_together (wsV RX5 93 RX5 yX5_isSet wsX5_isSet) := goodIn_app (goodIn_of _ (by decide +kernel)) ggX5_together_X5_isSet
set_option maxRecDepth 20000 in
theorem ggX5_together_X5_refuse : GoodIn wsX5_together wsX5_refuse := goodIn_r _ [12, 13, 30, 31, 32, 33, 34, 35, 36, 37, 38, 39, 40, 41, 42, 43, 44, 45, 46] (by decide +kernel) (by decide +kernel)
set_option maxRecDepth 20000 in
theorem gX5_together_X5_refuse : GoodIn wsX5_together (wsV RX5 74 RX5 yX5_refuse wsX5_refuse) := goodIn_app (goodIn_of _ (by decide +kernel)) ggX5_together_X5_refuse
set_option maxRecDepth 20000 in
theorem ggX5_together_X5_isTogether : GoodIn wsX5_together wsX5_isTogether := goodIn_r _ [17, 18, 19, 20, 6, 21, 8, 22, 23, 24, 25, 30, 31, 32, 33, 34, 35, 36, 37, 38, 39, 40, 41, 42, 43, 44, 45, 46] (by decide +kernel) (by decide +kernel)
set_option maxRecDepth 20000 in
theorem gX5_together_X5_isTogether : GoodIn wsX5_together (wsV RX5 82 RX5 yX5_isTogether wsX5_isTogether) := goodIn_app (goodIn_of _ (by decide +kernel)) ggX5_together_X5_isTogether
set_option maxRecDepth 20000 in
theorem ggX5_together_X5_told : GoodIn wsX5_together wsX5_told := goodIn_r _ [29, 1, 30, 31, 32, 33, 34, 35, 36, 37, 38, 39, 40, 41, 42, 43, 44, 45, 46] (by decide +kernel) (by decide +kernel)
set_option maxRecDepth 20000 in
theorem gX5_together_X5_told : GoodIn wsX5_together (wsV RX5 109 RX5 yX5_told wsX5_told) := goodIn_app (goodIn_of _ (by decide +kernel)) ggX5_together_X5_told
theorem dX5_together_0 : decode cX5_together 0 = .ok (.aload_n 0, 1) := by decide +kernel
theorem dX5_together_1 : decode cX5_together 1 = .ok (.iload_n 1, 1) := by decide +kernel
theorem dX5_together_2 : decode cX5_together 2 = .ok (.invokevirtual 93, 3) := by decide +kernel
theorem dX5_together_5 : decode cX5_together 5 = .ok (.ifCond .ne 10, 3) := by decide +kernel
theorem dX5_together_8 : decode cX5_together 8 = .ok (.aload_n 0, 1) := by decide +kernel
theorem dX5_together_9 : decode cX5_together 9 = .ok (.bipush (-2), 2) := by decide +kernel
theorem dX5_together_11 : decode cX5_together 11 = .ok (.invokevirtual 74, 3) := by decide +kernel
theorem dX5_together_14 : decode cX5_together 14 = .ok (.ireturn, 1) := by decide +kernel
theorem dX5_together_15 : decode cX5_together 15 = .ok (.iconst 0, 1) := by decide +kernel
theorem dX5_together_16 : decode cX5_together 16 = .ok (.istore_n 2, 1) := by decide +kernel
theorem dX5_together_17 : decode cX5_together 17 = .ok (.iconst 0, 1) := by decide +kernel
theorem dX5_together_18 : decode cX5_together 18 = .ok (.istore_n 3, 1) := by decide +kernel
theorem dX5_together_19 : decode cX5_together 19 = .ok (.iload_n 3, 1) := by decide +kernel
theorem dX5_together_20 : decode cX5_together 20 = .ok (.aload_n 0, 1) := by decide +kernel
theorem dX5_together_21 : decode cX5_together 21 = .ok (.getfield 60, 3) := by decide +kernel
theorem dX5_together_24 : decode cX5_together 24 = .ok (.if_icmp .ge 31, 3) := by decide +kernel
theorem dX5_together_27 : decode cX5_together 27 = .ok (.iload_n 2, 1) := by decide +kernel
theorem dX5_together_28 : decode cX5_together 28 = .ok (.aload_n 0, 1) := by decide +kernel
theorem dX5_together_29 : decode cX5_together 29 = .ok (.aload_n 0, 1) := by decide +kernel
theorem dX5_together_30 : decode cX5_together 30 = .ok (.getfield 26, 3) := by decide +kernel
theorem dX5_together_33 : decode cX5_together 33 = .ok (.iload_n 3, 1) := by decide +kernel
theorem dX5_together_34 : decode cX5_together 34 = .ok (.iaload, 1) := by decide +kernel
theorem dX5_together_35 : decode cX5_together 35 = .ok (.iload_n 1, 1) := by decide +kernel
theorem dX5_together_36 : decode cX5_together 36 = .ok (.invokevirtual 82, 3) := by decide +kernel
theorem dX5_together_39 : decode cX5_together 39 = .ok (.ifCond .eq 7, 3) := by decide +kernel
theorem dX5_together_42 : decode cX5_together 42 = .ok (.iconst 1, 1) := by decide +kernel
theorem dX5_together_43 : decode cX5_together 43 = .ok (.goto 4, 3) := by decide +kernel
theorem dX5_together_46 : decode cX5_together 46 = .ok (.iconst 0, 1) := by decide +kernel
theorem dX5_together_47 : decode cX5_together 47 = .ok (.iadd, 1) := by decide +kernel
theorem dX5_together_48 : decode cX5_together 48 = .ok (.istore_n 2, 1) := by decide +kernel
theorem dX5_together_49 : decode cX5_together 49 = .ok (.iinc 3 1, 3) := by decide +kernel
theorem dX5_together_52 : decode cX5_together 52 = .ok (.goto (-33), 3) := by decide +kernel
theorem dX5_together_55 : decode cX5_together 55 = .ok (.aload_n 0, 1) := by decide +kernel
theorem dX5_together_56 : decode cX5_together 56 = .ok (.iload_n 2, 1) := by decide +kernel
theorem dX5_together_57 : decode cX5_together 57 = .ok (.invokevirtual 109, 3) := by decide +kernel
theorem dX5_together_60 : decode cX5_together 60 = .ok (.ireturn, 1) := by decide +kernel
set_option maxRecDepth 20000 in
theorem ggX5_round_X5_isSet : GoodIn wsX5_round wsX5_isSet := goodIn_r _ [8, 1, 30, 31, 32, 33, 34, 35, 36, 37, 38, 39, 40, 41, 42, 43, 44, 45, 46] (by decide +kernel) (by decide +kernel)
set_option maxRecDepth 20000 in
theorem gX5_round_X5_isSet : GoodIn wsX5_round (wsV RX5 93 RX5 yX5_isSet wsX5_isSet) := goodIn_app (goodIn_of _ (by decide +kernel)) ggX5_round_X5_isSet
set_option maxRecDepth 20000 in
theorem ggX5_round_X5_refuse : GoodIn wsX5_round wsX5_refuse := goodIn_r _ [12, 13, 30, 31, 32, 33, 34, 35, 36, 37, 38, 39, 40, 41, 42, 43, 44, 45, 46] (by decide +kernel) (by decide +kernel)
set_option maxRecDepth 20000 in
theorem gX5_round_X5_refuse : GoodIn wsX5_round (wsV RX5 74 RX5 yX5_refuse wsX5_refuse) := goodIn_app (goodIn_of _ (by decide +kernel)) ggX5_round_X5_refuse
set_option maxRecDepth 20000 in
theorem ggX5_round_X5_isTogether : GoodIn wsX5_round wsX5_isTogether := goodIn_r _ [17, 18, 19, 20, 7, 21, 1, 22, 23, 24, 25, 30, 31, 32, 33, 34, 35, 36, 37, 38, 39, 40, 41, 42, 43, 44, 45, 46] (by decide +kernel) (by decide +kernel)
set_option maxRecDepth 20000 in
theorem gX5_round_X5_isTogether : GoodIn wsX5_round (wsV RX5 82 RX5 yX5_isTogether wsX5_isTogether) := goodIn_app (goodIn_of _ (by decide +kernel)) ggX5_round_X5_isTogether
set_option maxRecDepth 20000 in
theorem ggX5_round_X5_told : GoodIn wsX5_round wsX5_told := goodIn_r _ [29, 2, 30, 31, 32, 33, 34, 35, 36, 37, 38, 39, 40, 41, 42, 43, 44, 45, 46] (by decide +kernel) (by decide +kernel)
set_option maxRecDepth 20000 in
theorem gX5_round_X5_told : GoodIn wsX5_round (wsV RX5 109 RX5 yX5_told wsX5_told) := goodIn_app (goodIn_of _ (by decide +kernel)) ggX5_round_X5_told
theorem dX5_round_0 : decode cX5_round 0 = .ok (.aload_n 0, 1) := by decide +kernel
theorem dX5_round_1 : decode cX5_round 1 = .ok (.iload_n 1, 1) := by decide +kernel
theorem dX5_round_2 : decode cX5_round 2 = .ok (.invokevirtual 93, 3) := by decide +kernel
theorem dX5_round_5 : decode cX5_round 5 = .ok (.ifCond .ne 10, 3) := by decide +kernel
theorem dX5_round_8 : decode cX5_round 8 = .ok (.aload_n 0, 1) := by decide +kernel
theorem dX5_round_9 : decode cX5_round 9 = .ok (.bipush (-2), 2) := by decide +kernel
theorem dX5_round_11 : decode cX5_round 11 = .ok (.invokevirtual 74, 3) := by decide +kernel
theorem dX5_round_14 : decode cX5_round 14 = .ok (.ireturn, 1) := by decide +kernel
theorem dX5_round_15 : decode cX5_round 15 = .ok (.iconst 1, 1) := by decide +kernel
theorem dX5_round_16 : decode cX5_round 16 = .ok (.aload_n 0, 1) := by decide +kernel
theorem dX5_round_17 : decode cX5_round 17 = .ok (.getfield 46, 3) := by decide +kernel
theorem dX5_round_20 : decode cX5_round 20 = .ok (.ishl, 1) := by decide +kernel
theorem dX5_round_21 : decode cX5_round 21 = .ok (.iconst 1, 1) := by decide +kernel
theorem dX5_round_22 : decode cX5_round 22 = .ok (.isub, 1) := by decide +kernel
theorem dX5_round_23 : decode cX5_round 23 = .ok (.iload_n 1, 1) := by decide +kernel
theorem dX5_round_24 : decode cX5_round 24 = .ok (.iconst (-1), 1) := by decide +kernel
theorem dX5_round_25 : decode cX5_round 25 = .ok (.ixor, 1) := by decide +kernel
theorem dX5_round_26 : decode cX5_round 26 = .ok (.iand, 1) := by decide +kernel
theorem dX5_round_27 : decode cX5_round 27 = .ok (.istore_n 2, 1) := by decide +kernel
theorem dX5_round_28 : decode cX5_round 28 = .ok (.iconst 0, 1) := by decide +kernel
theorem dX5_round_29 : decode cX5_round 29 = .ok (.istore_n 3, 1) := by decide +kernel
theorem dX5_round_30 : decode cX5_round 30 = .ok (.iconst 0, 1) := by decide +kernel
theorem dX5_round_31 : decode cX5_round 31 = .ok (.istore 4, 2) := by decide +kernel
theorem dX5_round_33 : decode cX5_round 33 = .ok (.iload 4, 2) := by decide +kernel
theorem dX5_round_35 : decode cX5_round 35 = .ok (.aload_n 0, 1) := by decide +kernel
theorem dX5_round_36 : decode cX5_round 36 = .ok (.getfield 60, 3) := by decide +kernel
theorem dX5_round_39 : decode cX5_round 39 = .ok (.if_icmp .ge 47, 3) := by decide +kernel
theorem dX5_round_42 : decode cX5_round 42 = .ok (.iload_n 3, 1) := by decide +kernel
theorem dX5_round_43 : decode cX5_round 43 = .ok (.aload_n 0, 1) := by decide +kernel
theorem dX5_round_44 : decode cX5_round 44 = .ok (.aload_n 0, 1) := by decide +kernel
theorem dX5_round_45 : decode cX5_round 45 = .ok (.getfield 26, 3) := by decide +kernel
theorem dX5_round_48 : decode cX5_round 48 = .ok (.iload 4, 2) := by decide +kernel
theorem dX5_round_50 : decode cX5_round 50 = .ok (.iaload, 1) := by decide +kernel
theorem dX5_round_51 : decode cX5_round 51 = .ok (.iload_n 1, 1) := by decide +kernel
theorem dX5_round_52 : decode cX5_round 52 = .ok (.invokevirtual 82, 3) := by decide +kernel
theorem dX5_round_55 : decode cX5_round 55 = .ok (.ifCond .ne 18, 3) := by decide +kernel
theorem dX5_round_58 : decode cX5_round 58 = .ok (.aload_n 0, 1) := by decide +kernel
theorem dX5_round_59 : decode cX5_round 59 = .ok (.aload_n 0, 1) := by decide +kernel
theorem dX5_round_60 : decode cX5_round 60 = .ok (.getfield 26, 3) := by decide +kernel
theorem dX5_round_63 : decode cX5_round 63 = .ok (.iload 4, 2) := by decide +kernel
theorem dX5_round_65 : decode cX5_round 65 = .ok (.iaload, 1) := by decide +kernel
theorem dX5_round_66 : decode cX5_round 66 = .ok (.iload_n 2, 1) := by decide +kernel
theorem dX5_round_67 : decode cX5_round 67 = .ok (.invokevirtual 82, 3) := by decide +kernel
theorem dX5_round_70 : decode cX5_round 70 = .ok (.ifCond .eq 7, 3) := by decide +kernel
theorem dX5_round_73 : decode cX5_round 73 = .ok (.iconst 1, 1) := by decide +kernel
theorem dX5_round_74 : decode cX5_round 74 = .ok (.goto 4, 3) := by decide +kernel
theorem dX5_round_77 : decode cX5_round 77 = .ok (.iconst 0, 1) := by decide +kernel
theorem dX5_round_78 : decode cX5_round 78 = .ok (.iadd, 1) := by decide +kernel
theorem dX5_round_79 : decode cX5_round 79 = .ok (.istore_n 3, 1) := by decide +kernel
theorem dX5_round_80 : decode cX5_round 80 = .ok (.iinc 4 1, 3) := by decide +kernel
theorem dX5_round_83 : decode cX5_round 83 = .ok (.goto (-50), 3) := by decide +kernel
theorem dX5_round_86 : decode cX5_round 86 = .ok (.aload_n 0, 1) := by decide +kernel
theorem dX5_round_87 : decode cX5_round 87 = .ok (.iload_n 3, 1) := by decide +kernel
theorem dX5_round_88 : decode cX5_round 88 = .ok (.invokevirtual 109, 3) := by decide +kernel
theorem dX5_round_91 : decode cX5_round 91 = .ok (.ireturn, 1) := by decide +kernel
set_option maxRecDepth 20000 in
theorem ggX5_isColumn_X5_isIn : GoodIn wsX5_isColumn wsX5_isIn := goodIn_r _ [5] (by decide +kernel) (by decide +kernel)
set_option maxRecDepth 20000 in
theorem gX5_isColumn_X5_isIn : GoodIn wsX5_isColumn (va_wsS RX5 78 yX5_isIn wsX5_isIn) := goodIn_app (goodIn_of _ (by decide +kernel)) ggX5_isColumn_X5_isIn
theorem dX5_isColumn_0 : decode cX5_isColumn 0 = .ok (.iload_n 1, 1) := by decide +kernel
theorem dX5_isColumn_1 : decode cX5_isColumn 1 = .ok (.aload_n 0, 1) := by decide +kernel
theorem dX5_isColumn_2 : decode cX5_isColumn 2 = .ok (.getfield 46, 3) := by decide +kernel
theorem dX5_isColumn_5 : decode cX5_isColumn 5 = .ok (.invokestatic 78, 3) := by decide +kernel
theorem dX5_isColumn_8 : decode cX5_isColumn 8 = .ok (.ireturn, 1) := by decide +kernel
set_option maxRecDepth 20000 in
theorem ggX5_between_X5_isColumn : GoodIn wsX5_between wsX5_isColumn := goodIn_r _ [7, 8, 9, 10, 6, 11, 29, 30, 31, 32, 33, 34, 35, 36, 37, 38, 39, 40, 41, 42, 43, 44, 45] (by decide +kernel) (by decide +kernel)
set_option maxRecDepth 20000 in
theorem gX5_between_X5_isColumn : GoodIn wsX5_between (wsV RX5 112 RX5 yX5_isColumn wsX5_isColumn) := goodIn_app (goodIn_of _ (by decide +kernel)) ggX5_between_X5_isColumn
set_option maxRecDepth 20000 in
theorem ggX5_between_X5_refuse : GoodIn wsX5_between wsX5_refuse := goodIn_r _ [15, 16, 29, 30, 31, 32, 33, 34, 35, 36, 37, 38, 39, 40, 41, 42, 43, 44, 45] (by decide +kernel) (by decide +kernel)
set_option maxRecDepth 20000 in
theorem gX5_between_X5_refuse : GoodIn wsX5_between (wsV RX5 74 RX5 yX5_refuse wsX5_refuse) := goodIn_app (goodIn_of _ (by decide +kernel)) ggX5_between_X5_refuse
set_option maxRecDepth 20000 in
theorem ggX5_between_X5_placeOf : GoodIn wsX5_between wsX5_placeOf := goodIn_r _ [20, 21, 22, 23, 6, 24, 8, 29, 30, 31, 32, 33, 34, 35, 36, 37, 38, 39, 40, 41, 42, 43, 44, 45] (by decide +kernel) (by decide +kernel)
set_option maxRecDepth 20000 in
theorem gX5_between_X5_placeOf : GoodIn wsX5_between (wsV RX5 115 RX5 yX5_placeOf wsX5_placeOf) := goodIn_app (goodIn_of _ (by decide +kernel)) ggX5_between_X5_placeOf
set_option maxRecDepth 20000 in
theorem ggX5_between_X5_told : GoodIn wsX5_between wsX5_told := goodIn_r _ [28, 1, 29, 30, 31, 32, 33, 34, 35, 36, 37, 38, 39, 40, 41, 42, 43, 44, 45] (by decide +kernel) (by decide +kernel)
set_option maxRecDepth 20000 in
theorem gX5_between_X5_told : GoodIn wsX5_between (wsV RX5 109 RX5 yX5_told wsX5_told) := goodIn_app (goodIn_of _ (by decide +kernel)) ggX5_between_X5_told
theorem dX5_between_0 : decode cX5_between 0 = .ok (.aload_n 0, 1) := by decide +kernel
theorem dX5_between_1 : decode cX5_between 1 = .ok (.iload_n 1, 1) := by decide +kernel
theorem dX5_between_2 : decode cX5_between 2 = .ok (.invokevirtual 112, 3) := by decide +kernel
theorem dX5_between_5 : decode cX5_between 5 = .ok (.ifCond .eq 34, 3) := by decide +kernel
theorem dX5_between_8 : decode cX5_between 8 = .ok (.aload_n 0, 1) := by decide +kernel
theorem dX5_between_9 : decode cX5_between 9 = .ok (.iload_n 2, 1) := by decide +kernel
theorem dX5_between_10 : decode cX5_between 10 = .ok (.invokevirtual 112, 3) := by decide +kernel
theorem dX5_between_13 : decode cX5_between 13 = .ok (.ifCond .eq 26, 3) := by decide +kernel
theorem dX5_between_16 : decode cX5_between 16 = .ok (.aload_n 0, 1) := by decide +kernel
theorem dX5_between_17 : decode cX5_between 17 = .ok (.iload_n 3, 1) := by decide +kernel
theorem dX5_between_18 : decode cX5_between 18 = .ok (.invokevirtual 112, 3) := by decide +kernel
theorem dX5_between_21 : decode cX5_between 21 = .ok (.ifCond .eq 18, 3) := by decide +kernel
theorem dX5_between_24 : decode cX5_between 24 = .ok (.iload_n 1, 1) := by decide +kernel
theorem dX5_between_25 : decode cX5_between 25 = .ok (.iload_n 2, 1) := by decide +kernel
theorem dX5_between_26 : decode cX5_between 26 = .ok (.if_icmp .eq 13, 3) := by decide +kernel
theorem dX5_between_29 : decode cX5_between 29 = .ok (.iload_n 2, 1) := by decide +kernel
theorem dX5_between_30 : decode cX5_between 30 = .ok (.iload_n 3, 1) := by decide +kernel
theorem dX5_between_31 : decode cX5_between 31 = .ok (.if_icmp .eq 8, 3) := by decide +kernel
theorem dX5_between_34 : decode cX5_between 34 = .ok (.iload_n 1, 1) := by decide +kernel
theorem dX5_between_35 : decode cX5_between 35 = .ok (.iload_n 3, 1) := by decide +kernel
theorem dX5_between_36 : decode cX5_between 36 = .ok (.if_icmp .ne 9, 3) := by decide +kernel
theorem dX5_between_39 : decode cX5_between 39 = .ok (.aload_n 0, 1) := by decide +kernel
theorem dX5_between_40 : decode cX5_between 40 = .ok (.iconst (-1), 1) := by decide +kernel
theorem dX5_between_41 : decode cX5_between 41 = .ok (.invokevirtual 74, 3) := by decide +kernel
theorem dX5_between_44 : decode cX5_between 44 = .ok (.ireturn, 1) := by decide +kernel
theorem dX5_between_45 : decode cX5_between 45 = .ok (.iconst 0, 1) := by decide +kernel
theorem dX5_between_46 : decode cX5_between 46 = .ok (.istore 4, 2) := by decide +kernel
theorem dX5_between_48 : decode cX5_between 48 = .ok (.iconst 0, 1) := by decide +kernel
theorem dX5_between_49 : decode cX5_between 49 = .ok (.istore 5, 2) := by decide +kernel
theorem dX5_between_51 : decode cX5_between 51 = .ok (.iload 5, 2) := by decide +kernel
theorem dX5_between_53 : decode cX5_between 53 = .ok (.aload_n 0, 1) := by decide +kernel
theorem dX5_between_54 : decode cX5_between 54 = .ok (.getfield 60, 3) := by decide +kernel
theorem dX5_between_57 : decode cX5_between 57 = .ok (.if_icmp .ge 89, 3) := by decide +kernel
theorem dX5_between_60 : decode cX5_between 60 = .ok (.aload_n 0, 1) := by decide +kernel
theorem dX5_between_61 : decode cX5_between 61 = .ok (.aload_n 0, 1) := by decide +kernel
theorem dX5_between_62 : decode cX5_between 62 = .ok (.getfield 26, 3) := by decide +kernel
theorem dX5_between_65 : decode cX5_between 65 = .ok (.iload 5, 2) := by decide +kernel
theorem dX5_between_67 : decode cX5_between 67 = .ok (.iaload, 1) := by decide +kernel
theorem dX5_between_68 : decode cX5_between 68 = .ok (.iload_n 1, 1) := by decide +kernel
theorem dX5_between_69 : decode cX5_between 69 = .ok (.invokevirtual 115, 3) := by decide +kernel
theorem dX5_between_72 : decode cX5_between 72 = .ok (.istore 6, 2) := by decide +kernel
theorem dX5_between_74 : decode cX5_between 74 = .ok (.aload_n 0, 1) := by decide +kernel
theorem dX5_between_75 : decode cX5_between 75 = .ok (.aload_n 0, 1) := by decide +kernel
theorem dX5_between_76 : decode cX5_between 76 = .ok (.getfield 26, 3) := by decide +kernel
theorem dX5_between_79 : decode cX5_between 79 = .ok (.iload 5, 2) := by decide +kernel
theorem dX5_between_81 : decode cX5_between 81 = .ok (.iaload, 1) := by decide +kernel
theorem dX5_between_82 : decode cX5_between 82 = .ok (.iload_n 2, 1) := by decide +kernel
theorem dX5_between_83 : decode cX5_between 83 = .ok (.invokevirtual 115, 3) := by decide +kernel
theorem dX5_between_86 : decode cX5_between 86 = .ok (.istore 7, 2) := by decide +kernel
theorem dX5_between_88 : decode cX5_between 88 = .ok (.aload_n 0, 1) := by decide +kernel
theorem dX5_between_89 : decode cX5_between 89 = .ok (.aload_n 0, 1) := by decide +kernel
theorem dX5_between_90 : decode cX5_between 90 = .ok (.getfield 26, 3) := by decide +kernel
theorem dX5_between_93 : decode cX5_between 93 = .ok (.iload 5, 2) := by decide +kernel
theorem dX5_between_95 : decode cX5_between 95 = .ok (.iaload, 1) := by decide +kernel
theorem dX5_between_96 : decode cX5_between 96 = .ok (.iload_n 3, 1) := by decide +kernel
theorem dX5_between_97 : decode cX5_between 97 = .ok (.invokevirtual 115, 3) := by decide +kernel
theorem dX5_between_100 : decode cX5_between 100 = .ok (.istore 8, 2) := by decide +kernel
theorem dX5_between_102 : decode cX5_between 102 = .ok (.iload 4, 2) := by decide +kernel
theorem dX5_between_104 : decode cX5_between 104 = .ok (.iload 6, 2) := by decide +kernel
theorem dX5_between_106 : decode cX5_between 106 = .ok (.iload 7, 2) := by decide +kernel
theorem dX5_between_108 : decode cX5_between 108 = .ok (.if_icmp .ge 10, 3) := by decide +kernel
theorem dX5_between_111 : decode cX5_between 111 = .ok (.iload 7, 2) := by decide +kernel
theorem dX5_between_113 : decode cX5_between 113 = .ok (.iload 8, 2) := by decide +kernel
theorem dX5_between_115 : decode cX5_between 115 = .ok (.if_icmp .lt 17, 3) := by decide +kernel
theorem dX5_between_118 : decode cX5_between 118 = .ok (.iload 8, 2) := by decide +kernel
theorem dX5_between_120 : decode cX5_between 120 = .ok (.iload 7, 2) := by decide +kernel
theorem dX5_between_122 : decode cX5_between 122 = .ok (.if_icmp .ge 14, 3) := by decide +kernel
theorem dX5_between_125 : decode cX5_between 125 = .ok (.iload 7, 2) := by decide +kernel
theorem dX5_between_127 : decode cX5_between 127 = .ok (.iload 6, 2) := by decide +kernel
theorem dX5_between_129 : decode cX5_between 129 = .ok (.if_icmp .ge 7, 3) := by decide +kernel
theorem dX5_between_132 : decode cX5_between 132 = .ok (.iconst 1, 1) := by decide +kernel
theorem dX5_between_133 : decode cX5_between 133 = .ok (.goto 4, 3) := by decide +kernel
theorem dX5_between_136 : decode cX5_between 136 = .ok (.iconst 0, 1) := by decide +kernel
theorem dX5_between_137 : decode cX5_between 137 = .ok (.iadd, 1) := by decide +kernel
theorem dX5_between_138 : decode cX5_between 138 = .ok (.istore 4, 2) := by decide +kernel
theorem dX5_between_140 : decode cX5_between 140 = .ok (.iinc 5 1, 3) := by decide +kernel
theorem dX5_between_143 : decode cX5_between 143 = .ok (.goto (-92), 3) := by decide +kernel
theorem dX5_between_146 : decode cX5_between 146 = .ok (.aload_n 0, 1) := by decide +kernel
theorem dX5_between_147 : decode cX5_between 147 = .ok (.iload 4, 2) := by decide +kernel
theorem dX5_between_149 : decode cX5_between 149 = .ok (.invokevirtual 109, 3) := by decide +kernel
theorem dX5_between_152 : decode cX5_between 152 = .ok (.ireturn, 1) := by decide +kernel
set_option maxRecDepth 20000 in
theorem ggX5_next_X5_isColumn : GoodIn wsX5_next wsX5_isColumn := goodIn_r _ [5, 6, 7, 8, 4, 9, 41, 42, 43, 44, 45, 46, 47, 48, 49, 50, 51, 52, 53, 54, 55, 56, 57] (by decide +kernel) (by decide +kernel)
set_option maxRecDepth 20000 in
theorem gX5_next_X5_isColumn : GoodIn wsX5_next (wsV RX5 112 RX5 yX5_isColumn wsX5_isColumn) := goodIn_app (goodIn_of _ (by decide +kernel)) ggX5_next_X5_isColumn
set_option maxRecDepth 20000 in
theorem ggX5_next_X5_refuse : GoodIn wsX5_next wsX5_refuse := goodIn_r _ [13, 14, 41, 42, 43, 44, 45, 46, 47, 48, 49, 50, 51, 52, 53, 54, 55, 56, 57] (by decide +kernel) (by decide +kernel)
set_option maxRecDepth 20000 in
theorem gX5_next_X5_refuse : GoodIn wsX5_next (wsV RX5 74 RX5 yX5_refuse wsX5_refuse) := goodIn_app (goodIn_of _ (by decide +kernel)) ggX5_next_X5_refuse
set_option maxRecDepth 20000 in
theorem ggX5_next_X5_together : GoodIn wsX5_next wsX5_together := goodIn_r _ [18, 19, 20, 21, 22, 23, 4, 24, 6, 10, 11, 12, 13, 14, 25, 26, 27, 28, 29, 30, 31, 32, 33, 34, 35, 36, 37, 38, 39, 40, 41, 42, 43, 44, 45, 46, 47, 48, 49, 50, 51, 52, 53, 54, 55, 56, 57] (by decide +kernel) (by decide +kernel)
set_option maxRecDepth 20000 in
theorem gX5_next_X5_together : GoodIn wsX5_next (wsV RX5 118 RX5 yX5_together wsX5_together) := goodIn_app (goodIn_of _ (by decide +kernel)) ggX5_next_X5_together
theorem dX5_next_0 : decode cX5_next 0 = .ok (.aload_n 0, 1) := by decide +kernel
theorem dX5_next_1 : decode cX5_next 1 = .ok (.iload_n 1, 1) := by decide +kernel
theorem dX5_next_2 : decode cX5_next 2 = .ok (.invokevirtual 112, 3) := by decide +kernel
theorem dX5_next_5 : decode cX5_next 5 = .ok (.ifCond .eq 16, 3) := by decide +kernel
theorem dX5_next_8 : decode cX5_next 8 = .ok (.aload_n 0, 1) := by decide +kernel
theorem dX5_next_9 : decode cX5_next 9 = .ok (.iload_n 2, 1) := by decide +kernel
theorem dX5_next_10 : decode cX5_next 10 = .ok (.invokevirtual 112, 3) := by decide +kernel
theorem dX5_next_13 : decode cX5_next 13 = .ok (.ifCond .eq 8, 3) := by decide +kernel
theorem dX5_next_16 : decode cX5_next 16 = .ok (.iload_n 1, 1) := by decide +kernel
theorem dX5_next_17 : decode cX5_next 17 = .ok (.iload_n 2, 1) := by decide +kernel
theorem dX5_next_18 : decode cX5_next 18 = .ok (.if_icmp .ne 9, 3) := by decide +kernel
theorem dX5_next_21 : decode cX5_next 21 = .ok (.aload_n 0, 1) := by decide +kernel
theorem dX5_next_22 : decode cX5_next 22 = .ok (.iconst (-1), 1) := by decide +kernel
theorem dX5_next_23 : decode cX5_next 23 = .ok (.invokevirtual 74, 3) := by decide +kernel
theorem dX5_next_26 : decode cX5_next 26 = .ok (.ireturn, 1) := by decide +kernel
theorem dX5_next_27 : decode cX5_next 27 = .ok (.aload_n 0, 1) := by decide +kernel
theorem dX5_next_28 : decode cX5_next 28 = .ok (.iconst 1, 1) := by decide +kernel
theorem dX5_next_29 : decode cX5_next 29 = .ok (.iload_n 1, 1) := by decide +kernel
theorem dX5_next_30 : decode cX5_next 30 = .ok (.ishl, 1) := by decide +kernel
theorem dX5_next_31 : decode cX5_next 31 = .ok (.iconst 1, 1) := by decide +kernel
theorem dX5_next_32 : decode cX5_next 32 = .ok (.iload_n 2, 1) := by decide +kernel
theorem dX5_next_33 : decode cX5_next 33 = .ok (.ishl, 1) := by decide +kernel
theorem dX5_next_34 : decode cX5_next 34 = .ok (.ior, 1) := by decide +kernel
theorem dX5_next_35 : decode cX5_next 35 = .ok (.invokevirtual 118, 3) := by decide +kernel
theorem dX5_next_38 : decode cX5_next 38 = .ok (.ireturn, 1) := by decide +kernel
set_option maxRecDepth 20000 in
theorem ggX5_ends_X5_isColumn : GoodIn wsX5_ends wsX5_isColumn := goodIn_r _ [8, 3, 9, 10, 7, 11, 25, 26, 27, 28, 29, 30, 31, 32, 33, 34, 35, 36, 37, 38, 39, 40, 41] (by decide +kernel) (by decide +kernel)
set_option maxRecDepth 20000 in
theorem gX5_ends_X5_isColumn : GoodIn wsX5_ends (wsV RX5 112 RX5 yX5_isColumn wsX5_isColumn) := goodIn_app (goodIn_of _ (by decide +kernel)) ggX5_ends_X5_isColumn
set_option maxRecDepth 20000 in
theorem ggX5_ends_X5_refuse : GoodIn wsX5_ends wsX5_refuse := goodIn_r _ [15, 16, 25, 26, 27, 28, 29, 30, 31, 32, 33, 34, 35, 36, 37, 38, 39, 40, 41] (by decide +kernel) (by decide +kernel)
set_option maxRecDepth 20000 in
theorem gX5_ends_X5_refuse : GoodIn wsX5_ends (wsV RX5 74 RX5 yX5_refuse wsX5_refuse) := goodIn_app (goodIn_of _ (by decide +kernel)) ggX5_ends_X5_refuse
set_option maxRecDepth 20000 in
theorem ggX5_ends_X5_columnAt : GoodIn wsX5_ends wsX5_columnAt := goodIn_r _ [20, 3, 25, 26, 27, 28, 29, 30, 31, 32, 33, 34, 35, 36, 37, 38, 39, 40, 41] (by decide +kernel) (by decide +kernel)
set_option maxRecDepth 20000 in
theorem gX5_ends_X5_columnAt : GoodIn wsX5_ends (wsV RX5 67 RX5 yX5_columnAt wsX5_columnAt) := goodIn_app (goodIn_of _ (by decide +kernel)) ggX5_ends_X5_columnAt
set_option maxRecDepth 20000 in
theorem ggX5_ends_X5_told : GoodIn wsX5_ends wsX5_told := goodIn_r _ [24, 1, 25, 26, 27, 28, 29, 30, 31, 32, 33, 34, 35, 36, 37, 38, 39, 40, 41] (by decide +kernel) (by decide +kernel)
set_option maxRecDepth 20000 in
theorem gX5_ends_X5_told : GoodIn wsX5_ends (wsV RX5 109 RX5 yX5_told wsX5_told) := goodIn_app (goodIn_of _ (by decide +kernel)) ggX5_ends_X5_told
theorem dX5_ends_0 : decode cX5_ends 0 = .ok (.aload_n 0, 1) := by decide +kernel
theorem dX5_ends_1 : decode cX5_ends 1 = .ok (.iload_n 1, 1) := by decide +kernel
theorem dX5_ends_2 : decode cX5_ends 2 = .ok (.invokevirtual 112, 3) := by decide +kernel
theorem dX5_ends_5 : decode cX5_ends 5 = .ok (.ifCond .ne 9, 3) := by decide +kernel
theorem dX5_ends_8 : decode cX5_ends 8 = .ok (.aload_n 0, 1) := by decide +kernel
theorem dX5_ends_9 : decode cX5_ends 9 = .ok (.iconst (-1), 1) := by decide +kernel
theorem dX5_ends_10 : decode cX5_ends 10 = .ok (.invokevirtual 74, 3) := by decide +kernel
theorem dX5_ends_13 : decode cX5_ends 13 = .ok (.ireturn, 1) := by decide +kernel
theorem dX5_ends_14 : decode cX5_ends 14 = .ok (.iconst 0, 1) := by decide +kernel
theorem dX5_ends_15 : decode cX5_ends 15 = .ok (.istore_n 2, 1) := by decide +kernel
theorem dX5_ends_16 : decode cX5_ends 16 = .ok (.iconst 0, 1) := by decide +kernel
theorem dX5_ends_17 : decode cX5_ends 17 = .ok (.istore_n 3, 1) := by decide +kernel
theorem dX5_ends_18 : decode cX5_ends 18 = .ok (.iload_n 3, 1) := by decide +kernel
theorem dX5_ends_19 : decode cX5_ends 19 = .ok (.aload_n 0, 1) := by decide +kernel
theorem dX5_ends_20 : decode cX5_ends 20 = .ok (.getfield 60, 3) := by decide +kernel
theorem dX5_ends_23 : decode cX5_ends 23 = .ok (.if_icmp .ge 52, 3) := by decide +kernel
theorem dX5_ends_26 : decode cX5_ends 26 = .ok (.iload_n 2, 1) := by decide +kernel
theorem dX5_ends_27 : decode cX5_ends 27 = .ok (.aload_n 0, 1) := by decide +kernel
theorem dX5_ends_28 : decode cX5_ends 28 = .ok (.aload_n 0, 1) := by decide +kernel
theorem dX5_ends_29 : decode cX5_ends 29 = .ok (.getfield 26, 3) := by decide +kernel
theorem dX5_ends_32 : decode cX5_ends 32 = .ok (.iload_n 3, 1) := by decide +kernel
theorem dX5_ends_33 : decode cX5_ends 33 = .ok (.iaload, 1) := by decide +kernel
theorem dX5_ends_34 : decode cX5_ends 34 = .ok (.iconst 0, 1) := by decide +kernel
theorem dX5_ends_35 : decode cX5_ends 35 = .ok (.invokevirtual 67, 3) := by decide +kernel
theorem dX5_ends_38 : decode cX5_ends 38 = .ok (.iload_n 1, 1) := by decide +kernel
theorem dX5_ends_39 : decode cX5_ends 39 = .ok (.if_icmp .eq 23, 3) := by decide +kernel
theorem dX5_ends_42 : decode cX5_ends 42 = .ok (.aload_n 0, 1) := by decide +kernel
theorem dX5_ends_43 : decode cX5_ends 43 = .ok (.aload_n 0, 1) := by decide +kernel
theorem dX5_ends_44 : decode cX5_ends 44 = .ok (.getfield 26, 3) := by decide +kernel
theorem dX5_ends_47 : decode cX5_ends 47 = .ok (.iload_n 3, 1) := by decide +kernel
theorem dX5_ends_48 : decode cX5_ends 48 = .ok (.iaload, 1) := by decide +kernel
theorem dX5_ends_49 : decode cX5_ends 49 = .ok (.aload_n 0, 1) := by decide +kernel
theorem dX5_ends_50 : decode cX5_ends 50 = .ok (.getfield 46, 3) := by decide +kernel
theorem dX5_ends_53 : decode cX5_ends 53 = .ok (.iconst 1, 1) := by decide +kernel
theorem dX5_ends_54 : decode cX5_ends 54 = .ok (.isub, 1) := by decide +kernel
theorem dX5_ends_55 : decode cX5_ends 55 = .ok (.invokevirtual 67, 3) := by decide +kernel
theorem dX5_ends_58 : decode cX5_ends 58 = .ok (.iload_n 1, 1) := by decide +kernel
theorem dX5_ends_59 : decode cX5_ends 59 = .ok (.if_icmp .ne 7, 3) := by decide +kernel
theorem dX5_ends_62 : decode cX5_ends 62 = .ok (.iconst 1, 1) := by decide +kernel
theorem dX5_ends_63 : decode cX5_ends 63 = .ok (.goto 4, 3) := by decide +kernel
theorem dX5_ends_66 : decode cX5_ends 66 = .ok (.iconst 0, 1) := by decide +kernel
theorem dX5_ends_67 : decode cX5_ends 67 = .ok (.iadd, 1) := by decide +kernel
theorem dX5_ends_68 : decode cX5_ends 68 = .ok (.istore_n 2, 1) := by decide +kernel
theorem dX5_ends_69 : decode cX5_ends 69 = .ok (.iinc 3 1, 3) := by decide +kernel
theorem dX5_ends_72 : decode cX5_ends 72 = .ok (.goto (-54), 3) := by decide +kernel
theorem dX5_ends_75 : decode cX5_ends 75 = .ok (.aload_n 0, 1) := by decide +kernel
theorem dX5_ends_76 : decode cX5_ends 76 = .ok (.iload_n 2, 1) := by decide +kernel
theorem dX5_ends_77 : decode cX5_ends 77 = .ok (.invokevirtual 109, 3) := by decide +kernel
theorem dX5_ends_80 : decode cX5_ends 80 = .ok (.ireturn, 1) := by decide +kernel
set_option maxRecDepth 20000 in
theorem ggX5_apart_X5_isColumn : GoodIn wsX5_apart wsX5_isColumn := goodIn_r _ [11, 12, 13, 14, 10, 15, 29, 30, 31, 32, 33, 34, 35, 36, 37, 38, 39, 40, 41, 42, 43, 44, 45] (by decide +kernel) (by decide +kernel)
set_option maxRecDepth 20000 in
theorem gX5_apart_X5_isColumn : GoodIn wsX5_apart (wsV RX5 112 RX5 yX5_isColumn wsX5_isColumn) := goodIn_app (goodIn_of _ (by decide +kernel)) ggX5_apart_X5_isColumn
set_option maxRecDepth 20000 in
theorem ggX5_apart_X5_refuse : GoodIn wsX5_apart wsX5_refuse := goodIn_r _ [19, 20, 29, 30, 31, 32, 33, 34, 35, 36, 37, 38, 39, 40, 41, 42, 43, 44, 45] (by decide +kernel) (by decide +kernel)
set_option maxRecDepth 20000 in
theorem gX5_apart_X5_refuse : GoodIn wsX5_apart (wsV RX5 74 RX5 yX5_refuse wsX5_refuse) := goodIn_app (goodIn_of _ (by decide +kernel)) ggX5_apart_X5_refuse
set_option maxRecDepth 20000 in
theorem ggX5_apart_X5_placeOf : GoodIn wsX5_apart wsX5_placeOf := goodIn_r _ [24, 25, 26, 27, 10, 28, 12, 29, 30, 31, 32, 33, 34, 35, 36, 37, 38, 39, 40, 41, 42, 43, 44, 45] (by decide +kernel) (by decide +kernel)
set_option maxRecDepth 20000 in
theorem gX5_apart_X5_placeOf : GoodIn wsX5_apart (wsV RX5 115 RX5 yX5_placeOf wsX5_placeOf) := goodIn_app (goodIn_of _ (by decide +kernel)) ggX5_apart_X5_placeOf
theorem dX5_apart_0 : decode cX5_apart 0 = .ok (.aload_n 0, 1) := by decide +kernel
theorem dX5_apart_1 : decode cX5_apart 1 = .ok (.iload_n 1, 1) := by decide +kernel
theorem dX5_apart_2 : decode cX5_apart 2 = .ok (.invokevirtual 112, 3) := by decide +kernel
theorem dX5_apart_5 : decode cX5_apart 5 = .ok (.ifCond .eq 16, 3) := by decide +kernel
theorem dX5_apart_8 : decode cX5_apart 8 = .ok (.aload_n 0, 1) := by decide +kernel
theorem dX5_apart_9 : decode cX5_apart 9 = .ok (.iload_n 2, 1) := by decide +kernel
theorem dX5_apart_10 : decode cX5_apart 10 = .ok (.invokevirtual 112, 3) := by decide +kernel
theorem dX5_apart_13 : decode cX5_apart 13 = .ok (.ifCond .eq 8, 3) := by decide +kernel
theorem dX5_apart_16 : decode cX5_apart 16 = .ok (.iload_n 1, 1) := by decide +kernel
theorem dX5_apart_17 : decode cX5_apart 17 = .ok (.iload_n 2, 1) := by decide +kernel
theorem dX5_apart_18 : decode cX5_apart 18 = .ok (.if_icmp .ne 9, 3) := by decide +kernel
theorem dX5_apart_21 : decode cX5_apart 21 = .ok (.aload_n 0, 1) := by decide +kernel
theorem dX5_apart_22 : decode cX5_apart 22 = .ok (.iconst (-1), 1) := by decide +kernel
theorem dX5_apart_23 : decode cX5_apart 23 = .ok (.invokevirtual 74, 3) := by decide +kernel
theorem dX5_apart_26 : decode cX5_apart 26 = .ok (.ireturn, 1) := by decide +kernel
theorem dX5_apart_27 : decode cX5_apart 27 = .ok (.iconst (-1), 1) := by decide +kernel
theorem dX5_apart_28 : decode cX5_apart 28 = .ok (.istore 4, 2) := by decide +kernel
theorem dX5_apart_30 : decode cX5_apart 30 = .ok (.iconst 0, 1) := by decide +kernel
theorem dX5_apart_31 : decode cX5_apart 31 = .ok (.istore 5, 2) := by decide +kernel
theorem dX5_apart_33 : decode cX5_apart 33 = .ok (.iload 5, 2) := by decide +kernel
theorem dX5_apart_35 : decode cX5_apart 35 = .ok (.aload_n 0, 1) := by decide +kernel
theorem dX5_apart_36 : decode cX5_apart 36 = .ok (.getfield 60, 3) := by decide +kernel
theorem dX5_apart_39 : decode cX5_apart 39 = .ok (.if_icmp .ge 74, 3) := by decide +kernel
theorem dX5_apart_42 : decode cX5_apart 42 = .ok (.aload_n 0, 1) := by decide +kernel
theorem dX5_apart_43 : decode cX5_apart 43 = .ok (.aload_n 0, 1) := by decide +kernel
theorem dX5_apart_44 : decode cX5_apart 44 = .ok (.getfield 26, 3) := by decide +kernel
theorem dX5_apart_47 : decode cX5_apart 47 = .ok (.iload 5, 2) := by decide +kernel
theorem dX5_apart_49 : decode cX5_apart 49 = .ok (.iaload, 1) := by decide +kernel
theorem dX5_apart_50 : decode cX5_apart 50 = .ok (.iload_n 1, 1) := by decide +kernel
theorem dX5_apart_51 : decode cX5_apart 51 = .ok (.invokevirtual 115, 3) := by decide +kernel
theorem dX5_apart_54 : decode cX5_apart 54 = .ok (.aload_n 0, 1) := by decide +kernel
theorem dX5_apart_55 : decode cX5_apart 55 = .ok (.aload_n 0, 1) := by decide +kernel
theorem dX5_apart_56 : decode cX5_apart 56 = .ok (.getfield 26, 3) := by decide +kernel
theorem dX5_apart_59 : decode cX5_apart 59 = .ok (.iload 5, 2) := by decide +kernel
theorem dX5_apart_61 : decode cX5_apart 61 = .ok (.iaload, 1) := by decide +kernel
theorem dX5_apart_62 : decode cX5_apart 62 = .ok (.iload_n 2, 1) := by decide +kernel
theorem dX5_apart_63 : decode cX5_apart 63 = .ok (.invokevirtual 115, 3) := by decide +kernel
theorem dX5_apart_66 : decode cX5_apart 66 = .ok (.isub, 1) := by decide +kernel
theorem dX5_apart_67 : decode cX5_apart 67 = .ok (.invokestatic 121, 3) := by decide +kernel
theorem dX5_apart_70 : decode cX5_apart 70 = .ok (.istore 6, 2) := by decide +kernel
theorem dX5_apart_72 : decode cX5_apart 72 = .ok (.iload 4, 2) := by decide +kernel
theorem dX5_apart_74 : decode cX5_apart 74 = .ok (.ifCond .lt 24, 3) := by decide +kernel
theorem dX5_apart_77 : decode cX5_apart 77 = .ok (.iload_n 3, 1) := by decide +kernel
theorem dX5_apart_78 : decode cX5_apart 78 = .ok (.ifCond .eq 13, 3) := by decide +kernel
theorem dX5_apart_81 : decode cX5_apart 81 = .ok (.iload 6, 2) := by decide +kernel
theorem dX5_apart_83 : decode cX5_apart 83 = .ok (.iload 4, 2) := by decide +kernel
theorem dX5_apart_85 : decode cX5_apart 85 = .ok (.if_icmp .ge 18, 3) := by decide +kernel
theorem dX5_apart_88 : decode cX5_apart 88 = .ok (.goto 10, 3) := by decide +kernel
theorem dX5_apart_91 : decode cX5_apart 91 = .ok (.iload 6, 2) := by decide +kernel
theorem dX5_apart_93 : decode cX5_apart 93 = .ok (.iload 4, 2) := by decide +kernel
theorem dX5_apart_95 : decode cX5_apart 95 = .ok (.if_icmp .le 8, 3) := by decide +kernel
theorem dX5_apart_98 : decode cX5_apart 98 = .ok (.iload 6, 2) := by decide +kernel
theorem dX5_apart_100 : decode cX5_apart 100 = .ok (.goto 5, 3) := by decide +kernel
theorem dX5_apart_103 : decode cX5_apart 103 = .ok (.iload 4, 2) := by decide +kernel
theorem dX5_apart_105 : decode cX5_apart 105 = .ok (.istore 4, 2) := by decide +kernel
theorem dX5_apart_107 : decode cX5_apart 107 = .ok (.iinc 5 1, 3) := by decide +kernel
theorem dX5_apart_110 : decode cX5_apart 110 = .ok (.goto (-77), 3) := by decide +kernel
theorem dX5_apart_113 : decode cX5_apart 113 = .ok (.iload 4, 2) := by decide +kernel
theorem dX5_apart_115 : decode cX5_apart 115 = .ok (.ireturn, 1) := by decide +kernel
set_option maxRecDepth 20000 in
theorem ggX5_isAlways_X5_isTogether : GoodIn wsX5_isAlways wsX5_isTogether := goodIn_r _ [7, 8, 9, 10, 6, 11, 12, 13, 14, 15, 16, 17, 18, 19, 20, 21, 22, 23, 24, 25, 26, 27, 28, 29, 30, 31, 32, 33] (by decide +kernel) (by decide +kernel)
set_option maxRecDepth 20000 in
theorem gX5_isAlways_X5_isTogether : GoodIn wsX5_isAlways (wsV RX5 82 RX5 yX5_isTogether wsX5_isTogether) := goodIn_app (goodIn_of _ (by decide +kernel)) ggX5_isAlways_X5_isTogether
theorem dX5_isAlways_0 : decode cX5_isAlways 0 = .ok (.iconst 1, 1) := by decide +kernel
theorem dX5_isAlways_1 : decode cX5_isAlways 1 = .ok (.istore_n 2, 1) := by decide +kernel
theorem dX5_isAlways_2 : decode cX5_isAlways 2 = .ok (.iconst 0, 1) := by decide +kernel
theorem dX5_isAlways_3 : decode cX5_isAlways 3 = .ok (.istore_n 3, 1) := by decide +kernel
theorem dX5_isAlways_4 : decode cX5_isAlways 4 = .ok (.iload_n 3, 1) := by decide +kernel
theorem dX5_isAlways_5 : decode cX5_isAlways 5 = .ok (.aload_n 0, 1) := by decide +kernel
theorem dX5_isAlways_6 : decode cX5_isAlways 6 = .ok (.getfield 60, 3) := by decide +kernel
theorem dX5_isAlways_9 : decode cX5_isAlways 9 = .ok (.if_icmp .ge 25, 3) := by decide +kernel
theorem dX5_isAlways_12 : decode cX5_isAlways 12 = .ok (.iload_n 2, 1) := by decide +kernel
theorem dX5_isAlways_13 : decode cX5_isAlways 13 = .ok (.ifCond .eq 21, 3) := by decide +kernel
theorem dX5_isAlways_16 : decode cX5_isAlways 16 = .ok (.aload_n 0, 1) := by decide +kernel
theorem dX5_isAlways_17 : decode cX5_isAlways 17 = .ok (.aload_n 0, 1) := by decide +kernel
theorem dX5_isAlways_18 : decode cX5_isAlways 18 = .ok (.getfield 26, 3) := by decide +kernel
theorem dX5_isAlways_21 : decode cX5_isAlways 21 = .ok (.iload_n 3, 1) := by decide +kernel
theorem dX5_isAlways_22 : decode cX5_isAlways 22 = .ok (.iaload, 1) := by decide +kernel
theorem dX5_isAlways_23 : decode cX5_isAlways 23 = .ok (.iload_n 1, 1) := by decide +kernel
theorem dX5_isAlways_24 : decode cX5_isAlways 24 = .ok (.invokevirtual 82, 3) := by decide +kernel
theorem dX5_isAlways_27 : decode cX5_isAlways 27 = .ok (.istore_n 2, 1) := by decide +kernel
theorem dX5_isAlways_28 : decode cX5_isAlways 28 = .ok (.iinc 3 1, 3) := by decide +kernel
theorem dX5_isAlways_31 : decode cX5_isAlways 31 = .ok (.goto (-27), 3) := by decide +kernel
theorem dX5_isAlways_34 : decode cX5_isAlways 34 = .ok (.iload_n 2, 1) := by decide +kernel
theorem dX5_isAlways_35 : decode cX5_isAlways 35 = .ok (.ireturn, 1) := by decide +kernel
set_option maxRecDepth 20000 in
theorem ggX5_know_X5_isAlways : GoodIn wsX5_know wsX5_isAlways := goodIn_r _ [10, 11, 12, 13, 14, 15, 9, 16, 17, 18, 19, 20, 2, 21, 22, 23, 24, 32, 33, 34, 35, 36, 37, 38, 39, 40, 41, 42, 43, 44, 45, 46, 47, 48] (by decide +kernel) (by decide +kernel)
set_option maxRecDepth 20000 in
theorem gX5_know_X5_isAlways : GoodIn wsX5_know (wsV RX5 126 RX5 yX5_isAlways wsX5_isAlways) := goodIn_app (goodIn_of _ (by decide +kernel)) ggX5_know_X5_isAlways
set_option maxRecDepth 20000 in
theorem ggX5_know_X5_bits : GoodIn wsX5_know wsX5_bits := goodIn_r _ [27] (by decide +kernel) (by decide +kernel)
set_option maxRecDepth 20000 in
theorem gX5_know_X5_bits : GoodIn wsX5_know (va_wsS RX5 106 yX5_bits wsX5_bits) := goodIn_app (goodIn_of _ (by decide +kernel)) ggX5_know_X5_bits
set_option maxRecDepth 20000 in
theorem ggX5_know_X5_isCrossed : GoodIn wsX5_know wsX5_isCrossed := goodIn_r _ [31, 3, 32, 33, 34, 35, 36, 37, 38, 39, 40, 41, 42, 43, 44, 45, 46, 47, 48] (by decide +kernel) (by decide +kernel)
set_option maxRecDepth 20000 in
theorem gX5_know_X5_isCrossed : GoodIn wsX5_know (wsV RX5 132 RX5 yX5_isCrossed wsX5_isCrossed) := goodIn_app (goodIn_of _ (by decide +kernel)) ggX5_know_X5_isCrossed
theorem dX5_know_0 : decode cX5_know 0 = .ok (.aload_n 0, 1) := by decide +kernel
theorem dX5_know_1 : decode cX5_know 1 = .ok (.getfield 63, 3) := by decide +kernel
theorem dX5_know_4 : decode cX5_know 4 = .ok (.ifCond .eq 4, 3) := by decide +kernel
theorem dX5_know_7 : decode cX5_know 7 = .ok (.return_, 1) := by decide +kernel
theorem dX5_know_8 : decode cX5_know 8 = .ok (.aload_n 0, 1) := by decide +kernel
theorem dX5_know_9 : decode cX5_know 9 = .ok (.iconst 1, 1) := by decide +kernel
theorem dX5_know_10 : decode cX5_know 10 = .ok (.putfield 63, 3) := by decide +kernel
theorem dX5_know_13 : decode cX5_know 13 = .ok (.iconst 1, 1) := by decide +kernel
theorem dX5_know_14 : decode cX5_know 14 = .ok (.aload_n 0, 1) := by decide +kernel
theorem dX5_know_15 : decode cX5_know 15 = .ok (.getfield 46, 3) := by decide +kernel
theorem dX5_know_18 : decode cX5_know 18 = .ok (.ishl, 1) := by decide +kernel
theorem dX5_know_19 : decode cX5_know 19 = .ok (.istore_n 1, 1) := by decide +kernel
theorem dX5_know_20 : decode cX5_know 20 = .ok (.iconst 1, 1) := by decide +kernel
theorem dX5_know_21 : decode cX5_know 21 = .ok (.istore_n 2, 1) := by decide +kernel
theorem dX5_know_22 : decode cX5_know 22 = .ok (.iload_n 2, 1) := by decide +kernel
theorem dX5_know_23 : decode cX5_know 23 = .ok (.iload_n 1, 1) := by decide +kernel
theorem dX5_know_24 : decode cX5_know 24 = .ok (.if_icmp .ge 20, 3) := by decide +kernel
theorem dX5_know_27 : decode cX5_know 27 = .ok (.aload_n 0, 1) := by decide +kernel
theorem dX5_know_28 : decode cX5_know 28 = .ok (.getfield 32, 3) := by decide +kernel
theorem dX5_know_31 : decode cX5_know 31 = .ok (.iload_n 2, 1) := by decide +kernel
theorem dX5_know_32 : decode cX5_know 32 = .ok (.aload_n 0, 1) := by decide +kernel
theorem dX5_know_33 : decode cX5_know 33 = .ok (.iload_n 2, 1) := by decide +kernel
theorem dX5_know_34 : decode cX5_know 34 = .ok (.invokevirtual 126, 3) := by decide +kernel
theorem dX5_know_37 : decode cX5_know 37 = .ok (.bastore, 1) := by decide +kernel
theorem dX5_know_38 : decode cX5_know 38 = .ok (.iinc 2 1, 3) := by decide +kernel
theorem dX5_know_41 : decode cX5_know 41 = .ok (.goto (-19), 3) := by decide +kernel
theorem dX5_know_44 : decode cX5_know 44 = .ok (.aload_n 0, 1) := by decide +kernel
theorem dX5_know_45 : decode cX5_know 45 = .ok (.iconst 0, 1) := by decide +kernel
theorem dX5_know_46 : decode cX5_know 46 = .ok (.putfield 129, 3) := by decide +kernel
theorem dX5_know_49 : decode cX5_know 49 = .ok (.iconst 1, 1) := by decide +kernel
theorem dX5_know_50 : decode cX5_know 50 = .ok (.istore_n 2, 1) := by decide +kernel
theorem dX5_know_51 : decode cX5_know 51 = .ok (.iload_n 2, 1) := by decide +kernel
theorem dX5_know_52 : decode cX5_know 52 = .ok (.aload_n 0, 1) := by decide +kernel
theorem dX5_know_53 : decode cX5_know 53 = .ok (.getfield 46, 3) := by decide +kernel
theorem dX5_know_56 : decode cX5_know 56 = .ok (.if_icmp .gt 71, 3) := by decide +kernel
theorem dX5_know_59 : decode cX5_know 59 = .ok (.iconst 1, 1) := by decide +kernel
theorem dX5_know_60 : decode cX5_know 60 = .ok (.istore_n 3, 1) := by decide +kernel
theorem dX5_know_61 : decode cX5_know 61 = .ok (.iload_n 3, 1) := by decide +kernel
theorem dX5_know_62 : decode cX5_know 62 = .ok (.iload_n 1, 1) := by decide +kernel
theorem dX5_know_63 : decode cX5_know 63 = .ok (.if_icmp .ge 58, 3) := by decide +kernel
theorem dX5_know_66 : decode cX5_know 66 = .ok (.iload_n 3, 1) := by decide +kernel
theorem dX5_know_67 : decode cX5_know 67 = .ok (.invokestatic 106, 3) := by decide +kernel
theorem dX5_know_70 : decode cX5_know 70 = .ok (.iload_n 2, 1) := by decide +kernel
theorem dX5_know_71 : decode cX5_know 71 = .ok (.if_icmp .ne 44, 3) := by decide +kernel
theorem dX5_know_74 : decode cX5_know 74 = .ok (.aload_n 0, 1) := by decide +kernel
theorem dX5_know_75 : decode cX5_know 75 = .ok (.getfield 32, 3) := by decide +kernel
theorem dX5_know_78 : decode cX5_know 78 = .ok (.iload_n 3, 1) := by decide +kernel
theorem dX5_know_79 : decode cX5_know 79 = .ok (.baload, 1) := by decide +kernel
theorem dX5_know_80 : decode cX5_know 80 = .ok (.ifCond .eq 35, 3) := by decide +kernel
theorem dX5_know_83 : decode cX5_know 83 = .ok (.aload_n 0, 1) := by decide +kernel
theorem dX5_know_84 : decode cX5_know 84 = .ok (.iload_n 3, 1) := by decide +kernel
theorem dX5_know_85 : decode cX5_know 85 = .ok (.iload_n 1, 1) := by decide +kernel
theorem dX5_know_86 : decode cX5_know 86 = .ok (.invokevirtual 132, 3) := by decide +kernel
theorem dX5_know_89 : decode cX5_know 89 = .ok (.ifCond .eq 6, 3) := by decide +kernel
theorem dX5_know_92 : decode cX5_know 92 = .ok (.goto 23, 3) := by decide +kernel
theorem dX5_know_95 : decode cX5_know 95 = .ok (.aload_n 0, 1) := by decide +kernel
theorem dX5_know_96 : decode cX5_know 96 = .ok (.getfield 36, 3) := by decide +kernel
theorem dX5_know_99 : decode cX5_know 99 = .ok (.aload_n 0, 1) := by decide +kernel
theorem dX5_know_100 : decode cX5_know 100 = .ok (.getfield 129, 3) := by decide +kernel
theorem dX5_know_103 : decode cX5_know 103 = .ok (.iload_n 3, 1) := by decide +kernel
theorem dX5_know_104 : decode cX5_know 104 = .ok (.iastore, 1) := by decide +kernel
theorem dX5_know_105 : decode cX5_know 105 = .ok (.aload_n 0, 1) := by decide +kernel
theorem dX5_know_106 : decode cX5_know 106 = .ok (.dup, 1) := by decide +kernel
theorem dX5_know_107 : decode cX5_know 107 = .ok (.getfield 129, 3) := by decide +kernel
theorem dX5_know_110 : decode cX5_know 110 = .ok (.iconst 1, 1) := by decide +kernel
theorem dX5_know_111 : decode cX5_know 111 = .ok (.iadd, 1) := by decide +kernel
theorem dX5_know_112 : decode cX5_know 112 = .ok (.putfield 129, 3) := by decide +kernel
theorem dX5_know_115 : decode cX5_know 115 = .ok (.iinc 3 1, 3) := by decide +kernel
theorem dX5_know_118 : decode cX5_know 118 = .ok (.goto (-57), 3) := by decide +kernel
theorem dX5_know_121 : decode cX5_know 121 = .ok (.iinc 2 1, 3) := by decide +kernel
theorem dX5_know_124 : decode cX5_know 124 = .ok (.goto (-73), 3) := by decide +kernel
theorem dX5_know_127 : decode cX5_know 127 = .ok (.return_, 1) := by decide +kernel
theorem dX5_isCrossed_0 : decode cX5_isCrossed 0 = .ok (.iconst 1, 1) := by decide +kernel
theorem dX5_isCrossed_1 : decode cX5_isCrossed 1 = .ok (.istore_n 3, 1) := by decide +kernel
theorem dX5_isCrossed_2 : decode cX5_isCrossed 2 = .ok (.iload_n 3, 1) := by decide +kernel
theorem dX5_isCrossed_3 : decode cX5_isCrossed 3 = .ok (.iload_n 2, 1) := by decide +kernel
theorem dX5_isCrossed_4 : decode cX5_isCrossed 4 = .ok (.if_icmp .ge 42, 3) := by decide +kernel
theorem dX5_isCrossed_7 : decode cX5_isCrossed 7 = .ok (.aload_n 0, 1) := by decide +kernel
theorem dX5_isCrossed_8 : decode cX5_isCrossed 8 = .ok (.getfield 32, 3) := by decide +kernel
theorem dX5_isCrossed_11 : decode cX5_isCrossed 11 = .ok (.iload_n 3, 1) := by decide +kernel
theorem dX5_isCrossed_12 : decode cX5_isCrossed 12 = .ok (.baload, 1) := by decide +kernel
theorem dX5_isCrossed_13 : decode cX5_isCrossed 13 = .ok (.ifCond .eq 27, 3) := by decide +kernel
theorem dX5_isCrossed_16 : decode cX5_isCrossed 16 = .ok (.iload_n 1, 1) := by decide +kernel
theorem dX5_isCrossed_17 : decode cX5_isCrossed 17 = .ok (.iload_n 3, 1) := by decide +kernel
theorem dX5_isCrossed_18 : decode cX5_isCrossed 18 = .ok (.iand, 1) := by decide +kernel
theorem dX5_isCrossed_19 : decode cX5_isCrossed 19 = .ok (.ifCond .eq 21, 3) := by decide +kernel
theorem dX5_isCrossed_22 : decode cX5_isCrossed 22 = .ok (.iload_n 1, 1) := by decide +kernel
theorem dX5_isCrossed_23 : decode cX5_isCrossed 23 = .ok (.iload_n 3, 1) := by decide +kernel
theorem dX5_isCrossed_24 : decode cX5_isCrossed 24 = .ok (.iconst (-1), 1) := by decide +kernel
theorem dX5_isCrossed_25 : decode cX5_isCrossed 25 = .ok (.ixor, 1) := by decide +kernel
theorem dX5_isCrossed_26 : decode cX5_isCrossed 26 = .ok (.iand, 1) := by decide +kernel
theorem dX5_isCrossed_27 : decode cX5_isCrossed 27 = .ok (.ifCond .eq 13, 3) := by decide +kernel
theorem dX5_isCrossed_30 : decode cX5_isCrossed 30 = .ok (.iload_n 3, 1) := by decide +kernel
theorem dX5_isCrossed_31 : decode cX5_isCrossed 31 = .ok (.iload_n 1, 1) := by decide +kernel
theorem dX5_isCrossed_32 : decode cX5_isCrossed 32 = .ok (.iconst (-1), 1) := by decide +kernel
theorem dX5_isCrossed_33 : decode cX5_isCrossed 33 = .ok (.ixor, 1) := by decide +kernel
theorem dX5_isCrossed_34 : decode cX5_isCrossed 34 = .ok (.iand, 1) := by decide +kernel
theorem dX5_isCrossed_35 : decode cX5_isCrossed 35 = .ok (.ifCond .eq 5, 3) := by decide +kernel
theorem dX5_isCrossed_38 : decode cX5_isCrossed 38 = .ok (.iconst 1, 1) := by decide +kernel
theorem dX5_isCrossed_39 : decode cX5_isCrossed 39 = .ok (.ireturn, 1) := by decide +kernel
theorem dX5_isCrossed_40 : decode cX5_isCrossed 40 = .ok (.iinc 3 1, 3) := by decide +kernel
theorem dX5_isCrossed_43 : decode cX5_isCrossed 43 = .ok (.goto (-41), 3) := by decide +kernel
theorem dX5_isCrossed_46 : decode cX5_isCrossed 46 = .ok (.iconst 0, 1) := by decide +kernel
theorem dX5_isCrossed_47 : decode cX5_isCrossed 47 = .ok (.ireturn, 1) := by decide +kernel
set_option maxRecDepth 20000 in
theorem ggX5_knots_X5_know : GoodIn wsX5_knots wsX5_know := goodIn_r _ [6, 7, 8, 9, 1, 10, 11, 12, 13, 5, 14, 15, 16, 17, 18, 19, 20, 21, 22, 23, 24, 25, 26, 27, 28, 29, 30, 31, 32, 33, 34, 35, 36, 37, 38, 39, 40, 41, 42, 43, 44, 45, 46, 47, 48, 49, 50, 51, 52] (by decide +kernel) (by decide +kernel)
set_option maxRecDepth 20000 in
theorem gX5_knots_X5_know : GoodIn wsX5_knots (wsV RX5 135 RX5 yX5_know wsX5_know) := goodIn_app (goodIn_of _ (by decide +kernel)) ggX5_knots_X5_know
theorem dX5_knots_0 : decode cX5_knots 0 = .ok (.aload_n 0, 1) := by decide +kernel
theorem dX5_knots_1 : decode cX5_knots 1 = .ok (.invokevirtual 135, 3) := by decide +kernel
theorem dX5_knots_4 : decode cX5_knots 4 = .ok (.aload_n 0, 1) := by decide +kernel
theorem dX5_knots_5 : decode cX5_knots 5 = .ok (.getfield 129, 3) := by decide +kernel
theorem dX5_knots_8 : decode cX5_knots 8 = .ok (.ireturn, 1) := by decide +kernel
theorem dX5_above_0 : decode cX5_above 0 = .ok (.iconst 0, 1) := by decide +kernel
theorem dX5_above_1 : decode cX5_above 1 = .ok (.istore_n 3, 1) := by decide +kernel
theorem dX5_above_2 : decode cX5_above 2 = .ok (.iload_n 3, 1) := by decide +kernel
theorem dX5_above_3 : decode cX5_above 3 = .ok (.aload_n 0, 1) := by decide +kernel
theorem dX5_above_4 : decode cX5_above 4 = .ok (.getfield 129, 3) := by decide +kernel
theorem dX5_above_7 : decode cX5_above 7 = .ok (.if_icmp .ge 37, 3) := by decide +kernel
theorem dX5_above_10 : decode cX5_above 10 = .ok (.aload_n 0, 1) := by decide +kernel
theorem dX5_above_11 : decode cX5_above 11 = .ok (.getfield 36, 3) := by decide +kernel
theorem dX5_above_14 : decode cX5_above 14 = .ok (.iload_n 3, 1) := by decide +kernel
theorem dX5_above_15 : decode cX5_above 15 = .ok (.iaload, 1) := by decide +kernel
theorem dX5_above_16 : decode cX5_above 16 = .ok (.iload_n 1, 1) := by decide +kernel
theorem dX5_above_17 : decode cX5_above 17 = .ok (.iand, 1) := by decide +kernel
theorem dX5_above_18 : decode cX5_above 18 = .ok (.iload_n 1, 1) := by decide +kernel
theorem dX5_above_19 : decode cX5_above 19 = .ok (.if_icmp .ne 19, 3) := by decide +kernel
theorem dX5_above_22 : decode cX5_above 22 = .ok (.iload_n 2, 1) := by decide +kernel
theorem dX5_above_23 : decode cX5_above 23 = .ok (.ifCond .eq 13, 3) := by decide +kernel
theorem dX5_above_26 : decode cX5_above 26 = .ok (.aload_n 0, 1) := by decide +kernel
theorem dX5_above_27 : decode cX5_above 27 = .ok (.getfield 36, 3) := by decide +kernel
theorem dX5_above_30 : decode cX5_above 30 = .ok (.iload_n 3, 1) := by decide +kernel
theorem dX5_above_31 : decode cX5_above 31 = .ok (.iaload, 1) := by decide +kernel
theorem dX5_above_32 : decode cX5_above 32 = .ok (.iload_n 1, 1) := by decide +kernel
theorem dX5_above_33 : decode cX5_above 33 = .ok (.if_icmp .eq 5, 3) := by decide +kernel
theorem dX5_above_36 : decode cX5_above 36 = .ok (.iload_n 3, 1) := by decide +kernel
theorem dX5_above_37 : decode cX5_above 37 = .ok (.ireturn, 1) := by decide +kernel
theorem dX5_above_38 : decode cX5_above 38 = .ok (.iinc 3 1, 3) := by decide +kernel
theorem dX5_above_41 : decode cX5_above 41 = .ok (.goto (-39), 3) := by decide +kernel
theorem dX5_above_44 : decode cX5_above 44 = .ok (.bipush (-9), 2) := by decide +kernel
theorem dX5_above_46 : decode cX5_above 46 = .ok (.ireturn, 1) := by decide +kernel
set_option maxRecDepth 20000 in
theorem ggX5_partsOf_X5_bits : GoodIn wsX5_partsOf wsX5_bits := goodIn_r _ [9] (by decide +kernel) (by decide +kernel)
set_option maxRecDepth 20000 in
theorem gX5_partsOf_X5_bits : GoodIn wsX5_partsOf (va_wsS RX5 106 yX5_bits wsX5_bits) := goodIn_app (goodIn_of _ (by decide +kernel)) ggX5_partsOf_X5_bits
set_option maxRecDepth 20000 in
theorem ggX5_partsOf_X5_columnAt : GoodIn wsX5_partsOf wsX5_columnAt := goodIn_r _ [13, 2, 19, 20, 21, 22, 23, 24, 25, 26, 27, 28, 29, 30, 31, 32, 33, 34, 35] (by decide +kernel) (by decide +kernel)
set_option maxRecDepth 20000 in
theorem gX5_partsOf_X5_columnAt : GoodIn wsX5_partsOf (wsV RX5 67 RX5 yX5_columnAt wsX5_columnAt) := goodIn_app (goodIn_of _ (by decide +kernel)) ggX5_partsOf_X5_columnAt
set_option maxRecDepth 20000 in
theorem ggX5_partsOf_X5_above : GoodIn wsX5_partsOf wsX5_above := goodIn_r _ [17, 18, 3, 19, 20, 21, 22, 23, 24, 25, 26, 27, 28, 29, 30, 31, 32, 33, 34, 35] (by decide +kernel) (by decide +kernel)
set_option maxRecDepth 20000 in
theorem gX5_partsOf_X5_above : GoodIn wsX5_partsOf (wsV RX5 141 RX5 yX5_above wsX5_above) := goodIn_app (goodIn_of _ (by decide +kernel)) ggX5_partsOf_X5_above
theorem dX5_partsOf_0 : decode cX5_partsOf 0 = .ok (.aload_n 0, 1) := by decide +kernel
theorem dX5_partsOf_1 : decode cX5_partsOf 1 = .ok (.iconst 0, 1) := by decide +kernel
theorem dX5_partsOf_2 : decode cX5_partsOf 2 = .ok (.putfield 138, 3) := by decide +kernel
theorem dX5_partsOf_5 : decode cX5_partsOf 5 = .ok (.iconst 0, 1) := by decide +kernel
theorem dX5_partsOf_6 : decode cX5_partsOf 6 = .ok (.istore_n 2, 1) := by decide +kernel
theorem dX5_partsOf_7 : decode cX5_partsOf 7 = .ok (.iconst 0, 1) := by decide +kernel
theorem dX5_partsOf_8 : decode cX5_partsOf 8 = .ok (.istore_n 3, 1) := by decide +kernel
theorem dX5_partsOf_9 : decode cX5_partsOf 9 = .ok (.iload_n 3, 1) := by decide +kernel
theorem dX5_partsOf_10 : decode cX5_partsOf 10 = .ok (.aload_n 0, 1) := by decide +kernel
theorem dX5_partsOf_11 : decode cX5_partsOf 11 = .ok (.getfield 46, 3) := by decide +kernel
theorem dX5_partsOf_14 : decode cX5_partsOf 14 = .ok (.if_icmp .ge 158, 3) := by decide +kernel
theorem dX5_partsOf_17 : decode cX5_partsOf 17 = .ok (.aload_n 0, 1) := by decide +kernel
theorem dX5_partsOf_18 : decode cX5_partsOf 18 = .ok (.getfield 36, 3) := by decide +kernel
theorem dX5_partsOf_21 : decode cX5_partsOf 21 = .ok (.iload_n 1, 1) := by decide +kernel
theorem dX5_partsOf_22 : decode cX5_partsOf 22 = .ok (.iaload, 1) := by decide +kernel
theorem dX5_partsOf_23 : decode cX5_partsOf 23 = .ok (.invokestatic 106, 3) := by decide +kernel
theorem dX5_partsOf_26 : decode cX5_partsOf 26 = .ok (.iconst 1, 1) := by decide +kernel
theorem dX5_partsOf_27 : decode cX5_partsOf 27 = .ok (.if_icmp .le 145, 3) := by decide +kernel
theorem dX5_partsOf_30 : decode cX5_partsOf 30 = .ok (.aload_n 0, 1) := by decide +kernel
theorem dX5_partsOf_31 : decode cX5_partsOf 31 = .ok (.aload_n 0, 1) := by decide +kernel
theorem dX5_partsOf_32 : decode cX5_partsOf 32 = .ok (.getfield 26, 3) := by decide +kernel
theorem dX5_partsOf_35 : decode cX5_partsOf 35 = .ok (.iconst 0, 1) := by decide +kernel
theorem dX5_partsOf_36 : decode cX5_partsOf 36 = .ok (.iaload, 1) := by decide +kernel
theorem dX5_partsOf_37 : decode cX5_partsOf 37 = .ok (.iload_n 3, 1) := by decide +kernel
theorem dX5_partsOf_38 : decode cX5_partsOf 38 = .ok (.invokevirtual 67, 3) := by decide +kernel
theorem dX5_partsOf_41 : decode cX5_partsOf 41 = .ok (.istore 4, 2) := by decide +kernel
theorem dX5_partsOf_43 : decode cX5_partsOf 43 = .ok (.aload_n 0, 1) := by decide +kernel
theorem dX5_partsOf_44 : decode cX5_partsOf 44 = .ok (.getfield 36, 3) := by decide +kernel
theorem dX5_partsOf_47 : decode cX5_partsOf 47 = .ok (.iload_n 1, 1) := by decide +kernel
theorem dX5_partsOf_48 : decode cX5_partsOf 48 = .ok (.iaload, 1) := by decide +kernel
theorem dX5_partsOf_49 : decode cX5_partsOf 49 = .ok (.iload 4, 2) := by decide +kernel
theorem dX5_partsOf_51 : decode cX5_partsOf 51 = .ok (.ishr, 1) := by decide +kernel
theorem dX5_partsOf_52 : decode cX5_partsOf 52 = .ok (.iconst 1, 1) := by decide +kernel
theorem dX5_partsOf_53 : decode cX5_partsOf 53 = .ok (.iand, 1) := by decide +kernel
theorem dX5_partsOf_54 : decode cX5_partsOf 54 = .ok (.ifCond .eq 112, 3) := by decide +kernel
theorem dX5_partsOf_57 : decode cX5_partsOf 57 = .ok (.iload_n 2, 1) := by decide +kernel
theorem dX5_partsOf_58 : decode cX5_partsOf 58 = .ok (.iload 4, 2) := by decide +kernel
theorem dX5_partsOf_60 : decode cX5_partsOf 60 = .ok (.ishr, 1) := by decide +kernel
theorem dX5_partsOf_61 : decode cX5_partsOf 61 = .ok (.iconst 1, 1) := by decide +kernel
theorem dX5_partsOf_62 : decode cX5_partsOf 62 = .ok (.iand, 1) := by decide +kernel
theorem dX5_partsOf_63 : decode cX5_partsOf 63 = .ok (.iconst 1, 1) := by decide +kernel
theorem dX5_partsOf_64 : decode cX5_partsOf 64 = .ok (.if_icmp .ne 6, 3) := by decide +kernel
theorem dX5_partsOf_67 : decode cX5_partsOf 67 = .ok (.goto 99, 3) := by decide +kernel
theorem dX5_partsOf_70 : decode cX5_partsOf 70 = .ok (.aload_n 0, 1) := by decide +kernel
theorem dX5_partsOf_71 : decode cX5_partsOf 71 = .ok (.iconst 1, 1) := by decide +kernel
theorem dX5_partsOf_72 : decode cX5_partsOf 72 = .ok (.iload 4, 2) := by decide +kernel
theorem dX5_partsOf_74 : decode cX5_partsOf 74 = .ok (.ishl, 1) := by decide +kernel
theorem dX5_partsOf_75 : decode cX5_partsOf 75 = .ok (.iconst 0, 1) := by decide +kernel
theorem dX5_partsOf_76 : decode cX5_partsOf 76 = .ok (.invokevirtual 141, 3) := by decide +kernel
theorem dX5_partsOf_79 : decode cX5_partsOf 79 = .ok (.istore 5, 2) := by decide +kernel
theorem dX5_partsOf_81 : decode cX5_partsOf 81 = .ok (.iconst 0, 1) := by decide +kernel
theorem dX5_partsOf_82 : decode cX5_partsOf 82 = .ok (.istore 6, 2) := by decide +kernel
theorem dX5_partsOf_84 : decode cX5_partsOf 84 = .ok (.iload 6, 2) := by decide +kernel
theorem dX5_partsOf_86 : decode cX5_partsOf 86 = .ok (.iload_n 1, 1) := by decide +kernel
theorem dX5_partsOf_87 : decode cX5_partsOf 87 = .ok (.if_icmp .ge 48, 3) := by decide +kernel
theorem dX5_partsOf_90 : decode cX5_partsOf 90 = .ok (.aload_n 0, 1) := by decide +kernel
theorem dX5_partsOf_91 : decode cX5_partsOf 91 = .ok (.getfield 36, 3) := by decide +kernel
theorem dX5_partsOf_94 : decode cX5_partsOf 94 = .ok (.iload 6, 2) := by decide +kernel
theorem dX5_partsOf_96 : decode cX5_partsOf 96 = .ok (.iaload, 1) := by decide +kernel
theorem dX5_partsOf_97 : decode cX5_partsOf 97 = .ok (.iload 4, 2) := by decide +kernel
theorem dX5_partsOf_99 : decode cX5_partsOf 99 = .ok (.ishr, 1) := by decide +kernel
theorem dX5_partsOf_100 : decode cX5_partsOf 100 = .ok (.iconst 1, 1) := by decide +kernel
theorem dX5_partsOf_101 : decode cX5_partsOf 101 = .ok (.iand, 1) := by decide +kernel
theorem dX5_partsOf_102 : decode cX5_partsOf 102 = .ok (.iconst 1, 1) := by decide +kernel
theorem dX5_partsOf_103 : decode cX5_partsOf 103 = .ok (.if_icmp .ne 26, 3) := by decide +kernel
theorem dX5_partsOf_106 : decode cX5_partsOf 106 = .ok (.aload_n 0, 1) := by decide +kernel
theorem dX5_partsOf_107 : decode cX5_partsOf 107 = .ok (.getfield 36, 3) := by decide +kernel
theorem dX5_partsOf_110 : decode cX5_partsOf 110 = .ok (.iload 6, 2) := by decide +kernel
theorem dX5_partsOf_112 : decode cX5_partsOf 112 = .ok (.iaload, 1) := by decide +kernel
theorem dX5_partsOf_113 : decode cX5_partsOf 113 = .ok (.aload_n 0, 1) := by decide +kernel
theorem dX5_partsOf_114 : decode cX5_partsOf 114 = .ok (.getfield 36, 3) := by decide +kernel
