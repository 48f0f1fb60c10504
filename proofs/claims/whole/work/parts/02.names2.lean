theorem dX3_part_69 : decode cX3_part 69 = .ok (.istore_n 3, 1) := by decide +kernel
theorem dX3_part_70 : decode cX3_part 70 = .ok (.iinc 5 1, 3) := by decide +kernel
theorem dX3_part_73 : decode cX3_part 73 = .ok (.goto (-65), 3) := by decide +kernel
theorem dX3_part_76 : decode cX3_part 76 = .ok (.bipush (-9), 2) := by decide +kernel
theorem dX3_part_78 : decode cX3_part 78 = .ok (.ireturn, 1) := by decide +kernel
theorem dX3_partWith_0 : decode cX3_partWith 0 = .ok (.iconst 0, 1) := by decide +kernel
theorem dX3_partWith_1 : decode cX3_partWith 1 = .ok (.istore_n 3, 1) := by decide +kernel
theorem dX3_partWith_2 : decode cX3_partWith 2 = .ok (.iload_n 3, 1) := by decide +kernel
theorem dX3_partWith_3 : decode cX3_partWith 3 = .ok (.iload_n 1, 1) := by decide +kernel
theorem dX3_partWith_4 : decode cX3_partWith 4 = .ok (.if_icmp .ge 32, 3) := by decide +kernel
theorem dX3_partWith_7 : decode cX3_partWith 7 = .ok (.aload_n 0, 1) := by decide +kernel
theorem dX3_partWith_8 : decode cX3_partWith 8 = .ok (.getfield 15, 3) := by decide +kernel
theorem dX3_partWith_11 : decode cX3_partWith 11 = .ok (.iload_n 3, 1) := by decide +kernel
theorem dX3_partWith_12 : decode cX3_partWith 12 = .ok (.iaload, 1) := by decide +kernel
theorem dX3_partWith_13 : decode cX3_partWith 13 = .ok (.iload_n 1, 1) := by decide +kernel
theorem dX3_partWith_14 : decode cX3_partWith 14 = .ok (.if_icmp .ne 16, 3) := by decide +kernel
theorem dX3_partWith_17 : decode cX3_partWith 17 = .ok (.aload_n 0, 1) := by decide +kernel
theorem dX3_partWith_18 : decode cX3_partWith 18 = .ok (.getfield 9, 3) := by decide +kernel
theorem dX3_partWith_21 : decode cX3_partWith 21 = .ok (.iload_n 3, 1) := by decide +kernel
theorem dX3_partWith_22 : decode cX3_partWith 22 = .ok (.iaload, 1) := by decide +kernel
theorem dX3_partWith_23 : decode cX3_partWith 23 = .ok (.iload_n 2, 1) := by decide +kernel
theorem dX3_partWith_24 : decode cX3_partWith 24 = .ok (.iand, 1) := by decide +kernel
theorem dX3_partWith_25 : decode cX3_partWith 25 = .ok (.ifCond .eq 5, 3) := by decide +kernel
theorem dX3_partWith_28 : decode cX3_partWith 28 = .ok (.iload_n 3, 1) := by decide +kernel
theorem dX3_partWith_29 : decode cX3_partWith 29 = .ok (.ireturn, 1) := by decide +kernel
theorem dX3_partWith_30 : decode cX3_partWith 30 = .ok (.iinc 3 1, 3) := by decide +kernel
theorem dX3_partWith_33 : decode cX3_partWith 33 = .ok (.goto (-31), 3) := by decide +kernel
theorem dX3_partWith_36 : decode cX3_partWith 36 = .ok (.bipush (-9), 2) := by decide +kernel
theorem dX3_partWith_38 : decode cX3_partWith 38 = .ok (.ireturn, 1) := by decide +kernel
set_option maxRecDepth 20000 in
theorem ggX3_kindOf_X3_partsOf : GoodIn wsX3_kindOf wsX3_partsOf := goodIn_r _ [7, 8, 19, 20, 21, 22, 23, 24] (by decide +kernel) (by decide +kernel)
set_option maxRecDepth 20000 in
theorem gX3_kindOf_X3_partsOf : GoodIn wsX3_kindOf (wsV RX3 66 RX3 yX3_partsOf wsX3_partsOf) := goodIn_app (goodIn_of _ (by decide +kernel)) ggX3_kindOf_X3_partsOf
set_option maxRecDepth 20000 in
theorem ggX3_kindOf_X3_part : GoodIn wsX3_kindOf wsX3_part := goodIn_r _ [12, 13, 14, 2, 15, 16, 17, 6, 18, 8, 19, 20, 21, 22, 23, 24] (by decide +kernel) (by decide +kernel)
set_option maxRecDepth 20000 in
theorem gX3_kindOf_X3_part : GoodIn wsX3_kindOf (wsV RX3 69 RX3 yX3_part wsX3_part) := goodIn_app (goodIn_of _ (by decide +kernel)) ggX3_kindOf_X3_part
theorem dX3_kindOf_0 : decode cX3_kindOf 0 = .ok (.aload_n 0, 1) := by decide +kernel
theorem dX3_kindOf_1 : decode cX3_kindOf 1 = .ok (.iload_n 1, 1) := by decide +kernel
theorem dX3_kindOf_2 : decode cX3_kindOf 2 = .ok (.invokevirtual 66, 3) := by decide +kernel
theorem dX3_kindOf_5 : decode cX3_kindOf 5 = .ok (.istore_n 2, 1) := by decide +kernel
theorem dX3_kindOf_6 : decode cX3_kindOf 6 = .ok (.iload_n 2, 1) := by decide +kernel
theorem dX3_kindOf_7 : decode cX3_kindOf 7 = .ok (.ifCond .ne 5, 3) := by decide +kernel
theorem dX3_kindOf_10 : decode cX3_kindOf 10 = .ok (.iconst 0, 1) := by decide +kernel
theorem dX3_kindOf_11 : decode cX3_kindOf 11 = .ok (.ireturn, 1) := by decide +kernel
theorem dX3_kindOf_12 : decode cX3_kindOf 12 = .ok (.iload_n 2, 1) := by decide +kernel
theorem dX3_kindOf_13 : decode cX3_kindOf 13 = .ok (.iconst 2, 1) := by decide +kernel
theorem dX3_kindOf_14 : decode cX3_kindOf 14 = .ok (.if_icmp .ne 5, 3) := by decide +kernel
theorem dX3_kindOf_17 : decode cX3_kindOf 17 = .ok (.iconst 1, 1) := by decide +kernel
theorem dX3_kindOf_18 : decode cX3_kindOf 18 = .ok (.ireturn, 1) := by decide +kernel
theorem dX3_kindOf_19 : decode cX3_kindOf 19 = .ok (.aload_n 0, 1) := by decide +kernel
theorem dX3_kindOf_20 : decode cX3_kindOf 20 = .ok (.iload_n 1, 1) := by decide +kernel
theorem dX3_kindOf_21 : decode cX3_kindOf 21 = .ok (.iconst 0, 1) := by decide +kernel
theorem dX3_kindOf_22 : decode cX3_kindOf 22 = .ok (.invokevirtual 69, 3) := by decide +kernel
theorem dX3_kindOf_25 : decode cX3_kindOf 25 = .ok (.istore_n 3, 1) := by decide +kernel
theorem dX3_kindOf_26 : decode cX3_kindOf 26 = .ok (.aload_n 0, 1) := by decide +kernel
theorem dX3_kindOf_27 : decode cX3_kindOf 27 = .ok (.iload_n 1, 1) := by decide +kernel
theorem dX3_kindOf_28 : decode cX3_kindOf 28 = .ok (.iconst 1, 1) := by decide +kernel
theorem dX3_kindOf_29 : decode cX3_kindOf 29 = .ok (.invokevirtual 69, 3) := by decide +kernel
theorem dX3_kindOf_32 : decode cX3_kindOf 32 = .ok (.istore 4, 2) := by decide +kernel
theorem dX3_kindOf_34 : decode cX3_kindOf 34 = .ok (.iload_n 3, 1) := by decide +kernel
theorem dX3_kindOf_35 : decode cX3_kindOf 35 = .ok (.bipush (-9), 2) := by decide +kernel
theorem dX3_kindOf_37 : decode cX3_kindOf 37 = .ok (.if_icmp .eq 10, 3) := by decide +kernel
theorem dX3_kindOf_40 : decode cX3_kindOf 40 = .ok (.iload 4, 2) := by decide +kernel
theorem dX3_kindOf_42 : decode cX3_kindOf 42 = .ok (.bipush (-9), 2) := by decide +kernel
theorem dX3_kindOf_44 : decode cX3_kindOf 44 = .ok (.if_icmp .ne 5, 3) := by decide +kernel
theorem dX3_kindOf_47 : decode cX3_kindOf 47 = .ok (.iconst 2, 1) := by decide +kernel
theorem dX3_kindOf_48 : decode cX3_kindOf 48 = .ok (.ireturn, 1) := by decide +kernel
theorem dX3_kindOf_49 : decode cX3_kindOf 49 = .ok (.aload_n 0, 1) := by decide +kernel
theorem dX3_kindOf_50 : decode cX3_kindOf 50 = .ok (.getfield 18, 3) := by decide +kernel
theorem dX3_kindOf_53 : decode cX3_kindOf 53 = .ok (.aload_n 0, 1) := by decide +kernel
theorem dX3_kindOf_54 : decode cX3_kindOf 54 = .ok (.getfield 9, 3) := by decide +kernel
theorem dX3_kindOf_57 : decode cX3_kindOf 57 = .ok (.iload_n 3, 1) := by decide +kernel
theorem dX3_kindOf_58 : decode cX3_kindOf 58 = .ok (.iaload, 1) := by decide +kernel
theorem dX3_kindOf_59 : decode cX3_kindOf 59 = .ok (.aload_n 0, 1) := by decide +kernel
theorem dX3_kindOf_60 : decode cX3_kindOf 60 = .ok (.getfield 9, 3) := by decide +kernel
theorem dX3_kindOf_63 : decode cX3_kindOf 63 = .ok (.iload 4, 2) := by decide +kernel
theorem dX3_kindOf_65 : decode cX3_kindOf 65 = .ok (.iaload, 1) := by decide +kernel
theorem dX3_kindOf_66 : decode cX3_kindOf 66 = .ok (.ior, 1) := by decide +kernel
theorem dX3_kindOf_67 : decode cX3_kindOf 67 = .ok (.baload, 1) := by decide +kernel
theorem dX3_kindOf_68 : decode cX3_kindOf 68 = .ok (.ifCond .eq 7, 3) := by decide +kernel
theorem dX3_kindOf_71 : decode cX3_kindOf 71 = .ok (.iconst 3, 1) := by decide +kernel
theorem dX3_kindOf_72 : decode cX3_kindOf 72 = .ok (.goto 4, 3) := by decide +kernel
theorem dX3_kindOf_75 : decode cX3_kindOf 75 = .ok (.iconst 2, 1) := by decide +kernel
theorem dX3_kindOf_76 : decode cX3_kindOf 76 = .ok (.ireturn, 1) := by decide +kernel
set_option maxRecDepth 20000 in
theorem ggX4_init_X0_init : GoodIn wsX4_init wsX0_init := goodIn_r _ [25, 26, 2, 3, 21, 27, 28, 29, 75, 76, 77, 78] (by decide +kernel) (by decide +kernel)
set_option maxRecDepth 20000 in
theorem gX4_init_X0_init_n9 : GoodIn wsX4_init (wsX0_init) := ggX4_init_X0_init
set_option maxRecDepth 20000 in
theorem ggX4_init_X1_init : GoodIn wsX4_init wsX1_init := goodIn_r _ [31, 32, 2, 3, 21, 33, 34, 89, 90, 91, 92] (by decide +kernel) (by decide +kernel)
set_option maxRecDepth 20000 in
theorem gX4_init_X1_init_n18 : GoodIn wsX4_init (wsX1_init) := ggX4_init_X1_init
set_option maxRecDepth 20000 in
theorem ggX4_init_X3_init : GoodIn wsX4_init wsX3_init := goodIn_r _ [36, 37, 2, 3, 21, 38, 39, 40, 41, 42, 93, 94, 95, 96, 97, 98] (by decide +kernel) (by decide +kernel)
set_option maxRecDepth 20000 in
theorem gX4_init_X3_init_n28 : GoodIn wsX4_init (wsX3_init) := ggX4_init_X3_init
set_option maxRecDepth 20000 in
theorem ggX4_init_X2_init : GoodIn wsX4_init wsX2_init := goodIn_r _ [44, 45, 2, 3, 21, 46, 47, 48, 99, 100, 101, 102] (by decide +kernel) (by decide +kernel)
set_option maxRecDepth 20000 in
theorem gX4_init_X2_init_n35 : GoodIn wsX4_init (wsX2_init) := ggX4_init_X2_init
set_option maxRecDepth 20000 in
theorem ggX4_init_X4_layTable : GoodIn wsX4_init wsX4_layTable := goodIn_r _ [53, 54, 7, 11, 55, 56, 57, 10, 58, 59, 60, 33, 61, 62, 63, 64, 34, 65, 66, 67, 68, 69, 70, 71, 52, 72, 73, 74, 79, 80, 81, 82, 83, 84, 85, 86, 87, 88, 75, 76, 77, 78, 89, 90, 91, 92] (by decide +kernel) (by decide +kernel)
set_option maxRecDepth 20000 in
theorem gX4_init_X4_layTable : GoodIn wsX4_init (wsV RX4 47 RX4 yX4_layTable wsX4_layTable) := goodIn_app (goodIn_of _ (by decide +kernel)) ggX4_init_X4_layTable
theorem dX4_init_0 : decode cX4_init 0 = .ok (.aload_n 0, 1) := by decide +kernel
theorem dX4_init_1 : decode cX4_init 1 = .ok (.invokespecial 1, 3) := by decide +kernel
theorem dX4_init_4 : decode cX4_init 4 = .ok (.aload_n 0, 1) := by decide +kernel
theorem dX4_init_5 : decode cX4_init 5 = .ok (.new 7, 3) := by decide +kernel
theorem dX4_init_8 : decode cX4_init 8 = .ok (.dup, 1) := by decide +kernel
theorem dX4_init_9 : decode cX4_init 9 = .ok (.invokespecial 9, 3) := by decide +kernel
theorem dX4_init_12 : decode cX4_init 12 = .ok (.putfield 10, 3) := by decide +kernel
theorem dX4_init_15 : decode cX4_init 15 = .ok (.aload_n 0, 1) := by decide +kernel
theorem dX4_init_16 : decode cX4_init 16 = .ok (.new 16, 3) := by decide +kernel
theorem dX4_init_19 : decode cX4_init 19 = .ok (.dup, 1) := by decide +kernel
theorem dX4_init_20 : decode cX4_init 20 = .ok (.invokespecial 18, 3) := by decide +kernel
theorem dX4_init_23 : decode cX4_init 23 = .ok (.putfield 19, 3) := by decide +kernel
theorem dX4_init_26 : decode cX4_init 26 = .ok (.aload_n 0, 1) := by decide +kernel
theorem dX4_init_27 : decode cX4_init 27 = .ok (.new 16, 3) := by decide +kernel
theorem dX4_init_30 : decode cX4_init 30 = .ok (.dup, 1) := by decide +kernel
theorem dX4_init_31 : decode cX4_init 31 = .ok (.invokespecial 18, 3) := by decide +kernel
theorem dX4_init_34 : decode cX4_init 34 = .ok (.putfield 23, 3) := by decide +kernel
theorem dX4_init_37 : decode cX4_init 37 = .ok (.aload_n 0, 1) := by decide +kernel
theorem dX4_init_38 : decode cX4_init 38 = .ok (.new 26, 3) := by decide +kernel
theorem dX4_init_41 : decode cX4_init 41 = .ok (.dup, 1) := by decide +kernel
theorem dX4_init_42 : decode cX4_init 42 = .ok (.invokespecial 28, 3) := by decide +kernel
theorem dX4_init_45 : decode cX4_init 45 = .ok (.putfield 29, 3) := by decide +kernel
theorem dX4_init_48 : decode cX4_init 48 = .ok (.aload_n 0, 1) := by decide +kernel
theorem dX4_init_49 : decode cX4_init 49 = .ok (.new 33, 3) := by decide +kernel
theorem dX4_init_52 : decode cX4_init 52 = .ok (.dup, 1) := by decide +kernel
theorem dX4_init_53 : decode cX4_init 53 = .ok (.invokespecial 35, 3) := by decide +kernel
theorem dX4_init_56 : decode cX4_init 56 = .ok (.putfield 36, 3) := by decide +kernel
theorem dX4_init_59 : decode cX4_init 59 = .ok (.aload_n 0, 1) := by decide +kernel
theorem dX4_init_60 : decode cX4_init 60 = .ok (.bipush 8, 2) := by decide +kernel
theorem dX4_init_62 : decode cX4_init 62 = .ok (.newarray .int, 2) := by decide +kernel
theorem dX4_init_64 : decode cX4_init 64 = .ok (.putfield 40, 3) := by decide +kernel
theorem dX4_init_67 : decode cX4_init 67 = .ok (.aload_n 0, 1) := by decide +kernel
theorem dX4_init_68 : decode cX4_init 68 = .ok (.bipush 7, 2) := by decide +kernel
theorem dX4_init_70 : decode cX4_init 70 = .ok (.newarray .int, 2) := by decide +kernel
theorem dX4_init_72 : decode cX4_init 72 = .ok (.putfield 44, 3) := by decide +kernel
theorem dX4_init_75 : decode cX4_init 75 = .ok (.aload_n 0, 1) := by decide +kernel
theorem dX4_init_76 : decode cX4_init 76 = .ok (.iconst 1, 1) := by decide +kernel
theorem dX4_init_77 : decode cX4_init 77 = .ok (.invokevirtual 47, 3) := by decide +kernel
theorem dX4_init_80 : decode cX4_init 80 = .ok (.return_, 1) := by decide +kernel
set_option maxRecDepth 20000 in
theorem ggX4_table_X4_refuse : GoodIn wsX4_table wsX4_refuse := goodIn_r _ [5, 6, 37, 38, 39, 40, 41, 42, 43, 44, 45, 46] (by decide +kernel) (by decide +kernel)
set_option maxRecDepth 20000 in
theorem gX4_table_X4_refuse : GoodIn wsX4_table (wsV RX4 51 RX4 yX4_refuse wsX4_refuse) := goodIn_app (goodIn_of _ (by decide +kernel)) ggX4_table_X4_refuse
set_option maxRecDepth 20000 in
theorem ggX4_table_X4_layTable : GoodIn wsX4_table wsX4_layTable := goodIn_r _ [10, 11, 12, 13, 14, 15, 16, 17, 18, 19, 20, 21, 22, 23, 24, 25, 26, 27, 28, 29, 30, 31, 32, 33, 4, 34, 35, 36, 37, 38, 39, 40, 41, 42, 43, 44, 45, 46, 47, 48, 49, 50, 51, 52, 53, 54] (by decide +kernel) (by decide +kernel)
set_option maxRecDepth 20000 in
theorem gX4_table_X4_layTable : GoodIn wsX4_table (wsV RX4 47 RX4 yX4_layTable wsX4_layTable) := goodIn_app (goodIn_of _ (by decide +kernel)) ggX4_table_X4_layTable
theorem dX4_table_0 : decode cX4_table 0 = .ok (.iload_n 1, 1) := by decide +kernel
theorem dX4_table_1 : decode cX4_table 1 = .ok (.iconst 1, 1) := by decide +kernel
theorem dX4_table_2 : decode cX4_table 2 = .ok (.if_icmp .ge 10, 3) := by decide +kernel
theorem dX4_table_5 : decode cX4_table 5 = .ok (.aload_n 0, 1) := by decide +kernel
theorem dX4_table_6 : decode cX4_table 6 = .ok (.bipush (-4), 2) := by decide +kernel
theorem dX4_table_8 : decode cX4_table 8 = .ok (.invokevirtual 51, 3) := by decide +kernel
theorem dX4_table_11 : decode cX4_table 11 = .ok (.ireturn, 1) := by decide +kernel
theorem dX4_table_12 : decode cX4_table 12 = .ok (.iload_n 1, 1) := by decide +kernel
theorem dX4_table_13 : decode cX4_table 13 = .ok (.bipush 8, 2) := by decide +kernel
theorem dX4_table_15 : decode cX4_table 15 = .ok (.if_icmp .le 10, 3) := by decide +kernel
theorem dX4_table_18 : decode cX4_table 18 = .ok (.aload_n 0, 1) := by decide +kernel
theorem dX4_table_19 : decode cX4_table 19 = .ok (.bipush (-6), 2) := by decide +kernel
theorem dX4_table_21 : decode cX4_table 21 = .ok (.invokevirtual 51, 3) := by decide +kernel
theorem dX4_table_24 : decode cX4_table 24 = .ok (.ireturn, 1) := by decide +kernel
theorem dX4_table_25 : decode cX4_table 25 = .ok (.aload_n 0, 1) := by decide +kernel
theorem dX4_table_26 : decode cX4_table 26 = .ok (.iload_n 1, 1) := by decide +kernel
theorem dX4_table_27 : decode cX4_table 27 = .ok (.invokevirtual 47, 3) := by decide +kernel
theorem dX4_table_30 : decode cX4_table 30 = .ok (.iconst 1, 1) := by decide +kernel
theorem dX4_table_31 : decode cX4_table 31 = .ok (.ireturn, 1) := by decide +kernel
set_option maxRecDepth 20000 in
theorem ggX4_line_X4_isSet : GoodIn wsX4_line wsX4_isSet := goodIn_r _ [6, 7, 8, 9, 5, 10, 11, 75, 76, 77, 78, 79, 80, 81, 82, 83, 84] (by decide +kernel) (by decide +kernel)
set_option maxRecDepth 20000 in
theorem gX4_line_X4_isSet : GoodIn wsX4_line (wsV RX4 55 RX4 yX4_isSet wsX4_isSet) := goodIn_app (goodIn_of _ (by decide +kernel)) ggX4_line_X4_isSet
set_option maxRecDepth 20000 in
theorem ggX4_line_X4_refuse : GoodIn wsX4_line wsX4_refuse := goodIn_r _ [15, 16, 75, 76, 77, 78, 79, 80, 81, 82, 83, 84] (by decide +kernel) (by decide +kernel)
set_option maxRecDepth 20000 in
theorem gX4_line_X4_refuse : GoodIn wsX4_line (wsV RX4 51 RX4 yX4_refuse wsX4_refuse) := goodIn_app (goodIn_of _ (by decide +kernel)) ggX4_line_X4_refuse
set_option maxRecDepth 20000 in
theorem ggX4_line_X0_add : GoodIn wsX4_line wsX0_add := goodIn_r _ [21, 22, 23, 24, 25, 85, 86, 87, 88] (by decide +kernel) (by decide +kernel)
set_option maxRecDepth 20000 in
theorem gX4_line_X0_add : GoodIn wsX4_line (wsV RX4 63 RX0 yX0_add wsX0_add) := goodIn_app (goodIn_of _ (by decide +kernel)) ggX4_line_X0_add
set_option maxRecDepth 20000 in
theorem ggX4_line_X4_takeOrLeave : GoodIn wsX4_line wsX4_takeOrLeave := goodIn_r _ [29, 1, 30, 31, 32, 33, 5, 34, 35, 36, 37, 38, 39, 40, 41, 42, 43, 44, 45, 46, 47, 48, 49, 50, 51, 52, 53, 54, 55, 56, 57, 58, 59, 60, 61, 62, 63, 64, 65, 66, 67, 68, 69, 70, 71, 72, 73, 74, 75, 76, 77, 78, 79, 80, 81, 82, 83, 84, 85, 86, 87, 88, 89, 90, 91, 92] (by decide +kernel) (by decide +kernel)
set_option maxRecDepth 20000 in
theorem gX4_line_X4_takeOrLeave : GoodIn wsX4_line (wsV RX4 66 RX4 yX4_takeOrLeave wsX4_takeOrLeave) := goodIn_app (goodIn_of _ (by decide +kernel)) ggX4_line_X4_takeOrLeave
theorem dX4_line_0 : decode cX4_line 0 = .ok (.aload_n 0, 1) := by decide +kernel
theorem dX4_line_1 : decode cX4_line 1 = .ok (.iload_n 1, 1) := by decide +kernel
theorem dX4_line_2 : decode cX4_line 2 = .ok (.invokevirtual 55, 3) := by decide +kernel
theorem dX4_line_5 : decode cX4_line 5 = .ok (.ifCond .ne 10, 3) := by decide +kernel
theorem dX4_line_8 : decode cX4_line 8 = .ok (.aload_n 0, 1) := by decide +kernel
theorem dX4_line_9 : decode cX4_line 9 = .ok (.bipush (-2), 2) := by decide +kernel
theorem dX4_line_11 : decode cX4_line 11 = .ok (.invokevirtual 51, 3) := by decide +kernel
theorem dX4_line_14 : decode cX4_line 14 = .ok (.ireturn, 1) := by decide +kernel
theorem dX4_line_15 : decode cX4_line 15 = .ok (.aload_n 0, 1) := by decide +kernel
theorem dX4_line_16 : decode cX4_line 16 = .ok (.getfield 10, 3) := by decide +kernel
theorem dX4_line_19 : decode cX4_line 19 = .ok (.getfield 59, 3) := by decide +kernel
theorem dX4_line_22 : decode cX4_line 22 = .ok (.bipush 40, 2) := by decide +kernel
theorem dX4_line_24 : decode cX4_line 24 = .ok (.if_icmp .lt 10, 3) := by decide +kernel
theorem dX4_line_27 : decode cX4_line 27 = .ok (.aload_n 0, 1) := by decide +kernel
theorem dX4_line_28 : decode cX4_line 28 = .ok (.bipush (-6), 2) := by decide +kernel
theorem dX4_line_30 : decode cX4_line 30 = .ok (.invokevirtual 51, 3) := by decide +kernel
theorem dX4_line_33 : decode cX4_line 33 = .ok (.ireturn, 1) := by decide +kernel
theorem dX4_line_34 : decode cX4_line 34 = .ok (.aload_n 0, 1) := by decide +kernel
theorem dX4_line_35 : decode cX4_line 35 = .ok (.getfield 10, 3) := by decide +kernel
theorem dX4_line_38 : decode cX4_line 38 = .ok (.iload_n 1, 1) := by decide +kernel
theorem dX4_line_39 : decode cX4_line 39 = .ok (.invokevirtual 63, 3) := by decide +kernel
theorem dX4_line_42 : decode cX4_line 42 = .ok (.istore_n 2, 1) := by decide +kernel
theorem dX4_line_43 : decode cX4_line 43 = .ok (.aload_n 0, 1) := by decide +kernel
theorem dX4_line_44 : decode cX4_line 44 = .ok (.iload_n 2, 1) := by decide +kernel
theorem dX4_line_45 : decode cX4_line 45 = .ok (.invokevirtual 66, 3) := by decide +kernel
theorem dX4_line_48 : decode cX4_line 48 = .ok (.iload_n 2, 1) := by decide +kernel
theorem dX4_line_49 : decode cX4_line 49 = .ok (.ireturn, 1) := by decide +kernel
set_option maxRecDepth 20000 in
theorem ggX4_drop_X0_has : GoodIn wsX4_drop wsX0_has := goodIn_r _ [7, 8, 65, 66, 67, 68] (by decide +kernel) (by decide +kernel)
set_option maxRecDepth 20000 in
theorem gX4_drop_X0_has : GoodIn wsX4_drop (wsV RX4 69 RX0 yX0_has wsX0_has) := goodIn_app (goodIn_of _ (by decide +kernel)) ggX4_drop_X0_has
set_option maxRecDepth 20000 in
theorem ggX4_drop_X4_refuse : GoodIn wsX4_drop wsX4_refuse := goodIn_r _ [13, 14, 55, 56, 57, 58, 59, 60, 61, 62, 63, 64] (by decide +kernel) (by decide +kernel)
set_option maxRecDepth 20000 in
theorem gX4_drop_X4_refuse : GoodIn wsX4_drop (wsV RX4 51 RX4 yX4_refuse wsX4_refuse) := goodIn_app (goodIn_of _ (by decide +kernel)) ggX4_drop_X4_refuse
set_option maxRecDepth 20000 in
theorem ggX4_drop_X4_keepTaken : GoodIn wsX4_drop wsX4_keepTaken := goodIn_r _ [18, 19, 1, 20, 21, 22, 23, 24, 25, 26, 27, 28, 29, 30, 31, 32, 33, 34, 35, 36, 37, 38, 39, 40, 55, 56, 57, 58, 59, 60, 61, 62, 63, 64, 65, 66, 67, 68, 69, 70, 71, 72] (by decide +kernel) (by decide +kernel)
set_option maxRecDepth 20000 in
theorem gX4_drop_X4_keepTaken : GoodIn wsX4_drop (wsV RX4 75 RX4 yX4_keepTaken wsX4_keepTaken) := goodIn_app (goodIn_of _ (by decide +kernel)) ggX4_drop_X4_keepTaken
set_option maxRecDepth 20000 in
theorem ggX4_drop_X1_closeDeadWays : GoodIn wsX4_drop wsX1_closeDeadWays := goodIn_r _ [44, 26, 27, 25, 36, 45, 46, 47, 23, 48, 37, 38, 39, 40, 69, 70, 71, 72] (by decide +kernel) (by decide +kernel)
set_option maxRecDepth 20000 in
theorem gX4_drop_X1_closeDeadWays : GoodIn wsX4_drop (wsV RX4 79 RX1 yX1_closeDeadWays wsX1_closeDeadWays) := goodIn_app (goodIn_of _ (by decide +kernel)) ggX4_drop_X1_closeDeadWays
set_option maxRecDepth 20000 in
theorem ggX4_drop_X4_forgetDerived : GoodIn wsX4_drop wsX4_forgetDerived := goodIn_r _ [52, 53, 54, 55, 56, 57, 58, 59, 60, 61, 62, 63, 64] (by decide +kernel) (by decide +kernel)
set_option maxRecDepth 20000 in
theorem gX4_drop_X4_forgetDerived : GoodIn wsX4_drop (wsV RX4 82 RX4 yX4_forgetDerived wsX4_forgetDerived) := goodIn_app (goodIn_of _ (by decide +kernel)) ggX4_drop_X4_forgetDerived
theorem dX4_drop_0 : decode cX4_drop 0 = .ok (.aload_n 0, 1) := by decide +kernel
theorem dX4_drop_1 : decode cX4_drop 1 = .ok (.getfield 10, 3) := by decide +kernel
theorem dX4_drop_4 : decode cX4_drop 4 = .ok (.iload_n 1, 1) := by decide +kernel
theorem dX4_drop_5 : decode cX4_drop 5 = .ok (.invokevirtual 69, 3) := by decide +kernel
theorem dX4_drop_8 : decode cX4_drop 8 = .ok (.ifCond .ne 9, 3) := by decide +kernel
theorem dX4_drop_11 : decode cX4_drop 11 = .ok (.aload_n 0, 1) := by decide +kernel
theorem dX4_drop_12 : decode cX4_drop 12 = .ok (.iconst (-1), 1) := by decide +kernel
theorem dX4_drop_13 : decode cX4_drop 13 = .ok (.invokevirtual 51, 3) := by decide +kernel
theorem dX4_drop_16 : decode cX4_drop 16 = .ok (.ireturn, 1) := by decide +kernel
theorem dX4_drop_17 : decode cX4_drop 17 = .ok (.aload_n 0, 1) := by decide +kernel
theorem dX4_drop_18 : decode cX4_drop 18 = .ok (.getfield 10, 3) := by decide +kernel
theorem dX4_drop_21 : decode cX4_drop 21 = .ok (.getfield 72, 3) := by decide +kernel
theorem dX4_drop_24 : decode cX4_drop 24 = .ok (.iload_n 1, 1) := by decide +kernel
theorem dX4_drop_25 : decode cX4_drop 25 = .ok (.iaload, 1) := by decide +kernel
theorem dX4_drop_26 : decode cX4_drop 26 = .ok (.istore_n 2, 1) := by decide +kernel
theorem dX4_drop_27 : decode cX4_drop 27 = .ok (.iload_n 2, 1) := by decide +kernel
theorem dX4_drop_28 : decode cX4_drop 28 = .ok (.iconst 2, 1) := by decide +kernel
theorem dX4_drop_29 : decode cX4_drop 29 = .ok (.if_icmp .ne 10, 3) := by decide +kernel
theorem dX4_drop_32 : decode cX4_drop 32 = .ok (.aload_n 0, 1) := by decide +kernel
theorem dX4_drop_33 : decode cX4_drop 33 = .ok (.bipush (-3), 2) := by decide +kernel
theorem dX4_drop_35 : decode cX4_drop 35 = .ok (.invokevirtual 51, 3) := by decide +kernel
theorem dX4_drop_38 : decode cX4_drop 38 = .ok (.ireturn, 1) := by decide +kernel
theorem dX4_drop_39 : decode cX4_drop 39 = .ok (.aload_n 0, 1) := by decide +kernel
theorem dX4_drop_40 : decode cX4_drop 40 = .ok (.getfield 10, 3) := by decide +kernel
theorem dX4_drop_43 : decode cX4_drop 43 = .ok (.getfield 72, 3) := by decide +kernel
theorem dX4_drop_46 : decode cX4_drop 46 = .ok (.iload_n 1, 1) := by decide +kernel
theorem dX4_drop_47 : decode cX4_drop 47 = .ok (.iconst 2, 1) := by decide +kernel
theorem dX4_drop_48 : decode cX4_drop 48 = .ok (.iastore, 1) := by decide +kernel
theorem dX4_drop_49 : decode cX4_drop 49 = .ok (.iload_n 2, 1) := by decide +kernel
theorem dX4_drop_50 : decode cX4_drop 50 = .ok (.ifCond .ne 21, 3) := by decide +kernel
theorem dX4_drop_53 : decode cX4_drop 53 = .ok (.aload_n 0, 1) := by decide +kernel
theorem dX4_drop_54 : decode cX4_drop 54 = .ok (.aload_n 0, 1) := by decide +kernel
theorem dX4_drop_55 : decode cX4_drop 55 = .ok (.getfield 19, 3) := by decide +kernel
theorem dX4_drop_58 : decode cX4_drop 58 = .ok (.bipush (-9), 2) := by decide +kernel
theorem dX4_drop_60 : decode cX4_drop 60 = .ok (.invokevirtual 75, 3) := by decide +kernel
theorem dX4_drop_63 : decode cX4_drop 63 = .ok (.pop, 1) := by decide +kernel
theorem dX4_drop_64 : decode cX4_drop 64 = .ok (.aload_n 0, 1) := by decide +kernel
theorem dX4_drop_65 : decode cX4_drop 65 = .ok (.getfield 19, 3) := by decide +kernel
theorem dX4_drop_68 : decode cX4_drop 68 = .ok (.invokevirtual 79, 3) := by decide +kernel
theorem dX4_drop_71 : decode cX4_drop 71 = .ok (.aload_n 0, 1) := by decide +kernel
theorem dX4_drop_72 : decode cX4_drop 72 = .ok (.invokevirtual 82, 3) := by decide +kernel
theorem dX4_drop_75 : decode cX4_drop 75 = .ok (.iconst 1, 1) := by decide +kernel
theorem dX4_drop_76 : decode cX4_drop 76 = .ok (.ireturn, 1) := by decide +kernel
set_option maxRecDepth 20000 in
theorem ggX4_again_X0_has : GoodIn wsX4_again wsX0_has := goodIn_r _ [6, 7, 73, 74, 75, 76] (by decide +kernel) (by decide +kernel)
set_option maxRecDepth 20000 in
theorem gX4_again_X0_has : GoodIn wsX4_again (wsV RX4 69 RX0 yX0_has wsX0_has) := goodIn_app (goodIn_of _ (by decide +kernel)) ggX4_again_X0_has
set_option maxRecDepth 20000 in
theorem ggX4_again_X4_refuse : GoodIn wsX4_again wsX4_refuse := goodIn_r _ [12, 13, 63, 64, 65, 66, 67, 68, 69, 70, 71, 72] (by decide +kernel) (by decide +kernel)
set_option maxRecDepth 20000 in
theorem gX4_again_X4_refuse : GoodIn wsX4_again (wsV RX4 51 RX4 yX4_refuse wsX4_refuse) := goodIn_app (goodIn_of _ (by decide +kernel)) ggX4_again_X4_refuse
set_option maxRecDepth 20000 in
theorem ggX4_again_X4_takeOrLeave : GoodIn wsX4_again wsX4_takeOrLeave := goodIn_r _ [17, 1, 18, 19, 20, 21, 11, 22, 23, 24, 25, 26, 27, 28, 29, 30, 31, 32, 33, 34, 35, 36, 37, 38, 39, 40, 41, 42, 43, 44, 45, 46, 47, 48, 49, 50, 51, 52, 53, 54, 55, 56, 57, 58, 59, 60, 61, 62, 63, 64, 65, 66, 67, 68, 69, 70, 71, 72, 73, 74, 75, 76, 77, 78, 79, 80] (by decide +kernel) (by decide +kernel)
set_option maxRecDepth 20000 in
theorem gX4_again_X4_takeOrLeave : GoodIn wsX4_again (wsV RX4 66 RX4 yX4_takeOrLeave wsX4_takeOrLeave) := goodIn_app (goodIn_of _ (by decide +kernel)) ggX4_again_X4_takeOrLeave
theorem dX4_again_0 : decode cX4_again 0 = .ok (.aload_n 0, 1) := by decide +kernel
theorem dX4_again_1 : decode cX4_again 1 = .ok (.getfield 10, 3) := by decide +kernel
theorem dX4_again_4 : decode cX4_again 4 = .ok (.iload_n 1, 1) := by decide +kernel
theorem dX4_again_5 : decode cX4_again 5 = .ok (.invokevirtual 69, 3) := by decide +kernel
theorem dX4_again_8 : decode cX4_again 8 = .ok (.ifCond .ne 9, 3) := by decide +kernel
theorem dX4_again_11 : decode cX4_again 11 = .ok (.aload_n 0, 1) := by decide +kernel
theorem dX4_again_12 : decode cX4_again 12 = .ok (.iconst (-1), 1) := by decide +kernel
theorem dX4_again_13 : decode cX4_again 13 = .ok (.invokevirtual 51, 3) := by decide +kernel
theorem dX4_again_16 : decode cX4_again 16 = .ok (.ireturn, 1) := by decide +kernel
theorem dX4_again_17 : decode cX4_again 17 = .ok (.aload_n 0, 1) := by decide +kernel
theorem dX4_again_18 : decode cX4_again 18 = .ok (.getfield 10, 3) := by decide +kernel
theorem dX4_again_21 : decode cX4_again 21 = .ok (.getfield 72, 3) := by decide +kernel
theorem dX4_again_24 : decode cX4_again 24 = .ok (.iload_n 1, 1) := by decide +kernel
theorem dX4_again_25 : decode cX4_again 25 = .ok (.iaload, 1) := by decide +kernel
theorem dX4_again_26 : decode cX4_again 26 = .ok (.ifCond .ne 10, 3) := by decide +kernel
theorem dX4_again_29 : decode cX4_again 29 = .ok (.aload_n 0, 1) := by decide +kernel
theorem dX4_again_30 : decode cX4_again 30 = .ok (.bipush (-3), 2) := by decide +kernel
theorem dX4_again_32 : decode cX4_again 32 = .ok (.invokevirtual 51, 3) := by decide +kernel
theorem dX4_again_35 : decode cX4_again 35 = .ok (.ireturn, 1) := by decide +kernel
theorem dX4_again_36 : decode cX4_again 36 = .ok (.aload_n 0, 1) := by decide +kernel
theorem dX4_again_37 : decode cX4_again 37 = .ok (.iload_n 1, 1) := by decide +kernel
theorem dX4_again_38 : decode cX4_again 38 = .ok (.invokevirtual 66, 3) := by decide +kernel
theorem dX4_again_41 : decode cX4_again 41 = .ok (.aload_n 0, 1) := by decide +kernel
theorem dX4_again_42 : decode cX4_again 42 = .ok (.getfield 10, 3) := by decide +kernel
theorem dX4_again_45 : decode cX4_again 45 = .ok (.getfield 72, 3) := by decide +kernel
theorem dX4_again_48 : decode cX4_again 48 = .ok (.iload_n 1, 1) := by decide +kernel
theorem dX4_again_49 : decode cX4_again 49 = .ok (.iaload, 1) := by decide +kernel
theorem dX4_again_50 : decode cX4_again 50 = .ok (.ifCond .ne 7, 3) := by decide +kernel
theorem dX4_again_53 : decode cX4_again 53 = .ok (.iconst 1, 1) := by decide +kernel
theorem dX4_again_54 : decode cX4_again 54 = .ok (.goto 4, 3) := by decide +kernel
theorem dX4_again_57 : decode cX4_again 57 = .ok (.iconst 0, 1) := by decide +kernel
theorem dX4_again_58 : decode cX4_again 58 = .ok (.ireturn, 1) := by decide +kernel
set_option maxRecDepth 20000 in
theorem ggX4_weight_X0_has : GoodIn wsX4_weight wsX0_has := goodIn_r _ [7, 8, 25, 26, 27, 28] (by decide +kernel) (by decide +kernel)
set_option maxRecDepth 20000 in
theorem gX4_weight_X0_has : GoodIn wsX4_weight (wsV RX4 69 RX0 yX0_has wsX0_has) := goodIn_app (goodIn_of _ (by decide +kernel)) ggX4_weight_X0_has
set_option maxRecDepth 20000 in
theorem ggX4_weight_X4_refuse : GoodIn wsX4_weight wsX4_refuse := goodIn_r _ [13, 14, 15, 16, 17, 18, 19, 20, 21, 22, 23, 24] (by decide +kernel) (by decide +kernel)
set_option maxRecDepth 20000 in
theorem gX4_weight_X4_refuse : GoodIn wsX4_weight (wsV RX4 51 RX4 yX4_refuse wsX4_refuse) := goodIn_app (goodIn_of _ (by decide +kernel)) ggX4_weight_X4_refuse
theorem dX4_weight_0 : decode cX4_weight 0 = .ok (.aload_n 0, 1) := by decide +kernel
theorem dX4_weight_1 : decode cX4_weight 1 = .ok (.getfield 10, 3) := by decide +kernel
theorem dX4_weight_4 : decode cX4_weight 4 = .ok (.iload_n 1, 1) := by decide +kernel
theorem dX4_weight_5 : decode cX4_weight 5 = .ok (.invokevirtual 69, 3) := by decide +kernel
theorem dX4_weight_8 : decode cX4_weight 8 = .ok (.ifCond .ne 9, 3) := by decide +kernel
theorem dX4_weight_11 : decode cX4_weight 11 = .ok (.aload_n 0, 1) := by decide +kernel
theorem dX4_weight_12 : decode cX4_weight 12 = .ok (.iconst (-1), 1) := by decide +kernel
theorem dX4_weight_13 : decode cX4_weight 13 = .ok (.invokevirtual 51, 3) := by decide +kernel
theorem dX4_weight_16 : decode cX4_weight 16 = .ok (.ireturn, 1) := by decide +kernel
theorem dX4_weight_17 : decode cX4_weight 17 = .ok (.iload_n 2, 1) := by decide +kernel
theorem dX4_weight_18 : decode cX4_weight 18 = .ok (.ifCond .ge 10, 3) := by decide +kernel
theorem dX4_weight_21 : decode cX4_weight 21 = .ok (.aload_n 0, 1) := by decide +kernel
theorem dX4_weight_22 : decode cX4_weight 22 = .ok (.bipush (-4), 2) := by decide +kernel
theorem dX4_weight_24 : decode cX4_weight 24 = .ok (.invokevirtual 51, 3) := by decide +kernel
theorem dX4_weight_27 : decode cX4_weight 27 = .ok (.ireturn, 1) := by decide +kernel
theorem dX4_weight_28 : decode cX4_weight 28 = .ok (.iload_n 2, 1) := by decide +kernel
theorem dX4_weight_29 : decode cX4_weight 29 = .ok (.bipush 100, 2) := by decide +kernel
theorem dX4_weight_31 : decode cX4_weight 31 = .ok (.if_icmp .le 10, 3) := by decide +kernel
theorem dX4_weight_34 : decode cX4_weight 34 = .ok (.aload_n 0, 1) := by decide +kernel
theorem dX4_weight_35 : decode cX4_weight 35 = .ok (.bipush (-6), 2) := by decide +kernel
theorem dX4_weight_37 : decode cX4_weight 37 = .ok (.invokevirtual 51, 3) := by decide +kernel
theorem dX4_weight_40 : decode cX4_weight 40 = .ok (.ireturn, 1) := by decide +kernel
theorem dX4_weight_41 : decode cX4_weight 41 = .ok (.aload_n 0, 1) := by decide +kernel
theorem dX4_weight_42 : decode cX4_weight 42 = .ok (.getfield 10, 3) := by decide +kernel
theorem dX4_weight_45 : decode cX4_weight 45 = .ok (.getfield 85, 3) := by decide +kernel
theorem dX4_weight_48 : decode cX4_weight 48 = .ok (.iload_n 1, 1) := by decide +kernel
theorem dX4_weight_49 : decode cX4_weight 49 = .ok (.iaload, 1) := by decide +kernel
theorem dX4_weight_50 : decode cX4_weight 50 = .ok (.istore_n 3, 1) := by decide +kernel
theorem dX4_weight_51 : decode cX4_weight 51 = .ok (.aload_n 0, 1) := by decide +kernel
theorem dX4_weight_52 : decode cX4_weight 52 = .ok (.getfield 10, 3) := by decide +kernel
theorem dX4_weight_55 : decode cX4_weight 55 = .ok (.getfield 85, 3) := by decide +kernel
theorem dX4_weight_58 : decode cX4_weight 58 = .ok (.iload_n 1, 1) := by decide +kernel
theorem dX4_weight_59 : decode cX4_weight 59 = .ok (.iload_n 2, 1) := by decide +kernel
theorem dX4_weight_60 : decode cX4_weight 60 = .ok (.iastore, 1) := by decide +kernel
theorem dX4_weight_61 : decode cX4_weight 61 = .ok (.aload_n 0, 1) := by decide +kernel
theorem dX4_weight_62 : decode cX4_weight 62 = .ok (.iconst 1, 1) := by decide +kernel
theorem dX4_weight_63 : decode cX4_weight 63 = .ok (.putfield 88, 3) := by decide +kernel
theorem dX4_weight_66 : decode cX4_weight 66 = .ok (.iload_n 3, 1) := by decide +kernel
theorem dX4_weight_67 : decode cX4_weight 67 = .ok (.ireturn, 1) := by decide +kernel
set_option maxRecDepth 20000 in
theorem ggX4_lineOf_X0_has : GoodIn wsX4_lineOf wsX0_has := goodIn_r _ [6, 7, 31, 32, 33, 34] (by decide +kernel) (by decide +kernel)
set_option maxRecDepth 20000 in
theorem gX4_lineOf_X0_has : GoodIn wsX4_lineOf (wsV RX4 69 RX0 yX0_has wsX0_has) := goodIn_app (goodIn_of _ (by decide +kernel)) ggX4_lineOf_X0_has
set_option maxRecDepth 20000 in
theorem ggX4_lineOf_X4_refuse : GoodIn wsX4_lineOf wsX4_refuse := goodIn_r _ [12, 13, 21, 22, 23, 24, 25, 26, 27, 28, 29, 30] (by decide +kernel) (by decide +kernel)
set_option maxRecDepth 20000 in
theorem gX4_lineOf_X4_refuse : GoodIn wsX4_lineOf (wsV RX4 51 RX4 yX4_refuse wsX4_refuse) := goodIn_app (goodIn_of _ (by decide +kernel)) ggX4_lineOf_X4_refuse
set_option maxRecDepth 20000 in
theorem ggX4_lineOf_J6_bitCount_0f7a4 : GoodIn wsX4_lineOf wsJ6_bitCount_0f7a4 := goodIn_r _ [17, 18, 19, 20] (by decide +kernel) (by decide +kernel)
set_option maxRecDepth 20000 in
theorem gX4_lineOf_J6_bitCount_0f7a4 : GoodIn wsX4_lineOf (va_wsS RX4 95 yJ6_bitCount_0f7a4 wsJ6_bitCount_0f7a4) := goodIn_app (goodIn_of _ (by decide +kernel)) ggX4_lineOf_J6_bitCount_0f7a4
theorem dX4_lineOf_0 : decode cX4_lineOf 0 = .ok (.aload_n 0, 1) := by decide +kernel
theorem dX4_lineOf_1 : decode cX4_lineOf 1 = .ok (.getfield 10, 3) := by decide +kernel
theorem dX4_lineOf_4 : decode cX4_lineOf 4 = .ok (.iload_n 1, 1) := by decide +kernel
theorem dX4_lineOf_5 : decode cX4_lineOf 5 = .ok (.invokevirtual 69, 3) := by decide +kernel
theorem dX4_lineOf_8 : decode cX4_lineOf 8 = .ok (.ifCond .ne 9, 3) := by decide +kernel
theorem dX4_lineOf_11 : decode cX4_lineOf 11 = .ok (.aload_n 0, 1) := by decide +kernel
theorem dX4_lineOf_12 : decode cX4_lineOf 12 = .ok (.iconst (-1), 1) := by decide +kernel
theorem dX4_lineOf_13 : decode cX4_lineOf 13 = .ok (.invokevirtual 51, 3) := by decide +kernel
theorem dX4_lineOf_16 : decode cX4_lineOf 16 = .ok (.ireturn, 1) := by decide +kernel
theorem dX4_lineOf_17 : decode cX4_lineOf 17 = .ok (.iload_n 2, 1) := by decide +kernel
theorem dX4_lineOf_18 : decode cX4_lineOf 18 = .ok (.tableswitch 73 0 3 #[30, 40, 50, 60], 30) := by decide +kernel
theorem dX4_lineOf_48 : decode cX4_lineOf 48 = .ok (.aload_n 0, 1) := by decide +kernel
theorem dX4_lineOf_49 : decode cX4_lineOf 49 = .ok (.getfield 10, 3) := by decide +kernel
theorem dX4_lineOf_52 : decode cX4_lineOf 52 = .ok (.getfield 92, 3) := by decide +kernel
theorem dX4_lineOf_55 : decode cX4_lineOf 55 = .ok (.iload_n 1, 1) := by decide +kernel
theorem dX4_lineOf_56 : decode cX4_lineOf 56 = .ok (.iaload, 1) := by decide +kernel
theorem dX4_lineOf_57 : decode cX4_lineOf 57 = .ok (.ireturn, 1) := by decide +kernel
theorem dX4_lineOf_58 : decode cX4_lineOf 58 = .ok (.aload_n 0, 1) := by decide +kernel
theorem dX4_lineOf_59 : decode cX4_lineOf 59 = .ok (.getfield 10, 3) := by decide +kernel
theorem dX4_lineOf_62 : decode cX4_lineOf 62 = .ok (.getfield 72, 3) := by decide +kernel
theorem dX4_lineOf_65 : decode cX4_lineOf 65 = .ok (.iload_n 1, 1) := by decide +kernel
theorem dX4_lineOf_66 : decode cX4_lineOf 66 = .ok (.iaload, 1) := by decide +kernel
theorem dX4_lineOf_67 : decode cX4_lineOf 67 = .ok (.ireturn, 1) := by decide +kernel
theorem dX4_lineOf_68 : decode cX4_lineOf 68 = .ok (.aload_n 0, 1) := by decide +kernel
theorem dX4_lineOf_69 : decode cX4_lineOf 69 = .ok (.getfield 10, 3) := by decide +kernel
theorem dX4_lineOf_72 : decode cX4_lineOf 72 = .ok (.getfield 85, 3) := by decide +kernel
theorem dX4_lineOf_75 : decode cX4_lineOf 75 = .ok (.iload_n 1, 1) := by decide +kernel
theorem dX4_lineOf_76 : decode cX4_lineOf 76 = .ok (.iaload, 1) := by decide +kernel
theorem dX4_lineOf_77 : decode cX4_lineOf 77 = .ok (.ireturn, 1) := by decide +kernel
theorem dX4_lineOf_78 : decode cX4_lineOf 78 = .ok (.aload_n 0, 1) := by decide +kernel
theorem dX4_lineOf_79 : decode cX4_lineOf 79 = .ok (.getfield 10, 3) := by decide +kernel
theorem dX4_lineOf_82 : decode cX4_lineOf 82 = .ok (.getfield 92, 3) := by decide +kernel
theorem dX4_lineOf_85 : decode cX4_lineOf 85 = .ok (.iload_n 1, 1) := by decide +kernel
theorem dX4_lineOf_86 : decode cX4_lineOf 86 = .ok (.iaload, 1) := by decide +kernel
theorem dX4_lineOf_87 : decode cX4_lineOf 87 = .ok (.invokestatic 95, 3) := by decide +kernel
theorem dX4_lineOf_90 : decode cX4_lineOf 90 = .ok (.ireturn, 1) := by decide +kernel
theorem dX4_lineOf_91 : decode cX4_lineOf 91 = .ok (.aload_n 0, 1) := by decide +kernel
theorem dX4_lineOf_92 : decode cX4_lineOf 92 = .ok (.bipush (-2), 2) := by decide +kernel
theorem dX4_lineOf_94 : decode cX4_lineOf 94 = .ok (.invokevirtual 51, 3) := by decide +kernel
theorem dX4_lineOf_97 : decode cX4_lineOf 97 = .ok (.ireturn, 1) := by decide +kernel
set_option maxRecDepth 20000 in
theorem ggX4_why_X0_has : GoodIn wsX4_why wsX0_has := goodIn_r _ [8, 9, 47, 48, 49, 50] (by decide +kernel) (by decide +kernel)
set_option maxRecDepth 20000 in
theorem gX4_why_X0_has : GoodIn wsX4_why (wsV RX4 69 RX0 yX0_has wsX0_has) := goodIn_app (goodIn_of _ (by decide +kernel)) ggX4_why_X0_has
set_option maxRecDepth 20000 in
theorem ggX4_why_X4_refuse : GoodIn wsX4_why wsX4_refuse := goodIn_r _ [14, 15, 37, 38, 39, 40, 41, 42, 43, 44, 45, 46] (by decide +kernel) (by decide +kernel)
set_option maxRecDepth 20000 in
theorem gX4_why_X4_refuse : GoodIn wsX4_why (wsV RX4 51 RX4 yX4_refuse wsX4_refuse) := goodIn_app (goodIn_of _ (by decide +kernel)) ggX4_why_X4_refuse
set_option maxRecDepth 20000 in
theorem ggX4_why_X1_letAll : GoodIn wsX4_why wsX1_letAll := goodIn_r _ [20, 21, 22, 23, 51, 52, 53, 54] (by decide +kernel) (by decide +kernel)
set_option maxRecDepth 20000 in
theorem gX4_why_X1_letAll : GoodIn wsX4_why (wsV RX4 103 RX1 yX1_letAll wsX1_letAll) := goodIn_app (goodIn_of _ (by decide +kernel)) ggX4_why_X1_letAll
set_option maxRecDepth 20000 in
theorem ggX4_why_X1_keep : GoodIn wsX4_why wsX1_keep := goodIn_r _ [27, 22, 23, 51, 52, 53, 54] (by decide +kernel) (by decide +kernel)
set_option maxRecDepth 20000 in
theorem gX4_why_X1_keep : GoodIn wsX4_why (wsV RX4 106 RX1 yX1_keep wsX1_keep) := goodIn_app (goodIn_of _ (by decide +kernel)) ggX4_why_X1_keep
set_option maxRecDepth 20000 in
theorem ggX4_why_X1_reckon : GoodIn wsX4_why wsX1_reckon := goodIn_r _ [31, 32, 22, 23, 21, 33, 34, 35, 19, 36, 51, 52, 53, 54] (by decide +kernel) (by decide +kernel)
set_option maxRecDepth 20000 in
theorem gX4_why_X1_reckon : GoodIn wsX4_why (wsV RX4 109 RX1 yX1_reckon wsX1_reckon) := goodIn_app (goodIn_of _ (by decide +kernel)) ggX4_why_X1_reckon
theorem dX4_why_0 : decode cX4_why 0 = .ok (.aload_n 0, 1) := by decide +kernel
theorem dX4_why_1 : decode cX4_why 1 = .ok (.getfield 10, 3) := by decide +kernel
theorem dX4_why_4 : decode cX4_why 4 = .ok (.iload_n 1, 1) := by decide +kernel
theorem dX4_why_5 : decode cX4_why 5 = .ok (.invokevirtual 69, 3) := by decide +kernel
theorem dX4_why_8 : decode cX4_why 8 = .ok (.ifCond .ne 9, 3) := by decide +kernel
theorem dX4_why_11 : decode cX4_why 11 = .ok (.aload_n 0, 1) := by decide +kernel
theorem dX4_why_12 : decode cX4_why 12 = .ok (.iconst (-1), 1) := by decide +kernel
theorem dX4_why_13 : decode cX4_why 13 = .ok (.invokevirtual 51, 3) := by decide +kernel
theorem dX4_why_16 : decode cX4_why 16 = .ok (.ireturn, 1) := by decide +kernel
theorem dX4_why_17 : decode cX4_why 17 = .ok (.aload_n 0, 1) := by decide +kernel
theorem dX4_why_18 : decode cX4_why 18 = .ok (.getfield 10, 3) := by decide +kernel
theorem dX4_why_21 : decode cX4_why 21 = .ok (.getfield 72, 3) := by decide +kernel
theorem dX4_why_24 : decode cX4_why 24 = .ok (.iload_n 1, 1) := by decide +kernel
theorem dX4_why_25 : decode cX4_why 25 = .ok (.iaload, 1) := by decide +kernel
theorem dX4_why_26 : decode cX4_why 26 = .ok (.iconst 1, 1) := by decide +kernel
theorem dX4_why_27 : decode cX4_why 27 = .ok (.if_icmp .eq 10, 3) := by decide +kernel
theorem dX4_why_30 : decode cX4_why 30 = .ok (.aload_n 0, 1) := by decide +kernel
theorem dX4_why_31 : decode cX4_why 31 = .ok (.bipush (-3), 2) := by decide +kernel
theorem dX4_why_33 : decode cX4_why 33 = .ok (.invokevirtual 51, 3) := by decide +kernel
theorem dX4_why_36 : decode cX4_why 36 = .ok (.ireturn, 1) := by decide +kernel
theorem dX4_why_37 : decode cX4_why 37 = .ok (.aload_n 0, 1) := by decide +kernel
theorem dX4_why_38 : decode cX4_why 38 = .ok (.getfield 23, 3) := by decide +kernel
theorem dX4_why_41 : decode cX4_why 41 = .ok (.aload_n 0, 1) := by decide +kernel
theorem dX4_why_42 : decode cX4_why 42 = .ok (.getfield 100, 3) := by decide +kernel
theorem dX4_why_45 : decode cX4_why 45 = .ok (.invokevirtual 103, 3) := by decide +kernel
theorem dX4_why_48 : decode cX4_why 48 = .ok (.aload_n 0, 1) := by decide +kernel
theorem dX4_why_49 : decode cX4_why 49 = .ok (.getfield 23, 3) := by decide +kernel
theorem dX4_why_52 : decode cX4_why 52 = .ok (.aload_n 0, 1) := by decide +kernel
theorem dX4_why_53 : decode cX4_why 53 = .ok (.getfield 10, 3) := by decide +kernel
theorem dX4_why_56 : decode cX4_why 56 = .ok (.getfield 92, 3) := by decide +kernel
theorem dX4_why_59 : decode cX4_why 59 = .ok (.iload_n 1, 1) := by decide +kernel
theorem dX4_why_60 : decode cX4_why 60 = .ok (.iaload, 1) := by decide +kernel
theorem dX4_why_61 : decode cX4_why 61 = .ok (.invokevirtual 106, 3) := by decide +kernel
theorem dX4_why_64 : decode cX4_why 64 = .ok (.iconst 0, 1) := by decide +kernel
theorem dX4_why_65 : decode cX4_why 65 = .ok (.istore_n 2, 1) := by decide +kernel
theorem dX4_why_66 : decode cX4_why 66 = .ok (.iload_n 2, 1) := by decide +kernel
theorem dX4_why_67 : decode cX4_why 67 = .ok (.aload_n 0, 1) := by decide +kernel
theorem dX4_why_68 : decode cX4_why 68 = .ok (.getfield 10, 3) := by decide +kernel
theorem dX4_why_71 : decode cX4_why 71 = .ok (.getfield 59, 3) := by decide +kernel
theorem dX4_why_74 : decode cX4_why 74 = .ok (.if_icmp .ge 49, 3) := by decide +kernel
theorem dX4_why_77 : decode cX4_why 77 = .ok (.aload_n 0, 1) := by decide +kernel
theorem dX4_why_78 : decode cX4_why 78 = .ok (.getfield 10, 3) := by decide +kernel
theorem dX4_why_81 : decode cX4_why 81 = .ok (.getfield 72, 3) := by decide +kernel
theorem dX4_why_84 : decode cX4_why 84 = .ok (.iload_n 2, 1) := by decide +kernel
theorem dX4_why_85 : decode cX4_why 85 = .ok (.iaload, 1) := by decide +kernel
theorem dX4_why_86 : decode cX4_why 86 = .ok (.ifCond .ne 31, 3) := by decide +kernel
theorem dX4_why_89 : decode cX4_why 89 = .ok (.aload_n 0, 1) := by decide +kernel
theorem dX4_why_90 : decode cX4_why 90 = .ok (.getfield 23, 3) := by decide +kernel
theorem dX4_why_93 : decode cX4_why 93 = .ok (.aload_n 0, 1) := by decide +kernel
theorem dX4_why_94 : decode cX4_why 94 = .ok (.getfield 10, 3) := by decide +kernel
theorem dX4_why_97 : decode cX4_why 97 = .ok (.getfield 92, 3) := by decide +kernel
theorem dX4_why_100 : decode cX4_why 100 = .ok (.iload_n 2, 1) := by decide +kernel
theorem dX4_why_101 : decode cX4_why 101 = .ok (.iaload, 1) := by decide +kernel
theorem dX4_why_102 : decode cX4_why 102 = .ok (.invokevirtual 106, 3) := by decide +kernel
theorem dX4_why_105 : decode cX4_why 105 = .ok (.aload_n 0, 1) := by decide +kernel
theorem dX4_why_106 : decode cX4_why 106 = .ok (.getfield 23, 3) := by decide +kernel
theorem dX4_why_109 : decode cX4_why 109 = .ok (.invokevirtual 109, 3) := by decide +kernel
theorem dX4_why_112 : decode cX4_why 112 = .ok (.ifCond .ne 5, 3) := by decide +kernel
theorem dX4_why_115 : decode cX4_why 115 = .ok (.iload_n 2, 1) := by decide +kernel
theorem dX4_why_116 : decode cX4_why 116 = .ok (.ireturn, 1) := by decide +kernel
theorem dX4_why_117 : decode cX4_why 117 = .ok (.iinc 2 1, 3) := by decide +kernel
theorem dX4_why_120 : decode cX4_why 120 = .ok (.goto (-54), 3) := by decide +kernel
theorem dX4_why_123 : decode cX4_why 123 = .ok (.bipush (-9), 2) := by decide +kernel
theorem dX4_why_125 : decode cX4_why 125 = .ok (.ireturn, 1) := by decide +kernel
set_option maxRecDepth 20000 in
theorem ggX4_rows_X1_howMany : GoodIn wsX4_rows wsX1_howMany := goodIn_r _ [6, 7, 18, 19, 20, 21] (by decide +kernel) (by decide +kernel)
set_option maxRecDepth 20000 in
theorem gX4_rows_X1_howMany : GoodIn wsX4_rows (wsV RX4 113 RX1 yX1_howMany wsX1_howMany) := goodIn_app (goodIn_of _ (by decide +kernel)) ggX4_rows_X1_howMany
theorem dX4_rows_0 : decode cX4_rows 0 = .ok (.aload_n 0, 1) := by decide +kernel
theorem dX4_rows_1 : decode cX4_rows 1 = .ok (.getfield 19, 3) := by decide +kernel
theorem dX4_rows_4 : decode cX4_rows 4 = .ok (.invokevirtual 113, 3) := by decide +kernel
theorem dX4_rows_7 : decode cX4_rows 7 = .ok (.ireturn, 1) := by decide +kernel
set_option maxRecDepth 20000 in
theorem ggX4_row_X4_isRow : GoodIn wsX4_row wsX4_isRow := goodIn_r _ [8, 2, 9, 10, 11, 12, 13, 14, 38, 39, 40, 41, 42, 43, 44, 45, 46, 47, 48, 49, 50, 51] (by decide +kernel) (by decide +kernel)
set_option maxRecDepth 20000 in
theorem gX4_row_X4_isRow : GoodIn wsX4_row (wsV RX4 116 RX4 yX4_isRow wsX4_isRow) := goodIn_app (goodIn_of _ (by decide +kernel)) ggX4_row_X4_isRow
set_option maxRecDepth 20000 in
theorem ggX4_row_X4_refuse : GoodIn wsX4_row wsX4_refuse := goodIn_r _ [18, 19, 38, 39, 40, 41, 42, 43, 44, 45, 46, 47] (by decide +kernel) (by decide +kernel)
set_option maxRecDepth 20000 in
theorem gX4_row_X4_refuse : GoodIn wsX4_row (wsV RX4 51 RX4 yX4_refuse wsX4_refuse) := goodIn_app (goodIn_of _ (by decide +kernel)) ggX4_row_X4_refuse
set_option maxRecDepth 20000 in
theorem ggX4_row_X1_write : GoodIn wsX4_row wsX1_write := goodIn_r _ [23, 24, 25, 26, 27, 12, 28, 14, 29, 30, 31, 32, 33, 34, 35, 36, 37, 48, 49, 50, 51] (by decide +kernel) (by decide +kernel)
set_option maxRecDepth 20000 in
theorem gX4_row_X1_write : GoodIn wsX4_row (wsV RX4 119 RX1 yX1_write wsX1_write) := goodIn_app (goodIn_of _ (by decide +kernel)) ggX4_row_X1_write
theorem dX4_row_0 : decode cX4_row 0 = .ok (.aload_n 0, 1) := by decide +kernel
theorem dX4_row_1 : decode cX4_row 1 = .ok (.iload_n 1, 1) := by decide +kernel
theorem dX4_row_2 : decode cX4_row 2 = .ok (.invokevirtual 116, 3) := by decide +kernel
theorem dX4_row_5 : decode cX4_row 5 = .ok (.ifCond .ne 9, 3) := by decide +kernel
theorem dX4_row_8 : decode cX4_row 8 = .ok (.aload_n 0, 1) := by decide +kernel
theorem dX4_row_9 : decode cX4_row 9 = .ok (.iconst (-1), 1) := by decide +kernel
theorem dX4_row_10 : decode cX4_row 10 = .ok (.invokevirtual 51, 3) := by decide +kernel
theorem dX4_row_13 : decode cX4_row 13 = .ok (.ireturn, 1) := by decide +kernel
theorem dX4_row_14 : decode cX4_row 14 = .ok (.iload_n 2, 1) := by decide +kernel
theorem dX4_row_15 : decode cX4_row 15 = .ok (.ifCond .ge 10, 3) := by decide +kernel
theorem dX4_row_18 : decode cX4_row 18 = .ok (.aload_n 0, 1) := by decide +kernel
theorem dX4_row_19 : decode cX4_row 19 = .ok (.bipush (-4), 2) := by decide +kernel
theorem dX4_row_21 : decode cX4_row 21 = .ok (.invokevirtual 51, 3) := by decide +kernel
theorem dX4_row_24 : decode cX4_row 24 = .ok (.ireturn, 1) := by decide +kernel
theorem dX4_row_25 : decode cX4_row 25 = .ok (.iload_n 2, 1) := by decide +kernel
theorem dX4_row_26 : decode cX4_row 26 = .ok (.aload_n 0, 1) := by decide +kernel
theorem dX4_row_27 : decode cX4_row 27 = .ok (.getfield 100, 3) := by decide +kernel
theorem dX4_row_30 : decode cX4_row 30 = .ok (.if_icmp .lt 10, 3) := by decide +kernel
theorem dX4_row_33 : decode cX4_row 33 = .ok (.aload_n 0, 1) := by decide +kernel
theorem dX4_row_34 : decode cX4_row 34 = .ok (.bipush (-6), 2) := by decide +kernel
theorem dX4_row_36 : decode cX4_row 36 = .ok (.invokevirtual 51, 3) := by decide +kernel
theorem dX4_row_39 : decode cX4_row 39 = .ok (.ireturn, 1) := by decide +kernel
theorem dX4_row_40 : decode cX4_row 40 = .ok (.aload_n 0, 1) := by decide +kernel
theorem dX4_row_41 : decode cX4_row 41 = .ok (.getfield 19, 3) := by decide +kernel
theorem dX4_row_44 : decode cX4_row 44 = .ok (.iload_n 1, 1) := by decide +kernel
theorem dX4_row_45 : decode cX4_row 45 = .ok (.aload_n 0, 1) := by decide +kernel
theorem dX4_row_46 : decode cX4_row 46 = .ok (.getfield 40, 3) := by decide +kernel
theorem dX4_row_49 : decode cX4_row 49 = .ok (.invokevirtual 119, 3) := by decide +kernel
theorem dX4_row_52 : decode cX4_row 52 = .ok (.aload_n 0, 1) := by decide +kernel
theorem dX4_row_53 : decode cX4_row 53 = .ok (.getfield 40, 3) := by decide +kernel
theorem dX4_row_56 : decode cX4_row 56 = .ok (.iload_n 2, 1) := by decide +kernel
theorem dX4_row_57 : decode cX4_row 57 = .ok (.iaload, 1) := by decide +kernel
theorem dX4_row_58 : decode cX4_row 58 = .ok (.ireturn, 1) := by decide +kernel
set_option maxRecDepth 20000 in
theorem ggX4_rank_X1_numberOf : GoodIn wsX4_rank wsX1_numberOf := goodIn_r _ [6, 7, 8, 9, 10, 5, 11, 12, 13, 14, 15, 16, 17, 28, 29, 30, 31] (by decide +kernel) (by decide +kernel)
set_option maxRecDepth 20000 in
theorem gX4_rank_X1_numberOf : GoodIn wsX4_rank (wsV RX4 123 RX1 yX1_numberOf wsX1_numberOf) := goodIn_app (goodIn_of _ (by decide +kernel)) ggX4_rank_X1_numberOf
theorem dX4_rank_0 : decode cX4_rank 0 = .ok (.aload_n 0, 1) := by decide +kernel
theorem dX4_rank_1 : decode cX4_rank 1 = .ok (.getfield 19, 3) := by decide +kernel
theorem dX4_rank_4 : decode cX4_rank 4 = .ok (.iload_n 1, 1) := by decide +kernel
theorem dX4_rank_5 : decode cX4_rank 5 = .ok (.invokevirtual 123, 3) := by decide +kernel
theorem dX4_rank_8 : decode cX4_rank 8 = .ok (.ireturn, 1) := by decide +kernel
set_option maxRecDepth 20000 in
theorem ggX4_together_X4_isSet : GoodIn wsX4_together wsX4_isSet := goodIn_r _ [5, 6, 7, 8, 4, 9, 10, 55, 56, 57, 58, 59, 60, 61, 62, 63, 64] (by decide +kernel) (by decide +kernel)
set_option maxRecDepth 20000 in
theorem gX4_together_X4_isSet : GoodIn wsX4_together (wsV RX4 55 RX4 yX4_isSet wsX4_isSet) := goodIn_app (goodIn_of _ (by decide +kernel)) ggX4_together_X4_isSet
set_option maxRecDepth 20000 in
theorem ggX4_together_X4_refuse : GoodIn wsX4_together wsX4_refuse := goodIn_r _ [14, 15, 55, 56, 57, 58, 59, 60, 61, 62, 63, 64] (by decide +kernel) (by decide +kernel)
set_option maxRecDepth 20000 in
theorem gX4_together_X4_refuse : GoodIn wsX4_together (wsV RX4 51 RX4 yX4_refuse wsX4_refuse) := goodIn_app (goodIn_of _ (by decide +kernel)) ggX4_together_X4_refuse
set_option maxRecDepth 20000 in
theorem ggX4_together_X4_rowsWith : GoodIn wsX4_together wsX4_rowsWith := goodIn_r _ [19, 20, 21, 22, 4, 23, 24, 25, 26, 27, 28, 29, 30, 31, 32, 33, 34, 35, 36, 37, 38, 39, 40, 41, 42, 43, 44, 45, 46, 55, 56, 57, 58, 59, 60, 61, 62, 63, 64, 65, 66, 67, 68] (by decide +kernel) (by decide +kernel)
set_option maxRecDepth 20000 in
theorem gX4_together_X4_rowsWith : GoodIn wsX4_together (wsV RX4 126 RX4 yX4_rowsWith wsX4_rowsWith) := goodIn_app (goodIn_of _ (by decide +kernel)) ggX4_together_X4_rowsWith
set_option maxRecDepth 20000 in
theorem ggX4_together_X4_verdict : GoodIn wsX4_together wsX4_verdict := goodIn_r _ [50, 25, 51, 52, 53, 29, 54, 34, 55, 56, 57, 58, 59, 60, 61, 62, 63, 64, 65, 66, 67, 68] (by decide +kernel) (by decide +kernel)
set_option maxRecDepth 20000 in
theorem gX4_together_X4_verdict : GoodIn wsX4_together (wsV RX4 129 RX4 yX4_verdict wsX4_verdict) := goodIn_app (goodIn_of _ (by decide +kernel)) ggX4_together_X4_verdict
theorem dX4_together_0 : decode cX4_together 0 = .ok (.aload_n 0, 1) := by decide +kernel
theorem dX4_together_1 : decode cX4_together 1 = .ok (.iload_n 1, 1) := by decide +kernel
theorem dX4_together_2 : decode cX4_together 2 = .ok (.invokevirtual 55, 3) := by decide +kernel
theorem dX4_together_5 : decode cX4_together 5 = .ok (.ifCond .ne 10, 3) := by decide +kernel
theorem dX4_together_8 : decode cX4_together 8 = .ok (.aload_n 0, 1) := by decide +kernel
theorem dX4_together_9 : decode cX4_together 9 = .ok (.bipush (-2), 2) := by decide +kernel
theorem dX4_together_11 : decode cX4_together 11 = .ok (.invokevirtual 51, 3) := by decide +kernel
theorem dX4_together_14 : decode cX4_together 14 = .ok (.ireturn, 1) := by decide +kernel
theorem dX4_together_15 : decode cX4_together 15 = .ok (.aload_n 0, 1) := by decide +kernel
theorem dX4_together_16 : decode cX4_together 16 = .ok (.aload_n 0, 1) := by decide +kernel
theorem dX4_together_17 : decode cX4_together 17 = .ok (.iload_n 1, 1) := by decide +kernel
theorem dX4_together_18 : decode cX4_together 18 = .ok (.invokevirtual 126, 3) := by decide +kernel
theorem dX4_together_21 : decode cX4_together 21 = .ok (.invokevirtual 129, 3) := by decide +kernel
theorem dX4_together_24 : decode cX4_together 24 = .ok (.ireturn, 1) := by decide +kernel
set_option maxRecDepth 20000 in
theorem ggX4_round_X4_isSet : GoodIn wsX4_round wsX4_isSet := goodIn_r _ [5, 6, 7, 8, 4, 9, 10, 55, 56, 57, 58, 59, 60, 61, 62, 63, 64] (by decide +kernel) (by decide +kernel)
set_option maxRecDepth 20000 in
theorem gX4_round_X4_isSet : GoodIn wsX4_round (wsV RX4 55 RX4 yX4_isSet wsX4_isSet) := goodIn_app (goodIn_of _ (by decide +kernel)) ggX4_round_X4_isSet
set_option maxRecDepth 20000 in
theorem ggX4_round_X4_refuse : GoodIn wsX4_round wsX4_refuse := goodIn_r _ [14, 15, 55, 56, 57, 58, 59, 60, 61, 62, 63, 64] (by decide +kernel) (by decide +kernel)
set_option maxRecDepth 20000 in
theorem gX4_round_X4_refuse : GoodIn wsX4_round (wsV RX4 51 RX4 yX4_refuse wsX4_refuse) := goodIn_app (goodIn_of _ (by decide +kernel)) ggX4_round_X4_refuse
set_option maxRecDepth 20000 in
theorem ggX4_round_X4_allColumns : GoodIn wsX4_round wsX4_allColumns := goodIn_r _ [9, 10, 55, 56, 57, 58, 59, 60, 61, 62, 63, 64] (by decide +kernel) (by decide +kernel)
set_option maxRecDepth 20000 in
theorem gX4_round_X4_allColumns : GoodIn wsX4_round (wsV RX4 132 RX4 yX4_allColumns wsX4_allColumns) := goodIn_app (goodIn_of _ (by decide +kernel)) ggX4_round_X4_allColumns
set_option maxRecDepth 20000 in
theorem ggX4_round_X4_rowsWith : GoodIn wsX4_round wsX4_rowsWith := goodIn_r _ [19, 20, 21, 22, 4, 23, 24, 25, 26, 27, 28, 29, 30, 31, 32, 33, 34, 35, 36, 37, 38, 39, 40, 41, 42, 43, 44, 45, 46, 55, 56, 57, 58, 59, 60, 61, 62, 63, 64, 65, 66, 67, 68] (by decide +kernel) (by decide +kernel)
set_option maxRecDepth 20000 in
theorem gX4_round_X4_rowsWith : GoodIn wsX4_round (wsV RX4 126 RX4 yX4_rowsWith wsX4_rowsWith) := goodIn_app (goodIn_of _ (by decide +kernel)) ggX4_round_X4_rowsWith
set_option maxRecDepth 20000 in
theorem ggX4_round_X4_rowsWithBoth : GoodIn wsX4_round wsX4_rowsWithBoth := goodIn_r _ [23, 24, 25, 26, 27, 28, 29, 30, 31, 32, 33, 34, 35, 36, 37, 38, 39, 40, 41, 42, 43, 44, 45, 46, 55, 56, 57, 58, 59, 60, 61, 62, 63, 64, 65, 66, 67, 68] (by decide +kernel) (by decide +kernel)
set_option maxRecDepth 20000 in
theorem gX4_round_X4_rowsWithBoth : GoodIn wsX4_round (wsV RX4 135 RX4 yX4_rowsWithBoth wsX4_rowsWithBoth) := goodIn_app (goodIn_of _ (by decide +kernel)) ggX4_round_X4_rowsWithBoth
set_option maxRecDepth 20000 in
theorem ggX4_round_X4_verdict : GoodIn wsX4_round wsX4_verdict := goodIn_r _ [50, 25, 51, 52, 53, 29, 54, 34, 55, 56, 57, 58, 59, 60, 61, 62, 63, 64, 65, 66, 67, 68] (by decide +kernel) (by decide +kernel)
set_option maxRecDepth 20000 in
theorem gX4_round_X4_verdict : GoodIn wsX4_round (wsV RX4 129 RX4 yX4_verdict wsX4_verdict) := goodIn_app (goodIn_of _ (by decide +kernel)) ggX4_round_X4_verdict
theorem dX4_round_0 : decode cX4_round 0 = .ok (.aload_n 0, 1) := by decide +kernel
theorem dX4_round_1 : decode cX4_round 1 = .ok (.iload_n 1, 1) := by decide +kernel
theorem dX4_round_2 : decode cX4_round 2 = .ok (.invokevirtual 55, 3) := by decide +kernel
theorem dX4_round_5 : decode cX4_round 5 = .ok (.ifCond .ne 10, 3) := by decide +kernel
theorem dX4_round_8 : decode cX4_round 8 = .ok (.aload_n 0, 1) := by decide +kernel
theorem dX4_round_9 : decode cX4_round 9 = .ok (.bipush (-2), 2) := by decide +kernel
theorem dX4_round_11 : decode cX4_round 11 = .ok (.invokevirtual 51, 3) := by decide +kernel
theorem dX4_round_14 : decode cX4_round 14 = .ok (.ireturn, 1) := by decide +kernel
theorem dX4_round_15 : decode cX4_round 15 = .ok (.aload_n 0, 1) := by decide +kernel
theorem dX4_round_16 : decode cX4_round 16 = .ok (.invokevirtual 132, 3) := by decide +kernel
theorem dX4_round_19 : decode cX4_round 19 = .ok (.iload_n 1, 1) := by decide +kernel
theorem dX4_round_20 : decode cX4_round 20 = .ok (.iconst (-1), 1) := by decide +kernel
theorem dX4_round_21 : decode cX4_round 21 = .ok (.ixor, 1) := by decide +kernel
theorem dX4_round_22 : decode cX4_round 22 = .ok (.iand, 1) := by decide +kernel
theorem dX4_round_23 : decode cX4_round 23 = .ok (.istore_n 2, 1) := by decide +kernel
theorem dX4_round_24 : decode cX4_round 24 = .ok (.aload_n 0, 1) := by decide +kernel
theorem dX4_round_25 : decode cX4_round 25 = .ok (.iload_n 1, 1) := by decide +kernel
theorem dX4_round_26 : decode cX4_round 26 = .ok (.invokevirtual 126, 3) := by decide +kernel
theorem dX4_round_29 : decode cX4_round 29 = .ok (.aload_n 0, 1) := by decide +kernel
theorem dX4_round_30 : decode cX4_round 30 = .ok (.iload_n 2, 1) := by decide +kernel
theorem dX4_round_31 : decode cX4_round 31 = .ok (.invokevirtual 126, 3) := by decide +kernel
theorem dX4_round_34 : decode cX4_round 34 = .ok (.iadd, 1) := by decide +kernel
theorem dX4_round_35 : decode cX4_round 35 = .ok (.istore_n 3, 1) := by decide +kernel
theorem dX4_round_36 : decode cX4_round 36 = .ok (.aload_n 0, 1) := by decide +kernel
theorem dX4_round_37 : decode cX4_round 37 = .ok (.iload_n 3, 1) := by decide +kernel
theorem dX4_round_38 : decode cX4_round 38 = .ok (.aload_n 0, 1) := by decide +kernel
theorem dX4_round_39 : decode cX4_round 39 = .ok (.iload_n 1, 1) := by decide +kernel
theorem dX4_round_40 : decode cX4_round 40 = .ok (.iload_n 2, 1) := by decide +kernel
theorem dX4_round_41 : decode cX4_round 41 = .ok (.invokevirtual 135, 3) := by decide +kernel
theorem dX4_round_44 : decode cX4_round 44 = .ok (.isub, 1) := by decide +kernel
theorem dX4_round_45 : decode cX4_round 45 = .ok (.invokevirtual 129, 3) := by decide +kernel
theorem dX4_round_48 : decode cX4_round 48 = .ok (.ireturn, 1) := by decide +kernel
set_option maxRecDepth 20000 in
theorem ggX4_between_X4_areTwo : GoodIn wsX4_between wsX4_areTwo := goodIn_r _ [7, 8, 9, 10, 6, 11, 12, 47, 48, 49, 50, 51, 52, 53, 54, 55, 56] (by decide +kernel) (by decide +kernel)
set_option maxRecDepth 20000 in
theorem gX4_between_X4_areTwo : GoodIn wsX4_between (wsV RX4 139 RX4 yX4_areTwo wsX4_areTwo) := goodIn_app (goodIn_of _ (by decide +kernel)) ggX4_between_X4_areTwo
set_option maxRecDepth 20000 in
theorem ggX4_between_X4_refuse : GoodIn wsX4_between wsX4_refuse := goodIn_r _ [16, 17, 47, 48, 49, 50, 51, 52, 53, 54, 55, 56] (by decide +kernel) (by decide +kernel)
set_option maxRecDepth 20000 in
theorem gX4_between_X4_refuse : GoodIn wsX4_between (wsV RX4 51 RX4 yX4_refuse wsX4_refuse) := goodIn_app (goodIn_of _ (by decide +kernel)) ggX4_between_X4_refuse
set_option maxRecDepth 20000 in
theorem ggX4_between_X1_copy : GoodIn wsX4_between wsX1_copy := goodIn_r _ [22, 23, 24, 25, 26, 57, 58, 59, 60] (by decide +kernel) (by decide +kernel)
set_option maxRecDepth 20000 in
theorem gX4_between_X1_copy : GoodIn wsX4_between (wsV RX4 143 RX1 yX1_copy wsX1_copy) := goodIn_app (goodIn_of _ (by decide +kernel)) ggX4_between_X1_copy
set_option maxRecDepth 20000 in
theorem ggX4_between_X1_putBetween : GoodIn wsX4_between wsX1_putBetween := goodIn_r _ [30, 24, 25, 57, 58, 59, 60] (by decide +kernel) (by decide +kernel)
set_option maxRecDepth 20000 in
theorem gX4_between_X1_putBetween : GoodIn wsX4_between (wsV RX4 147 RX1 yX1_putBetween wsX1_putBetween) := goodIn_app (goodIn_of _ (by decide +kernel)) ggX4_between_X1_putBetween
set_option maxRecDepth 20000 in
theorem ggX4_between_X1_reckon : GoodIn wsX4_between wsX1_reckon := goodIn_r _ [34, 26, 24, 25, 23, 35, 36, 37, 21, 38, 57, 58, 59, 60] (by decide +kernel) (by decide +kernel)
set_option maxRecDepth 20000 in
theorem gX4_between_X1_reckon : GoodIn wsX4_between (wsV RX4 109 RX1 yX1_reckon wsX1_reckon) := goodIn_app (goodIn_of _ (by decide +kernel)) ggX4_between_X1_reckon
set_option maxRecDepth 20000 in
theorem ggX4_between_X4_verdict : GoodIn wsX4_between wsX4_verdict := goodIn_r _ [42, 2, 43, 44, 45, 21, 46, 26, 47, 48, 49, 50, 51, 52, 53, 54, 55, 56, 57, 58, 59, 60] (by decide +kernel) (by decide +kernel)
set_option maxRecDepth 20000 in
theorem gX4_between_X4_verdict : GoodIn wsX4_between (wsV RX4 129 RX4 yX4_verdict wsX4_verdict) := goodIn_app (goodIn_of _ (by decide +kernel)) ggX4_between_X4_verdict
theorem dX4_between_0 : decode cX4_between 0 = .ok (.aload_n 0, 1) := by decide +kernel
theorem dX4_between_1 : decode cX4_between 1 = .ok (.iload_n 1, 1) := by decide +kernel
theorem dX4_between_2 : decode cX4_between 2 = .ok (.iload_n 2, 1) := by decide +kernel
theorem dX4_between_3 : decode cX4_between 3 = .ok (.invokevirtual 139, 3) := by decide +kernel
theorem dX4_between_6 : decode cX4_between 6 = .ok (.ifCond .eq 21, 3) := by decide +kernel
theorem dX4_between_9 : decode cX4_between 9 = .ok (.aload_n 0, 1) := by decide +kernel
theorem dX4_between_10 : decode cX4_between 10 = .ok (.iload_n 2, 1) := by decide +kernel
theorem dX4_between_11 : decode cX4_between 11 = .ok (.iload_n 3, 1) := by decide +kernel
theorem dX4_between_12 : decode cX4_between 12 = .ok (.invokevirtual 139, 3) := by decide +kernel
theorem dX4_between_15 : decode cX4_between 15 = .ok (.ifCond .eq 12, 3) := by decide +kernel
theorem dX4_between_18 : decode cX4_between 18 = .ok (.aload_n 0, 1) := by decide +kernel
theorem dX4_between_19 : decode cX4_between 19 = .ok (.iload_n 1, 1) := by decide +kernel
theorem dX4_between_20 : decode cX4_between 20 = .ok (.iload_n 3, 1) := by decide +kernel
theorem dX4_between_21 : decode cX4_between 21 = .ok (.invokevirtual 139, 3) := by decide +kernel
theorem dX4_between_24 : decode cX4_between 24 = .ok (.ifCond .ne 9, 3) := by decide +kernel
theorem dX4_between_27 : decode cX4_between 27 = .ok (.aload_n 0, 1) := by decide +kernel
theorem dX4_between_28 : decode cX4_between 28 = .ok (.iconst (-1), 1) := by decide +kernel
theorem dX4_between_29 : decode cX4_between 29 = .ok (.invokevirtual 51, 3) := by decide +kernel
theorem dX4_between_32 : decode cX4_between 32 = .ok (.ireturn, 1) := by decide +kernel
theorem dX4_between_33 : decode cX4_between 33 = .ok (.aload_n 0, 1) := by decide +kernel
theorem dX4_between_34 : decode cX4_between 34 = .ok (.getfield 23, 3) := by decide +kernel
theorem dX4_between_37 : decode cX4_between 37 = .ok (.aload_n 0, 1) := by decide +kernel
theorem dX4_between_38 : decode cX4_between 38 = .ok (.getfield 19, 3) := by decide +kernel
theorem dX4_between_41 : decode cX4_between 41 = .ok (.invokevirtual 143, 3) := by decide +kernel
theorem dX4_between_44 : decode cX4_between 44 = .ok (.aload_n 0, 1) := by decide +kernel
theorem dX4_between_45 : decode cX4_between 45 = .ok (.getfield 23, 3) := by decide +kernel
theorem dX4_between_48 : decode cX4_between 48 = .ok (.iload_n 1, 1) := by decide +kernel
theorem dX4_between_49 : decode cX4_between 49 = .ok (.iload_n 2, 1) := by decide +kernel
theorem dX4_between_50 : decode cX4_between 50 = .ok (.iload_n 3, 1) := by decide +kernel
theorem dX4_between_51 : decode cX4_between 51 = .ok (.invokevirtual 147, 3) := by decide +kernel
theorem dX4_between_54 : decode cX4_between 54 = .ok (.aload_n 0, 1) := by decide +kernel
theorem dX4_between_55 : decode cX4_between 55 = .ok (.aload_n 0, 1) := by decide +kernel
theorem dX4_between_56 : decode cX4_between 56 = .ok (.getfield 23, 3) := by decide +kernel
theorem dX4_between_59 : decode cX4_between 59 = .ok (.invokevirtual 109, 3) := by decide +kernel
theorem dX4_between_62 : decode cX4_between 62 = .ok (.invokevirtual 129, 3) := by decide +kernel
theorem dX4_between_65 : decode cX4_between 65 = .ok (.ireturn, 1) := by decide +kernel
set_option maxRecDepth 20000 in
theorem ggX4_next_X4_areTwo : GoodIn wsX4_next wsX4_areTwo := goodIn_r _ [5, 6, 7, 8, 4, 9, 10, 55, 56, 57, 58, 59, 60, 61, 62, 63, 64] (by decide +kernel) (by decide +kernel)
set_option maxRecDepth 20000 in
theorem gX4_next_X4_areTwo : GoodIn wsX4_next (wsV RX4 139 RX4 yX4_areTwo wsX4_areTwo) := goodIn_app (goodIn_of _ (by decide +kernel)) ggX4_next_X4_areTwo
set_option maxRecDepth 20000 in
theorem ggX4_next_X4_refuse : GoodIn wsX4_next wsX4_refuse := goodIn_r _ [14, 15, 55, 56, 57, 58, 59, 60, 61, 62, 63, 64] (by decide +kernel) (by decide +kernel)
set_option maxRecDepth 20000 in
theorem gX4_next_X4_refuse : GoodIn wsX4_next (wsV RX4 51 RX4 yX4_refuse wsX4_refuse) := goodIn_app (goodIn_of _ (by decide +kernel)) ggX4_next_X4_refuse
set_option maxRecDepth 20000 in
theorem ggX4_next_X4_rowsWith : GoodIn wsX4_next wsX4_rowsWith := goodIn_r _ [19, 20, 21, 22, 4, 23, 24, 25, 26, 27, 28, 29, 30, 31, 32, 33, 34, 35, 36, 37, 38, 39, 40, 41, 42, 43, 44, 45, 46, 55, 56, 57, 58, 59, 60, 61, 62, 63, 64, 65, 66, 67, 68] (by decide +kernel) (by decide +kernel)
set_option maxRecDepth 20000 in
theorem gX4_next_X4_rowsWith : GoodIn wsX4_next (wsV RX4 126 RX4 yX4_rowsWith wsX4_rowsWith) := goodIn_app (goodIn_of _ (by decide +kernel)) ggX4_next_X4_rowsWith
set_option maxRecDepth 20000 in
theorem ggX4_next_X4_verdict : GoodIn wsX4_next wsX4_verdict := goodIn_r _ [50, 25, 51, 52, 53, 29, 54, 34, 55, 56, 57, 58, 59, 60, 61, 62, 63, 64, 65, 66, 67, 68] (by decide +kernel) (by decide +kernel)
set_option maxRecDepth 20000 in
theorem gX4_next_X4_verdict : GoodIn wsX4_next (wsV RX4 129 RX4 yX4_verdict wsX4_verdict) := goodIn_app (goodIn_of _ (by decide +kernel)) ggX4_next_X4_verdict
theorem dX4_next_0 : decode cX4_next 0 = .ok (.aload_n 0, 1) := by decide +kernel
theorem dX4_next_1 : decode cX4_next 1 = .ok (.iload_n 1, 1) := by decide +kernel
theorem dX4_next_2 : decode cX4_next 2 = .ok (.iload_n 2, 1) := by decide +kernel
theorem dX4_next_3 : decode cX4_next 3 = .ok (.invokevirtual 139, 3) := by decide +kernel
theorem dX4_next_6 : decode cX4_next 6 = .ok (.ifCond .ne 9, 3) := by decide +kernel
theorem dX4_next_9 : decode cX4_next 9 = .ok (.aload_n 0, 1) := by decide +kernel
theorem dX4_next_10 : decode cX4_next 10 = .ok (.iconst (-1), 1) := by decide +kernel
theorem dX4_next_11 : decode cX4_next 11 = .ok (.invokevirtual 51, 3) := by decide +kernel
theorem dX4_next_14 : decode cX4_next 14 = .ok (.ireturn, 1) := by decide +kernel
theorem dX4_next_15 : decode cX4_next 15 = .ok (.aload_n 0, 1) := by decide +kernel
theorem dX4_next_16 : decode cX4_next 16 = .ok (.aload_n 0, 1) := by decide +kernel
theorem dX4_next_17 : decode cX4_next 17 = .ok (.iconst 1, 1) := by decide +kernel
theorem dX4_next_18 : decode cX4_next 18 = .ok (.iload_n 1, 1) := by decide +kernel
theorem dX4_next_19 : decode cX4_next 19 = .ok (.ishl, 1) := by decide +kernel
theorem dX4_next_20 : decode cX4_next 20 = .ok (.iconst 1, 1) := by decide +kernel
theorem dX4_next_21 : decode cX4_next 21 = .ok (.iload_n 2, 1) := by decide +kernel
theorem dX4_next_22 : decode cX4_next 22 = .ok (.ishl, 1) := by decide +kernel
theorem dX4_next_23 : decode cX4_next 23 = .ok (.ior, 1) := by decide +kernel
theorem dX4_next_24 : decode cX4_next 24 = .ok (.invokevirtual 126, 3) := by decide +kernel
theorem dX4_next_27 : decode cX4_next 27 = .ok (.invokevirtual 129, 3) := by decide +kernel
theorem dX4_next_30 : decode cX4_next 30 = .ok (.ireturn, 1) := by decide +kernel
set_option maxRecDepth 20000 in
theorem ggX4_ends_X4_isColumn : GoodIn wsX4_ends wsX4_isColumn := goodIn_r _ [7, 8, 43, 44, 45, 46, 47, 48, 49, 50, 51, 52] (by decide +kernel) (by decide +kernel)
set_option maxRecDepth 20000 in
theorem gX4_ends_X4_isColumn : GoodIn wsX4_ends (wsV RX4 151 RX4 yX4_isColumn wsX4_isColumn) := goodIn_app (goodIn_of _ (by decide +kernel)) ggX4_ends_X4_isColumn
set_option maxRecDepth 20000 in
theorem ggX4_ends_X4_refuse : GoodIn wsX4_ends wsX4_refuse := goodIn_r _ [12, 13, 43, 44, 45, 46, 47, 48, 49, 50, 51, 52] (by decide +kernel) (by decide +kernel)
set_option maxRecDepth 20000 in
theorem gX4_ends_X4_refuse : GoodIn wsX4_ends (wsV RX4 51 RX4 yX4_refuse wsX4_refuse) := goodIn_app (goodIn_of _ (by decide +kernel)) ggX4_ends_X4_refuse
set_option maxRecDepth 20000 in
theorem ggX4_ends_X1_copy : GoodIn wsX4_ends wsX1_copy := goodIn_r _ [18, 19, 20, 21, 22, 53, 54, 55, 56] (by decide +kernel) (by decide +kernel)
set_option maxRecDepth 20000 in
theorem gX4_ends_X1_copy : GoodIn wsX4_ends (wsV RX4 143 RX1 yX1_copy wsX1_copy) := goodIn_app (goodIn_of _ (by decide +kernel)) ggX4_ends_X1_copy
set_option maxRecDepth 20000 in
theorem ggX4_ends_X1_putAtEnds : GoodIn wsX4_ends wsX1_putAtEnds := goodIn_r _ [26, 20, 21, 53, 54, 55, 56] (by decide +kernel) (by decide +kernel)
set_option maxRecDepth 20000 in
theorem gX4_ends_X1_putAtEnds : GoodIn wsX4_ends (wsV RX4 154 RX1 yX1_putAtEnds wsX1_putAtEnds) := goodIn_app (goodIn_of _ (by decide +kernel)) ggX4_ends_X1_putAtEnds
set_option maxRecDepth 20000 in
theorem ggX4_ends_X1_reckon : GoodIn wsX4_ends wsX1_reckon := goodIn_r _ [30, 22, 20, 21, 19, 31, 32, 33, 17, 34, 53, 54, 55, 56] (by decide +kernel) (by decide +kernel)
set_option maxRecDepth 20000 in
theorem gX4_ends_X1_reckon : GoodIn wsX4_ends (wsV RX4 109 RX1 yX1_reckon wsX1_reckon) := goodIn_app (goodIn_of _ (by decide +kernel)) ggX4_ends_X1_reckon
set_option maxRecDepth 20000 in
theorem ggX4_ends_X4_verdict : GoodIn wsX4_ends wsX4_verdict := goodIn_r _ [38, 2, 39, 40, 41, 17, 42, 22, 43, 44, 45, 46, 47, 48, 49, 50, 51, 52, 53, 54, 55, 56] (by decide +kernel) (by decide +kernel)
set_option maxRecDepth 20000 in
theorem gX4_ends_X4_verdict : GoodIn wsX4_ends (wsV RX4 129 RX4 yX4_verdict wsX4_verdict) := goodIn_app (goodIn_of _ (by decide +kernel)) ggX4_ends_X4_verdict
theorem dX4_ends_0 : decode cX4_ends 0 = .ok (.aload_n 0, 1) := by decide +kernel
theorem dX4_ends_1 : decode cX4_ends 1 = .ok (.iload_n 1, 1) := by decide +kernel
theorem dX4_ends_2 : decode cX4_ends 2 = .ok (.invokevirtual 151, 3) := by decide +kernel
theorem dX4_ends_5 : decode cX4_ends 5 = .ok (.ifCond .ne 9, 3) := by decide +kernel
theorem dX4_ends_8 : decode cX4_ends 8 = .ok (.aload_n 0, 1) := by decide +kernel
theorem dX4_ends_9 : decode cX4_ends 9 = .ok (.iconst (-1), 1) := by decide +kernel
theorem dX4_ends_10 : decode cX4_ends 10 = .ok (.invokevirtual 51, 3) := by decide +kernel
theorem dX4_ends_13 : decode cX4_ends 13 = .ok (.ireturn, 1) := by decide +kernel
theorem dX4_ends_14 : decode cX4_ends 14 = .ok (.aload_n 0, 1) := by decide +kernel
theorem dX4_ends_15 : decode cX4_ends 15 = .ok (.getfield 23, 3) := by decide +kernel
theorem dX4_ends_18 : decode cX4_ends 18 = .ok (.aload_n 0, 1) := by decide +kernel
theorem dX4_ends_19 : decode cX4_ends 19 = .ok (.getfield 19, 3) := by decide +kernel
theorem dX4_ends_22 : decode cX4_ends 22 = .ok (.invokevirtual 143, 3) := by decide +kernel
theorem dX4_ends_25 : decode cX4_ends 25 = .ok (.aload_n 0, 1) := by decide +kernel
theorem dX4_ends_26 : decode cX4_ends 26 = .ok (.getfield 23, 3) := by decide +kernel
theorem dX4_ends_29 : decode cX4_ends 29 = .ok (.iload_n 1, 1) := by decide +kernel
theorem dX4_ends_30 : decode cX4_ends 30 = .ok (.invokevirtual 154, 3) := by decide +kernel
theorem dX4_ends_33 : decode cX4_ends 33 = .ok (.aload_n 0, 1) := by decide +kernel
theorem dX4_ends_34 : decode cX4_ends 34 = .ok (.aload_n 0, 1) := by decide +kernel
theorem dX4_ends_35 : decode cX4_ends 35 = .ok (.getfield 23, 3) := by decide +kernel
theorem dX4_ends_38 : decode cX4_ends 38 = .ok (.invokevirtual 109, 3) := by decide +kernel
theorem dX4_ends_41 : decode cX4_ends 41 = .ok (.invokevirtual 129, 3) := by decide +kernel
theorem dX4_ends_44 : decode cX4_ends 44 = .ok (.ireturn, 1) := by decide +kernel
set_option maxRecDepth 20000 in
theorem ggX4_apart_X4_areTwo : GoodIn wsX4_apart wsX4_areTwo := goodIn_r _ [7, 8, 9, 10, 6, 11, 12, 46, 47, 48, 49, 50, 51, 52, 53, 54, 55] (by decide +kernel) (by decide +kernel)
set_option maxRecDepth 20000 in
theorem gX4_apart_X4_areTwo : GoodIn wsX4_apart (wsV RX4 139 RX4 yX4_areTwo wsX4_areTwo) := goodIn_app (goodIn_of _ (by decide +kernel)) ggX4_apart_X4_areTwo
set_option maxRecDepth 20000 in
theorem ggX4_apart_X4_refuse : GoodIn wsX4_apart wsX4_refuse := goodIn_r _ [16, 17, 46, 47, 48, 49, 50, 51, 52, 53, 54, 55] (by decide +kernel) (by decide +kernel)
set_option maxRecDepth 20000 in
theorem gX4_apart_X4_refuse : GoodIn wsX4_apart (wsV RX4 51 RX4 yX4_refuse wsX4_refuse) := goodIn_app (goodIn_of _ (by decide +kernel)) ggX4_apart_X4_refuse
set_option maxRecDepth 20000 in
theorem ggX4_apart_X1_copy : GoodIn wsX4_apart wsX1_copy := goodIn_r _ [22, 23, 24, 25, 26, 56, 57, 58, 59] (by decide +kernel) (by decide +kernel)
set_option maxRecDepth 20000 in
theorem gX4_apart_X1_copy : GoodIn wsX4_apart (wsV RX4 143 RX1 yX1_copy wsX1_copy) := goodIn_app (goodIn_of _ (by decide +kernel)) ggX4_apart_X1_copy
set_option maxRecDepth 20000 in
theorem ggX4_apart_X1_distance : GoodIn wsX4_apart wsX1_distance := goodIn_r _ [30, 26, 24, 31, 32, 33, 34, 35, 36, 37, 38, 39, 40, 21, 41, 23, 42, 43, 44, 45, 25, 56, 57, 58, 59] (by decide +kernel) (by decide +kernel)
set_option maxRecDepth 20000 in
theorem gX4_apart_X1_distance : GoodIn wsX4_apart (wsV RX4 157 RX1 yX1_distance wsX1_distance) := goodIn_app (goodIn_of _ (by decide +kernel)) ggX4_apart_X1_distance
theorem dX4_apart_0 : decode cX4_apart 0 = .ok (.aload_n 0, 1) := by decide +kernel
theorem dX4_apart_1 : decode cX4_apart 1 = .ok (.iload_n 1, 1) := by decide +kernel
theorem dX4_apart_2 : decode cX4_apart 2 = .ok (.iload_n 2, 1) := by decide +kernel
theorem dX4_apart_3 : decode cX4_apart 3 = .ok (.invokevirtual 139, 3) := by decide +kernel
theorem dX4_apart_6 : decode cX4_apart 6 = .ok (.ifCond .ne 9, 3) := by decide +kernel
theorem dX4_apart_9 : decode cX4_apart 9 = .ok (.aload_n 0, 1) := by decide +kernel
theorem dX4_apart_10 : decode cX4_apart 10 = .ok (.iconst (-1), 1) := by decide +kernel
theorem dX4_apart_11 : decode cX4_apart 11 = .ok (.invokevirtual 51, 3) := by decide +kernel
theorem dX4_apart_14 : decode cX4_apart 14 = .ok (.ireturn, 1) := by decide +kernel
theorem dX4_apart_15 : decode cX4_apart 15 = .ok (.aload_n 0, 1) := by decide +kernel
theorem dX4_apart_16 : decode cX4_apart 16 = .ok (.getfield 23, 3) := by decide +kernel
theorem dX4_apart_19 : decode cX4_apart 19 = .ok (.aload_n 0, 1) := by decide +kernel
theorem dX4_apart_20 : decode cX4_apart 20 = .ok (.getfield 19, 3) := by decide +kernel
theorem dX4_apart_23 : decode cX4_apart 23 = .ok (.invokevirtual 143, 3) := by decide +kernel
theorem dX4_apart_26 : decode cX4_apart 26 = .ok (.aload_n 0, 1) := by decide +kernel
theorem dX4_apart_27 : decode cX4_apart 27 = .ok (.getfield 23, 3) := by decide +kernel
theorem dX4_apart_30 : decode cX4_apart 30 = .ok (.iconst 1, 1) := by decide +kernel
theorem dX4_apart_31 : decode cX4_apart 31 = .ok (.iload_n 1, 1) := by decide +kernel
theorem dX4_apart_32 : decode cX4_apart 32 = .ok (.ishl, 1) := by decide +kernel
theorem dX4_apart_33 : decode cX4_apart 33 = .ok (.iconst 1, 1) := by decide +kernel
theorem dX4_apart_34 : decode cX4_apart 34 = .ok (.iload_n 2, 1) := by decide +kernel
theorem dX4_apart_35 : decode cX4_apart 35 = .ok (.ishl, 1) := by decide +kernel
theorem dX4_apart_36 : decode cX4_apart 36 = .ok (.ior, 1) := by decide +kernel
theorem dX4_apart_37 : decode cX4_apart 37 = .ok (.iload_n 3, 1) := by decide +kernel
theorem dX4_apart_38 : decode cX4_apart 38 = .ok (.invokevirtual 157, 3) := by decide +kernel
theorem dX4_apart_41 : decode cX4_apart 41 = .ok (.ireturn, 1) := by decide +kernel
set_option maxRecDepth 20000 in
theorem ggX4_knots_X4_growTree : GoodIn wsX4_knots wsX4_growTree := goodIn_r _ [6, 7, 8, 9, 1, 10, 11, 12, 13, 14, 15, 16, 17, 18, 19, 20, 21, 22, 23, 24, 25, 26, 27, 28, 29, 30, 31, 32, 33, 34, 35, 36, 37, 38, 39, 40, 41, 42, 43, 44, 45, 46, 47, 48, 49, 50, 51, 52, 53, 54, 55, 56, 57, 58, 59, 60, 61, 62, 63, 64, 65, 66, 67, 68, 69, 70, 71, 72, 73, 74, 75, 76, 77, 84, 85, 86, 87, 78, 79, 80, 81, 82, 83] (by decide +kernel) (by decide +kernel)
set_option maxRecDepth 20000 in
theorem gX4_knots_X4_growTree : GoodIn wsX4_knots (wsV RX4 161 RX4 yX4_growTree wsX4_growTree) := goodIn_app (goodIn_of _ (by decide +kernel)) ggX4_knots_X4_growTree
theorem dX4_knots_0 : decode cX4_knots 0 = .ok (.aload_n 0, 1) := by decide +kernel
theorem dX4_knots_1 : decode cX4_knots 1 = .ok (.invokevirtual 161, 3) := by decide +kernel
theorem dX4_knots_4 : decode cX4_knots 4 = .ok (.aload_n 0, 1) := by decide +kernel
theorem dX4_knots_5 : decode cX4_knots 5 = .ok (.getfield 29, 3) := by decide +kernel
theorem dX4_knots_8 : decode cX4_knots 8 = .ok (.getfield 164, 3) := by decide +kernel
theorem dX4_knots_11 : decode cX4_knots 11 = .ok (.ireturn, 1) := by decide +kernel
set_option maxRecDepth 20000 in
theorem ggX4_knot_X4_growTree : GoodIn wsX4_knot wsX4_growTree := goodIn_r _ [6, 7, 8, 9, 1, 10, 11, 12, 13, 14, 15, 16, 17, 18, 19, 20, 21, 22, 23, 24, 25, 26, 27, 28, 29, 30, 31, 32, 33, 34, 35, 36, 37, 38, 39, 40, 41, 42, 43, 44, 45, 46, 47, 48, 49, 50, 51, 52, 53, 54, 55, 56, 57, 58, 59, 60, 61, 62, 63, 64, 65, 66, 67, 91, 92, 93, 94, 95, 96, 97, 98, 99, 100, 107, 108, 109, 110, 101, 102, 103, 104, 105, 106] (by decide +kernel) (by decide +kernel)
set_option maxRecDepth 20000 in
theorem gX4_knot_X4_growTree : GoodIn wsX4_knot (wsV RX4 161 RX4 yX4_growTree wsX4_growTree) := goodIn_app (goodIn_of _ (by decide +kernel)) ggX4_knot_X4_growTree
set_option maxRecDepth 20000 in
theorem ggX4_knot_X4_refuse : GoodIn wsX4_knot wsX4_refuse := goodIn_r _ [71, 72, 91, 92, 93, 94, 95, 96, 97, 98, 99, 100] (by decide +kernel) (by decide +kernel)
set_option maxRecDepth 20000 in
theorem gX4_knot_X4_refuse : GoodIn wsX4_knot (wsV RX4 51 RX4 yX4_refuse wsX4_refuse) := goodIn_app (goodIn_of _ (by decide +kernel)) ggX4_knot_X4_refuse
set_option maxRecDepth 20000 in
theorem ggX4_knot_X3_partsOf : GoodIn wsX4_knot wsX3_partsOf := goodIn_r _ [76, 39, 101, 102, 103, 104, 105, 106] (by decide +kernel) (by decide +kernel)
set_option maxRecDepth 20000 in
theorem gX4_knot_X3_partsOf : GoodIn wsX4_knot (wsV RX4 167 RX3 yX3_partsOf wsX3_partsOf) := goodIn_app (goodIn_of _ (by decide +kernel)) ggX4_knot_X3_partsOf
set_option maxRecDepth 20000 in
theorem ggX4_knot_X3_kindOf : GoodIn wsX4_knot wsX3_kindOf := goodIn_r _ [80, 37, 40, 81, 74, 75, 33, 76, 39, 82, 83, 84, 85, 35, 36, 86, 87, 88, 89, 101, 102, 103, 104, 105, 106] (by decide +kernel) (by decide +kernel)
set_option maxRecDepth 20000 in
theorem gX4_knot_X3_kindOf : GoodIn wsX4_knot (wsV RX4 171 RX3 yX3_kindOf wsX3_kindOf) := goodIn_app (goodIn_of _ (by decide +kernel)) ggX4_knot_X3_kindOf
set_option maxRecDepth 20000 in
theorem ggX4_knot_X3_part : GoodIn wsX4_knot wsX3_part := goodIn_r _ [85, 35, 36, 40, 86, 87, 88, 33, 89, 39, 101, 102, 103, 104, 105, 106] (by decide +kernel) (by decide +kernel)
set_option maxRecDepth 20000 in
theorem gX4_knot_X3_part : GoodIn wsX4_knot (wsV RX4 177 RX3 yX3_part wsX3_part) := goodIn_app (goodIn_of _ (by decide +kernel)) ggX4_knot_X3_part
theorem dX4_knot_0 : decode cX4_knot 0 = .ok (.aload_n 0, 1) := by decide +kernel
theorem dX4_knot_1 : decode cX4_knot 1 = .ok (.invokevirtual 161, 3) := by decide +kernel
theorem dX4_knot_4 : decode cX4_knot 4 = .ok (.iload_n 1, 1) := by decide +kernel
theorem dX4_knot_5 : decode cX4_knot 5 = .ok (.ifCond .lt 14, 3) := by decide +kernel
theorem dX4_knot_8 : decode cX4_knot 8 = .ok (.iload_n 1, 1) := by decide +kernel
theorem dX4_knot_9 : decode cX4_knot 9 = .ok (.aload_n 0, 1) := by decide +kernel
theorem dX4_knot_10 : decode cX4_knot 10 = .ok (.getfield 29, 3) := by decide +kernel
theorem dX4_knot_13 : decode cX4_knot 13 = .ok (.getfield 164, 3) := by decide +kernel
theorem dX4_knot_16 : decode cX4_knot 16 = .ok (.if_icmp .lt 9, 3) := by decide +kernel
theorem dX4_knot_19 : decode cX4_knot 19 = .ok (.aload_n 0, 1) := by decide +kernel
theorem dX4_knot_20 : decode cX4_knot 20 = .ok (.iconst (-1), 1) := by decide +kernel
theorem dX4_knot_21 : decode cX4_knot 21 = .ok (.invokevirtual 51, 3) := by decide +kernel
theorem dX4_knot_24 : decode cX4_knot 24 = .ok (.ireturn, 1) := by decide +kernel
theorem dX4_knot_25 : decode cX4_knot 25 = .ok (.iload_n 2, 1) := by decide +kernel
theorem dX4_knot_26 : decode cX4_knot 26 = .ok (.ifCond .lt 17, 3) := by decide +kernel
theorem dX4_knot_29 : decode cX4_knot 29 = .ok (.iload_n 2, 1) := by decide +kernel
theorem dX4_knot_30 : decode cX4_knot 30 = .ok (.iconst 4, 1) := by decide +kernel
theorem dX4_knot_31 : decode cX4_knot 31 = .ok (.aload_n 0, 1) := by decide +kernel
theorem dX4_knot_32 : decode cX4_knot 32 = .ok (.getfield 29, 3) := by decide +kernel
theorem dX4_knot_35 : decode cX4_knot 35 = .ok (.iload_n 1, 1) := by decide +kernel
theorem dX4_knot_36 : decode cX4_knot 36 = .ok (.invokevirtual 167, 3) := by decide +kernel
theorem dX4_knot_39 : decode cX4_knot 39 = .ok (.iadd, 1) := by decide +kernel
theorem dX4_knot_40 : decode cX4_knot 40 = .ok (.if_icmp .lt 10, 3) := by decide +kernel
theorem dX4_knot_43 : decode cX4_knot 43 = .ok (.aload_n 0, 1) := by decide +kernel
theorem dX4_knot_44 : decode cX4_knot 44 = .ok (.bipush (-2), 2) := by decide +kernel
theorem dX4_knot_46 : decode cX4_knot 46 = .ok (.invokevirtual 51, 3) := by decide +kernel
theorem dX4_knot_49 : decode cX4_knot 49 = .ok (.ireturn, 1) := by decide +kernel
theorem dX4_knot_50 : decode cX4_knot 50 = .ok (.iload_n 2, 1) := by decide +kernel
theorem dX4_knot_51 : decode cX4_knot 51 = .ok (.tableswitch 67 0 3 #[29, 39, 48, 57], 29) := by decide +kernel
theorem dX4_knot_80 : decode cX4_knot 80 = .ok (.aload_n 0, 1) := by decide +kernel
theorem dX4_knot_81 : decode cX4_knot 81 = .ok (.getfield 29, 3) := by decide +kernel
theorem dX4_knot_84 : decode cX4_knot 84 = .ok (.getfield 170, 3) := by decide +kernel
theorem dX4_knot_87 : decode cX4_knot 87 = .ok (.iload_n 1, 1) := by decide +kernel
theorem dX4_knot_88 : decode cX4_knot 88 = .ok (.iaload, 1) := by decide +kernel
theorem dX4_knot_89 : decode cX4_knot 89 = .ok (.ireturn, 1) := by decide +kernel
theorem dX4_knot_90 : decode cX4_knot 90 = .ok (.aload_n 0, 1) := by decide +kernel
theorem dX4_knot_91 : decode cX4_knot 91 = .ok (.getfield 29, 3) := by decide +kernel
theorem dX4_knot_94 : decode cX4_knot 94 = .ok (.iload_n 1, 1) := by decide +kernel
theorem dX4_knot_95 : decode cX4_knot 95 = .ok (.invokevirtual 171, 3) := by decide +kernel
theorem dX4_knot_98 : decode cX4_knot 98 = .ok (.ireturn, 1) := by decide +kernel
theorem dX4_knot_99 : decode cX4_knot 99 = .ok (.aload_n 0, 1) := by decide +kernel
theorem dX4_knot_100 : decode cX4_knot 100 = .ok (.getfield 29, 3) := by decide +kernel
theorem dX4_knot_103 : decode cX4_knot 103 = .ok (.iload_n 1, 1) := by decide +kernel
theorem dX4_knot_104 : decode cX4_knot 104 = .ok (.invokevirtual 167, 3) := by decide +kernel
theorem dX4_knot_107 : decode cX4_knot 107 = .ok (.ireturn, 1) := by decide +kernel
theorem dX4_knot_108 : decode cX4_knot 108 = .ok (.aload_n 0, 1) := by decide +kernel
theorem dX4_knot_109 : decode cX4_knot 109 = .ok (.getfield 29, 3) := by decide +kernel
theorem dX4_knot_112 : decode cX4_knot 112 = .ok (.getfield 174, 3) := by decide +kernel
theorem dX4_knot_115 : decode cX4_knot 115 = .ok (.iload_n 1, 1) := by decide +kernel
theorem dX4_knot_116 : decode cX4_knot 116 = .ok (.iaload, 1) := by decide +kernel
theorem dX4_knot_117 : decode cX4_knot 117 = .ok (.ireturn, 1) := by decide +kernel
theorem dX4_knot_118 : decode cX4_knot 118 = .ok (.aload_n 0, 1) := by decide +kernel
theorem dX4_knot_119 : decode cX4_knot 119 = .ok (.getfield 29, 3) := by decide +kernel
theorem dX4_knot_122 : decode cX4_knot 122 = .ok (.iload_n 1, 1) := by decide +kernel
theorem dX4_knot_123 : decode cX4_knot 123 = .ok (.iload_n 2, 1) := by decide +kernel
theorem dX4_knot_124 : decode cX4_knot 124 = .ok (.iconst 4, 1) := by decide +kernel
theorem dX4_knot_125 : decode cX4_knot 125 = .ok (.isub, 1) := by decide +kernel
theorem dX4_knot_126 : decode cX4_knot 126 = .ok (.invokevirtual 177, 3) := by decide +kernel
theorem dX4_knot_129 : decode cX4_knot 129 = .ok (.ireturn, 1) := by decide +kernel
set_option maxRecDepth 20000 in
theorem ggX4_join_X4_isColumn : GoodIn wsX4_join wsX4_isColumn := goodIn_r _ [6, 7, 79, 80, 81, 82, 83, 84, 85, 86, 87, 88] (by decide +kernel) (by decide +kernel)
set_option maxRecDepth 20000 in
theorem gX4_join_X4_isColumn : GoodIn wsX4_join (wsV RX4 151 RX4 yX4_isColumn wsX4_isColumn) := goodIn_app (goodIn_of _ (by decide +kernel)) ggX4_join_X4_isColumn
set_option maxRecDepth 20000 in
theorem ggX4_join_X4_refuse : GoodIn wsX4_join wsX4_refuse := goodIn_r _ [11, 12, 79, 80, 81, 82, 83, 84, 85, 86, 87, 88] (by decide +kernel) (by decide +kernel)
set_option maxRecDepth 20000 in
theorem gX4_join_X4_refuse : GoodIn wsX4_join (wsV RX4 51 RX4 yX4_refuse wsX4_refuse) := goodIn_app (goodIn_of _ (by decide +kernel)) ggX4_join_X4_refuse
set_option maxRecDepth 20000 in
theorem ggX4_join_X4_growTree : GoodIn wsX4_join wsX4_growTree := goodIn_r _ [16, 17, 18, 19, 1, 20, 21, 22, 23, 24, 25, 26, 27, 28, 29, 30, 31, 32, 33, 34, 35, 36, 37, 38, 39, 40, 41, 42, 43, 44, 45, 46, 47, 48, 49, 50, 51, 52, 53, 54, 55, 56, 57, 58, 59, 60, 61, 62, 63, 64, 65, 66, 67, 68, 69, 70, 71, 72, 73, 74, 75, 76, 77, 79, 80, 81, 82, 83, 84, 85, 86, 87, 88, 89, 90, 91, 92, 93, 94, 95, 96, 97, 98] (by decide +kernel) (by decide +kernel)
set_option maxRecDepth 20000 in
theorem gX4_join_X4_growTree : GoodIn wsX4_join (wsV RX4 161 RX4 yX4_growTree wsX4_growTree) := goodIn_app (goodIn_of _ (by decide +kernel)) ggX4_join_X4_growTree
set_option maxRecDepth 20000 in
theorem ggX4_join_X3_leastAround : GoodIn wsX4_join wsX3_leastAround := goodIn_r _ [77, 48, 50, 93, 94, 95, 96, 97, 98] (by decide +kernel) (by decide +kernel)
set_option maxRecDepth 20000 in
theorem gX4_join_X3_leastAround : GoodIn wsX4_join (wsV RX4 180 RX3 yX3_leastAround wsX3_leastAround) := goodIn_app (goodIn_of _ (by decide +kernel)) ggX4_join_X3_leastAround
theorem dX4_join_0 : decode cX4_join 0 = .ok (.aload_n 0, 1) := by decide +kernel
theorem dX4_join_1 : decode cX4_join 1 = .ok (.iload_n 1, 1) := by decide +kernel
theorem dX4_join_2 : decode cX4_join 2 = .ok (.invokevirtual 151, 3) := by decide +kernel
theorem dX4_join_5 : decode cX4_join 5 = .ok (.ifCond .eq 11, 3) := by decide +kernel
theorem dX4_join_8 : decode cX4_join 8 = .ok (.aload_n 0, 1) := by decide +kernel
theorem dX4_join_9 : decode cX4_join 9 = .ok (.iload_n 2, 1) := by decide +kernel
theorem dX4_join_10 : decode cX4_join 10 = .ok (.invokevirtual 151, 3) := by decide +kernel
theorem dX4_join_13 : decode cX4_join 13 = .ok (.ifCond .ne 9, 3) := by decide +kernel
theorem dX4_join_16 : decode cX4_join 16 = .ok (.aload_n 0, 1) := by decide +kernel
theorem dX4_join_17 : decode cX4_join 17 = .ok (.iconst (-1), 1) := by decide +kernel
theorem dX4_join_18 : decode cX4_join 18 = .ok (.invokevirtual 51, 3) := by decide +kernel
theorem dX4_join_21 : decode cX4_join 21 = .ok (.ireturn, 1) := by decide +kernel
theorem dX4_join_22 : decode cX4_join 22 = .ok (.aload_n 0, 1) := by decide +kernel
theorem dX4_join_23 : decode cX4_join 23 = .ok (.invokevirtual 161, 3) := by decide +kernel
theorem dX4_join_26 : decode cX4_join 26 = .ok (.aload_n 0, 1) := by decide +kernel
theorem dX4_join_27 : decode cX4_join 27 = .ok (.getfield 29, 3) := by decide +kernel
theorem dX4_join_30 : decode cX4_join 30 = .ok (.iconst 1, 1) := by decide +kernel
theorem dX4_join_31 : decode cX4_join 31 = .ok (.iload_n 1, 1) := by decide +kernel
theorem dX4_join_32 : decode cX4_join 32 = .ok (.ishl, 1) := by decide +kernel
theorem dX4_join_33 : decode cX4_join 33 = .ok (.iconst 1, 1) := by decide +kernel
theorem dX4_join_34 : decode cX4_join 34 = .ok (.iload_n 2, 1) := by decide +kernel
theorem dX4_join_35 : decode cX4_join 35 = .ok (.ishl, 1) := by decide +kernel
theorem dX4_join_36 : decode cX4_join 36 = .ok (.ior, 1) := by decide +kernel
theorem dX4_join_37 : decode cX4_join 37 = .ok (.iconst 0, 1) := by decide +kernel
theorem dX4_join_38 : decode cX4_join 38 = .ok (.invokevirtual 180, 3) := by decide +kernel
theorem dX4_join_41 : decode cX4_join 41 = .ok (.ireturn, 1) := by decide +kernel
set_option maxRecDepth 20000 in
theorem ggX4_gaps_X4_isRow : GoodIn wsX4_gaps wsX4_isRow := goodIn_r _ [9, 1, 10, 11, 12, 13, 14, 15, 85, 86, 87, 88, 89, 90, 91, 92, 93, 94, 95, 96, 97, 98] (by decide +kernel) (by decide +kernel)
set_option maxRecDepth 20000 in
theorem gX4_gaps_X4_isRow : GoodIn wsX4_gaps (wsV RX4 116 RX4 yX4_isRow wsX4_isRow) := goodIn_app (goodIn_of _ (by decide +kernel)) ggX4_gaps_X4_isRow
set_option maxRecDepth 20000 in
theorem ggX4_gaps_X4_refuse : GoodIn wsX4_gaps wsX4_refuse := goodIn_r _ [19, 20, 85, 86, 87, 88, 89, 90, 91, 92, 93, 94] (by decide +kernel) (by decide +kernel)
set_option maxRecDepth 20000 in
theorem gX4_gaps_X4_refuse : GoodIn wsX4_gaps (wsV RX4 51 RX4 yX4_refuse wsX4_refuse) := goodIn_app (goodIn_of _ (by decide +kernel)) ggX4_gaps_X4_refuse
set_option maxRecDepth 20000 in
theorem ggX4_gaps_X4_makeSavings : GoodIn wsX4_gaps wsX4_makeSavings := goodIn_r _ [24, 25, 3, 26, 1, 27, 28, 29, 30, 31, 32, 33, 34, 35, 36, 37, 38, 39, 40, 41, 42, 43, 44, 45, 46, 47, 48, 49, 50, 51, 52, 53, 54, 55, 56, 57, 58, 59, 60, 61, 62, 63, 64, 13, 65, 66, 85, 86, 87, 88, 89, 90, 91, 92, 93, 94, 99, 100, 101, 102, 103, 104, 105, 106, 95, 96, 97, 98] (by decide +kernel) (by decide +kernel)
set_option maxRecDepth 20000 in
theorem gX4_gaps_X4_makeSavings : GoodIn wsX4_gaps (wsV RX4 183 RX4 yX4_makeSavings wsX4_makeSavings) := goodIn_app (goodIn_of _ (by decide +kernel)) ggX4_gaps_X4_makeSavings
set_option maxRecDepth 20000 in
theorem ggX4_gaps_X1_write : GoodIn wsX4_gaps wsX1_write := goodIn_r _ [70, 71, 72, 73, 74, 13, 75, 15, 76, 63, 64, 65, 66, 77, 78, 79, 80, 95, 96, 97, 98] (by decide +kernel) (by decide +kernel)
set_option maxRecDepth 20000 in
theorem gX4_gaps_X1_write : GoodIn wsX4_gaps (wsV RX4 119 RX1 yX1_write wsX1_write) := goodIn_app (goodIn_of _ (by decide +kernel)) ggX4_gaps_X1_write
set_option maxRecDepth 20000 in
theorem ggX4_gaps_X2_gapsOf : GoodIn wsX4_gaps wsX2_gapsOf := goodIn_r _ [84, 32, 33, 99, 100, 101, 102] (by decide +kernel) (by decide +kernel)
set_option maxRecDepth 20000 in
theorem gX4_gaps_X2_gapsOf : GoodIn wsX4_gaps (wsV RX4 186 RX2 yX2_gapsOf wsX2_gapsOf) := goodIn_app (goodIn_of _ (by decide +kernel)) ggX4_gaps_X2_gapsOf
theorem dX4_gaps_0 : decode cX4_gaps 0 = .ok (.aload_n 0, 1) := by decide +kernel
theorem dX4_gaps_1 : decode cX4_gaps 1 = .ok (.iload_n 1, 1) := by decide +kernel
theorem dX4_gaps_2 : decode cX4_gaps 2 = .ok (.invokevirtual 116, 3) := by decide +kernel
theorem dX4_gaps_5 : decode cX4_gaps 5 = .ok (.ifCond .ne 9, 3) := by decide +kernel
theorem dX4_gaps_8 : decode cX4_gaps 8 = .ok (.aload_n 0, 1) := by decide +kernel
theorem dX4_gaps_9 : decode cX4_gaps 9 = .ok (.iconst (-1), 1) := by decide +kernel
theorem dX4_gaps_10 : decode cX4_gaps 10 = .ok (.invokevirtual 51, 3) := by decide +kernel
theorem dX4_gaps_13 : decode cX4_gaps 13 = .ok (.ireturn, 1) := by decide +kernel
theorem dX4_gaps_14 : decode cX4_gaps 14 = .ok (.aload_n 0, 1) := by decide +kernel
theorem dX4_gaps_15 : decode cX4_gaps 15 = .ok (.invokevirtual 183, 3) := by decide +kernel
theorem dX4_gaps_18 : decode cX4_gaps 18 = .ok (.aload_n 0, 1) := by decide +kernel
theorem dX4_gaps_19 : decode cX4_gaps 19 = .ok (.getfield 19, 3) := by decide +kernel
theorem dX4_gaps_22 : decode cX4_gaps 22 = .ok (.iload_n 1, 1) := by decide +kernel
theorem dX4_gaps_23 : decode cX4_gaps 23 = .ok (.aload_n 0, 1) := by decide +kernel
theorem dX4_gaps_24 : decode cX4_gaps 24 = .ok (.getfield 40, 3) := by decide +kernel
theorem dX4_gaps_27 : decode cX4_gaps 27 = .ok (.invokevirtual 119, 3) := by decide +kernel
theorem dX4_gaps_30 : decode cX4_gaps 30 = .ok (.aload_n 0, 1) := by decide +kernel
theorem dX4_gaps_31 : decode cX4_gaps 31 = .ok (.getfield 36, 3) := by decide +kernel
theorem dX4_gaps_34 : decode cX4_gaps 34 = .ok (.aload_n 0, 1) := by decide +kernel
theorem dX4_gaps_35 : decode cX4_gaps 35 = .ok (.getfield 40, 3) := by decide +kernel
theorem dX4_gaps_38 : decode cX4_gaps 38 = .ok (.aload_n 0, 1) := by decide +kernel
theorem dX4_gaps_39 : decode cX4_gaps 39 = .ok (.getfield 100, 3) := by decide +kernel
theorem dX4_gaps_42 : decode cX4_gaps 42 = .ok (.invokevirtual 186, 3) := by decide +kernel
theorem dX4_gaps_45 : decode cX4_gaps 45 = .ok (.ireturn, 1) := by decide +kernel
set_option maxRecDepth 20000 in
theorem ggX4_best_X4_makeSavings : GoodIn wsX4_best wsX4_makeSavings := goodIn_r _ [7, 8, 1, 9, 2, 10, 11, 12, 13, 14, 15, 16, 17, 18, 19, 20, 21, 22, 23, 24, 25, 26, 27, 28, 29, 30, 31, 32, 33, 34, 35, 36, 37, 38, 39, 40, 41, 42, 43, 44, 45, 46, 47, 48, 49, 50, 65, 66, 67, 68, 69, 70, 71, 72, 73, 74, 75, 76, 77, 78, 79, 80, 81, 82, 83, 84, 85, 86] (by decide +kernel) (by decide +kernel)
set_option maxRecDepth 20000 in
theorem gX4_best_X4_makeSavings : GoodIn wsX4_best (wsV RX4 183 RX4 yX4_makeSavings wsX4_makeSavings) := goodIn_app (goodIn_of _ (by decide +kernel)) ggX4_best_X4_makeSavings
set_option maxRecDepth 20000 in
theorem ggX4_best_X2_numberOfBest : GoodIn wsX4_best wsX2_numberOfBest := goodIn_r _ [54, 55, 56, 57, 13, 58, 36, 16, 45, 46, 47, 48, 49, 50, 59, 60, 61, 62, 63, 64, 83, 84, 85, 86, 75, 76, 77, 78] (by decide +kernel) (by decide +kernel)
set_option maxRecDepth 20000 in
theorem gX4_best_X2_numberOfBest : GoodIn wsX4_best (wsV RX4 190 RX2 yX2_numberOfBest wsX2_numberOfBest) := goodIn_app (goodIn_of _ (by decide +kernel)) ggX4_best_X2_numberOfBest
theorem dX4_best_0 : decode cX4_best 0 = .ok (.aload_n 0, 1) := by decide +kernel
theorem dX4_best_1 : decode cX4_best 1 = .ok (.invokevirtual 183, 3) := by decide +kernel
theorem dX4_best_4 : decode cX4_best 4 = .ok (.aload_n 0, 1) := by decide +kernel
theorem dX4_best_5 : decode cX4_best 5 = .ok (.getfield 36, 3) := by decide +kernel
theorem dX4_best_8 : decode cX4_best 8 = .ok (.aload_n 0, 1) := by decide +kernel
theorem dX4_best_9 : decode cX4_best 9 = .ok (.getfield 19, 3) := by decide +kernel
theorem dX4_best_12 : decode cX4_best 12 = .ok (.invokevirtual 190, 3) := by decide +kernel
theorem dX4_best_15 : decode cX4_best 15 = .ok (.ireturn, 1) := by decide +kernel
set_option maxRecDepth 20000 in
theorem ggX4_within_X4_makeSavings : GoodIn wsX4_within wsX4_makeSavings := goodIn_r _ [7, 8, 1, 9, 2, 10, 11, 12, 13, 14, 15, 16, 17, 18, 19, 20, 21, 22, 23, 24, 25, 26, 27, 28, 29, 30, 31, 32, 33, 34, 35, 36, 37, 38, 39, 40, 41, 42, 43, 44, 45, 46, 47, 48, 49, 50, 63, 64, 65, 66, 67, 68, 69, 70, 71, 72, 73, 74, 75, 76, 77, 78, 79, 80, 81, 82, 83, 84] (by decide +kernel) (by decide +kernel)
set_option maxRecDepth 20000 in
theorem gX4_within_X4_makeSavings : GoodIn wsX4_within (wsV RX4 183 RX4 yX4_makeSavings wsX4_makeSavings) := goodIn_app (goodIn_of _ (by decide +kernel)) ggX4_within_X4_makeSavings
set_option maxRecDepth 20000 in
theorem ggX4_within_X2_rowsUpTo : GoodIn wsX4_within wsX2_rowsUpTo := goodIn_r _ [54, 15, 55, 56, 57, 48, 58, 59, 60, 61, 13, 62, 36, 41, 16, 45, 46, 47, 49, 50, 73, 74, 75, 76, 81, 82, 83, 84] (by decide +kernel) (by decide +kernel)
set_option maxRecDepth 20000 in
theorem gX4_within_X2_rowsUpTo : GoodIn wsX4_within (wsV RX4 194 RX2 yX2_rowsUpTo wsX2_rowsUpTo) := goodIn_app (goodIn_of _ (by decide +kernel)) ggX4_within_X2_rowsUpTo
theorem dX4_within_0 : decode cX4_within 0 = .ok (.aload_n 0, 1) := by decide +kernel
theorem dX4_within_1 : decode cX4_within 1 = .ok (.invokevirtual 183, 3) := by decide +kernel
theorem dX4_within_4 : decode cX4_within 4 = .ok (.aload_n 0, 1) := by decide +kernel
theorem dX4_within_5 : decode cX4_within 5 = .ok (.getfield 36, 3) := by decide +kernel
theorem dX4_within_8 : decode cX4_within 8 = .ok (.aload_n 0, 1) := by decide +kernel
theorem dX4_within_9 : decode cX4_within 9 = .ok (.getfield 19, 3) := by decide +kernel
theorem dX4_within_12 : decode cX4_within 12 = .ok (.iload_n 1, 1) := by decide +kernel
theorem dX4_within_13 : decode cX4_within 13 = .ok (.invokevirtual 194, 3) := by decide +kernel
theorem dX4_within_16 : decode cX4_within 16 = .ok (.ireturn, 1) := by decide +kernel
set_option maxRecDepth 20000 in
theorem ggX4_spare_X0_has : GoodIn wsX4_spare wsX0_has := goodIn_r _ [8, 9, 56, 57, 58, 59] (by decide +kernel) (by decide +kernel)
set_option maxRecDepth 20000 in
theorem gX4_spare_X0_has : GoodIn wsX4_spare (wsV RX4 69 RX0 yX0_has wsX0_has) := goodIn_app (goodIn_of _ (by decide +kernel)) ggX4_spare_X0_has
set_option maxRecDepth 20000 in
theorem ggX4_spare_X4_refuse : GoodIn wsX4_spare wsX4_refuse := goodIn_r _ [14, 15, 46, 47, 48, 49, 50, 51, 52, 53, 54, 55] (by decide +kernel) (by decide +kernel)
set_option maxRecDepth 20000 in
theorem gX4_spare_X4_refuse : GoodIn wsX4_spare (wsV RX4 51 RX4 yX4_refuse wsX4_refuse) := goodIn_app (goodIn_of _ (by decide +kernel)) ggX4_spare_X4_refuse
set_option maxRecDepth 20000 in
theorem ggX4_spare_X4_keepTaken : GoodIn wsX4_spare wsX4_keepTaken := goodIn_r _ [19, 20, 1, 21, 22, 23, 24, 25, 26, 27, 28, 29, 30, 31, 32, 33, 34, 35, 36, 37, 38, 39, 40, 41, 46, 47, 48, 49, 50, 51, 52, 53, 54, 55, 56, 57, 58, 59, 60, 61, 62, 63] (by decide +kernel) (by decide +kernel)
set_option maxRecDepth 20000 in
theorem gX4_spare_X4_keepTaken : GoodIn wsX4_spare (wsV RX4 75 RX4 yX4_keepTaken wsX4_keepTaken) := goodIn_app (goodIn_of _ (by decide +kernel)) ggX4_spare_X4_keepTaken
set_option maxRecDepth 20000 in
theorem ggX4_spare_X1_howMany : GoodIn wsX4_spare wsX1_howMany := goodIn_r _ [45, 37, 60, 61, 62, 63] (by decide +kernel) (by decide +kernel)
set_option maxRecDepth 20000 in
theorem gX4_spare_X1_howMany : GoodIn wsX4_spare (wsV RX4 113 RX1 yX1_howMany wsX1_howMany) := goodIn_app (goodIn_of _ (by decide +kernel)) ggX4_spare_X1_howMany
theorem dX4_spare_0 : decode cX4_spare 0 = .ok (.aload_n 0, 1) := by decide +kernel
theorem dX4_spare_1 : decode cX4_spare 1 = .ok (.getfield 10, 3) := by decide +kernel
theorem dX4_spare_4 : decode cX4_spare 4 = .ok (.iload_n 1, 1) := by decide +kernel
theorem dX4_spare_5 : decode cX4_spare 5 = .ok (.invokevirtual 69, 3) := by decide +kernel
theorem dX4_spare_8 : decode cX4_spare 8 = .ok (.ifCond .ne 9, 3) := by decide +kernel
theorem dX4_spare_11 : decode cX4_spare 11 = .ok (.aload_n 0, 1) := by decide +kernel
theorem dX4_spare_12 : decode cX4_spare 12 = .ok (.iconst (-1), 1) := by decide +kernel
theorem dX4_spare_13 : decode cX4_spare 13 = .ok (.invokevirtual 51, 3) := by decide +kernel
theorem dX4_spare_16 : decode cX4_spare 16 = .ok (.ireturn, 1) := by decide +kernel
theorem dX4_spare_17 : decode cX4_spare 17 = .ok (.aload_n 0, 1) := by decide +kernel
theorem dX4_spare_18 : decode cX4_spare 18 = .ok (.getfield 10, 3) := by decide +kernel
theorem dX4_spare_21 : decode cX4_spare 21 = .ok (.getfield 72, 3) := by decide +kernel
theorem dX4_spare_24 : decode cX4_spare 24 = .ok (.iload_n 1, 1) := by decide +kernel
theorem dX4_spare_25 : decode cX4_spare 25 = .ok (.iaload, 1) := by decide +kernel
theorem dX4_spare_26 : decode cX4_spare 26 = .ok (.ifCond .eq 10, 3) := by decide +kernel
theorem dX4_spare_29 : decode cX4_spare 29 = .ok (.aload_n 0, 1) := by decide +kernel
theorem dX4_spare_30 : decode cX4_spare 30 = .ok (.bipush (-3), 2) := by decide +kernel
theorem dX4_spare_32 : decode cX4_spare 32 = .ok (.invokevirtual 51, 3) := by decide +kernel
theorem dX4_spare_35 : decode cX4_spare 35 = .ok (.ireturn, 1) := by decide +kernel
theorem dX4_spare_36 : decode cX4_spare 36 = .ok (.aload_n 0, 1) := by decide +kernel
theorem dX4_spare_37 : decode cX4_spare 37 = .ok (.aload_n 0, 1) := by decide +kernel
theorem dX4_spare_38 : decode cX4_spare 38 = .ok (.getfield 23, 3) := by decide +kernel
theorem dX4_spare_41 : decode cX4_spare 41 = .ok (.iload_n 1, 1) := by decide +kernel
theorem dX4_spare_42 : decode cX4_spare 42 = .ok (.invokevirtual 75, 3) := by decide +kernel
theorem dX4_spare_45 : decode cX4_spare 45 = .ok (.aload_n 0, 1) := by decide +kernel
theorem dX4_spare_46 : decode cX4_spare 46 = .ok (.getfield 19, 3) := by decide +kernel
theorem dX4_spare_49 : decode cX4_spare 49 = .ok (.invokevirtual 113, 3) := by decide +kernel
theorem dX4_spare_52 : decode cX4_spare 52 = .ok (.if_icmp .ne 7, 3) := by decide +kernel
theorem dX4_spare_55 : decode cX4_spare 55 = .ok (.iconst 1, 1) := by decide +kernel
theorem dX4_spare_56 : decode cX4_spare 56 = .ok (.goto 4, 3) := by decide +kernel
theorem dX4_spare_59 : decode cX4_spare 59 = .ok (.iconst 0, 1) := by decide +kernel
theorem dX4_spare_60 : decode cX4_spare 60 = .ok (.ireturn, 1) := by decide +kernel
set_option maxRecDepth 20000 in
theorem ggX4_count_X0_howMany : GoodIn wsX4_count wsX0_howMany := goodIn_r _ [8, 9, 10, 21, 22, 23, 24] (by decide +kernel) (by decide +kernel)
set_option maxRecDepth 20000 in
theorem gX4_count_X0_howMany : GoodIn wsX4_count (wsV RX4 197 RX0 yX0_howMany wsX0_howMany) := goodIn_app (goodIn_of _ (by decide +kernel)) ggX4_count_X0_howMany
theorem dX4_count_0 : decode cX4_count 0 = .ok (.iload_n 1, 1) := by decide +kernel
theorem dX4_count_1 : decode cX4_count 1 = .ok (.bipush 10, 2) := by decide +kernel
theorem dX4_count_3 : decode cX4_count 3 = .ok (.if_icmp .le 19, 3) := by decide +kernel
theorem dX4_count_6 : decode cX4_count 6 = .ok (.iload_n 1, 1) := by decide +kernel
theorem dX4_count_7 : decode cX4_count 7 = .ok (.bipush 16, 2) := by decide +kernel
theorem dX4_count_9 : decode cX4_count 9 = .ok (.if_icmp .gt 13, 3) := by decide +kernel
theorem dX4_count_12 : decode cX4_count 12 = .ok (.aload_n 0, 1) := by decide +kernel
theorem dX4_count_13 : decode cX4_count 13 = .ok (.getfield 44, 3) := by decide +kernel
theorem dX4_count_16 : decode cX4_count 16 = .ok (.iload_n 1, 1) := by decide +kernel
theorem dX4_count_17 : decode cX4_count 17 = .ok (.bipush 10, 2) := by decide +kernel
theorem dX4_count_19 : decode cX4_count 19 = .ok (.isub, 1) := by decide +kernel
theorem dX4_count_20 : decode cX4_count 20 = .ok (.iaload, 1) := by decide +kernel
theorem dX4_count_21 : decode cX4_count 21 = .ok (.ireturn, 1) := by decide +kernel
theorem dX4_count_22 : decode cX4_count 22 = .ok (.iload_n 1, 1) := by decide +kernel
theorem dX4_count_23 : decode cX4_count 23 = .ok (.tableswitch 73 0 4 #[33, 38, 46, 55, 64], 33) := by decide +kernel
theorem dX4_count_56 : decode cX4_count 56 = .ok (.aload_n 0, 1) := by decide +kernel
theorem dX4_count_57 : decode cX4_count 57 = .ok (.getfield 100, 3) := by decide +kernel
theorem dX4_count_60 : decode cX4_count 60 = .ok (.ireturn, 1) := by decide +kernel
theorem dX4_count_61 : decode cX4_count 61 = .ok (.aload_n 0, 1) := by decide +kernel
theorem dX4_count_62 : decode cX4_count 62 = .ok (.getfield 10, 3) := by decide +kernel
theorem dX4_count_65 : decode cX4_count 65 = .ok (.getfield 59, 3) := by decide +kernel
theorem dX4_count_68 : decode cX4_count 68 = .ok (.ireturn, 1) := by decide +kernel
theorem dX4_count_69 : decode cX4_count 69 = .ok (.aload_n 0, 1) := by decide +kernel
theorem dX4_count_70 : decode cX4_count 70 = .ok (.getfield 10, 3) := by decide +kernel
theorem dX4_count_73 : decode cX4_count 73 = .ok (.iconst 0, 1) := by decide +kernel
theorem dX4_count_74 : decode cX4_count 74 = .ok (.invokevirtual 197, 3) := by decide +kernel
theorem dX4_count_77 : decode cX4_count 77 = .ok (.ireturn, 1) := by decide +kernel
theorem dX4_count_78 : decode cX4_count 78 = .ok (.aload_n 0, 1) := by decide +kernel
theorem dX4_count_79 : decode cX4_count 79 = .ok (.getfield 10, 3) := by decide +kernel
theorem dX4_count_82 : decode cX4_count 82 = .ok (.iconst 1, 1) := by decide +kernel
theorem dX4_count_83 : decode cX4_count 83 = .ok (.invokevirtual 197, 3) := by decide +kernel
theorem dX4_count_86 : decode cX4_count 86 = .ok (.ireturn, 1) := by decide +kernel
theorem dX4_count_87 : decode cX4_count 87 = .ok (.aload_n 0, 1) := by decide +kernel
theorem dX4_count_88 : decode cX4_count 88 = .ok (.getfield 10, 3) := by decide +kernel
theorem dX4_count_91 : decode cX4_count 91 = .ok (.iconst 2, 1) := by decide +kernel
theorem dX4_count_92 : decode cX4_count 92 = .ok (.invokevirtual 197, 3) := by decide +kernel
theorem dX4_count_95 : decode cX4_count 95 = .ok (.ireturn, 1) := by decide +kernel
theorem dX4_count_96 : decode cX4_count 96 = .ok (.bipush (-9), 2) := by decide +kernel
theorem dX4_count_98 : decode cX4_count 98 = .ok (.ireturn, 1) := by decide +kernel
theorem dX4_refuse_0 : decode cX4_refuse 0 = .ok (.iload_n 1, 1) := by decide +kernel
theorem dX4_refuse_1 : decode cX4_refuse 1 = .ok (.ifCond .ge 20, 3) := by decide +kernel
theorem dX4_refuse_4 : decode cX4_refuse 4 = .ok (.iload_n 1, 1) := by decide +kernel
theorem dX4_refuse_5 : decode cX4_refuse 5 = .ok (.bipush (-6), 2) := by decide +kernel
theorem dX4_refuse_7 : decode cX4_refuse 7 = .ok (.if_icmp .lt 14, 3) := by decide +kernel
theorem dX4_refuse_10 : decode cX4_refuse 10 = .ok (.aload_n 0, 1) := by decide +kernel
theorem dX4_refuse_11 : decode cX4_refuse 11 = .ok (.getfield 44, 3) := by decide +kernel
theorem dX4_refuse_14 : decode cX4_refuse 14 = .ok (.iload_n 1, 1) := by decide +kernel
theorem dX4_refuse_15 : decode cX4_refuse 15 = .ok (.ineg, 1) := by decide +kernel
theorem dX4_refuse_16 : decode cX4_refuse 16 = .ok (.dup2, 1) := by decide +kernel
theorem dX4_refuse_17 : decode cX4_refuse 17 = .ok (.iaload, 1) := by decide +kernel
theorem dX4_refuse_18 : decode cX4_refuse 18 = .ok (.iconst 1, 1) := by decide +kernel
theorem dX4_refuse_19 : decode cX4_refuse 19 = .ok (.iadd, 1) := by decide +kernel
theorem dX4_refuse_20 : decode cX4_refuse 20 = .ok (.iastore, 1) := by decide +kernel
theorem dX4_refuse_21 : decode cX4_refuse 21 = .ok (.iload_n 1, 1) := by decide +kernel
theorem dX4_refuse_22 : decode cX4_refuse 22 = .ok (.ireturn, 1) := by decide +kernel
set_option maxRecDepth 20000 in
theorem ggX4_layTable_X1_letAll : GoodIn wsX4_layTable wsX1_letAll := goodIn_r _ [8, 9, 10, 11, 42, 43, 44, 45] (by decide +kernel) (by decide +kernel)
set_option maxRecDepth 20000 in
theorem gX4_layTable_X1_letAll : GoodIn wsX4_layTable (wsV RX4 103 RX1 yX1_letAll wsX1_letAll) := goodIn_app (goodIn_of _ (by decide +kernel)) ggX4_layTable_X1_letAll
set_option maxRecDepth 20000 in
theorem ggX4_layTable_X1_reckon : GoodIn wsX4_layTable wsX1_reckon := goodIn_r _ [15, 16, 10, 11, 9, 17, 18, 19, 7, 20, 42, 43, 44, 45] (by decide +kernel) (by decide +kernel)
set_option maxRecDepth 20000 in
theorem gX4_layTable_X1_reckon : GoodIn wsX4_layTable (wsV RX4 109 RX1 yX1_reckon wsX1_reckon) := goodIn_app (goodIn_of _ (by decide +kernel)) ggX4_layTable_X1_reckon
set_option maxRecDepth 20000 in
theorem ggX4_layTable_X4_forgetDerived : GoodIn wsX4_layTable wsX4_forgetDerived := goodIn_r _ [25, 26, 27, 28, 29, 30, 31, 32, 33, 34, 35, 36, 37] (by decide +kernel) (by decide +kernel)
set_option maxRecDepth 20000 in
theorem gX4_layTable_X4_forgetDerived : GoodIn wsX4_layTable (wsV RX4 82 RX4 yX4_forgetDerived wsX4_forgetDerived) := goodIn_app (goodIn_of _ (by decide +kernel)) ggX4_layTable_X4_forgetDerived
theorem dX4_layTable_0 : decode cX4_layTable 0 = .ok (.aload_n 0, 1) := by decide +kernel
theorem dX4_layTable_1 : decode cX4_layTable 1 = .ok (.iload_n 1, 1) := by decide +kernel
theorem dX4_layTable_2 : decode cX4_layTable 2 = .ok (.putfield 100, 3) := by decide +kernel
theorem dX4_layTable_5 : decode cX4_layTable 5 = .ok (.aload_n 0, 1) := by decide +kernel
theorem dX4_layTable_6 : decode cX4_layTable 6 = .ok (.getfield 10, 3) := by decide +kernel
theorem dX4_layTable_9 : decode cX4_layTable 9 = .ok (.iconst 0, 1) := by decide +kernel
theorem dX4_layTable_10 : decode cX4_layTable 10 = .ok (.putfield 59, 3) := by decide +kernel
theorem dX4_layTable_13 : decode cX4_layTable 13 = .ok (.aload_n 0, 1) := by decide +kernel
theorem dX4_layTable_14 : decode cX4_layTable 14 = .ok (.getfield 19, 3) := by decide +kernel
theorem dX4_layTable_17 : decode cX4_layTable 17 = .ok (.iload_n 1, 1) := by decide +kernel
theorem dX4_layTable_18 : decode cX4_layTable 18 = .ok (.invokevirtual 103, 3) := by decide +kernel
theorem dX4_layTable_21 : decode cX4_layTable 21 = .ok (.aload_n 0, 1) := by decide +kernel
theorem dX4_layTable_22 : decode cX4_layTable 22 = .ok (.getfield 19, 3) := by decide +kernel
theorem dX4_layTable_25 : decode cX4_layTable 25 = .ok (.invokevirtual 109, 3) := by decide +kernel
theorem dX4_layTable_28 : decode cX4_layTable 28 = .ok (.pop, 1) := by decide +kernel
theorem dX4_layTable_29 : decode cX4_layTable 29 = .ok (.aload_n 0, 1) := by decide +kernel
theorem dX4_layTable_30 : decode cX4_layTable 30 = .ok (.invokevirtual 82, 3) := by decide +kernel
theorem dX4_layTable_33 : decode cX4_layTable 33 = .ok (.return_, 1) := by decide +kernel
theorem dX4_allColumns_0 : decode cX4_allColumns 0 = .ok (.iconst 1, 1) := by decide +kernel
theorem dX4_allColumns_1 : decode cX4_allColumns 1 = .ok (.aload_n 0, 1) := by decide +kernel
theorem dX4_allColumns_2 : decode cX4_allColumns 2 = .ok (.getfield 100, 3) := by decide +kernel
theorem dX4_allColumns_5 : decode cX4_allColumns 5 = .ok (.ishl, 1) := by decide +kernel
theorem dX4_allColumns_6 : decode cX4_allColumns 6 = .ok (.iconst 1, 1) := by decide +kernel
theorem dX4_allColumns_7 : decode cX4_allColumns 7 = .ok (.isub, 1) := by decide +kernel
theorem dX4_allColumns_8 : decode cX4_allColumns 8 = .ok (.ireturn, 1) := by decide +kernel
theorem dX4_isColumn_0 : decode cX4_isColumn 0 = .ok (.iload_n 1, 1) := by decide +kernel
theorem dX4_isColumn_1 : decode cX4_isColumn 1 = .ok (.ifCond .lt 15, 3) := by decide +kernel
theorem dX4_isColumn_4 : decode cX4_isColumn 4 = .ok (.iload_n 1, 1) := by decide +kernel
theorem dX4_isColumn_5 : decode cX4_isColumn 5 = .ok (.aload_n 0, 1) := by decide +kernel
theorem dX4_isColumn_6 : decode cX4_isColumn 6 = .ok (.getfield 100, 3) := by decide +kernel
theorem dX4_isColumn_9 : decode cX4_isColumn 9 = .ok (.if_icmp .ge 7, 3) := by decide +kernel
theorem dX4_isColumn_12 : decode cX4_isColumn 12 = .ok (.iconst 1, 1) := by decide +kernel
theorem dX4_isColumn_13 : decode cX4_isColumn 13 = .ok (.goto 4, 3) := by decide +kernel
theorem dX4_isColumn_16 : decode cX4_isColumn 16 = .ok (.iconst 0, 1) := by decide +kernel
theorem dX4_isColumn_17 : decode cX4_isColumn 17 = .ok (.ireturn, 1) := by decide +kernel
set_option maxRecDepth 20000 in
theorem ggX4_areTwo_X4_isColumn : GoodIn wsX4_areTwo wsX4_isColumn := goodIn_r _ [5, 6, 7, 8, 9, 10, 11, 12, 13, 14, 15, 16] (by decide +kernel) (by decide +kernel)
set_option maxRecDepth 20000 in
theorem gX4_areTwo_X4_isColumn : GoodIn wsX4_areTwo (wsV RX4 151 RX4 yX4_isColumn wsX4_isColumn) := goodIn_app (goodIn_of _ (by decide +kernel)) ggX4_areTwo_X4_isColumn
theorem dX4_areTwo_0 : decode cX4_areTwo 0 = .ok (.aload_n 0, 1) := by decide +kernel
theorem dX4_areTwo_1 : decode cX4_areTwo 1 = .ok (.iload_n 1, 1) := by decide +kernel
theorem dX4_areTwo_2 : decode cX4_areTwo 2 = .ok (.invokevirtual 151, 3) := by decide +kernel
theorem dX4_areTwo_5 : decode cX4_areTwo 5 = .ok (.ifCond .eq 20, 3) := by decide +kernel
theorem dX4_areTwo_8 : decode cX4_areTwo 8 = .ok (.aload_n 0, 1) := by decide +kernel
theorem dX4_areTwo_9 : decode cX4_areTwo 9 = .ok (.iload_n 2, 1) := by decide +kernel
theorem dX4_areTwo_10 : decode cX4_areTwo 10 = .ok (.invokevirtual 151, 3) := by decide +kernel
theorem dX4_areTwo_13 : decode cX4_areTwo 13 = .ok (.ifCond .eq 12, 3) := by decide +kernel
theorem dX4_areTwo_16 : decode cX4_areTwo 16 = .ok (.iload_n 1, 1) := by decide +kernel
theorem dX4_areTwo_17 : decode cX4_areTwo 17 = .ok (.iload_n 2, 1) := by decide +kernel
theorem dX4_areTwo_18 : decode cX4_areTwo 18 = .ok (.if_icmp .eq 7, 3) := by decide +kernel
theorem dX4_areTwo_21 : decode cX4_areTwo 21 = .ok (.iconst 1, 1) := by decide +kernel
theorem dX4_areTwo_22 : decode cX4_areTwo 22 = .ok (.goto 4, 3) := by decide +kernel
theorem dX4_areTwo_25 : decode cX4_areTwo 25 = .ok (.iconst 0, 1) := by decide +kernel
theorem dX4_areTwo_26 : decode cX4_areTwo 26 = .ok (.ireturn, 1) := by decide +kernel
set_option maxRecDepth 20000 in
theorem ggX4_isSet_X4_allColumns : GoodIn wsX4_isSet wsX4_allColumns := goodIn_r _ [5, 6, 7, 8, 9, 10, 11, 12, 13, 14, 15, 16] (by decide +kernel) (by decide +kernel)
set_option maxRecDepth 20000 in
theorem gX4_isSet_X4_allColumns : GoodIn wsX4_isSet (wsV RX4 132 RX4 yX4_allColumns wsX4_allColumns) := goodIn_app (goodIn_of _ (by decide +kernel)) ggX4_isSet_X4_allColumns
theorem dX4_isSet_0 : decode cX4_isSet 0 = .ok (.iload_n 1, 1) := by decide +kernel
theorem dX4_isSet_1 : decode cX4_isSet 1 = .ok (.aload_n 0, 1) := by decide +kernel
theorem dX4_isSet_2 : decode cX4_isSet 2 = .ok (.invokevirtual 132, 3) := by decide +kernel
theorem dX4_isSet_5 : decode cX4_isSet 5 = .ok (.iconst (-1), 1) := by decide +kernel
theorem dX4_isSet_6 : decode cX4_isSet 6 = .ok (.ixor, 1) := by decide +kernel
theorem dX4_isSet_7 : decode cX4_isSet 7 = .ok (.iand, 1) := by decide +kernel
theorem dX4_isSet_8 : decode cX4_isSet 8 = .ok (.ifCond .ne 7, 3) := by decide +kernel
theorem dX4_isSet_11 : decode cX4_isSet 11 = .ok (.iconst 1, 1) := by decide +kernel
theorem dX4_isSet_12 : decode cX4_isSet 12 = .ok (.goto 4, 3) := by decide +kernel
theorem dX4_isSet_15 : decode cX4_isSet 15 = .ok (.iconst 0, 1) := by decide +kernel
theorem dX4_isSet_16 : decode cX4_isSet 16 = .ok (.ireturn, 1) := by decide +kernel
set_option maxRecDepth 20000 in
theorem ggX4_isRow_X1_howMany : GoodIn wsX4_isRow wsX1_howMany := goodIn_r _ [6, 7, 18, 19, 20, 21] (by decide +kernel) (by decide +kernel)
set_option maxRecDepth 20000 in
theorem gX4_isRow_X1_howMany : GoodIn wsX4_isRow (wsV RX4 113 RX1 yX1_howMany wsX1_howMany) := goodIn_app (goodIn_of _ (by decide +kernel)) ggX4_isRow_X1_howMany
theorem dX4_isRow_0 : decode cX4_isRow 0 = .ok (.iload_n 1, 1) := by decide +kernel
theorem dX4_isRow_1 : decode cX4_isRow 1 = .ok (.ifCond .lt 18, 3) := by decide +kernel
theorem dX4_isRow_4 : decode cX4_isRow 4 = .ok (.iload_n 1, 1) := by decide +kernel
theorem dX4_isRow_5 : decode cX4_isRow 5 = .ok (.aload_n 0, 1) := by decide +kernel
theorem dX4_isRow_6 : decode cX4_isRow 6 = .ok (.getfield 19, 3) := by decide +kernel
theorem dX4_isRow_9 : decode cX4_isRow 9 = .ok (.invokevirtual 113, 3) := by decide +kernel
theorem dX4_isRow_12 : decode cX4_isRow 12 = .ok (.if_icmp .ge 7, 3) := by decide +kernel
theorem dX4_isRow_15 : decode cX4_isRow 15 = .ok (.iconst 1, 1) := by decide +kernel
theorem dX4_isRow_16 : decode cX4_isRow 16 = .ok (.goto 4, 3) := by decide +kernel
theorem dX4_isRow_19 : decode cX4_isRow 19 = .ok (.iconst 0, 1) := by decide +kernel
theorem dX4_isRow_20 : decode cX4_isRow 20 = .ok (.ireturn, 1) := by decide +kernel
set_option maxRecDepth 20000 in
theorem ggX4_verdict_X1_howMany : GoodIn wsX4_verdict wsX1_howMany := goodIn_r _ [6, 7, 18, 19, 20, 21] (by decide +kernel) (by decide +kernel)
set_option maxRecDepth 20000 in
theorem gX4_verdict_X1_howMany : GoodIn wsX4_verdict (wsV RX4 113 RX1 yX1_howMany wsX1_howMany) := goodIn_app (goodIn_of _ (by decide +kernel)) ggX4_verdict_X1_howMany
theorem dX4_verdict_0 : decode cX4_verdict 0 = .ok (.iload_n 1, 1) := by decide +kernel
theorem dX4_verdict_1 : decode cX4_verdict 1 = .ok (.aload_n 0, 1) := by decide +kernel
theorem dX4_verdict_2 : decode cX4_verdict 2 = .ok (.getfield 19, 3) := by decide +kernel
theorem dX4_verdict_5 : decode cX4_verdict 5 = .ok (.invokevirtual 113, 3) := by decide +kernel
theorem dX4_verdict_8 : decode cX4_verdict 8 = .ok (.if_icmp .ne 5, 3) := by decide +kernel
theorem dX4_verdict_11 : decode cX4_verdict 11 = .ok (.iconst 2, 1) := by decide +kernel
theorem dX4_verdict_12 : decode cX4_verdict 12 = .ok (.ireturn, 1) := by decide +kernel
theorem dX4_verdict_13 : decode cX4_verdict 13 = .ok (.iload_n 1, 1) := by decide +kernel
theorem dX4_verdict_14 : decode cX4_verdict 14 = .ok (.ifCond .le 7, 3) := by decide +kernel
theorem dX4_verdict_17 : decode cX4_verdict 17 = .ok (.iconst 1, 1) := by decide +kernel
theorem dX4_verdict_18 : decode cX4_verdict 18 = .ok (.goto 4, 3) := by decide +kernel
theorem dX4_verdict_21 : decode cX4_verdict 21 = .ok (.iconst 0, 1) := by decide +kernel
theorem dX4_verdict_22 : decode cX4_verdict 22 = .ok (.ireturn, 1) := by decide +kernel
set_option maxRecDepth 20000 in
theorem ggX4_rowsWith_X4_rowsWithBoth : GoodIn wsX4_rowsWith wsX4_rowsWithBoth := goodIn_r _ [5, 6, 7, 8, 9, 10, 11, 12, 13, 14, 15, 16, 17, 18, 19, 20, 21, 22, 23, 24, 25, 26, 27, 28, 29, 30, 31, 32, 33, 34, 35, 36, 37, 38, 39, 40, 41, 42] (by decide +kernel) (by decide +kernel)
set_option maxRecDepth 20000 in
theorem gX4_rowsWith_X4_rowsWithBoth : GoodIn wsX4_rowsWith (wsV RX4 135 RX4 yX4_rowsWithBoth wsX4_rowsWithBoth) := goodIn_app (goodIn_of _ (by decide +kernel)) ggX4_rowsWith_X4_rowsWithBoth
theorem dX4_rowsWith_0 : decode cX4_rowsWith 0 = .ok (.aload_n 0, 1) := by decide +kernel
theorem dX4_rowsWith_1 : decode cX4_rowsWith 1 = .ok (.iload_n 1, 1) := by decide +kernel
theorem dX4_rowsWith_2 : decode cX4_rowsWith 2 = .ok (.iconst 0, 1) := by decide +kernel
theorem dX4_rowsWith_3 : decode cX4_rowsWith 3 = .ok (.invokevirtual 135, 3) := by decide +kernel
theorem dX4_rowsWith_6 : decode cX4_rowsWith 6 = .ok (.ireturn, 1) := by decide +kernel
set_option maxRecDepth 20000 in
theorem ggX4_rowsWithBoth_X1_copy : GoodIn wsX4_rowsWithBoth wsX1_copy := goodIn_r _ [7, 8, 9, 10, 11, 34, 35, 36, 37] (by decide +kernel) (by decide +kernel)
set_option maxRecDepth 20000 in
theorem gX4_rowsWithBoth_X1_copy : GoodIn wsX4_rowsWithBoth (wsV RX4 143 RX1 yX1_copy wsX1_copy) := goodIn_app (goodIn_of _ (by decide +kernel)) ggX4_rowsWithBoth_X1_copy
set_option maxRecDepth 20000 in
theorem ggX4_rowsWithBoth_X1_keep : GoodIn wsX4_rowsWithBoth wsX1_keep := goodIn_r _ [15, 9, 10, 34, 35, 36, 37] (by decide +kernel) (by decide +kernel)
set_option maxRecDepth 20000 in
theorem gX4_rowsWithBoth_X1_keep : GoodIn wsX4_rowsWithBoth (wsV RX4 106 RX1 yX1_keep wsX1_keep) := goodIn_app (goodIn_of _ (by decide +kernel)) ggX4_rowsWithBoth_X1_keep
set_option maxRecDepth 20000 in
theorem ggX4_rowsWithBoth_X1_reckon : GoodIn wsX4_rowsWithBoth wsX1_reckon := goodIn_r _ [19, 11, 9, 10, 8, 20, 21, 22, 6, 23, 34, 35, 36, 37] (by decide +kernel) (by decide +kernel)
set_option maxRecDepth 20000 in
theorem gX4_rowsWithBoth_X1_reckon : GoodIn wsX4_rowsWithBoth (wsV RX4 109 RX1 yX1_reckon wsX1_reckon) := goodIn_app (goodIn_of _ (by decide +kernel)) ggX4_rowsWithBoth_X1_reckon
theorem dX4_rowsWithBoth_0 : decode cX4_rowsWithBoth 0 = .ok (.aload_n 0, 1) := by decide +kernel
theorem dX4_rowsWithBoth_1 : decode cX4_rowsWithBoth 1 = .ok (.getfield 23, 3) := by decide +kernel
theorem dX4_rowsWithBoth_4 : decode cX4_rowsWithBoth 4 = .ok (.aload_n 0, 1) := by decide +kernel
theorem dX4_rowsWithBoth_5 : decode cX4_rowsWithBoth 5 = .ok (.getfield 19, 3) := by decide +kernel
theorem dX4_rowsWithBoth_8 : decode cX4_rowsWithBoth 8 = .ok (.invokevirtual 143, 3) := by decide +kernel
theorem dX4_rowsWithBoth_11 : decode cX4_rowsWithBoth 11 = .ok (.aload_n 0, 1) := by decide +kernel
theorem dX4_rowsWithBoth_12 : decode cX4_rowsWithBoth 12 = .ok (.getfield 23, 3) := by decide +kernel
theorem dX4_rowsWithBoth_15 : decode cX4_rowsWithBoth 15 = .ok (.iload_n 1, 1) := by decide +kernel
theorem dX4_rowsWithBoth_16 : decode cX4_rowsWithBoth 16 = .ok (.invokevirtual 106, 3) := by decide +kernel
theorem dX4_rowsWithBoth_19 : decode cX4_rowsWithBoth 19 = .ok (.aload_n 0, 1) := by decide +kernel
theorem dX4_rowsWithBoth_20 : decode cX4_rowsWithBoth 20 = .ok (.getfield 23, 3) := by decide +kernel
theorem dX4_rowsWithBoth_23 : decode cX4_rowsWithBoth 23 = .ok (.iload_n 2, 1) := by decide +kernel
theorem dX4_rowsWithBoth_24 : decode cX4_rowsWithBoth 24 = .ok (.invokevirtual 106, 3) := by decide +kernel
theorem dX4_rowsWithBoth_27 : decode cX4_rowsWithBoth 27 = .ok (.aload_n 0, 1) := by decide +kernel
theorem dX4_rowsWithBoth_28 : decode cX4_rowsWithBoth 28 = .ok (.getfield 23, 3) := by decide +kernel
theorem dX4_rowsWithBoth_31 : decode cX4_rowsWithBoth 31 = .ok (.invokevirtual 109, 3) := by decide +kernel
theorem dX4_rowsWithBoth_34 : decode cX4_rowsWithBoth 34 = .ok (.ireturn, 1) := by decide +kernel
set_option maxRecDepth 20000 in
theorem ggX4_takeOrLeave_X4_rowsWith : GoodIn wsX4_takeOrLeave wsX4_rowsWith := goodIn_r _ [7, 8, 9, 10, 6, 11, 12, 2, 13, 14, 15, 16, 17, 18, 19, 20, 21, 22, 23, 24, 25, 26, 27, 28, 29, 30, 31, 32, 33, 48, 49, 50, 51, 52, 53, 54, 55, 56, 57, 62, 63, 64, 65] (by decide +kernel) (by decide +kernel)
set_option maxRecDepth 20000 in
theorem gX4_takeOrLeave_X4_rowsWith : GoodIn wsX4_takeOrLeave (wsV RX4 126 RX4 yX4_rowsWith wsX4_rowsWith) := goodIn_app (goodIn_of _ (by decide +kernel)) ggX4_takeOrLeave_X4_rowsWith
set_option maxRecDepth 20000 in
theorem ggX4_takeOrLeave_X1_keep : GoodIn wsX4_takeOrLeave wsX1_keep := goodIn_r _ [25, 19, 20, 62, 63, 64, 65] (by decide +kernel) (by decide +kernel)
set_option maxRecDepth 20000 in
theorem gX4_takeOrLeave_X1_keep : GoodIn wsX4_takeOrLeave (wsV RX4 106 RX1 yX1_keep wsX1_keep) := goodIn_app (goodIn_of _ (by decide +kernel)) ggX4_takeOrLeave_X1_keep
set_option maxRecDepth 20000 in
theorem ggX4_takeOrLeave_X1_reckon : GoodIn wsX4_takeOrLeave wsX1_reckon := goodIn_r _ [29, 21, 19, 20, 18, 30, 31, 32, 16, 33, 62, 63, 64, 65] (by decide +kernel) (by decide +kernel)
set_option maxRecDepth 20000 in
theorem gX4_takeOrLeave_X1_reckon : GoodIn wsX4_takeOrLeave (wsV RX4 109 RX1 yX1_reckon wsX1_reckon) := goodIn_app (goodIn_of _ (by decide +kernel)) ggX4_takeOrLeave_X1_reckon
set_option maxRecDepth 20000 in
theorem ggX4_takeOrLeave_X1_closeDeadWays : GoodIn wsX4_takeOrLeave wsX1_closeDeadWays := goodIn_r _ [37, 19, 20, 18, 21, 38, 39, 40, 16, 41, 30, 31, 32, 33, 62, 63, 64, 65] (by decide +kernel) (by decide +kernel)
set_option maxRecDepth 20000 in
theorem gX4_takeOrLeave_X1_closeDeadWays : GoodIn wsX4_takeOrLeave (wsV RX4 79 RX1 yX1_closeDeadWays wsX1_closeDeadWays) := goodIn_app (goodIn_of _ (by decide +kernel)) ggX4_takeOrLeave_X1_closeDeadWays
set_option maxRecDepth 20000 in
theorem ggX4_takeOrLeave_X4_forgetDerived : GoodIn wsX4_takeOrLeave wsX4_forgetDerived := goodIn_r _ [45, 46, 47, 48, 49, 50, 51, 52, 53, 54, 55, 56, 57] (by decide +kernel) (by decide +kernel)
set_option maxRecDepth 20000 in
theorem gX4_takeOrLeave_X4_forgetDerived : GoodIn wsX4_takeOrLeave (wsV RX4 82 RX4 yX4_forgetDerived wsX4_forgetDerived) := goodIn_app (goodIn_of _ (by decide +kernel)) ggX4_takeOrLeave_X4_forgetDerived
theorem dX4_takeOrLeave_0 : decode cX4_takeOrLeave 0 = .ok (.aload_n 0, 1) := by decide +kernel
theorem dX4_takeOrLeave_1 : decode cX4_takeOrLeave 1 = .ok (.getfield 10, 3) := by decide +kernel
theorem dX4_takeOrLeave_4 : decode cX4_takeOrLeave 4 = .ok (.getfield 92, 3) := by decide +kernel
theorem dX4_takeOrLeave_7 : decode cX4_takeOrLeave 7 = .ok (.iload_n 1, 1) := by decide +kernel
theorem dX4_takeOrLeave_8 : decode cX4_takeOrLeave 8 = .ok (.iaload, 1) := by decide +kernel
theorem dX4_takeOrLeave_9 : decode cX4_takeOrLeave 9 = .ok (.istore_n 2, 1) := by decide +kernel
theorem dX4_takeOrLeave_10 : decode cX4_takeOrLeave 10 = .ok (.aload_n 0, 1) := by decide +kernel
theorem dX4_takeOrLeave_11 : decode cX4_takeOrLeave 11 = .ok (.iload_n 2, 1) := by decide +kernel
theorem dX4_takeOrLeave_12 : decode cX4_takeOrLeave 12 = .ok (.invokevirtual 126, 3) := by decide +kernel
theorem dX4_takeOrLeave_15 : decode cX4_takeOrLeave 15 = .ok (.ifCond .le 39, 3) := by decide +kernel
theorem dX4_takeOrLeave_18 : decode cX4_takeOrLeave 18 = .ok (.aload_n 0, 1) := by decide +kernel
theorem dX4_takeOrLeave_19 : decode cX4_takeOrLeave 19 = .ok (.getfield 10, 3) := by decide +kernel
theorem dX4_takeOrLeave_22 : decode cX4_takeOrLeave 22 = .ok (.getfield 72, 3) := by decide +kernel
theorem dX4_takeOrLeave_25 : decode cX4_takeOrLeave 25 = .ok (.iload_n 1, 1) := by decide +kernel
theorem dX4_takeOrLeave_26 : decode cX4_takeOrLeave 26 = .ok (.iconst 0, 1) := by decide +kernel
theorem dX4_takeOrLeave_27 : decode cX4_takeOrLeave 27 = .ok (.iastore, 1) := by decide +kernel
theorem dX4_takeOrLeave_28 : decode cX4_takeOrLeave 28 = .ok (.aload_n 0, 1) := by decide +kernel
theorem dX4_takeOrLeave_29 : decode cX4_takeOrLeave 29 = .ok (.getfield 19, 3) := by decide +kernel
theorem dX4_takeOrLeave_32 : decode cX4_takeOrLeave 32 = .ok (.iload_n 2, 1) := by decide +kernel
theorem dX4_takeOrLeave_33 : decode cX4_takeOrLeave 33 = .ok (.invokevirtual 106, 3) := by decide +kernel
theorem dX4_takeOrLeave_36 : decode cX4_takeOrLeave 36 = .ok (.aload_n 0, 1) := by decide +kernel
theorem dX4_takeOrLeave_37 : decode cX4_takeOrLeave 37 = .ok (.getfield 19, 3) := by decide +kernel
theorem dX4_takeOrLeave_40 : decode cX4_takeOrLeave 40 = .ok (.invokevirtual 109, 3) := by decide +kernel
theorem dX4_takeOrLeave_43 : decode cX4_takeOrLeave 43 = .ok (.pop, 1) := by decide +kernel
theorem dX4_takeOrLeave_44 : decode cX4_takeOrLeave 44 = .ok (.aload_n 0, 1) := by decide +kernel
theorem dX4_takeOrLeave_45 : decode cX4_takeOrLeave 45 = .ok (.getfield 19, 3) := by decide +kernel
theorem dX4_takeOrLeave_48 : decode cX4_takeOrLeave 48 = .ok (.invokevirtual 79, 3) := by decide +kernel
theorem dX4_takeOrLeave_51 : decode cX4_takeOrLeave 51 = .ok (.goto 13, 3) := by decide +kernel
theorem dX4_takeOrLeave_54 : decode cX4_takeOrLeave 54 = .ok (.aload_n 0, 1) := by decide +kernel
theorem dX4_takeOrLeave_55 : decode cX4_takeOrLeave 55 = .ok (.getfield 10, 3) := by decide +kernel
theorem dX4_takeOrLeave_58 : decode cX4_takeOrLeave 58 = .ok (.getfield 72, 3) := by decide +kernel
theorem dX4_takeOrLeave_61 : decode cX4_takeOrLeave 61 = .ok (.iload_n 1, 1) := by decide +kernel
theorem dX4_takeOrLeave_62 : decode cX4_takeOrLeave 62 = .ok (.iconst 1, 1) := by decide +kernel
theorem dX4_takeOrLeave_63 : decode cX4_takeOrLeave 63 = .ok (.iastore, 1) := by decide +kernel
theorem dX4_takeOrLeave_64 : decode cX4_takeOrLeave 64 = .ok (.aload_n 0, 1) := by decide +kernel
theorem dX4_takeOrLeave_65 : decode cX4_takeOrLeave 65 = .ok (.invokevirtual 82, 3) := by decide +kernel
theorem dX4_takeOrLeave_68 : decode cX4_takeOrLeave 68 = .ok (.return_, 1) := by decide +kernel
set_option maxRecDepth 20000 in
theorem ggX4_keepTaken_X1_letAll : GoodIn wsX4_keepTaken wsX1_letAll := goodIn_r _ [7, 8, 9, 10, 38, 39, 40, 41] (by decide +kernel) (by decide +kernel)
set_option maxRecDepth 20000 in
theorem gX4_keepTaken_X1_letAll : GoodIn wsX4_keepTaken (wsV RX4 103 RX1 yX1_letAll wsX1_letAll) := goodIn_app (goodIn_of _ (by decide +kernel)) ggX4_keepTaken_X1_letAll
set_option maxRecDepth 20000 in
theorem ggX4_keepTaken_X1_keep : GoodIn wsX4_keepTaken wsX1_keep := goodIn_r _ [14, 9, 10, 38, 39, 40, 41] (by decide +kernel) (by decide +kernel)
set_option maxRecDepth 20000 in
theorem gX4_keepTaken_X1_keep : GoodIn wsX4_keepTaken (wsV RX4 106 RX1 yX1_keep wsX1_keep) := goodIn_app (goodIn_of _ (by decide +kernel)) ggX4_keepTaken_X1_keep
set_option maxRecDepth 20000 in
theorem ggX4_keepTaken_X1_reckon : GoodIn wsX4_keepTaken wsX1_reckon := goodIn_r _ [18, 19, 9, 10, 8, 20, 21, 22, 6, 23, 38, 39, 40, 41] (by decide +kernel) (by decide +kernel)
set_option maxRecDepth 20000 in
theorem gX4_keepTaken_X1_reckon : GoodIn wsX4_keepTaken (wsV RX4 109 RX1 yX1_reckon wsX1_reckon) := goodIn_app (goodIn_of _ (by decide +kernel)) ggX4_keepTaken_X1_reckon
theorem dX4_keepTaken_0 : decode cX4_keepTaken 0 = .ok (.aload_n 1, 1) := by decide +kernel
theorem dX4_keepTaken_1 : decode cX4_keepTaken 1 = .ok (.aload_n 0, 1) := by decide +kernel
theorem dX4_keepTaken_2 : decode cX4_keepTaken 2 = .ok (.getfield 100, 3) := by decide +kernel
theorem dX4_keepTaken_5 : decode cX4_keepTaken 5 = .ok (.invokevirtual 103, 3) := by decide +kernel
theorem dX4_keepTaken_8 : decode cX4_keepTaken 8 = .ok (.iconst 0, 1) := by decide +kernel
theorem dX4_keepTaken_9 : decode cX4_keepTaken 9 = .ok (.istore_n 3, 1) := by decide +kernel
theorem dX4_keepTaken_10 : decode cX4_keepTaken 10 = .ok (.iload_n 3, 1) := by decide +kernel
theorem dX4_keepTaken_11 : decode cX4_keepTaken 11 = .ok (.aload_n 0, 1) := by decide +kernel
theorem dX4_keepTaken_12 : decode cX4_keepTaken 12 = .ok (.getfield 10, 3) := by decide +kernel
theorem dX4_keepTaken_15 : decode cX4_keepTaken 15 = .ok (.getfield 59, 3) := by decide +kernel
theorem dX4_keepTaken_18 : decode cX4_keepTaken 18 = .ok (.if_icmp .ge 39, 3) := by decide +kernel
theorem dX4_keepTaken_21 : decode cX4_keepTaken 21 = .ok (.iload_n 3, 1) := by decide +kernel
theorem dX4_keepTaken_22 : decode cX4_keepTaken 22 = .ok (.iload_n 2, 1) := by decide +kernel
theorem dX4_keepTaken_23 : decode cX4_keepTaken 23 = .ok (.if_icmp .eq 28, 3) := by decide +kernel
theorem dX4_keepTaken_26 : decode cX4_keepTaken 26 = .ok (.aload_n 0, 1) := by decide +kernel
theorem dX4_keepTaken_27 : decode cX4_keepTaken 27 = .ok (.getfield 10, 3) := by decide +kernel
theorem dX4_keepTaken_30 : decode cX4_keepTaken 30 = .ok (.getfield 72, 3) := by decide +kernel
theorem dX4_keepTaken_33 : decode cX4_keepTaken 33 = .ok (.iload_n 3, 1) := by decide +kernel
theorem dX4_keepTaken_34 : decode cX4_keepTaken 34 = .ok (.iaload, 1) := by decide +kernel
theorem dX4_keepTaken_35 : decode cX4_keepTaken 35 = .ok (.ifCond .ne 16, 3) := by decide +kernel
theorem dX4_keepTaken_38 : decode cX4_keepTaken 38 = .ok (.aload_n 1, 1) := by decide +kernel
theorem dX4_keepTaken_39 : decode cX4_keepTaken 39 = .ok (.aload_n 0, 1) := by decide +kernel
theorem dX4_keepTaken_40 : decode cX4_keepTaken 40 = .ok (.getfield 10, 3) := by decide +kernel
theorem dX4_keepTaken_43 : decode cX4_keepTaken 43 = .ok (.getfield 92, 3) := by decide +kernel
theorem dX4_keepTaken_46 : decode cX4_keepTaken 46 = .ok (.iload_n 3, 1) := by decide +kernel
theorem dX4_keepTaken_47 : decode cX4_keepTaken 47 = .ok (.iaload, 1) := by decide +kernel
theorem dX4_keepTaken_48 : decode cX4_keepTaken 48 = .ok (.invokevirtual 106, 3) := by decide +kernel
theorem dX4_keepTaken_51 : decode cX4_keepTaken 51 = .ok (.iinc 3 1, 3) := by decide +kernel
theorem dX4_keepTaken_54 : decode cX4_keepTaken 54 = .ok (.goto (-44), 3) := by decide +kernel
theorem dX4_keepTaken_57 : decode cX4_keepTaken 57 = .ok (.aload_n 1, 1) := by decide +kernel
theorem dX4_keepTaken_58 : decode cX4_keepTaken 58 = .ok (.invokevirtual 109, 3) := by decide +kernel
theorem dX4_keepTaken_61 : decode cX4_keepTaken 61 = .ok (.ireturn, 1) := by decide +kernel
theorem dX4_forgetDerived_0 : decode cX4_forgetDerived 0 = .ok (.aload_n 0, 1) := by decide +kernel
theorem dX4_forgetDerived_1 : decode cX4_forgetDerived 1 = .ok (.iconst 1, 1) := by decide +kernel
theorem dX4_forgetDerived_2 : decode cX4_forgetDerived 2 = .ok (.putfield 199, 3) := by decide +kernel
theorem dX4_forgetDerived_5 : decode cX4_forgetDerived 5 = .ok (.aload_n 0, 1) := by decide +kernel
theorem dX4_forgetDerived_6 : decode cX4_forgetDerived 6 = .ok (.iconst 1, 1) := by decide +kernel
theorem dX4_forgetDerived_7 : decode cX4_forgetDerived 7 = .ok (.putfield 88, 3) := by decide +kernel
theorem dX4_forgetDerived_10 : decode cX4_forgetDerived 10 = .ok (.return_, 1) := by decide +kernel
set_option maxRecDepth 20000 in
theorem ggX4_growTree_X1_write : GoodIn wsX4_growTree wsX1_write := goodIn_r _ [9, 10, 11, 12, 13, 8, 14, 15, 16, 17, 18, 19, 20, 21, 22, 23, 24, 73, 74, 75, 76] (by decide +kernel) (by decide +kernel)
set_option maxRecDepth 20000 in
theorem gX4_growTree_X1_write : GoodIn wsX4_growTree (wsV RX4 119 RX1 yX1_write wsX1_write) := goodIn_app (goodIn_of _ (by decide +kernel)) ggX4_growTree_X1_write
set_option maxRecDepth 20000 in
theorem ggX4_growTree_X3_grow : GoodIn wsX4_growTree wsX3_grow := goodIn_r _ [29, 30, 31, 32, 33, 34, 35, 36, 37, 38, 8, 39, 40, 20, 41, 42, 43, 28, 44, 45, 46, 47, 48, 49, 50, 51, 52, 53, 54, 55, 56, 57, 58, 59, 60, 61, 62, 73, 74, 75, 76, 77, 78, 79, 80, 81, 82] (by decide +kernel) (by decide +kernel)
set_option maxRecDepth 20000 in
theorem gX4_growTree_X3_grow : GoodIn wsX4_growTree (wsV RX4 202 RX3 yX3_grow wsX3_grow) := goodIn_app (goodIn_of _ (by decide +kernel)) ggX4_growTree_X3_grow
theorem dX4_growTree_0 : decode cX4_growTree 0 = .ok (.aload_n 0, 1) := by decide +kernel
theorem dX4_growTree_1 : decode cX4_growTree 1 = .ok (.getfield 199, 3) := by decide +kernel
theorem dX4_growTree_4 : decode cX4_growTree 4 = .ok (.ifCond .eq 35, 3) := by decide +kernel
theorem dX4_growTree_7 : decode cX4_growTree 7 = .ok (.aload_n 0, 1) := by decide +kernel
theorem dX4_growTree_8 : decode cX4_growTree 8 = .ok (.getfield 19, 3) := by decide +kernel
theorem dX4_growTree_11 : decode cX4_growTree 11 = .ok (.iconst 0, 1) := by decide +kernel
theorem dX4_growTree_12 : decode cX4_growTree 12 = .ok (.aload_n 0, 1) := by decide +kernel
theorem dX4_growTree_13 : decode cX4_growTree 13 = .ok (.getfield 40, 3) := by decide +kernel
theorem dX4_growTree_16 : decode cX4_growTree 16 = .ok (.invokevirtual 119, 3) := by decide +kernel
theorem dX4_growTree_19 : decode cX4_growTree 19 = .ok (.aload_n 0, 1) := by decide +kernel
theorem dX4_growTree_20 : decode cX4_growTree 20 = .ok (.getfield 29, 3) := by decide +kernel
theorem dX4_growTree_23 : decode cX4_growTree 23 = .ok (.aload_n 0, 1) := by decide +kernel
theorem dX4_growTree_24 : decode cX4_growTree 24 = .ok (.getfield 19, 3) := by decide +kernel
theorem dX4_growTree_27 : decode cX4_growTree 27 = .ok (.aload_n 0, 1) := by decide +kernel
theorem dX4_growTree_28 : decode cX4_growTree 28 = .ok (.getfield 40, 3) := by decide +kernel
theorem dX4_growTree_31 : decode cX4_growTree 31 = .ok (.invokevirtual 202, 3) := by decide +kernel
theorem dX4_growTree_34 : decode cX4_growTree 34 = .ok (.aload_n 0, 1) := by decide +kernel
theorem dX4_growTree_35 : decode cX4_growTree 35 = .ok (.iconst 0, 1) := by decide +kernel
theorem dX4_growTree_36 : decode cX4_growTree 36 = .ok (.putfield 199, 3) := by decide +kernel
theorem dX4_growTree_39 : decode cX4_growTree 39 = .ok (.return_, 1) := by decide +kernel
set_option maxRecDepth 20000 in
theorem ggX4_makeSavings_X2_weigh : GoodIn wsX4_makeSavings wsX2_weigh := goodIn_r _ [9, 10, 11, 12, 13, 14, 8, 15, 16, 17, 18, 19, 20, 21, 22, 56, 57, 58, 59, 60, 61, 62, 63] (by decide +kernel) (by decide +kernel)
set_option maxRecDepth 20000 in
theorem gX4_makeSavings_X2_weigh : GoodIn wsX4_makeSavings (wsV RX4 206 RX2 yX2_weigh wsX2_weigh) := goodIn_app (goodIn_of _ (by decide +kernel)) ggX4_makeSavings_X2_weigh
set_option maxRecDepth 20000 in
theorem ggX4_makeSavings_X2_lookAhead : GoodIn wsX4_makeSavings wsX2_lookAhead := goodIn_r _ [26, 27, 28, 29, 8, 30, 11, 31, 32, 33, 34, 35, 36, 37, 38, 39, 40, 41, 42, 43, 44, 45, 64, 65, 66, 67, 56, 57, 58, 59] (by decide +kernel) (by decide +kernel)
set_option maxRecDepth 20000 in
theorem gX4_makeSavings_X2_lookAhead : GoodIn wsX4_makeSavings (wsV RX4 210 RX2 yX2_lookAhead wsX2_lookAhead) := goodIn_app (goodIn_of _ (by decide +kernel)) ggX4_makeSavings_X2_lookAhead
theorem dX4_makeSavings_0 : decode cX4_makeSavings 0 = .ok (.aload_n 0, 1) := by decide +kernel
theorem dX4_makeSavings_1 : decode cX4_makeSavings 1 = .ok (.getfield 88, 3) := by decide +kernel
theorem dX4_makeSavings_4 : decode cX4_makeSavings 4 = .ok (.ifCond .eq 30, 3) := by decide +kernel
theorem dX4_makeSavings_7 : decode cX4_makeSavings 7 = .ok (.aload_n 0, 1) := by decide +kernel
theorem dX4_makeSavings_8 : decode cX4_makeSavings 8 = .ok (.getfield 36, 3) := by decide +kernel
theorem dX4_makeSavings_11 : decode cX4_makeSavings 11 = .ok (.aload_n 0, 1) := by decide +kernel
theorem dX4_makeSavings_12 : decode cX4_makeSavings 12 = .ok (.getfield 10, 3) := by decide +kernel
theorem dX4_makeSavings_15 : decode cX4_makeSavings 15 = .ok (.invokevirtual 206, 3) := by decide +kernel
theorem dX4_makeSavings_18 : decode cX4_makeSavings 18 = .ok (.aload_n 0, 1) := by decide +kernel
theorem dX4_makeSavings_19 : decode cX4_makeSavings 19 = .ok (.getfield 36, 3) := by decide +kernel
theorem dX4_makeSavings_22 : decode cX4_makeSavings 22 = .ok (.aload_n 0, 1) := by decide +kernel
theorem dX4_makeSavings_23 : decode cX4_makeSavings 23 = .ok (.getfield 19, 3) := by decide +kernel
theorem dX4_makeSavings_26 : decode cX4_makeSavings 26 = .ok (.invokevirtual 210, 3) := by decide +kernel
theorem dX4_makeSavings_29 : decode cX4_makeSavings 29 = .ok (.aload_n 0, 1) := by decide +kernel
theorem dX4_makeSavings_30 : decode cX4_makeSavings 30 = .ok (.iconst 0, 1) := by decide +kernel
theorem dX4_makeSavings_31 : decode cX4_makeSavings 31 = .ok (.putfield 88, 3) := by decide +kernel
theorem dX4_makeSavings_34 : decode cX4_makeSavings 34 = .ok (.return_, 1) := by decide +kernel
set_option maxRecDepth 20000 in
theorem ggX5_init_X5_lay : GoodIn wsX5_init wsX5_lay := goodIn_r _ [21, 22, 23, 24, 11, 10, 25, 26, 27, 28, 29, 20, 30, 31, 32, 33, 34, 35, 36, 37, 38, 39, 40, 41, 42, 43, 44, 45, 46, 47] (by decide +kernel) (by decide +kernel)
set_option maxRecDepth 20000 in
theorem gX5_init_X5_lay : GoodIn wsX5_init (wsV RX5 42 RX5 yX5_lay wsX5_lay) := goodIn_app (goodIn_of _ (by decide +kernel)) ggX5_init_X5_lay
theorem dX5_init_0 : decode cX5_init 0 = .ok (.aload_n 0, 1) := by decide +kernel
theorem dX5_init_1 : decode cX5_init 1 = .ok (.invokespecial 1, 3) := by decide +kernel
theorem dX5_init_4 : decode cX5_init 4 = .ok (.aload_n 0, 1) := by decide +kernel
theorem dX5_init_5 : decode cX5_init 5 = .ok (.bipush 7, 2) := by decide +kernel
theorem dX5_init_7 : decode cX5_init 7 = .ok (.newarray .int, 2) := by decide +kernel
theorem dX5_init_9 : decode cX5_init 9 = .ok (.putfield 7, 3) := by decide +kernel
theorem dX5_init_12 : decode cX5_init 12 = .ok (.aload_n 0, 1) := by decide +kernel
theorem dX5_init_13 : decode cX5_init 13 = .ok (.bipush 40, 2) := by decide +kernel
theorem dX5_init_15 : decode cX5_init 15 = .ok (.newarray .int, 2) := by decide +kernel
theorem dX5_init_17 : decode cX5_init 17 = .ok (.putfield 13, 3) := by decide +kernel
theorem dX5_init_20 : decode cX5_init 20 = .ok (.aload_n 0, 1) := by decide +kernel
theorem dX5_init_21 : decode cX5_init 21 = .ok (.bipush 40, 2) := by decide +kernel
theorem dX5_init_23 : decode cX5_init 23 = .ok (.newarray .int, 2) := by decide +kernel
theorem dX5_init_25 : decode cX5_init 25 = .ok (.putfield 16, 3) := by decide +kernel
theorem dX5_init_28 : decode cX5_init 28 = .ok (.aload_n 0, 1) := by decide +kernel
theorem dX5_init_29 : decode cX5_init 29 = .ok (.bipush 40, 2) := by decide +kernel
theorem dX5_init_31 : decode cX5_init 31 = .ok (.newarray .int, 2) := by decide +kernel
theorem dX5_init_33 : decode cX5_init 33 = .ok (.putfield 19, 3) := by decide +kernel
theorem dX5_init_36 : decode cX5_init 36 = .ok (.aload_n 0, 1) := by decide +kernel
theorem dX5_init_37 : decode cX5_init 37 = .ok (.ldc 22, 2) := by decide +kernel
theorem dX5_init_39 : decode cX5_init 39 = .ok (.newarray .int, 2) := by decide +kernel
theorem dX5_init_41 : decode cX5_init 41 = .ok (.putfield 23, 3) := by decide +kernel
theorem dX5_init_44 : decode cX5_init 44 = .ok (.aload_n 0, 1) := by decide +kernel
theorem dX5_init_45 : decode cX5_init 45 = .ok (.ldc 22, 2) := by decide +kernel
theorem dX5_init_47 : decode cX5_init 47 = .ok (.newarray .int, 2) := by decide +kernel
theorem dX5_init_49 : decode cX5_init 49 = .ok (.putfield 26, 3) := by decide +kernel
theorem dX5_init_52 : decode cX5_init 52 = .ok (.aload_n 0, 1) := by decide +kernel
theorem dX5_init_53 : decode cX5_init 53 = .ok (.ldc 22, 2) := by decide +kernel
theorem dX5_init_55 : decode cX5_init 55 = .ok (.newarray .int, 2) := by decide +kernel
theorem dX5_init_57 : decode cX5_init 57 = .ok (.putfield 29, 3) := by decide +kernel
theorem dX5_init_60 : decode cX5_init 60 = .ok (.aload_n 0, 1) := by decide +kernel
