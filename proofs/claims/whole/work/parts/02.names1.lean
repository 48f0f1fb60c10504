theorem dX0_init_0 : decode cX0_init 0 = .ok (.aload_n 0, 1) := by decide +kernel
theorem dX0_init_1 : decode cX0_init 1 = .ok (.invokespecial 3, 3) := by decide +kernel
theorem dX0_init_4 : decode cX0_init 4 = .ok (.aload_n 0, 1) := by decide +kernel
theorem dX0_init_5 : decode cX0_init 5 = .ok (.bipush 40, 2) := by decide +kernel
theorem dX0_init_7 : decode cX0_init 7 = .ok (.newarray .int, 2) := by decide +kernel
theorem dX0_init_9 : decode cX0_init 9 = .ok (.putfield 9, 3) := by decide +kernel
theorem dX0_init_12 : decode cX0_init 12 = .ok (.aload_n 0, 1) := by decide +kernel
theorem dX0_init_13 : decode cX0_init 13 = .ok (.bipush 40, 2) := by decide +kernel
theorem dX0_init_15 : decode cX0_init 15 = .ok (.newarray .int, 2) := by decide +kernel
theorem dX0_init_17 : decode cX0_init 17 = .ok (.putfield 15, 3) := by decide +kernel
theorem dX0_init_20 : decode cX0_init 20 = .ok (.aload_n 0, 1) := by decide +kernel
theorem dX0_init_21 : decode cX0_init 21 = .ok (.bipush 40, 2) := by decide +kernel
theorem dX0_init_23 : decode cX0_init 23 = .ok (.newarray .int, 2) := by decide +kernel
theorem dX0_init_25 : decode cX0_init 25 = .ok (.putfield 18, 3) := by decide +kernel
theorem dX0_init_28 : decode cX0_init 28 = .ok (.return_, 1) := by decide +kernel
theorem dX0_has_0 : decode cX0_has 0 = .ok (.iload_n 1, 1) := by decide +kernel
theorem dX0_has_1 : decode cX0_has 1 = .ok (.ifCond .lt 21, 3) := by decide +kernel
theorem dX0_has_4 : decode cX0_has 4 = .ok (.iload_n 1, 1) := by decide +kernel
theorem dX0_has_5 : decode cX0_has 5 = .ok (.aload_n 0, 1) := by decide +kernel
theorem dX0_has_6 : decode cX0_has 6 = .ok (.getfield 21, 3) := by decide +kernel
theorem dX0_has_9 : decode cX0_has 9 = .ok (.if_icmp .ge 13, 3) := by decide +kernel
theorem dX0_has_12 : decode cX0_has 12 = .ok (.iload_n 1, 1) := by decide +kernel
theorem dX0_has_13 : decode cX0_has 13 = .ok (.bipush 40, 2) := by decide +kernel
theorem dX0_has_15 : decode cX0_has 15 = .ok (.if_icmp .ge 7, 3) := by decide +kernel
theorem dX0_has_18 : decode cX0_has 18 = .ok (.iconst 1, 1) := by decide +kernel
theorem dX0_has_19 : decode cX0_has 19 = .ok (.goto 4, 3) := by decide +kernel
theorem dX0_has_22 : decode cX0_has 22 = .ok (.iconst 0, 1) := by decide +kernel
theorem dX0_has_23 : decode cX0_has 23 = .ok (.ireturn, 1) := by decide +kernel
theorem dX0_add_0 : decode cX0_add 0 = .ok (.aload_n 0, 1) := by decide +kernel
theorem dX0_add_1 : decode cX0_add 1 = .ok (.getfield 21, 3) := by decide +kernel
theorem dX0_add_4 : decode cX0_add 4 = .ok (.istore_n 2, 1) := by decide +kernel
theorem dX0_add_5 : decode cX0_add 5 = .ok (.iload_n 2, 1) := by decide +kernel
theorem dX0_add_6 : decode cX0_add 6 = .ok (.bipush 40, 2) := by decide +kernel
theorem dX0_add_8 : decode cX0_add 8 = .ok (.if_icmp .ge 34, 3) := by decide +kernel
theorem dX0_add_11 : decode cX0_add 11 = .ok (.aload_n 0, 1) := by decide +kernel
theorem dX0_add_12 : decode cX0_add 12 = .ok (.getfield 9, 3) := by decide +kernel
theorem dX0_add_15 : decode cX0_add 15 = .ok (.iload_n 2, 1) := by decide +kernel
theorem dX0_add_16 : decode cX0_add 16 = .ok (.iload_n 1, 1) := by decide +kernel
theorem dX0_add_17 : decode cX0_add 17 = .ok (.iastore, 1) := by decide +kernel
theorem dX0_add_18 : decode cX0_add 18 = .ok (.aload_n 0, 1) := by decide +kernel
theorem dX0_add_19 : decode cX0_add 19 = .ok (.getfield 15, 3) := by decide +kernel
theorem dX0_add_22 : decode cX0_add 22 = .ok (.iload_n 2, 1) := by decide +kernel
theorem dX0_add_23 : decode cX0_add 23 = .ok (.iconst 1, 1) := by decide +kernel
theorem dX0_add_24 : decode cX0_add 24 = .ok (.iastore, 1) := by decide +kernel
theorem dX0_add_25 : decode cX0_add 25 = .ok (.aload_n 0, 1) := by decide +kernel
theorem dX0_add_26 : decode cX0_add 26 = .ok (.getfield 18, 3) := by decide +kernel
theorem dX0_add_29 : decode cX0_add 29 = .ok (.iload_n 2, 1) := by decide +kernel
theorem dX0_add_30 : decode cX0_add 30 = .ok (.iconst 1, 1) := by decide +kernel
theorem dX0_add_31 : decode cX0_add 31 = .ok (.iastore, 1) := by decide +kernel
theorem dX0_add_32 : decode cX0_add 32 = .ok (.aload_n 0, 1) := by decide +kernel
theorem dX0_add_33 : decode cX0_add 33 = .ok (.dup, 1) := by decide +kernel
theorem dX0_add_34 : decode cX0_add 34 = .ok (.getfield 21, 3) := by decide +kernel
theorem dX0_add_37 : decode cX0_add 37 = .ok (.iconst 1, 1) := by decide +kernel
theorem dX0_add_38 : decode cX0_add 38 = .ok (.iadd, 1) := by decide +kernel
theorem dX0_add_39 : decode cX0_add 39 = .ok (.putfield 21, 3) := by decide +kernel
theorem dX0_add_42 : decode cX0_add 42 = .ok (.iload_n 2, 1) := by decide +kernel
theorem dX0_add_43 : decode cX0_add 43 = .ok (.ireturn, 1) := by decide +kernel
theorem dX0_howMany_0 : decode cX0_howMany 0 = .ok (.iconst 0, 1) := by decide +kernel
theorem dX0_howMany_1 : decode cX0_howMany 1 = .ok (.istore_n 2, 1) := by decide +kernel
theorem dX0_howMany_2 : decode cX0_howMany 2 = .ok (.iconst 0, 1) := by decide +kernel
theorem dX0_howMany_3 : decode cX0_howMany 3 = .ok (.istore_n 3, 1) := by decide +kernel
theorem dX0_howMany_4 : decode cX0_howMany 4 = .ok (.iload_n 3, 1) := by decide +kernel
theorem dX0_howMany_5 : decode cX0_howMany 5 = .ok (.aload_n 0, 1) := by decide +kernel
theorem dX0_howMany_6 : decode cX0_howMany 6 = .ok (.getfield 21, 3) := by decide +kernel
theorem dX0_howMany_9 : decode cX0_howMany 9 = .ok (.if_icmp .ge 22, 3) := by decide +kernel
theorem dX0_howMany_12 : decode cX0_howMany 12 = .ok (.aload_n 0, 1) := by decide +kernel
theorem dX0_howMany_13 : decode cX0_howMany 13 = .ok (.getfield 15, 3) := by decide +kernel
theorem dX0_howMany_16 : decode cX0_howMany 16 = .ok (.iload_n 3, 1) := by decide +kernel
theorem dX0_howMany_17 : decode cX0_howMany 17 = .ok (.iaload, 1) := by decide +kernel
theorem dX0_howMany_18 : decode cX0_howMany 18 = .ok (.iload_n 1, 1) := by decide +kernel
theorem dX0_howMany_19 : decode cX0_howMany 19 = .ok (.if_icmp .ne 6, 3) := by decide +kernel
theorem dX0_howMany_22 : decode cX0_howMany 22 = .ok (.iinc 2 1, 3) := by decide +kernel
theorem dX0_howMany_25 : decode cX0_howMany 25 = .ok (.iinc 3 1, 3) := by decide +kernel
theorem dX0_howMany_28 : decode cX0_howMany 28 = .ok (.goto (-24), 3) := by decide +kernel
theorem dX0_howMany_31 : decode cX0_howMany 31 = .ok (.iload_n 2, 1) := by decide +kernel
theorem dX0_howMany_32 : decode cX0_howMany 32 = .ok (.ireturn, 1) := by decide +kernel
theorem dX1_init_0 : decode cX1_init 0 = .ok (.aload_n 0, 1) := by decide +kernel
theorem dX1_init_1 : decode cX1_init 1 = .ok (.invokespecial 3, 3) := by decide +kernel
theorem dX1_init_4 : decode cX1_init 4 = .ok (.aload_n 0, 1) := by decide +kernel
theorem dX1_init_5 : decode cX1_init 5 = .ok (.sipush 256, 3) := by decide +kernel
theorem dX1_init_8 : decode cX1_init 8 = .ok (.newarray .int, 2) := by decide +kernel
theorem dX1_init_10 : decode cX1_init 10 = .ok (.putfield 9, 3) := by decide +kernel
theorem dX1_init_13 : decode cX1_init 13 = .ok (.aload_n 0, 1) := by decide +kernel
theorem dX1_init_14 : decode cX1_init 14 = .ok (.sipush 256, 3) := by decide +kernel
theorem dX1_init_17 : decode cX1_init 17 = .ok (.newarray .int, 2) := by decide +kernel
theorem dX1_init_19 : decode cX1_init 19 = .ok (.putfield 15, 3) := by decide +kernel
theorem dX1_init_22 : decode cX1_init 22 = .ok (.return_, 1) := by decide +kernel
theorem dX1_letAll_0 : decode cX1_letAll 0 = .ok (.aload_n 0, 1) := by decide +kernel
theorem dX1_letAll_1 : decode cX1_letAll 1 = .ok (.iload_n 1, 1) := by decide +kernel
theorem dX1_letAll_2 : decode cX1_letAll 2 = .ok (.putfield 18, 3) := by decide +kernel
theorem dX1_letAll_5 : decode cX1_letAll 5 = .ok (.aload_n 0, 1) := by decide +kernel
theorem dX1_letAll_6 : decode cX1_letAll 6 = .ok (.iconst 1, 1) := by decide +kernel
theorem dX1_letAll_7 : decode cX1_letAll 7 = .ok (.iload_n 1, 1) := by decide +kernel
theorem dX1_letAll_8 : decode cX1_letAll 8 = .ok (.ishl, 1) := by decide +kernel
theorem dX1_letAll_9 : decode cX1_letAll 9 = .ok (.iconst 1, 1) := by decide +kernel
theorem dX1_letAll_10 : decode cX1_letAll 10 = .ok (.isub, 1) := by decide +kernel
theorem dX1_letAll_11 : decode cX1_letAll 11 = .ok (.putfield 22, 3) := by decide +kernel
theorem dX1_letAll_14 : decode cX1_letAll 14 = .ok (.iconst 0, 1) := by decide +kernel
theorem dX1_letAll_15 : decode cX1_letAll 15 = .ok (.istore_n 2, 1) := by decide +kernel
theorem dX1_letAll_16 : decode cX1_letAll 16 = .ok (.iload_n 2, 1) := by decide +kernel
theorem dX1_letAll_17 : decode cX1_letAll 17 = .ok (.aload_n 0, 1) := by decide +kernel
theorem dX1_letAll_18 : decode cX1_letAll 18 = .ok (.getfield 22, 3) := by decide +kernel
theorem dX1_letAll_21 : decode cX1_letAll 21 = .ok (.if_icmp .gt 23, 3) := by decide +kernel
theorem dX1_letAll_24 : decode cX1_letAll 24 = .ok (.aload_n 0, 1) := by decide +kernel
theorem dX1_letAll_25 : decode cX1_letAll 25 = .ok (.getfield 9, 3) := by decide +kernel
theorem dX1_letAll_28 : decode cX1_letAll 28 = .ok (.iload_n 2, 1) := by decide +kernel
theorem dX1_letAll_29 : decode cX1_letAll 29 = .ok (.aload_n 0, 1) := by decide +kernel
theorem dX1_letAll_30 : decode cX1_letAll 30 = .ok (.getfield 22, 3) := by decide +kernel
theorem dX1_letAll_33 : decode cX1_letAll 33 = .ok (.iload_n 2, 1) := by decide +kernel
theorem dX1_letAll_34 : decode cX1_letAll 34 = .ok (.iconst (-1), 1) := by decide +kernel
theorem dX1_letAll_35 : decode cX1_letAll 35 = .ok (.ixor, 1) := by decide +kernel
theorem dX1_letAll_36 : decode cX1_letAll 36 = .ok (.iand, 1) := by decide +kernel
theorem dX1_letAll_37 : decode cX1_letAll 37 = .ok (.iastore, 1) := by decide +kernel
theorem dX1_letAll_38 : decode cX1_letAll 38 = .ok (.iinc 2 1, 3) := by decide +kernel
theorem dX1_letAll_41 : decode cX1_letAll 41 = .ok (.goto (-25), 3) := by decide +kernel
theorem dX1_letAll_44 : decode cX1_letAll 44 = .ok (.return_, 1) := by decide +kernel
theorem dX1_copy_0 : decode cX1_copy 0 = .ok (.aload_n 0, 1) := by decide +kernel
theorem dX1_copy_1 : decode cX1_copy 1 = .ok (.aload_n 1, 1) := by decide +kernel
theorem dX1_copy_2 : decode cX1_copy 2 = .ok (.getfield 18, 3) := by decide +kernel
theorem dX1_copy_5 : decode cX1_copy 5 = .ok (.putfield 18, 3) := by decide +kernel
theorem dX1_copy_8 : decode cX1_copy 8 = .ok (.aload_n 0, 1) := by decide +kernel
theorem dX1_copy_9 : decode cX1_copy 9 = .ok (.aload_n 1, 1) := by decide +kernel
theorem dX1_copy_10 : decode cX1_copy 10 = .ok (.getfield 22, 3) := by decide +kernel
theorem dX1_copy_13 : decode cX1_copy 13 = .ok (.putfield 22, 3) := by decide +kernel
theorem dX1_copy_16 : decode cX1_copy 16 = .ok (.iconst 0, 1) := by decide +kernel
theorem dX1_copy_17 : decode cX1_copy 17 = .ok (.istore_n 2, 1) := by decide +kernel
theorem dX1_copy_18 : decode cX1_copy 18 = .ok (.iload_n 2, 1) := by decide +kernel
theorem dX1_copy_19 : decode cX1_copy 19 = .ok (.aload_n 0, 1) := by decide +kernel
theorem dX1_copy_20 : decode cX1_copy 20 = .ok (.getfield 22, 3) := by decide +kernel
theorem dX1_copy_23 : decode cX1_copy 23 = .ok (.if_icmp .gt 33, 3) := by decide +kernel
theorem dX1_copy_26 : decode cX1_copy 26 = .ok (.aload_n 0, 1) := by decide +kernel
theorem dX1_copy_27 : decode cX1_copy 27 = .ok (.getfield 9, 3) := by decide +kernel
theorem dX1_copy_30 : decode cX1_copy 30 = .ok (.iload_n 2, 1) := by decide +kernel
theorem dX1_copy_31 : decode cX1_copy 31 = .ok (.aload_n 1, 1) := by decide +kernel
theorem dX1_copy_32 : decode cX1_copy 32 = .ok (.getfield 9, 3) := by decide +kernel
theorem dX1_copy_35 : decode cX1_copy 35 = .ok (.iload_n 2, 1) := by decide +kernel
theorem dX1_copy_36 : decode cX1_copy 36 = .ok (.iaload, 1) := by decide +kernel
theorem dX1_copy_37 : decode cX1_copy 37 = .ok (.iastore, 1) := by decide +kernel
theorem dX1_copy_38 : decode cX1_copy 38 = .ok (.aload_n 0, 1) := by decide +kernel
theorem dX1_copy_39 : decode cX1_copy 39 = .ok (.getfield 15, 3) := by decide +kernel
theorem dX1_copy_42 : decode cX1_copy 42 = .ok (.iload_n 2, 1) := by decide +kernel
theorem dX1_copy_43 : decode cX1_copy 43 = .ok (.aload_n 1, 1) := by decide +kernel
theorem dX1_copy_44 : decode cX1_copy 44 = .ok (.getfield 15, 3) := by decide +kernel
theorem dX1_copy_47 : decode cX1_copy 47 = .ok (.iload_n 2, 1) := by decide +kernel
theorem dX1_copy_48 : decode cX1_copy 48 = .ok (.iaload, 1) := by decide +kernel
theorem dX1_copy_49 : decode cX1_copy 49 = .ok (.iastore, 1) := by decide +kernel
theorem dX1_copy_50 : decode cX1_copy 50 = .ok (.iinc 2 1, 3) := by decide +kernel
theorem dX1_copy_53 : decode cX1_copy 53 = .ok (.goto (-35), 3) := by decide +kernel
theorem dX1_copy_56 : decode cX1_copy 56 = .ok (.return_, 1) := by decide +kernel
theorem dX1_keep_0 : decode cX1_keep 0 = .ok (.iconst 0, 1) := by decide +kernel
theorem dX1_keep_1 : decode cX1_keep 1 = .ok (.istore_n 2, 1) := by decide +kernel
theorem dX1_keep_2 : decode cX1_keep 2 = .ok (.iload_n 2, 1) := by decide +kernel
theorem dX1_keep_3 : decode cX1_keep 3 = .ok (.aload_n 0, 1) := by decide +kernel
theorem dX1_keep_4 : decode cX1_keep 4 = .ok (.getfield 22, 3) := by decide +kernel
theorem dX1_keep_7 : decode cX1_keep 7 = .ok (.if_icmp .gt 55, 3) := by decide +kernel
theorem dX1_keep_10 : decode cX1_keep 10 = .ok (.iload_n 1, 1) := by decide +kernel
theorem dX1_keep_11 : decode cX1_keep 11 = .ok (.iload_n 2, 1) := by decide +kernel
theorem dX1_keep_12 : decode cX1_keep 12 = .ok (.iand, 1) := by decide +kernel
theorem dX1_keep_13 : decode cX1_keep 13 = .ok (.ifCond .eq 7, 3) := by decide +kernel
theorem dX1_keep_16 : decode cX1_keep 16 = .ok (.iconst 1, 1) := by decide +kernel
theorem dX1_keep_17 : decode cX1_keep 17 = .ok (.goto 4, 3) := by decide +kernel
theorem dX1_keep_20 : decode cX1_keep 20 = .ok (.iconst 0, 1) := by decide +kernel
theorem dX1_keep_21 : decode cX1_keep 21 = .ok (.istore_n 3, 1) := by decide +kernel
theorem dX1_keep_22 : decode cX1_keep 22 = .ok (.iload_n 1, 1) := by decide +kernel
theorem dX1_keep_23 : decode cX1_keep 23 = .ok (.iload_n 2, 1) := by decide +kernel
theorem dX1_keep_24 : decode cX1_keep 24 = .ok (.iconst (-1), 1) := by decide +kernel
theorem dX1_keep_25 : decode cX1_keep 25 = .ok (.ixor, 1) := by decide +kernel
theorem dX1_keep_26 : decode cX1_keep 26 = .ok (.iand, 1) := by decide +kernel
theorem dX1_keep_27 : decode cX1_keep 27 = .ok (.ifCond .eq 7, 3) := by decide +kernel
theorem dX1_keep_30 : decode cX1_keep 30 = .ok (.iconst 1, 1) := by decide +kernel
theorem dX1_keep_31 : decode cX1_keep 31 = .ok (.goto 4, 3) := by decide +kernel
theorem dX1_keep_34 : decode cX1_keep 34 = .ok (.iconst 0, 1) := by decide +kernel
theorem dX1_keep_35 : decode cX1_keep 35 = .ok (.istore 4, 2) := by decide +kernel
theorem dX1_keep_37 : decode cX1_keep 37 = .ok (.iload_n 3, 1) := by decide +kernel
theorem dX1_keep_38 : decode cX1_keep 38 = .ok (.ifCond .eq 18, 3) := by decide +kernel
theorem dX1_keep_41 : decode cX1_keep 41 = .ok (.iload 4, 2) := by decide +kernel
theorem dX1_keep_43 : decode cX1_keep 43 = .ok (.ifCond .eq 13, 3) := by decide +kernel
theorem dX1_keep_46 : decode cX1_keep 46 = .ok (.aload_n 0, 1) := by decide +kernel
theorem dX1_keep_47 : decode cX1_keep 47 = .ok (.getfield 9, 3) := by decide +kernel
theorem dX1_keep_50 : decode cX1_keep 50 = .ok (.iload_n 2, 1) := by decide +kernel
theorem dX1_keep_51 : decode cX1_keep 51 = .ok (.dup2, 1) := by decide +kernel
theorem dX1_keep_52 : decode cX1_keep 52 = .ok (.iaload, 1) := by decide +kernel
theorem dX1_keep_53 : decode cX1_keep 53 = .ok (.iload_n 1, 1) := by decide +kernel
theorem dX1_keep_54 : decode cX1_keep 54 = .ok (.iand, 1) := by decide +kernel
theorem dX1_keep_55 : decode cX1_keep 55 = .ok (.iastore, 1) := by decide +kernel
theorem dX1_keep_56 : decode cX1_keep 56 = .ok (.iinc 2 1, 3) := by decide +kernel
theorem dX1_keep_59 : decode cX1_keep 59 = .ok (.goto (-57), 3) := by decide +kernel
theorem dX1_keep_62 : decode cX1_keep 62 = .ok (.return_, 1) := by decide +kernel
theorem dX1_putBetween_0 : decode cX1_putBetween 0 = .ok (.iconst 0, 1) := by decide +kernel
theorem dX1_putBetween_1 : decode cX1_putBetween 1 = .ok (.istore 4, 2) := by decide +kernel
theorem dX1_putBetween_3 : decode cX1_putBetween 3 = .ok (.iload 4, 2) := by decide +kernel
theorem dX1_putBetween_5 : decode cX1_putBetween 5 = .ok (.aload_n 0, 1) := by decide +kernel
theorem dX1_putBetween_6 : decode cX1_putBetween 6 = .ok (.getfield 22, 3) := by decide +kernel
theorem dX1_putBetween_9 : decode cX1_putBetween 9 = .ok (.if_icmp .gt 39, 3) := by decide +kernel
theorem dX1_putBetween_12 : decode cX1_putBetween 12 = .ok (.iload 4, 2) := by decide +kernel
theorem dX1_putBetween_14 : decode cX1_putBetween 14 = .ok (.iload_n 1, 1) := by decide +kernel
theorem dX1_putBetween_15 : decode cX1_putBetween 15 = .ok (.ishr, 1) := by decide +kernel
theorem dX1_putBetween_16 : decode cX1_putBetween 16 = .ok (.iconst 1, 1) := by decide +kernel
theorem dX1_putBetween_17 : decode cX1_putBetween 17 = .ok (.iand, 1) := by decide +kernel
theorem dX1_putBetween_18 : decode cX1_putBetween 18 = .ok (.iload 4, 2) := by decide +kernel
theorem dX1_putBetween_20 : decode cX1_putBetween 20 = .ok (.iload_n 3, 1) := by decide +kernel
theorem dX1_putBetween_21 : decode cX1_putBetween 21 = .ok (.ishr, 1) := by decide +kernel
theorem dX1_putBetween_22 : decode cX1_putBetween 22 = .ok (.iconst 1, 1) := by decide +kernel
theorem dX1_putBetween_23 : decode cX1_putBetween 23 = .ok (.iand, 1) := by decide +kernel
theorem dX1_putBetween_24 : decode cX1_putBetween 24 = .ok (.if_icmp .ne 18, 3) := by decide +kernel
theorem dX1_putBetween_27 : decode cX1_putBetween 27 = .ok (.aload_n 0, 1) := by decide +kernel
theorem dX1_putBetween_28 : decode cX1_putBetween 28 = .ok (.getfield 9, 3) := by decide +kernel
theorem dX1_putBetween_31 : decode cX1_putBetween 31 = .ok (.iload 4, 2) := by decide +kernel
theorem dX1_putBetween_33 : decode cX1_putBetween 33 = .ok (.dup2, 1) := by decide +kernel
theorem dX1_putBetween_34 : decode cX1_putBetween 34 = .ok (.iaload, 1) := by decide +kernel
theorem dX1_putBetween_35 : decode cX1_putBetween 35 = .ok (.iconst 1, 1) := by decide +kernel
theorem dX1_putBetween_36 : decode cX1_putBetween 36 = .ok (.iload_n 2, 1) := by decide +kernel
theorem dX1_putBetween_37 : decode cX1_putBetween 37 = .ok (.ishl, 1) := by decide +kernel
theorem dX1_putBetween_38 : decode cX1_putBetween 38 = .ok (.iconst (-1), 1) := by decide +kernel
theorem dX1_putBetween_39 : decode cX1_putBetween 39 = .ok (.ixor, 1) := by decide +kernel
theorem dX1_putBetween_40 : decode cX1_putBetween 40 = .ok (.iand, 1) := by decide +kernel
theorem dX1_putBetween_41 : decode cX1_putBetween 41 = .ok (.iastore, 1) := by decide +kernel
theorem dX1_putBetween_42 : decode cX1_putBetween 42 = .ok (.iinc 4 1, 3) := by decide +kernel
theorem dX1_putBetween_45 : decode cX1_putBetween 45 = .ok (.goto (-42), 3) := by decide +kernel
theorem dX1_putBetween_48 : decode cX1_putBetween 48 = .ok (.return_, 1) := by decide +kernel
theorem dX1_putAtEnds_0 : decode cX1_putAtEnds 0 = .ok (.aload_n 0, 1) := by decide +kernel
theorem dX1_putAtEnds_1 : decode cX1_putAtEnds 1 = .ok (.getfield 22, 3) := by decide +kernel
theorem dX1_putAtEnds_4 : decode cX1_putAtEnds 4 = .ok (.iconst 1, 1) := by decide +kernel
theorem dX1_putAtEnds_5 : decode cX1_putAtEnds 5 = .ok (.iload_n 1, 1) := by decide +kernel
theorem dX1_putAtEnds_6 : decode cX1_putAtEnds 6 = .ok (.ishl, 1) := by decide +kernel
theorem dX1_putAtEnds_7 : decode cX1_putAtEnds 7 = .ok (.iconst (-1), 1) := by decide +kernel
theorem dX1_putAtEnds_8 : decode cX1_putAtEnds 8 = .ok (.ixor, 1) := by decide +kernel
theorem dX1_putAtEnds_9 : decode cX1_putAtEnds 9 = .ok (.iand, 1) := by decide +kernel
theorem dX1_putAtEnds_10 : decode cX1_putAtEnds 10 = .ok (.istore_n 2, 1) := by decide +kernel
theorem dX1_putAtEnds_11 : decode cX1_putAtEnds 11 = .ok (.iconst 1, 1) := by decide +kernel
theorem dX1_putAtEnds_12 : decode cX1_putAtEnds 12 = .ok (.istore_n 3, 1) := by decide +kernel
theorem dX1_putAtEnds_13 : decode cX1_putAtEnds 13 = .ok (.iload_n 3, 1) := by decide +kernel
theorem dX1_putAtEnds_14 : decode cX1_putAtEnds 14 = .ok (.aload_n 0, 1) := by decide +kernel
theorem dX1_putAtEnds_15 : decode cX1_putAtEnds 15 = .ok (.getfield 22, 3) := by decide +kernel
theorem dX1_putAtEnds_18 : decode cX1_putAtEnds 18 = .ok (.if_icmp .gt 28, 3) := by decide +kernel
theorem dX1_putAtEnds_21 : decode cX1_putAtEnds 21 = .ok (.iload_n 3, 1) := by decide +kernel
theorem dX1_putAtEnds_22 : decode cX1_putAtEnds 22 = .ok (.iload_n 2, 1) := by decide +kernel
theorem dX1_putAtEnds_23 : decode cX1_putAtEnds 23 = .ok (.if_icmp .eq 17, 3) := by decide +kernel
theorem dX1_putAtEnds_26 : decode cX1_putAtEnds 26 = .ok (.aload_n 0, 1) := by decide +kernel
theorem dX1_putAtEnds_27 : decode cX1_putAtEnds 27 = .ok (.getfield 9, 3) := by decide +kernel
theorem dX1_putAtEnds_30 : decode cX1_putAtEnds 30 = .ok (.iload_n 3, 1) := by decide +kernel
theorem dX1_putAtEnds_31 : decode cX1_putAtEnds 31 = .ok (.dup2, 1) := by decide +kernel
theorem dX1_putAtEnds_32 : decode cX1_putAtEnds 32 = .ok (.iaload, 1) := by decide +kernel
theorem dX1_putAtEnds_33 : decode cX1_putAtEnds 33 = .ok (.iconst 1, 1) := by decide +kernel
theorem dX1_putAtEnds_34 : decode cX1_putAtEnds 34 = .ok (.iload_n 1, 1) := by decide +kernel
theorem dX1_putAtEnds_35 : decode cX1_putAtEnds 35 = .ok (.ishl, 1) := by decide +kernel
theorem dX1_putAtEnds_36 : decode cX1_putAtEnds 36 = .ok (.iconst (-1), 1) := by decide +kernel
theorem dX1_putAtEnds_37 : decode cX1_putAtEnds 37 = .ok (.ixor, 1) := by decide +kernel
theorem dX1_putAtEnds_38 : decode cX1_putAtEnds 38 = .ok (.iand, 1) := by decide +kernel
theorem dX1_putAtEnds_39 : decode cX1_putAtEnds 39 = .ok (.iastore, 1) := by decide +kernel
theorem dX1_putAtEnds_40 : decode cX1_putAtEnds 40 = .ok (.iinc 3 1, 3) := by decide +kernel
theorem dX1_putAtEnds_43 : decode cX1_putAtEnds 43 = .ok (.goto (-30), 3) := by decide +kernel
theorem dX1_putAtEnds_46 : decode cX1_putAtEnds 46 = .ok (.return_, 1) := by decide +kernel
set_option maxRecDepth 20000 in
theorem ggX1_reckon_X1_mayFollow : GoodIn wsX1_reckon wsX1_mayFollow := goodIn_r _ [9, 3, 10, 11, 12, 13] (by decide +kernel) (by decide +kernel)
set_option maxRecDepth 20000 in
theorem gX1_reckon_X1_mayFollow : GoodIn wsX1_reckon (wsV RX1 25 RX1 yX1_mayFollow wsX1_mayFollow) := goodIn_app (goodIn_of _ (by decide +kernel)) ggX1_reckon_X1_mayFollow
theorem dX1_reckon_0 : decode cX1_reckon 0 = .ok (.aload_n 0, 1) := by decide +kernel
theorem dX1_reckon_1 : decode cX1_reckon 1 = .ok (.getfield 15, 3) := by decide +kernel
theorem dX1_reckon_4 : decode cX1_reckon 4 = .ok (.aload_n 0, 1) := by decide +kernel
theorem dX1_reckon_5 : decode cX1_reckon 5 = .ok (.getfield 22, 3) := by decide +kernel
theorem dX1_reckon_8 : decode cX1_reckon 8 = .ok (.iconst 1, 1) := by decide +kernel
theorem dX1_reckon_9 : decode cX1_reckon 9 = .ok (.iastore, 1) := by decide +kernel
theorem dX1_reckon_10 : decode cX1_reckon 10 = .ok (.aload_n 0, 1) := by decide +kernel
theorem dX1_reckon_11 : decode cX1_reckon 11 = .ok (.getfield 22, 3) := by decide +kernel
theorem dX1_reckon_14 : decode cX1_reckon 14 = .ok (.iconst 1, 1) := by decide +kernel
theorem dX1_reckon_15 : decode cX1_reckon 15 = .ok (.isub, 1) := by decide +kernel
theorem dX1_reckon_16 : decode cX1_reckon 16 = .ok (.istore_n 1, 1) := by decide +kernel
theorem dX1_reckon_17 : decode cX1_reckon 17 = .ok (.iload_n 1, 1) := by decide +kernel
theorem dX1_reckon_18 : decode cX1_reckon 18 = .ok (.ifCond .lt 65, 3) := by decide +kernel
theorem dX1_reckon_21 : decode cX1_reckon 21 = .ok (.iconst 0, 1) := by decide +kernel
theorem dX1_reckon_22 : decode cX1_reckon 22 = .ok (.istore_n 2, 1) := by decide +kernel
theorem dX1_reckon_23 : decode cX1_reckon 23 = .ok (.aload_n 0, 1) := by decide +kernel
theorem dX1_reckon_24 : decode cX1_reckon 24 = .ok (.getfield 9, 3) := by decide +kernel
theorem dX1_reckon_27 : decode cX1_reckon 27 = .ok (.iload_n 1, 1) := by decide +kernel
theorem dX1_reckon_28 : decode cX1_reckon 28 = .ok (.iaload, 1) := by decide +kernel
theorem dX1_reckon_29 : decode cX1_reckon 29 = .ok (.ifCond .eq 41, 3) := by decide +kernel
theorem dX1_reckon_32 : decode cX1_reckon 32 = .ok (.iconst 0, 1) := by decide +kernel
theorem dX1_reckon_33 : decode cX1_reckon 33 = .ok (.istore_n 3, 1) := by decide +kernel
theorem dX1_reckon_34 : decode cX1_reckon 34 = .ok (.iload_n 3, 1) := by decide +kernel
theorem dX1_reckon_35 : decode cX1_reckon 35 = .ok (.aload_n 0, 1) := by decide +kernel
theorem dX1_reckon_36 : decode cX1_reckon 36 = .ok (.getfield 18, 3) := by decide +kernel
theorem dX1_reckon_39 : decode cX1_reckon 39 = .ok (.if_icmp .ge 31, 3) := by decide +kernel
theorem dX1_reckon_42 : decode cX1_reckon 42 = .ok (.aload_n 0, 1) := by decide +kernel
theorem dX1_reckon_43 : decode cX1_reckon 43 = .ok (.iload_n 1, 1) := by decide +kernel
theorem dX1_reckon_44 : decode cX1_reckon 44 = .ok (.iload_n 3, 1) := by decide +kernel
theorem dX1_reckon_45 : decode cX1_reckon 45 = .ok (.invokevirtual 25, 3) := by decide +kernel
theorem dX1_reckon_48 : decode cX1_reckon 48 = .ok (.ifCond .eq 16, 3) := by decide +kernel
theorem dX1_reckon_51 : decode cX1_reckon 51 = .ok (.iload_n 2, 1) := by decide +kernel
theorem dX1_reckon_52 : decode cX1_reckon 52 = .ok (.aload_n 0, 1) := by decide +kernel
theorem dX1_reckon_53 : decode cX1_reckon 53 = .ok (.getfield 15, 3) := by decide +kernel
theorem dX1_reckon_56 : decode cX1_reckon 56 = .ok (.iload_n 1, 1) := by decide +kernel
theorem dX1_reckon_57 : decode cX1_reckon 57 = .ok (.iconst 1, 1) := by decide +kernel
theorem dX1_reckon_58 : decode cX1_reckon 58 = .ok (.iload_n 3, 1) := by decide +kernel
theorem dX1_reckon_59 : decode cX1_reckon 59 = .ok (.ishl, 1) := by decide +kernel
theorem dX1_reckon_60 : decode cX1_reckon 60 = .ok (.ior, 1) := by decide +kernel
theorem dX1_reckon_61 : decode cX1_reckon 61 = .ok (.iaload, 1) := by decide +kernel
theorem dX1_reckon_62 : decode cX1_reckon 62 = .ok (.iadd, 1) := by decide +kernel
theorem dX1_reckon_63 : decode cX1_reckon 63 = .ok (.istore_n 2, 1) := by decide +kernel
theorem dX1_reckon_64 : decode cX1_reckon 64 = .ok (.iinc 3 1, 3) := by decide +kernel
theorem dX1_reckon_67 : decode cX1_reckon 67 = .ok (.goto (-33), 3) := by decide +kernel
theorem dX1_reckon_70 : decode cX1_reckon 70 = .ok (.aload_n 0, 1) := by decide +kernel
theorem dX1_reckon_71 : decode cX1_reckon 71 = .ok (.getfield 15, 3) := by decide +kernel
theorem dX1_reckon_74 : decode cX1_reckon 74 = .ok (.iload_n 1, 1) := by decide +kernel
theorem dX1_reckon_75 : decode cX1_reckon 75 = .ok (.iload_n 2, 1) := by decide +kernel
theorem dX1_reckon_76 : decode cX1_reckon 76 = .ok (.iastore, 1) := by decide +kernel
theorem dX1_reckon_77 : decode cX1_reckon 77 = .ok (.iinc 1 (-1), 3) := by decide +kernel
theorem dX1_reckon_80 : decode cX1_reckon 80 = .ok (.goto (-63), 3) := by decide +kernel
theorem dX1_reckon_83 : decode cX1_reckon 83 = .ok (.aload_n 0, 1) := by decide +kernel
theorem dX1_reckon_84 : decode cX1_reckon 84 = .ok (.getfield 15, 3) := by decide +kernel
theorem dX1_reckon_87 : decode cX1_reckon 87 = .ok (.iconst 0, 1) := by decide +kernel
theorem dX1_reckon_88 : decode cX1_reckon 88 = .ok (.iaload, 1) := by decide +kernel
theorem dX1_reckon_89 : decode cX1_reckon 89 = .ok (.ireturn, 1) := by decide +kernel
set_option maxRecDepth 20000 in
theorem ggX1_closeDeadWays_X1_isReached : GoodIn wsX1_closeDeadWays wsX1_isReached := goodIn_r _ [9, 3, 10, 11, 12, 8, 13, 2, 14, 15, 16, 17] (by decide +kernel) (by decide +kernel)
set_option maxRecDepth 20000 in
theorem gX1_closeDeadWays_X1_isReached : GoodIn wsX1_closeDeadWays (wsV RX1 29 RX1 yX1_isReached wsX1_isReached) := goodIn_app (goodIn_of _ (by decide +kernel)) ggX1_closeDeadWays_X1_isReached
set_option maxRecDepth 20000 in
theorem ggX1_closeDeadWays_X1_mayFollow : GoodIn wsX1_closeDeadWays wsX1_mayFollow := goodIn_r _ [13, 2, 14, 15, 16, 17] (by decide +kernel) (by decide +kernel)
set_option maxRecDepth 20000 in
theorem gX1_closeDeadWays_X1_mayFollow : GoodIn wsX1_closeDeadWays (wsV RX1 25 RX1 yX1_mayFollow wsX1_mayFollow) := goodIn_app (goodIn_of _ (by decide +kernel)) ggX1_closeDeadWays_X1_mayFollow
theorem dX1_closeDeadWays_0 : decode cX1_closeDeadWays 0 = .ok (.iconst 0, 1) := by decide +kernel
theorem dX1_closeDeadWays_1 : decode cX1_closeDeadWays 1 = .ok (.istore_n 1, 1) := by decide +kernel
theorem dX1_closeDeadWays_2 : decode cX1_closeDeadWays 2 = .ok (.iload_n 1, 1) := by decide +kernel
theorem dX1_closeDeadWays_3 : decode cX1_closeDeadWays 3 = .ok (.aload_n 0, 1) := by decide +kernel
theorem dX1_closeDeadWays_4 : decode cX1_closeDeadWays 4 = .ok (.getfield 22, 3) := by decide +kernel
theorem dX1_closeDeadWays_7 : decode cX1_closeDeadWays 7 = .ok (.if_icmp .gt 76, 3) := by decide +kernel
theorem dX1_closeDeadWays_10 : decode cX1_closeDeadWays 10 = .ok (.aload_n 0, 1) := by decide +kernel
theorem dX1_closeDeadWays_11 : decode cX1_closeDeadWays 11 = .ok (.iload_n 1, 1) := by decide +kernel
theorem dX1_closeDeadWays_12 : decode cX1_closeDeadWays 12 = .ok (.invokevirtual 29, 3) := by decide +kernel
theorem dX1_closeDeadWays_15 : decode cX1_closeDeadWays 15 = .ok (.ifCond .ne 10, 3) := by decide +kernel
theorem dX1_closeDeadWays_18 : decode cX1_closeDeadWays 18 = .ok (.aload_n 0, 1) := by decide +kernel
theorem dX1_closeDeadWays_19 : decode cX1_closeDeadWays 19 = .ok (.getfield 9, 3) := by decide +kernel
theorem dX1_closeDeadWays_22 : decode cX1_closeDeadWays 22 = .ok (.iload_n 1, 1) := by decide +kernel
theorem dX1_closeDeadWays_23 : decode cX1_closeDeadWays 23 = .ok (.iconst 0, 1) := by decide +kernel
theorem dX1_closeDeadWays_24 : decode cX1_closeDeadWays 24 = .ok (.iastore, 1) := by decide +kernel
theorem dX1_closeDeadWays_25 : decode cX1_closeDeadWays 25 = .ok (.iconst 0, 1) := by decide +kernel
theorem dX1_closeDeadWays_26 : decode cX1_closeDeadWays 26 = .ok (.istore_n 2, 1) := by decide +kernel
theorem dX1_closeDeadWays_27 : decode cX1_closeDeadWays 27 = .ok (.iload_n 2, 1) := by decide +kernel
theorem dX1_closeDeadWays_28 : decode cX1_closeDeadWays 28 = .ok (.aload_n 0, 1) := by decide +kernel
theorem dX1_closeDeadWays_29 : decode cX1_closeDeadWays 29 = .ok (.getfield 18, 3) := by decide +kernel
theorem dX1_closeDeadWays_32 : decode cX1_closeDeadWays 32 = .ok (.if_icmp .ge 45, 3) := by decide +kernel
theorem dX1_closeDeadWays_35 : decode cX1_closeDeadWays 35 = .ok (.aload_n 0, 1) := by decide +kernel
theorem dX1_closeDeadWays_36 : decode cX1_closeDeadWays 36 = .ok (.iload_n 1, 1) := by decide +kernel
theorem dX1_closeDeadWays_37 : decode cX1_closeDeadWays 37 = .ok (.iload_n 2, 1) := by decide +kernel
theorem dX1_closeDeadWays_38 : decode cX1_closeDeadWays 38 = .ok (.invokevirtual 25, 3) := by decide +kernel
theorem dX1_closeDeadWays_41 : decode cX1_closeDeadWays 41 = .ok (.ifCond .eq 30, 3) := by decide +kernel
theorem dX1_closeDeadWays_44 : decode cX1_closeDeadWays 44 = .ok (.aload_n 0, 1) := by decide +kernel
theorem dX1_closeDeadWays_45 : decode cX1_closeDeadWays 45 = .ok (.getfield 15, 3) := by decide +kernel
theorem dX1_closeDeadWays_48 : decode cX1_closeDeadWays 48 = .ok (.iload_n 1, 1) := by decide +kernel
theorem dX1_closeDeadWays_49 : decode cX1_closeDeadWays 49 = .ok (.iconst 1, 1) := by decide +kernel
theorem dX1_closeDeadWays_50 : decode cX1_closeDeadWays 50 = .ok (.iload_n 2, 1) := by decide +kernel
theorem dX1_closeDeadWays_51 : decode cX1_closeDeadWays 51 = .ok (.ishl, 1) := by decide +kernel
theorem dX1_closeDeadWays_52 : decode cX1_closeDeadWays 52 = .ok (.ior, 1) := by decide +kernel
theorem dX1_closeDeadWays_53 : decode cX1_closeDeadWays 53 = .ok (.iaload, 1) := by decide +kernel
theorem dX1_closeDeadWays_54 : decode cX1_closeDeadWays 54 = .ok (.ifCond .ne 17, 3) := by decide +kernel
theorem dX1_closeDeadWays_57 : decode cX1_closeDeadWays 57 = .ok (.aload_n 0, 1) := by decide +kernel
theorem dX1_closeDeadWays_58 : decode cX1_closeDeadWays 58 = .ok (.getfield 9, 3) := by decide +kernel
theorem dX1_closeDeadWays_61 : decode cX1_closeDeadWays 61 = .ok (.iload_n 1, 1) := by decide +kernel
theorem dX1_closeDeadWays_62 : decode cX1_closeDeadWays 62 = .ok (.dup2, 1) := by decide +kernel
theorem dX1_closeDeadWays_63 : decode cX1_closeDeadWays 63 = .ok (.iaload, 1) := by decide +kernel
theorem dX1_closeDeadWays_64 : decode cX1_closeDeadWays 64 = .ok (.iconst 1, 1) := by decide +kernel
theorem dX1_closeDeadWays_65 : decode cX1_closeDeadWays 65 = .ok (.iload_n 2, 1) := by decide +kernel
theorem dX1_closeDeadWays_66 : decode cX1_closeDeadWays 66 = .ok (.ishl, 1) := by decide +kernel
theorem dX1_closeDeadWays_67 : decode cX1_closeDeadWays 67 = .ok (.iconst (-1), 1) := by decide +kernel
theorem dX1_closeDeadWays_68 : decode cX1_closeDeadWays 68 = .ok (.ixor, 1) := by decide +kernel
theorem dX1_closeDeadWays_69 : decode cX1_closeDeadWays 69 = .ok (.iand, 1) := by decide +kernel
theorem dX1_closeDeadWays_70 : decode cX1_closeDeadWays 70 = .ok (.iastore, 1) := by decide +kernel
theorem dX1_closeDeadWays_71 : decode cX1_closeDeadWays 71 = .ok (.iinc 2 1, 3) := by decide +kernel
theorem dX1_closeDeadWays_74 : decode cX1_closeDeadWays 74 = .ok (.goto (-47), 3) := by decide +kernel
theorem dX1_closeDeadWays_77 : decode cX1_closeDeadWays 77 = .ok (.iinc 1 1, 3) := by decide +kernel
theorem dX1_closeDeadWays_80 : decode cX1_closeDeadWays 80 = .ok (.goto (-78), 3) := by decide +kernel
theorem dX1_closeDeadWays_83 : decode cX1_closeDeadWays 83 = .ok (.return_, 1) := by decide +kernel
set_option maxRecDepth 20000 in
theorem ggX1_isReached_X1_mayFollow : GoodIn wsX1_isReached wsX1_mayFollow := goodIn_r _ [6, 7, 8, 9, 10, 11] (by decide +kernel) (by decide +kernel)
set_option maxRecDepth 20000 in
theorem gX1_isReached_X1_mayFollow : GoodIn wsX1_isReached (wsV RX1 25 RX1 yX1_mayFollow wsX1_mayFollow) := goodIn_app (goodIn_of _ (by decide +kernel)) ggX1_isReached_X1_mayFollow
theorem dX1_isReached_0 : decode cX1_isReached 0 = .ok (.iconst 0, 1) := by decide +kernel
theorem dX1_isReached_1 : decode cX1_isReached 1 = .ok (.istore_n 2, 1) := by decide +kernel
theorem dX1_isReached_2 : decode cX1_isReached 2 = .ok (.iload_n 2, 1) := by decide +kernel
theorem dX1_isReached_3 : decode cX1_isReached 3 = .ok (.aload_n 0, 1) := by decide +kernel
theorem dX1_isReached_4 : decode cX1_isReached 4 = .ok (.getfield 18, 3) := by decide +kernel
theorem dX1_isReached_7 : decode cX1_isReached 7 = .ok (.if_icmp .ge 35, 3) := by decide +kernel
theorem dX1_isReached_10 : decode cX1_isReached 10 = .ok (.iload_n 1, 1) := by decide +kernel
theorem dX1_isReached_11 : decode cX1_isReached 11 = .ok (.iload_n 2, 1) := by decide +kernel
theorem dX1_isReached_12 : decode cX1_isReached 12 = .ok (.ishr, 1) := by decide +kernel
theorem dX1_isReached_13 : decode cX1_isReached 13 = .ok (.iconst 1, 1) := by decide +kernel
theorem dX1_isReached_14 : decode cX1_isReached 14 = .ok (.iand, 1) := by decide +kernel
theorem dX1_isReached_15 : decode cX1_isReached 15 = .ok (.iconst 1, 1) := by decide +kernel
theorem dX1_isReached_16 : decode cX1_isReached 16 = .ok (.if_icmp .ne 20, 3) := by decide +kernel
theorem dX1_isReached_19 : decode cX1_isReached 19 = .ok (.aload_n 0, 1) := by decide +kernel
theorem dX1_isReached_20 : decode cX1_isReached 20 = .ok (.iload_n 1, 1) := by decide +kernel
theorem dX1_isReached_21 : decode cX1_isReached 21 = .ok (.iconst 1, 1) := by decide +kernel
theorem dX1_isReached_22 : decode cX1_isReached 22 = .ok (.iload_n 2, 1) := by decide +kernel
theorem dX1_isReached_23 : decode cX1_isReached 23 = .ok (.ishl, 1) := by decide +kernel
theorem dX1_isReached_24 : decode cX1_isReached 24 = .ok (.iconst (-1), 1) := by decide +kernel
theorem dX1_isReached_25 : decode cX1_isReached 25 = .ok (.ixor, 1) := by decide +kernel
theorem dX1_isReached_26 : decode cX1_isReached 26 = .ok (.iand, 1) := by decide +kernel
theorem dX1_isReached_27 : decode cX1_isReached 27 = .ok (.iload_n 2, 1) := by decide +kernel
theorem dX1_isReached_28 : decode cX1_isReached 28 = .ok (.invokevirtual 25, 3) := by decide +kernel
theorem dX1_isReached_31 : decode cX1_isReached 31 = .ok (.ifCond .eq 5, 3) := by decide +kernel
theorem dX1_isReached_34 : decode cX1_isReached 34 = .ok (.iconst 1, 1) := by decide +kernel
theorem dX1_isReached_35 : decode cX1_isReached 35 = .ok (.ireturn, 1) := by decide +kernel
theorem dX1_isReached_36 : decode cX1_isReached 36 = .ok (.iinc 2 1, 3) := by decide +kernel
theorem dX1_isReached_39 : decode cX1_isReached 39 = .ok (.goto (-37), 3) := by decide +kernel
theorem dX1_isReached_42 : decode cX1_isReached 42 = .ok (.iload_n 1, 1) := by decide +kernel
theorem dX1_isReached_43 : decode cX1_isReached 43 = .ok (.ifCond .ne 7, 3) := by decide +kernel
theorem dX1_isReached_46 : decode cX1_isReached 46 = .ok (.iconst 1, 1) := by decide +kernel
theorem dX1_isReached_47 : decode cX1_isReached 47 = .ok (.goto 4, 3) := by decide +kernel
theorem dX1_isReached_50 : decode cX1_isReached 50 = .ok (.iconst 0, 1) := by decide +kernel
theorem dX1_isReached_51 : decode cX1_isReached 51 = .ok (.ireturn, 1) := by decide +kernel
theorem dX1_mayFollow_0 : decode cX1_mayFollow 0 = .ok (.aload_n 0, 1) := by decide +kernel
theorem dX1_mayFollow_1 : decode cX1_mayFollow 1 = .ok (.getfield 9, 3) := by decide +kernel
theorem dX1_mayFollow_4 : decode cX1_mayFollow 4 = .ok (.iload_n 1, 1) := by decide +kernel
theorem dX1_mayFollow_5 : decode cX1_mayFollow 5 = .ok (.iaload, 1) := by decide +kernel
theorem dX1_mayFollow_6 : decode cX1_mayFollow 6 = .ok (.iload_n 2, 1) := by decide +kernel
theorem dX1_mayFollow_7 : decode cX1_mayFollow 7 = .ok (.ishr, 1) := by decide +kernel
theorem dX1_mayFollow_8 : decode cX1_mayFollow 8 = .ok (.iconst 1, 1) := by decide +kernel
theorem dX1_mayFollow_9 : decode cX1_mayFollow 9 = .ok (.iand, 1) := by decide +kernel
theorem dX1_mayFollow_10 : decode cX1_mayFollow 10 = .ok (.iconst 1, 1) := by decide +kernel
theorem dX1_mayFollow_11 : decode cX1_mayFollow 11 = .ok (.if_icmp .ne 7, 3) := by decide +kernel
theorem dX1_mayFollow_14 : decode cX1_mayFollow 14 = .ok (.iconst 1, 1) := by decide +kernel
theorem dX1_mayFollow_15 : decode cX1_mayFollow 15 = .ok (.goto 4, 3) := by decide +kernel
theorem dX1_mayFollow_18 : decode cX1_mayFollow 18 = .ok (.iconst 0, 1) := by decide +kernel
theorem dX1_mayFollow_19 : decode cX1_mayFollow 19 = .ok (.ireturn, 1) := by decide +kernel
theorem dX1_howMany_0 : decode cX1_howMany 0 = .ok (.aload_n 0, 1) := by decide +kernel
theorem dX1_howMany_1 : decode cX1_howMany 1 = .ok (.getfield 15, 3) := by decide +kernel
theorem dX1_howMany_4 : decode cX1_howMany 4 = .ok (.iconst 0, 1) := by decide +kernel
theorem dX1_howMany_5 : decode cX1_howMany 5 = .ok (.iaload, 1) := by decide +kernel
theorem dX1_howMany_6 : decode cX1_howMany 6 = .ok (.ireturn, 1) := by decide +kernel
set_option maxRecDepth 20000 in
theorem ggX1_rowsAhead_X1_mayFollow : GoodIn wsX1_rowsAhead wsX1_mayFollow := goodIn_r _ [6, 7, 8, 9, 10, 11] (by decide +kernel) (by decide +kernel)
set_option maxRecDepth 20000 in
theorem gX1_rowsAhead_X1_mayFollow : GoodIn wsX1_rowsAhead (wsV RX1 25 RX1 yX1_mayFollow wsX1_mayFollow) := goodIn_app (goodIn_of _ (by decide +kernel)) ggX1_rowsAhead_X1_mayFollow
theorem dX1_rowsAhead_0 : decode cX1_rowsAhead 0 = .ok (.iconst 0, 1) := by decide +kernel
theorem dX1_rowsAhead_1 : decode cX1_rowsAhead 1 = .ok (.istore_n 3, 1) := by decide +kernel
theorem dX1_rowsAhead_2 : decode cX1_rowsAhead 2 = .ok (.iconst 0, 1) := by decide +kernel
theorem dX1_rowsAhead_3 : decode cX1_rowsAhead 3 = .ok (.istore 4, 2) := by decide +kernel
theorem dX1_rowsAhead_5 : decode cX1_rowsAhead 5 = .ok (.iload 4, 2) := by decide +kernel
theorem dX1_rowsAhead_7 : decode cX1_rowsAhead 7 = .ok (.iload_n 2, 1) := by decide +kernel
theorem dX1_rowsAhead_8 : decode cX1_rowsAhead 8 = .ok (.if_icmp .ge 33, 3) := by decide +kernel
theorem dX1_rowsAhead_11 : decode cX1_rowsAhead 11 = .ok (.aload_n 0, 1) := by decide +kernel
theorem dX1_rowsAhead_12 : decode cX1_rowsAhead 12 = .ok (.iload_n 1, 1) := by decide +kernel
theorem dX1_rowsAhead_13 : decode cX1_rowsAhead 13 = .ok (.iload 4, 2) := by decide +kernel
theorem dX1_rowsAhead_15 : decode cX1_rowsAhead 15 = .ok (.invokevirtual 25, 3) := by decide +kernel
theorem dX1_rowsAhead_18 : decode cX1_rowsAhead 18 = .ok (.ifCond .eq 17, 3) := by decide +kernel
theorem dX1_rowsAhead_21 : decode cX1_rowsAhead 21 = .ok (.iload_n 3, 1) := by decide +kernel
theorem dX1_rowsAhead_22 : decode cX1_rowsAhead 22 = .ok (.aload_n 0, 1) := by decide +kernel
theorem dX1_rowsAhead_23 : decode cX1_rowsAhead 23 = .ok (.getfield 15, 3) := by decide +kernel
theorem dX1_rowsAhead_26 : decode cX1_rowsAhead 26 = .ok (.iload_n 1, 1) := by decide +kernel
theorem dX1_rowsAhead_27 : decode cX1_rowsAhead 27 = .ok (.iconst 1, 1) := by decide +kernel
theorem dX1_rowsAhead_28 : decode cX1_rowsAhead 28 = .ok (.iload 4, 2) := by decide +kernel
theorem dX1_rowsAhead_30 : decode cX1_rowsAhead 30 = .ok (.ishl, 1) := by decide +kernel
theorem dX1_rowsAhead_31 : decode cX1_rowsAhead 31 = .ok (.ior, 1) := by decide +kernel
theorem dX1_rowsAhead_32 : decode cX1_rowsAhead 32 = .ok (.iaload, 1) := by decide +kernel
theorem dX1_rowsAhead_33 : decode cX1_rowsAhead 33 = .ok (.iadd, 1) := by decide +kernel
theorem dX1_rowsAhead_34 : decode cX1_rowsAhead 34 = .ok (.istore_n 3, 1) := by decide +kernel
theorem dX1_rowsAhead_35 : decode cX1_rowsAhead 35 = .ok (.iinc 4 1, 3) := by decide +kernel
theorem dX1_rowsAhead_38 : decode cX1_rowsAhead 38 = .ok (.goto (-33), 3) := by decide +kernel
theorem dX1_rowsAhead_41 : decode cX1_rowsAhead 41 = .ok (.iload_n 3, 1) := by decide +kernel
theorem dX1_rowsAhead_42 : decode cX1_rowsAhead 42 = .ok (.ireturn, 1) := by decide +kernel
set_option maxRecDepth 20000 in
theorem ggX1_write_X1_columnOfRest : GoodIn wsX1_write wsX1_columnOfRest := goodIn_r _ [6, 1, 7, 8, 9, 10, 5, 11, 12, 17, 18, 19, 20] (by decide +kernel) (by decide +kernel)
set_option maxRecDepth 20000 in
theorem gX1_write_X1_columnOfRest : GoodIn wsX1_write (wsV RX1 33 RX1 yX1_columnOfRest wsX1_columnOfRest) := goodIn_app (goodIn_of _ (by decide +kernel)) ggX1_write_X1_columnOfRest
set_option maxRecDepth 20000 in
theorem ggX1_write_X1_rowsAhead : GoodIn wsX1_write wsX1_rowsAhead := goodIn_r _ [16, 7, 8, 9, 10, 5, 11, 12, 17, 18, 19, 20] (by decide +kernel) (by decide +kernel)
set_option maxRecDepth 20000 in
theorem gX1_write_X1_rowsAhead : GoodIn wsX1_write (wsV RX1 37 RX1 yX1_rowsAhead wsX1_rowsAhead) := goodIn_app (goodIn_of _ (by decide +kernel)) ggX1_write_X1_rowsAhead
theorem dX1_write_0 : decode cX1_write 0 = .ok (.iconst 0, 1) := by decide +kernel
theorem dX1_write_1 : decode cX1_write 1 = .ok (.istore_n 3, 1) := by decide +kernel
theorem dX1_write_2 : decode cX1_write 2 = .ok (.iload_n 1, 1) := by decide +kernel
theorem dX1_write_3 : decode cX1_write 3 = .ok (.istore 4, 2) := by decide +kernel
theorem dX1_write_5 : decode cX1_write 5 = .ok (.iconst 0, 1) := by decide +kernel
theorem dX1_write_6 : decode cX1_write 6 = .ok (.istore 5, 2) := by decide +kernel
theorem dX1_write_8 : decode cX1_write 8 = .ok (.iload 5, 2) := by decide +kernel
theorem dX1_write_10 : decode cX1_write 10 = .ok (.aload_n 0, 1) := by decide +kernel
theorem dX1_write_11 : decode cX1_write 11 = .ok (.getfield 18, 3) := by decide +kernel
theorem dX1_write_14 : decode cX1_write 14 = .ok (.if_icmp .ge 43, 3) := by decide +kernel
theorem dX1_write_17 : decode cX1_write 17 = .ok (.aload_n 0, 1) := by decide +kernel
theorem dX1_write_18 : decode cX1_write 18 = .ok (.iload_n 3, 1) := by decide +kernel
theorem dX1_write_19 : decode cX1_write 19 = .ok (.iload 4, 2) := by decide +kernel
theorem dX1_write_21 : decode cX1_write 21 = .ok (.invokevirtual 33, 3) := by decide +kernel
theorem dX1_write_24 : decode cX1_write 24 = .ok (.istore 6, 2) := by decide +kernel
theorem dX1_write_26 : decode cX1_write 26 = .ok (.iload 4, 2) := by decide +kernel
theorem dX1_write_28 : decode cX1_write 28 = .ok (.aload_n 0, 1) := by decide +kernel
theorem dX1_write_29 : decode cX1_write 29 = .ok (.iload_n 3, 1) := by decide +kernel
theorem dX1_write_30 : decode cX1_write 30 = .ok (.iload 6, 2) := by decide +kernel
theorem dX1_write_32 : decode cX1_write 32 = .ok (.invokevirtual 37, 3) := by decide +kernel
theorem dX1_write_35 : decode cX1_write 35 = .ok (.isub, 1) := by decide +kernel
theorem dX1_write_36 : decode cX1_write 36 = .ok (.istore 4, 2) := by decide +kernel
theorem dX1_write_38 : decode cX1_write 38 = .ok (.aload_n 2, 1) := by decide +kernel
theorem dX1_write_39 : decode cX1_write 39 = .ok (.iload 5, 2) := by decide +kernel
theorem dX1_write_41 : decode cX1_write 41 = .ok (.iload 6, 2) := by decide +kernel
theorem dX1_write_43 : decode cX1_write 43 = .ok (.iastore, 1) := by decide +kernel
theorem dX1_write_44 : decode cX1_write 44 = .ok (.iload_n 3, 1) := by decide +kernel
theorem dX1_write_45 : decode cX1_write 45 = .ok (.iconst 1, 1) := by decide +kernel
theorem dX1_write_46 : decode cX1_write 46 = .ok (.iload 6, 2) := by decide +kernel
theorem dX1_write_48 : decode cX1_write 48 = .ok (.ishl, 1) := by decide +kernel
theorem dX1_write_49 : decode cX1_write 49 = .ok (.ior, 1) := by decide +kernel
theorem dX1_write_50 : decode cX1_write 50 = .ok (.istore_n 3, 1) := by decide +kernel
theorem dX1_write_51 : decode cX1_write 51 = .ok (.iinc 5 1, 3) := by decide +kernel
theorem dX1_write_54 : decode cX1_write 54 = .ok (.goto (-46), 3) := by decide +kernel
theorem dX1_write_57 : decode cX1_write 57 = .ok (.return_, 1) := by decide +kernel
set_option maxRecDepth 20000 in
theorem ggX1_columnOfRest_X1_mayFollow : GoodIn wsX1_columnOfRest wsX1_mayFollow := goodIn_r _ [7, 8, 9, 10, 11, 12] (by decide +kernel) (by decide +kernel)
set_option maxRecDepth 20000 in
theorem gX1_columnOfRest_X1_mayFollow : GoodIn wsX1_columnOfRest (wsV RX1 25 RX1 yX1_mayFollow wsX1_mayFollow) := goodIn_app (goodIn_of _ (by decide +kernel)) ggX1_columnOfRest_X1_mayFollow
theorem dX1_columnOfRest_0 : decode cX1_columnOfRest 0 = .ok (.iload_n 2, 1) := by decide +kernel
theorem dX1_columnOfRest_1 : decode cX1_columnOfRest 1 = .ok (.istore_n 3, 1) := by decide +kernel
theorem dX1_columnOfRest_2 : decode cX1_columnOfRest 2 = .ok (.iconst 0, 1) := by decide +kernel
theorem dX1_columnOfRest_3 : decode cX1_columnOfRest 3 = .ok (.istore 4, 2) := by decide +kernel
theorem dX1_columnOfRest_5 : decode cX1_columnOfRest 5 = .ok (.iload 4, 2) := by decide +kernel
theorem dX1_columnOfRest_7 : decode cX1_columnOfRest 7 = .ok (.aload_n 0, 1) := by decide +kernel
theorem dX1_columnOfRest_8 : decode cX1_columnOfRest 8 = .ok (.getfield 18, 3) := by decide +kernel
theorem dX1_columnOfRest_11 : decode cX1_columnOfRest 11 = .ok (.if_icmp .ge 46, 3) := by decide +kernel
theorem dX1_columnOfRest_14 : decode cX1_columnOfRest 14 = .ok (.aload_n 0, 1) := by decide +kernel
theorem dX1_columnOfRest_15 : decode cX1_columnOfRest 15 = .ok (.iload_n 1, 1) := by decide +kernel
theorem dX1_columnOfRest_16 : decode cX1_columnOfRest 16 = .ok (.iload 4, 2) := by decide +kernel
theorem dX1_columnOfRest_18 : decode cX1_columnOfRest 18 = .ok (.invokevirtual 25, 3) := by decide +kernel
theorem dX1_columnOfRest_21 : decode cX1_columnOfRest 21 = .ok (.ifCond .eq 30, 3) := by decide +kernel
theorem dX1_columnOfRest_24 : decode cX1_columnOfRest 24 = .ok (.aload_n 0, 1) := by decide +kernel
theorem dX1_columnOfRest_25 : decode cX1_columnOfRest 25 = .ok (.getfield 15, 3) := by decide +kernel
theorem dX1_columnOfRest_28 : decode cX1_columnOfRest 28 = .ok (.iload_n 1, 1) := by decide +kernel
theorem dX1_columnOfRest_29 : decode cX1_columnOfRest 29 = .ok (.iconst 1, 1) := by decide +kernel
theorem dX1_columnOfRest_30 : decode cX1_columnOfRest 30 = .ok (.iload 4, 2) := by decide +kernel
theorem dX1_columnOfRest_32 : decode cX1_columnOfRest 32 = .ok (.ishl, 1) := by decide +kernel
theorem dX1_columnOfRest_33 : decode cX1_columnOfRest 33 = .ok (.ior, 1) := by decide +kernel
theorem dX1_columnOfRest_34 : decode cX1_columnOfRest 34 = .ok (.iaload, 1) := by decide +kernel
theorem dX1_columnOfRest_35 : decode cX1_columnOfRest 35 = .ok (.istore 5, 2) := by decide +kernel
theorem dX1_columnOfRest_37 : decode cX1_columnOfRest 37 = .ok (.iload_n 3, 1) := by decide +kernel
theorem dX1_columnOfRest_38 : decode cX1_columnOfRest 38 = .ok (.iload 5, 2) := by decide +kernel
theorem dX1_columnOfRest_40 : decode cX1_columnOfRest 40 = .ok (.if_icmp .ge 6, 3) := by decide +kernel
theorem dX1_columnOfRest_43 : decode cX1_columnOfRest 43 = .ok (.iload 4, 2) := by decide +kernel
theorem dX1_columnOfRest_45 : decode cX1_columnOfRest 45 = .ok (.ireturn, 1) := by decide +kernel
theorem dX1_columnOfRest_46 : decode cX1_columnOfRest 46 = .ok (.iload_n 3, 1) := by decide +kernel
theorem dX1_columnOfRest_47 : decode cX1_columnOfRest 47 = .ok (.iload 5, 2) := by decide +kernel
theorem dX1_columnOfRest_49 : decode cX1_columnOfRest 49 = .ok (.isub, 1) := by decide +kernel
theorem dX1_columnOfRest_50 : decode cX1_columnOfRest 50 = .ok (.istore_n 3, 1) := by decide +kernel
theorem dX1_columnOfRest_51 : decode cX1_columnOfRest 51 = .ok (.iinc 4 1, 3) := by decide +kernel
theorem dX1_columnOfRest_54 : decode cX1_columnOfRest 54 = .ok (.goto (-49), 3) := by decide +kernel
theorem dX1_columnOfRest_57 : decode cX1_columnOfRest 57 = .ok (.iconst 0, 1) := by decide +kernel
theorem dX1_columnOfRest_58 : decode cX1_columnOfRest 58 = .ok (.ireturn, 1) := by decide +kernel
set_option maxRecDepth 20000 in
theorem ggX1_numberOf_X1_mayFollow : GoodIn wsX1_numberOf wsX1_mayFollow := goodIn_r _ [6, 7, 13, 14, 15, 16] (by decide +kernel) (by decide +kernel)
set_option maxRecDepth 20000 in
theorem gX1_numberOf_X1_mayFollow : GoodIn wsX1_numberOf (wsV RX1 25 RX1 yX1_mayFollow wsX1_mayFollow) := goodIn_app (goodIn_of _ (by decide +kernel)) ggX1_numberOf_X1_mayFollow
set_option maxRecDepth 20000 in
theorem ggX1_numberOf_X1_rowsAhead : GoodIn wsX1_numberOf wsX1_rowsAhead := goodIn_r _ [11, 12, 2, 3, 4, 5, 6, 7, 13, 14, 15, 16] (by decide +kernel) (by decide +kernel)
set_option maxRecDepth 20000 in
theorem gX1_numberOf_X1_rowsAhead : GoodIn wsX1_numberOf (wsV RX1 37 RX1 yX1_rowsAhead wsX1_rowsAhead) := goodIn_app (goodIn_of _ (by decide +kernel)) ggX1_numberOf_X1_rowsAhead
theorem dX1_numberOf_0 : decode cX1_numberOf 0 = .ok (.aload_n 0, 1) := by decide +kernel
theorem dX1_numberOf_1 : decode cX1_numberOf 1 = .ok (.getfield 18, 3) := by decide +kernel
theorem dX1_numberOf_4 : decode cX1_numberOf 4 = .ok (.bipush 8, 2) := by decide +kernel
theorem dX1_numberOf_6 : decode cX1_numberOf 6 = .ok (.if_icmp .ge 17, 3) := by decide +kernel
theorem dX1_numberOf_9 : decode cX1_numberOf 9 = .ok (.iload_n 1, 1) := by decide +kernel
theorem dX1_numberOf_10 : decode cX1_numberOf 10 = .ok (.iconst 4, 1) := by decide +kernel
theorem dX1_numberOf_11 : decode cX1_numberOf 11 = .ok (.aload_n 0, 1) := by decide +kernel
theorem dX1_numberOf_12 : decode cX1_numberOf 12 = .ok (.getfield 18, 3) := by decide +kernel
theorem dX1_numberOf_15 : decode cX1_numberOf 15 = .ok (.imul, 1) := by decide +kernel
theorem dX1_numberOf_16 : decode cX1_numberOf 16 = .ok (.iushr, 1) := by decide +kernel
theorem dX1_numberOf_17 : decode cX1_numberOf 17 = .ok (.ifCond .eq 6, 3) := by decide +kernel
theorem dX1_numberOf_20 : decode cX1_numberOf 20 = .ok (.bipush (-9), 2) := by decide +kernel
theorem dX1_numberOf_22 : decode cX1_numberOf 22 = .ok (.ireturn, 1) := by decide +kernel
theorem dX1_numberOf_23 : decode cX1_numberOf 23 = .ok (.iconst 0, 1) := by decide +kernel
theorem dX1_numberOf_24 : decode cX1_numberOf 24 = .ok (.istore_n 2, 1) := by decide +kernel
theorem dX1_numberOf_25 : decode cX1_numberOf 25 = .ok (.iconst 0, 1) := by decide +kernel
theorem dX1_numberOf_26 : decode cX1_numberOf 26 = .ok (.istore_n 3, 1) := by decide +kernel
theorem dX1_numberOf_27 : decode cX1_numberOf 27 = .ok (.iconst 0, 1) := by decide +kernel
theorem dX1_numberOf_28 : decode cX1_numberOf 28 = .ok (.istore 4, 2) := by decide +kernel
theorem dX1_numberOf_30 : decode cX1_numberOf 30 = .ok (.iload 4, 2) := by decide +kernel
theorem dX1_numberOf_32 : decode cX1_numberOf 32 = .ok (.aload_n 0, 1) := by decide +kernel
theorem dX1_numberOf_33 : decode cX1_numberOf 33 = .ok (.getfield 18, 3) := by decide +kernel
theorem dX1_numberOf_36 : decode cX1_numberOf 36 = .ok (.if_icmp .ge 57, 3) := by decide +kernel
theorem dX1_numberOf_39 : decode cX1_numberOf 39 = .ok (.iload_n 1, 1) := by decide +kernel
theorem dX1_numberOf_40 : decode cX1_numberOf 40 = .ok (.iconst 4, 1) := by decide +kernel
theorem dX1_numberOf_41 : decode cX1_numberOf 41 = .ok (.aload_n 0, 1) := by decide +kernel
theorem dX1_numberOf_42 : decode cX1_numberOf 42 = .ok (.getfield 18, 3) := by decide +kernel
theorem dX1_numberOf_45 : decode cX1_numberOf 45 = .ok (.iconst 1, 1) := by decide +kernel
theorem dX1_numberOf_46 : decode cX1_numberOf 46 = .ok (.isub, 1) := by decide +kernel
theorem dX1_numberOf_47 : decode cX1_numberOf 47 = .ok (.iload 4, 2) := by decide +kernel
theorem dX1_numberOf_49 : decode cX1_numberOf 49 = .ok (.isub, 1) := by decide +kernel
theorem dX1_numberOf_50 : decode cX1_numberOf 50 = .ok (.imul, 1) := by decide +kernel
theorem dX1_numberOf_51 : decode cX1_numberOf 51 = .ok (.iushr, 1) := by decide +kernel
theorem dX1_numberOf_52 : decode cX1_numberOf 52 = .ok (.bipush 15, 2) := by decide +kernel
theorem dX1_numberOf_54 : decode cX1_numberOf 54 = .ok (.iand, 1) := by decide +kernel
theorem dX1_numberOf_55 : decode cX1_numberOf 55 = .ok (.istore 5, 2) := by decide +kernel
theorem dX1_numberOf_57 : decode cX1_numberOf 57 = .ok (.aload_n 0, 1) := by decide +kernel
theorem dX1_numberOf_58 : decode cX1_numberOf 58 = .ok (.iload_n 2, 1) := by decide +kernel
theorem dX1_numberOf_59 : decode cX1_numberOf 59 = .ok (.iload 5, 2) := by decide +kernel
theorem dX1_numberOf_61 : decode cX1_numberOf 61 = .ok (.invokevirtual 25, 3) := by decide +kernel
theorem dX1_numberOf_64 : decode cX1_numberOf 64 = .ok (.ifCond .ne 6, 3) := by decide +kernel
theorem dX1_numberOf_67 : decode cX1_numberOf 67 = .ok (.bipush (-9), 2) := by decide +kernel
theorem dX1_numberOf_69 : decode cX1_numberOf 69 = .ok (.ireturn, 1) := by decide +kernel
theorem dX1_numberOf_70 : decode cX1_numberOf 70 = .ok (.iload_n 3, 1) := by decide +kernel
theorem dX1_numberOf_71 : decode cX1_numberOf 71 = .ok (.aload_n 0, 1) := by decide +kernel
theorem dX1_numberOf_72 : decode cX1_numberOf 72 = .ok (.iload_n 2, 1) := by decide +kernel
theorem dX1_numberOf_73 : decode cX1_numberOf 73 = .ok (.iload 5, 2) := by decide +kernel
theorem dX1_numberOf_75 : decode cX1_numberOf 75 = .ok (.invokevirtual 37, 3) := by decide +kernel
theorem dX1_numberOf_78 : decode cX1_numberOf 78 = .ok (.iadd, 1) := by decide +kernel
theorem dX1_numberOf_79 : decode cX1_numberOf 79 = .ok (.istore_n 3, 1) := by decide +kernel
theorem dX1_numberOf_80 : decode cX1_numberOf 80 = .ok (.iload_n 2, 1) := by decide +kernel
theorem dX1_numberOf_81 : decode cX1_numberOf 81 = .ok (.iconst 1, 1) := by decide +kernel
theorem dX1_numberOf_82 : decode cX1_numberOf 82 = .ok (.iload 5, 2) := by decide +kernel
theorem dX1_numberOf_84 : decode cX1_numberOf 84 = .ok (.ishl, 1) := by decide +kernel
theorem dX1_numberOf_85 : decode cX1_numberOf 85 = .ok (.ior, 1) := by decide +kernel
theorem dX1_numberOf_86 : decode cX1_numberOf 86 = .ok (.istore_n 2, 1) := by decide +kernel
theorem dX1_numberOf_87 : decode cX1_numberOf 87 = .ok (.iinc 4 1, 3) := by decide +kernel
theorem dX1_numberOf_90 : decode cX1_numberOf 90 = .ok (.goto (-60), 3) := by decide +kernel
theorem dX1_numberOf_93 : decode cX1_numberOf 93 = .ok (.iload_n 3, 1) := by decide +kernel
theorem dX1_numberOf_94 : decode cX1_numberOf 94 = .ok (.ireturn, 1) := by decide +kernel
set_option maxRecDepth 20000 in
theorem ggX1_distance_J6_bitCount_0f7a4 : GoodIn wsX1_distance wsJ6_bitCount_0f7a4 := goodIn_r _ [6, 7, 8, 9] (by decide +kernel) (by decide +kernel)
set_option maxRecDepth 20000 in
theorem gX1_distance_J6_bitCount_0f7a4 : GoodIn wsX1_distance (va_wsS RX1 40 yJ6_bitCount_0f7a4 wsJ6_bitCount_0f7a4) := goodIn_app (goodIn_of _ (by decide +kernel)) ggX1_distance_J6_bitCount_0f7a4
set_option maxRecDepth 20000 in
theorem ggX1_distance_X1_distanceBehind : GoodIn wsX1_distance wsX1_distanceBehind := goodIn_r _ [14, 15, 1, 16, 17, 18, 13, 19, 20, 21, 22, 23, 24] (by decide +kernel) (by decide +kernel)
set_option maxRecDepth 20000 in
theorem gX1_distance_X1_distanceBehind : GoodIn wsX1_distance (wsV RX1 46 RX1 yX1_distanceBehind wsX1_distanceBehind) := goodIn_app (goodIn_of _ (by decide +kernel)) ggX1_distance_X1_distanceBehind
theorem dX1_distance_0 : decode cX1_distance 0 = .ok (.aload_n 0, 1) := by decide +kernel
theorem dX1_distance_1 : decode cX1_distance 1 = .ok (.getfield 15, 3) := by decide +kernel
theorem dX1_distance_4 : decode cX1_distance 4 = .ok (.aload_n 0, 1) := by decide +kernel
theorem dX1_distance_5 : decode cX1_distance 5 = .ok (.getfield 22, 3) := by decide +kernel
theorem dX1_distance_8 : decode cX1_distance 8 = .ok (.iconst 0, 1) := by decide +kernel
theorem dX1_distance_9 : decode cX1_distance 9 = .ok (.iastore, 1) := by decide +kernel
theorem dX1_distance_10 : decode cX1_distance 10 = .ok (.aload_n 0, 1) := by decide +kernel
theorem dX1_distance_11 : decode cX1_distance 11 = .ok (.getfield 22, 3) := by decide +kernel
theorem dX1_distance_14 : decode cX1_distance 14 = .ok (.iconst 1, 1) := by decide +kernel
theorem dX1_distance_15 : decode cX1_distance 15 = .ok (.isub, 1) := by decide +kernel
theorem dX1_distance_16 : decode cX1_distance 16 = .ok (.istore_n 3, 1) := by decide +kernel
theorem dX1_distance_17 : decode cX1_distance 17 = .ok (.iload_n 3, 1) := by decide +kernel
theorem dX1_distance_18 : decode cX1_distance 18 = .ok (.ifCond .lt 41, 3) := by decide +kernel
theorem dX1_distance_21 : decode cX1_distance 21 = .ok (.iload_n 3, 1) := by decide +kernel
theorem dX1_distance_22 : decode cX1_distance 22 = .ok (.iload_n 1, 1) := by decide +kernel
theorem dX1_distance_23 : decode cX1_distance 23 = .ok (.iand, 1) := by decide +kernel
theorem dX1_distance_24 : decode cX1_distance 24 = .ok (.invokestatic 40, 3) := by decide +kernel
theorem dX1_distance_27 : decode cX1_distance 27 = .ok (.iconst 1, 1) := by decide +kernel
theorem dX1_distance_28 : decode cX1_distance 28 = .ok (.if_icmp .ne 7, 3) := by decide +kernel
theorem dX1_distance_31 : decode cX1_distance 31 = .ok (.iconst 1, 1) := by decide +kernel
theorem dX1_distance_32 : decode cX1_distance 32 = .ok (.goto 4, 3) := by decide +kernel
theorem dX1_distance_35 : decode cX1_distance 35 = .ok (.iconst 0, 1) := by decide +kernel
theorem dX1_distance_36 : decode cX1_distance 36 = .ok (.istore 4, 2) := by decide +kernel
theorem dX1_distance_38 : decode cX1_distance 38 = .ok (.aload_n 0, 1) := by decide +kernel
theorem dX1_distance_39 : decode cX1_distance 39 = .ok (.getfield 15, 3) := by decide +kernel
theorem dX1_distance_42 : decode cX1_distance 42 = .ok (.iload_n 3, 1) := by decide +kernel
theorem dX1_distance_43 : decode cX1_distance 43 = .ok (.iload 4, 2) := by decide +kernel
theorem dX1_distance_45 : decode cX1_distance 45 = .ok (.aload_n 0, 1) := by decide +kernel
theorem dX1_distance_46 : decode cX1_distance 46 = .ok (.iload_n 3, 1) := by decide +kernel
theorem dX1_distance_47 : decode cX1_distance 47 = .ok (.iload_n 2, 1) := by decide +kernel
theorem dX1_distance_48 : decode cX1_distance 48 = .ok (.invokevirtual 46, 3) := by decide +kernel
theorem dX1_distance_51 : decode cX1_distance 51 = .ok (.iadd, 1) := by decide +kernel
theorem dX1_distance_52 : decode cX1_distance 52 = .ok (.iastore, 1) := by decide +kernel
theorem dX1_distance_53 : decode cX1_distance 53 = .ok (.iinc 3 (-1), 3) := by decide +kernel
theorem dX1_distance_56 : decode cX1_distance 56 = .ok (.goto (-39), 3) := by decide +kernel
theorem dX1_distance_59 : decode cX1_distance 59 = .ok (.aload_n 0, 1) := by decide +kernel
theorem dX1_distance_60 : decode cX1_distance 60 = .ok (.getfield 15, 3) := by decide +kernel
theorem dX1_distance_63 : decode cX1_distance 63 = .ok (.iconst 0, 1) := by decide +kernel
theorem dX1_distance_64 : decode cX1_distance 64 = .ok (.iaload, 1) := by decide +kernel
theorem dX1_distance_65 : decode cX1_distance 65 = .ok (.ireturn, 1) := by decide +kernel
set_option maxRecDepth 20000 in
theorem ggX1_distanceBehind_X1_mayFollow : GoodIn wsX1_distanceBehind wsX1_mayFollow := goodIn_r _ [7, 8, 9, 10, 11, 12] (by decide +kernel) (by decide +kernel)
set_option maxRecDepth 20000 in
theorem gX1_distanceBehind_X1_mayFollow : GoodIn wsX1_distanceBehind (wsV RX1 25 RX1 yX1_mayFollow wsX1_mayFollow) := goodIn_app (goodIn_of _ (by decide +kernel)) ggX1_distanceBehind_X1_mayFollow
theorem dX1_distanceBehind_0 : decode cX1_distanceBehind 0 = .ok (.bipush (-9), 2) := by decide +kernel
theorem dX1_distanceBehind_2 : decode cX1_distanceBehind 2 = .ok (.istore_n 3, 1) := by decide +kernel
theorem dX1_distanceBehind_3 : decode cX1_distanceBehind 3 = .ok (.iconst 0, 1) := by decide +kernel
theorem dX1_distanceBehind_4 : decode cX1_distanceBehind 4 = .ok (.istore 4, 2) := by decide +kernel
theorem dX1_distanceBehind_6 : decode cX1_distanceBehind 6 = .ok (.iload 4, 2) := by decide +kernel
theorem dX1_distanceBehind_8 : decode cX1_distanceBehind 8 = .ok (.aload_n 0, 1) := by decide +kernel
theorem dX1_distanceBehind_9 : decode cX1_distanceBehind 9 = .ok (.getfield 18, 3) := by decide +kernel
theorem dX1_distanceBehind_12 : decode cX1_distanceBehind 12 = .ok (.if_icmp .ge 60, 3) := by decide +kernel
theorem dX1_distanceBehind_15 : decode cX1_distanceBehind 15 = .ok (.aload_n 0, 1) := by decide +kernel
theorem dX1_distanceBehind_16 : decode cX1_distanceBehind 16 = .ok (.iload_n 1, 1) := by decide +kernel
theorem dX1_distanceBehind_17 : decode cX1_distanceBehind 17 = .ok (.iload 4, 2) := by decide +kernel
theorem dX1_distanceBehind_19 : decode cX1_distanceBehind 19 = .ok (.invokevirtual 25, 3) := by decide +kernel
theorem dX1_distanceBehind_22 : decode cX1_distanceBehind 22 = .ok (.ifCond .eq 44, 3) := by decide +kernel
theorem dX1_distanceBehind_25 : decode cX1_distanceBehind 25 = .ok (.aload_n 0, 1) := by decide +kernel
theorem dX1_distanceBehind_26 : decode cX1_distanceBehind 26 = .ok (.getfield 15, 3) := by decide +kernel
theorem dX1_distanceBehind_29 : decode cX1_distanceBehind 29 = .ok (.iload_n 1, 1) := by decide +kernel
theorem dX1_distanceBehind_30 : decode cX1_distanceBehind 30 = .ok (.iconst 1, 1) := by decide +kernel
theorem dX1_distanceBehind_31 : decode cX1_distanceBehind 31 = .ok (.iload 4, 2) := by decide +kernel
theorem dX1_distanceBehind_33 : decode cX1_distanceBehind 33 = .ok (.ishl, 1) := by decide +kernel
theorem dX1_distanceBehind_34 : decode cX1_distanceBehind 34 = .ok (.ior, 1) := by decide +kernel
theorem dX1_distanceBehind_35 : decode cX1_distanceBehind 35 = .ok (.iaload, 1) := by decide +kernel
theorem dX1_distanceBehind_36 : decode cX1_distanceBehind 36 = .ok (.istore 5, 2) := by decide +kernel
theorem dX1_distanceBehind_38 : decode cX1_distanceBehind 38 = .ok (.iload_n 3, 1) := by decide +kernel
theorem dX1_distanceBehind_39 : decode cX1_distanceBehind 39 = .ok (.bipush (-9), 2) := by decide +kernel
theorem dX1_distanceBehind_41 : decode cX1_distanceBehind 41 = .ok (.if_icmp .eq 22, 3) := by decide +kernel
theorem dX1_distanceBehind_44 : decode cX1_distanceBehind 44 = .ok (.iload_n 2, 1) := by decide +kernel
theorem dX1_distanceBehind_45 : decode cX1_distanceBehind 45 = .ok (.ifCond .eq 12, 3) := by decide +kernel
theorem dX1_distanceBehind_48 : decode cX1_distanceBehind 48 = .ok (.iload 5, 2) := by decide +kernel
theorem dX1_distanceBehind_50 : decode cX1_distanceBehind 50 = .ok (.iload_n 3, 1) := by decide +kernel
theorem dX1_distanceBehind_51 : decode cX1_distanceBehind 51 = .ok (.if_icmp .ge 15, 3) := by decide +kernel
theorem dX1_distanceBehind_54 : decode cX1_distanceBehind 54 = .ok (.goto 9, 3) := by decide +kernel
theorem dX1_distanceBehind_57 : decode cX1_distanceBehind 57 = .ok (.iload 5, 2) := by decide +kernel
theorem dX1_distanceBehind_59 : decode cX1_distanceBehind 59 = .ok (.iload_n 3, 1) := by decide +kernel
theorem dX1_distanceBehind_60 : decode cX1_distanceBehind 60 = .ok (.if_icmp .le 6, 3) := by decide +kernel
theorem dX1_distanceBehind_63 : decode cX1_distanceBehind 63 = .ok (.iload 5, 2) := by decide +kernel
theorem dX1_distanceBehind_65 : decode cX1_distanceBehind 65 = .ok (.istore_n 3, 1) := by decide +kernel
theorem dX1_distanceBehind_66 : decode cX1_distanceBehind 66 = .ok (.iinc 4 1, 3) := by decide +kernel
theorem dX1_distanceBehind_69 : decode cX1_distanceBehind 69 = .ok (.goto (-63), 3) := by decide +kernel
theorem dX1_distanceBehind_72 : decode cX1_distanceBehind 72 = .ok (.iload_n 3, 1) := by decide +kernel
theorem dX1_distanceBehind_73 : decode cX1_distanceBehind 73 = .ok (.ireturn, 1) := by decide +kernel
theorem dX1_alwaysTogether_0 : decode cX1_alwaysTogether 0 = .ok (.iconst 0, 1) := by decide +kernel
theorem dX1_alwaysTogether_1 : decode cX1_alwaysTogether 1 = .ok (.istore_n 2, 1) := by decide +kernel
theorem dX1_alwaysTogether_2 : decode cX1_alwaysTogether 2 = .ok (.iload_n 2, 1) := by decide +kernel
theorem dX1_alwaysTogether_3 : decode cX1_alwaysTogether 3 = .ok (.aload_n 0, 1) := by decide +kernel
theorem dX1_alwaysTogether_4 : decode cX1_alwaysTogether 4 = .ok (.getfield 22, 3) := by decide +kernel
theorem dX1_alwaysTogether_7 : decode cX1_alwaysTogether 7 = .ok (.if_icmp .gt 48, 3) := by decide +kernel
theorem dX1_alwaysTogether_10 : decode cX1_alwaysTogether 10 = .ok (.aload_n 0, 1) := by decide +kernel
theorem dX1_alwaysTogether_11 : decode cX1_alwaysTogether 11 = .ok (.getfield 9, 3) := by decide +kernel
theorem dX1_alwaysTogether_14 : decode cX1_alwaysTogether 14 = .ok (.iload_n 2, 1) := by decide +kernel
theorem dX1_alwaysTogether_15 : decode cX1_alwaysTogether 15 = .ok (.iaload, 1) := by decide +kernel
theorem dX1_alwaysTogether_16 : decode cX1_alwaysTogether 16 = .ok (.iload_n 1, 1) := by decide +kernel
theorem dX1_alwaysTogether_17 : decode cX1_alwaysTogether 17 = .ok (.iconst (-1), 1) := by decide +kernel
theorem dX1_alwaysTogether_18 : decode cX1_alwaysTogether 18 = .ok (.ixor, 1) := by decide +kernel
theorem dX1_alwaysTogether_19 : decode cX1_alwaysTogether 19 = .ok (.iand, 1) := by decide +kernel
theorem dX1_alwaysTogether_20 : decode cX1_alwaysTogether 20 = .ok (.ifCond .eq 7, 3) := by decide +kernel
theorem dX1_alwaysTogether_23 : decode cX1_alwaysTogether 23 = .ok (.iconst 1, 1) := by decide +kernel
theorem dX1_alwaysTogether_24 : decode cX1_alwaysTogether 24 = .ok (.goto 4, 3) := by decide +kernel
theorem dX1_alwaysTogether_27 : decode cX1_alwaysTogether 27 = .ok (.iconst 0, 1) := by decide +kernel
theorem dX1_alwaysTogether_28 : decode cX1_alwaysTogether 28 = .ok (.istore_n 3, 1) := by decide +kernel
theorem dX1_alwaysTogether_29 : decode cX1_alwaysTogether 29 = .ok (.iload_n 3, 1) := by decide +kernel
theorem dX1_alwaysTogether_30 : decode cX1_alwaysTogether 30 = .ok (.ifCond .eq 19, 3) := by decide +kernel
theorem dX1_alwaysTogether_33 : decode cX1_alwaysTogether 33 = .ok (.iload_n 1, 1) := by decide +kernel
theorem dX1_alwaysTogether_34 : decode cX1_alwaysTogether 34 = .ok (.iload_n 2, 1) := by decide +kernel
theorem dX1_alwaysTogether_35 : decode cX1_alwaysTogether 35 = .ok (.iand, 1) := by decide +kernel
theorem dX1_alwaysTogether_36 : decode cX1_alwaysTogether 36 = .ok (.ifCond .eq 13, 3) := by decide +kernel
theorem dX1_alwaysTogether_39 : decode cX1_alwaysTogether 39 = .ok (.iload_n 1, 1) := by decide +kernel
theorem dX1_alwaysTogether_40 : decode cX1_alwaysTogether 40 = .ok (.iload_n 2, 1) := by decide +kernel
theorem dX1_alwaysTogether_41 : decode cX1_alwaysTogether 41 = .ok (.iconst (-1), 1) := by decide +kernel
theorem dX1_alwaysTogether_42 : decode cX1_alwaysTogether 42 = .ok (.ixor, 1) := by decide +kernel
theorem dX1_alwaysTogether_43 : decode cX1_alwaysTogether 43 = .ok (.iand, 1) := by decide +kernel
theorem dX1_alwaysTogether_44 : decode cX1_alwaysTogether 44 = .ok (.ifCond .eq 5, 3) := by decide +kernel
theorem dX1_alwaysTogether_47 : decode cX1_alwaysTogether 47 = .ok (.iconst 0, 1) := by decide +kernel
theorem dX1_alwaysTogether_48 : decode cX1_alwaysTogether 48 = .ok (.ireturn, 1) := by decide +kernel
theorem dX1_alwaysTogether_49 : decode cX1_alwaysTogether 49 = .ok (.iinc 2 1, 3) := by decide +kernel
theorem dX1_alwaysTogether_52 : decode cX1_alwaysTogether 52 = .ok (.goto (-50), 3) := by decide +kernel
theorem dX1_alwaysTogether_55 : decode cX1_alwaysTogether 55 = .ok (.iconst 1, 1) := by decide +kernel
theorem dX1_alwaysTogether_56 : decode cX1_alwaysTogether 56 = .ok (.ireturn, 1) := by decide +kernel
theorem dX2_init_0 : decode cX2_init 0 = .ok (.aload_n 0, 1) := by decide +kernel
theorem dX2_init_1 : decode cX2_init 1 = .ok (.invokespecial 3, 3) := by decide +kernel
theorem dX2_init_4 : decode cX2_init 4 = .ok (.aload_n 0, 1) := by decide +kernel
theorem dX2_init_5 : decode cX2_init 5 = .ok (.bipush 72, 2) := by decide +kernel
theorem dX2_init_7 : decode cX2_init 7 = .ok (.newarray .int, 2) := by decide +kernel
theorem dX2_init_9 : decode cX2_init 9 = .ok (.putfield 11, 3) := by decide +kernel
theorem dX2_init_12 : decode cX2_init 12 = .ok (.aload_n 0, 1) := by decide +kernel
theorem dX2_init_13 : decode cX2_init 13 = .ok (.sipush 2304, 3) := by decide +kernel
theorem dX2_init_16 : decode cX2_init 16 = .ok (.newarray .int, 2) := by decide +kernel
theorem dX2_init_18 : decode cX2_init 18 = .ok (.putfield 15, 3) := by decide +kernel
theorem dX2_init_21 : decode cX2_init 21 = .ok (.aload_n 0, 1) := by decide +kernel
theorem dX2_init_22 : decode cX2_init 22 = .ok (.sipush 2304, 3) := by decide +kernel
theorem dX2_init_25 : decode cX2_init 25 = .ok (.newarray .int, 2) := by decide +kernel
theorem dX2_init_27 : decode cX2_init 27 = .ok (.putfield 18, 3) := by decide +kernel
theorem dX2_init_30 : decode cX2_init 30 = .ok (.return_, 1) := by decide +kernel
set_option maxRecDepth 20000 in
theorem ggX2_weigh_X2_addLine : GoodIn wsX2_weigh wsX2_addLine := goodIn_r _ [7, 1, 2, 8, 9, 10, 11, 12, 13, 14, 15, 16, 17, 18] (by decide +kernel) (by decide +kernel)
set_option maxRecDepth 20000 in
theorem gX2_weigh_X2_addLine : GoodIn wsX2_weigh (wsV RX2 39 RX2 yX2_addLine wsX2_addLine) := goodIn_app (goodIn_of _ (by decide +kernel)) ggX2_weigh_X2_addLine
theorem dX2_weigh_0 : decode cX2_weigh 0 = .ok (.aload_n 0, 1) := by decide +kernel
theorem dX2_weigh_1 : decode cX2_weigh 1 = .ok (.iconst 0, 1) := by decide +kernel
theorem dX2_weigh_2 : decode cX2_weigh 2 = .ok (.putfield 21, 3) := by decide +kernel
theorem dX2_weigh_5 : decode cX2_weigh 5 = .ok (.iconst 0, 1) := by decide +kernel
theorem dX2_weigh_6 : decode cX2_weigh 6 = .ok (.istore_n 2, 1) := by decide +kernel
theorem dX2_weigh_7 : decode cX2_weigh 7 = .ok (.iload_n 2, 1) := by decide +kernel
theorem dX2_weigh_8 : decode cX2_weigh 8 = .ok (.bipush 72, 2) := by decide +kernel
theorem dX2_weigh_10 : decode cX2_weigh 10 = .ok (.if_icmp .ge 16, 3) := by decide +kernel
theorem dX2_weigh_13 : decode cX2_weigh 13 = .ok (.aload_n 0, 1) := by decide +kernel
theorem dX2_weigh_14 : decode cX2_weigh 14 = .ok (.getfield 11, 3) := by decide +kernel
theorem dX2_weigh_17 : decode cX2_weigh 17 = .ok (.iload_n 2, 1) := by decide +kernel
theorem dX2_weigh_18 : decode cX2_weigh 18 = .ok (.iconst 0, 1) := by decide +kernel
theorem dX2_weigh_19 : decode cX2_weigh 19 = .ok (.iastore, 1) := by decide +kernel
theorem dX2_weigh_20 : decode cX2_weigh 20 = .ok (.iinc 2 1, 3) := by decide +kernel
theorem dX2_weigh_23 : decode cX2_weigh 23 = .ok (.goto (-16), 3) := by decide +kernel
theorem dX2_weigh_26 : decode cX2_weigh 26 = .ok (.iconst 0, 1) := by decide +kernel
theorem dX2_weigh_27 : decode cX2_weigh 27 = .ok (.istore_n 2, 1) := by decide +kernel
theorem dX2_weigh_28 : decode cX2_weigh 28 = .ok (.iload_n 2, 1) := by decide +kernel
theorem dX2_weigh_29 : decode cX2_weigh 29 = .ok (.aload_n 1, 1) := by decide +kernel
theorem dX2_weigh_30 : decode cX2_weigh 30 = .ok (.getfield 25, 3) := by decide +kernel
theorem dX2_weigh_33 : decode cX2_weigh 33 = .ok (.if_icmp .ge 35, 3) := by decide +kernel
theorem dX2_weigh_36 : decode cX2_weigh 36 = .ok (.aload_n 1, 1) := by decide +kernel
theorem dX2_weigh_37 : decode cX2_weigh 37 = .ok (.getfield 30, 3) := by decide +kernel
theorem dX2_weigh_40 : decode cX2_weigh 40 = .ok (.iload_n 2, 1) := by decide +kernel
theorem dX2_weigh_41 : decode cX2_weigh 41 = .ok (.iaload, 1) := by decide +kernel
theorem dX2_weigh_42 : decode cX2_weigh 42 = .ok (.iconst 1, 1) := by decide +kernel
theorem dX2_weigh_43 : decode cX2_weigh 43 = .ok (.if_icmp .ne 19, 3) := by decide +kernel
theorem dX2_weigh_46 : decode cX2_weigh 46 = .ok (.aload_n 0, 1) := by decide +kernel
theorem dX2_weigh_47 : decode cX2_weigh 47 = .ok (.aload_n 1, 1) := by decide +kernel
theorem dX2_weigh_48 : decode cX2_weigh 48 = .ok (.getfield 33, 3) := by decide +kernel
theorem dX2_weigh_51 : decode cX2_weigh 51 = .ok (.iload_n 2, 1) := by decide +kernel
theorem dX2_weigh_52 : decode cX2_weigh 52 = .ok (.iaload, 1) := by decide +kernel
theorem dX2_weigh_53 : decode cX2_weigh 53 = .ok (.aload_n 1, 1) := by decide +kernel
theorem dX2_weigh_54 : decode cX2_weigh 54 = .ok (.getfield 36, 3) := by decide +kernel
theorem dX2_weigh_57 : decode cX2_weigh 57 = .ok (.iload_n 2, 1) := by decide +kernel
theorem dX2_weigh_58 : decode cX2_weigh 58 = .ok (.iaload, 1) := by decide +kernel
theorem dX2_weigh_59 : decode cX2_weigh 59 = .ok (.invokevirtual 39, 3) := by decide +kernel
theorem dX2_weigh_62 : decode cX2_weigh 62 = .ok (.iinc 2 1, 3) := by decide +kernel
theorem dX2_weigh_65 : decode cX2_weigh 65 = .ok (.goto (-37), 3) := by decide +kernel
theorem dX2_weigh_68 : decode cX2_weigh 68 = .ok (.return_, 1) := by decide +kernel
set_option maxRecDepth 20000 in
theorem ggX2_addLine_J6_bitCount_0f7a4 : GoodIn wsX2_addLine wsJ6_bitCount_0f7a4 := goodIn_r _ [6, 7, 8, 9] (by decide +kernel) (by decide +kernel)
set_option maxRecDepth 20000 in
theorem gX2_addLine_J6_bitCount_0f7a4 : GoodIn wsX2_addLine (va_wsS RX2 43 yJ6_bitCount_0f7a4 wsJ6_bitCount_0f7a4) := goodIn_app (goodIn_of _ (by decide +kernel)) ggX2_addLine_J6_bitCount_0f7a4
theorem dX2_addLine_0 : decode cX2_addLine 0 = .ok (.aload_n 0, 1) := by decide +kernel
theorem dX2_addLine_1 : decode cX2_addLine 1 = .ok (.dup, 1) := by decide +kernel
theorem dX2_addLine_2 : decode cX2_addLine 2 = .ok (.getfield 21, 3) := by decide +kernel
theorem dX2_addLine_5 : decode cX2_addLine 5 = .ok (.iload_n 2, 1) := by decide +kernel
theorem dX2_addLine_6 : decode cX2_addLine 6 = .ok (.iload_n 1, 1) := by decide +kernel
theorem dX2_addLine_7 : decode cX2_addLine 7 = .ok (.invokestatic 43, 3) := by decide +kernel
theorem dX2_addLine_10 : decode cX2_addLine 10 = .ok (.iconst 1, 1) := by decide +kernel
theorem dX2_addLine_11 : decode cX2_addLine 11 = .ok (.isub, 1) := by decide +kernel
theorem dX2_addLine_12 : decode cX2_addLine 12 = .ok (.imul, 1) := by decide +kernel
theorem dX2_addLine_13 : decode cX2_addLine 13 = .ok (.iadd, 1) := by decide +kernel
theorem dX2_addLine_14 : decode cX2_addLine 14 = .ok (.putfield 21, 3) := by decide +kernel
theorem dX2_addLine_17 : decode cX2_addLine 17 = .ok (.iconst 0, 1) := by decide +kernel
theorem dX2_addLine_18 : decode cX2_addLine 18 = .ok (.istore_n 3, 1) := by decide +kernel
theorem dX2_addLine_19 : decode cX2_addLine 19 = .ok (.iload_n 3, 1) := by decide +kernel
theorem dX2_addLine_20 : decode cX2_addLine 20 = .ok (.bipush 8, 2) := by decide +kernel
theorem dX2_addLine_22 : decode cX2_addLine 22 = .ok (.if_icmp .ge 66, 3) := by decide +kernel
theorem dX2_addLine_25 : decode cX2_addLine 25 = .ok (.iconst 0, 1) := by decide +kernel
theorem dX2_addLine_26 : decode cX2_addLine 26 = .ok (.istore 4, 2) := by decide +kernel
theorem dX2_addLine_28 : decode cX2_addLine 28 = .ok (.iload 4, 2) := by decide +kernel
theorem dX2_addLine_30 : decode cX2_addLine 30 = .ok (.bipush 8, 2) := by decide +kernel
theorem dX2_addLine_32 : decode cX2_addLine 32 = .ok (.if_icmp .ge 50, 3) := by decide +kernel
theorem dX2_addLine_35 : decode cX2_addLine 35 = .ok (.iload_n 3, 1) := by decide +kernel
theorem dX2_addLine_36 : decode cX2_addLine 36 = .ok (.iload 4, 2) := by decide +kernel
theorem dX2_addLine_38 : decode cX2_addLine 38 = .ok (.if_icmp .eq 38, 3) := by decide +kernel
theorem dX2_addLine_41 : decode cX2_addLine 41 = .ok (.iload_n 1, 1) := by decide +kernel
theorem dX2_addLine_42 : decode cX2_addLine 42 = .ok (.iload_n 3, 1) := by decide +kernel
theorem dX2_addLine_43 : decode cX2_addLine 43 = .ok (.ishr, 1) := by decide +kernel
theorem dX2_addLine_44 : decode cX2_addLine 44 = .ok (.iconst 1, 1) := by decide +kernel
theorem dX2_addLine_45 : decode cX2_addLine 45 = .ok (.iand, 1) := by decide +kernel
theorem dX2_addLine_46 : decode cX2_addLine 46 = .ok (.iconst 1, 1) := by decide +kernel
theorem dX2_addLine_47 : decode cX2_addLine 47 = .ok (.if_icmp .ne 29, 3) := by decide +kernel
theorem dX2_addLine_50 : decode cX2_addLine 50 = .ok (.iload_n 1, 1) := by decide +kernel
theorem dX2_addLine_51 : decode cX2_addLine 51 = .ok (.iload 4, 2) := by decide +kernel
theorem dX2_addLine_53 : decode cX2_addLine 53 = .ok (.ishr, 1) := by decide +kernel
theorem dX2_addLine_54 : decode cX2_addLine 54 = .ok (.iconst 1, 1) := by decide +kernel
theorem dX2_addLine_55 : decode cX2_addLine 55 = .ok (.iand, 1) := by decide +kernel
theorem dX2_addLine_56 : decode cX2_addLine 56 = .ok (.iconst 1, 1) := by decide +kernel
theorem dX2_addLine_57 : decode cX2_addLine 57 = .ok (.if_icmp .ne 19, 3) := by decide +kernel
theorem dX2_addLine_60 : decode cX2_addLine 60 = .ok (.aload_n 0, 1) := by decide +kernel
theorem dX2_addLine_61 : decode cX2_addLine 61 = .ok (.getfield 11, 3) := by decide +kernel
theorem dX2_addLine_64 : decode cX2_addLine 64 = .ok (.iload_n 3, 1) := by decide +kernel
theorem dX2_addLine_65 : decode cX2_addLine 65 = .ok (.bipush 8, 2) := by decide +kernel
theorem dX2_addLine_67 : decode cX2_addLine 67 = .ok (.imul, 1) := by decide +kernel
theorem dX2_addLine_68 : decode cX2_addLine 68 = .ok (.iload 4, 2) := by decide +kernel
theorem dX2_addLine_70 : decode cX2_addLine 70 = .ok (.iadd, 1) := by decide +kernel
theorem dX2_addLine_71 : decode cX2_addLine 71 = .ok (.dup2, 1) := by decide +kernel
theorem dX2_addLine_72 : decode cX2_addLine 72 = .ok (.iaload, 1) := by decide +kernel
theorem dX2_addLine_73 : decode cX2_addLine 73 = .ok (.iload_n 2, 1) := by decide +kernel
theorem dX2_addLine_74 : decode cX2_addLine 74 = .ok (.iadd, 1) := by decide +kernel
theorem dX2_addLine_75 : decode cX2_addLine 75 = .ok (.iastore, 1) := by decide +kernel
theorem dX2_addLine_76 : decode cX2_addLine 76 = .ok (.iinc 4 1, 3) := by decide +kernel
theorem dX2_addLine_79 : decode cX2_addLine 79 = .ok (.goto (-51), 3) := by decide +kernel
theorem dX2_addLine_82 : decode cX2_addLine 82 = .ok (.iinc 3 1, 3) := by decide +kernel
theorem dX2_addLine_85 : decode cX2_addLine 85 = .ok (.goto (-66), 3) := by decide +kernel
theorem dX2_addLine_88 : decode cX2_addLine 88 = .ok (.return_, 1) := by decide +kernel
set_option maxRecDepth 20000 in
theorem ggX2_lookAhead_X2_lookAheadFrom : GoodIn wsX2_lookAhead wsX2_lookAheadFrom := goodIn_r _ [5, 6, 7, 8, 9, 10, 11, 12, 13, 14, 15, 16, 17, 18, 19, 20, 21, 22, 23, 24, 25, 26, 27, 28, 29] (by decide +kernel) (by decide +kernel)
set_option maxRecDepth 20000 in
theorem gX2_lookAhead_X2_lookAheadFrom : GoodIn wsX2_lookAhead (wsV RX2 57 RX2 yX2_lookAheadFrom wsX2_lookAheadFrom) := goodIn_app (goodIn_of _ (by decide +kernel)) ggX2_lookAhead_X2_lookAheadFrom
theorem dX2_lookAhead_0 : decode cX2_lookAhead 0 = .ok (.aload_n 1, 1) := by decide +kernel
theorem dX2_lookAhead_1 : decode cX2_lookAhead 1 = .ok (.getfield 49, 3) := by decide +kernel
theorem dX2_lookAhead_4 : decode cX2_lookAhead 4 = .ok (.istore_n 2, 1) := by decide +kernel
theorem dX2_lookAhead_5 : decode cX2_lookAhead 5 = .ok (.iload_n 2, 1) := by decide +kernel
theorem dX2_lookAhead_6 : decode cX2_lookAhead 6 = .ok (.ifCond .le 41, 3) := by decide +kernel
theorem dX2_lookAhead_9 : decode cX2_lookAhead 9 = .ok (.iconst 0, 1) := by decide +kernel
theorem dX2_lookAhead_10 : decode cX2_lookAhead 10 = .ok (.istore_n 3, 1) := by decide +kernel
theorem dX2_lookAhead_11 : decode cX2_lookAhead 11 = .ok (.iload_n 3, 1) := by decide +kernel
theorem dX2_lookAhead_12 : decode cX2_lookAhead 12 = .ok (.aload_n 1, 1) := by decide +kernel
theorem dX2_lookAhead_13 : decode cX2_lookAhead 13 = .ok (.getfield 54, 3) := by decide +kernel
theorem dX2_lookAhead_16 : decode cX2_lookAhead 16 = .ok (.if_icmp .ge 25, 3) := by decide +kernel
theorem dX2_lookAhead_19 : decode cX2_lookAhead 19 = .ok (.iload_n 2, 1) := by decide +kernel
theorem dX2_lookAhead_20 : decode cX2_lookAhead 20 = .ok (.iload_n 3, 1) := by decide +kernel
theorem dX2_lookAhead_21 : decode cX2_lookAhead 21 = .ok (.ishr, 1) := by decide +kernel
theorem dX2_lookAhead_22 : decode cX2_lookAhead 22 = .ok (.iconst 1, 1) := by decide +kernel
theorem dX2_lookAhead_23 : decode cX2_lookAhead 23 = .ok (.iand, 1) := by decide +kernel
theorem dX2_lookAhead_24 : decode cX2_lookAhead 24 = .ok (.iconst 1, 1) := by decide +kernel
theorem dX2_lookAhead_25 : decode cX2_lookAhead 25 = .ok (.if_icmp .ne 10, 3) := by decide +kernel
theorem dX2_lookAhead_28 : decode cX2_lookAhead 28 = .ok (.aload_n 0, 1) := by decide +kernel
theorem dX2_lookAhead_29 : decode cX2_lookAhead 29 = .ok (.aload_n 1, 1) := by decide +kernel
theorem dX2_lookAhead_30 : decode cX2_lookAhead 30 = .ok (.iload_n 2, 1) := by decide +kernel
theorem dX2_lookAhead_31 : decode cX2_lookAhead 31 = .ok (.iload_n 3, 1) := by decide +kernel
theorem dX2_lookAhead_32 : decode cX2_lookAhead 32 = .ok (.invokevirtual 57, 3) := by decide +kernel
theorem dX2_lookAhead_35 : decode cX2_lookAhead 35 = .ok (.iinc 3 1, 3) := by decide +kernel
theorem dX2_lookAhead_38 : decode cX2_lookAhead 38 = .ok (.goto (-27), 3) := by decide +kernel
theorem dX2_lookAhead_41 : decode cX2_lookAhead 41 = .ok (.iinc 2 (-1), 3) := by decide +kernel
theorem dX2_lookAhead_44 : decode cX2_lookAhead 44 = .ok (.goto (-39), 3) := by decide +kernel
theorem dX2_lookAhead_47 : decode cX2_lookAhead 47 = .ok (.aload_n 0, 1) := by decide +kernel
theorem dX2_lookAhead_48 : decode cX2_lookAhead 48 = .ok (.aload_n 1, 1) := by decide +kernel
theorem dX2_lookAhead_49 : decode cX2_lookAhead 49 = .ok (.iconst 0, 1) := by decide +kernel
theorem dX2_lookAhead_50 : decode cX2_lookAhead 50 = .ok (.bipush 8, 2) := by decide +kernel
theorem dX2_lookAhead_52 : decode cX2_lookAhead 52 = .ok (.invokevirtual 57, 3) := by decide +kernel
theorem dX2_lookAhead_55 : decode cX2_lookAhead 55 = .ok (.return_, 1) := by decide +kernel
set_option maxRecDepth 20000 in
theorem ggX2_lookAheadFrom_X1_mayFollow : GoodIn wsX2_lookAheadFrom wsX1_mayFollow := goodIn_r _ [15, 16, 17, 18, 19, 20] (by decide +kernel) (by decide +kernel)
set_option maxRecDepth 20000 in
theorem gX2_lookAheadFrom_X1_mayFollow : GoodIn wsX2_lookAheadFrom (wsV RX2 61 RX1 yX1_mayFollow wsX1_mayFollow) := goodIn_app (goodIn_of _ (by decide +kernel)) ggX2_lookAheadFrom_X1_mayFollow
theorem dX2_lookAheadFrom_0 : decode cX2_lookAheadFrom 0 = .ok (.iconst 0, 1) := by decide +kernel
theorem dX2_lookAheadFrom_1 : decode cX2_lookAheadFrom 1 = .ok (.istore 4, 2) := by decide +kernel
theorem dX2_lookAheadFrom_3 : decode cX2_lookAheadFrom 3 = .ok (.bipush (-9), 2) := by decide +kernel
theorem dX2_lookAheadFrom_5 : decode cX2_lookAheadFrom 5 = .ok (.istore 5, 2) := by decide +kernel
theorem dX2_lookAheadFrom_7 : decode cX2_lookAheadFrom 7 = .ok (.iconst 0, 1) := by decide +kernel
theorem dX2_lookAheadFrom_8 : decode cX2_lookAheadFrom 8 = .ok (.istore 6, 2) := by decide +kernel
theorem dX2_lookAheadFrom_10 : decode cX2_lookAheadFrom 10 = .ok (.iload 6, 2) := by decide +kernel
theorem dX2_lookAheadFrom_12 : decode cX2_lookAheadFrom 12 = .ok (.aload_n 1, 1) := by decide +kernel
theorem dX2_lookAheadFrom_13 : decode cX2_lookAheadFrom 13 = .ok (.getfield 54, 3) := by decide +kernel
theorem dX2_lookAheadFrom_16 : decode cX2_lookAheadFrom 16 = .ok (.if_icmp .ge 101, 3) := by decide +kernel
theorem dX2_lookAheadFrom_19 : decode cX2_lookAheadFrom 19 = .ok (.aload_n 1, 1) := by decide +kernel
theorem dX2_lookAheadFrom_20 : decode cX2_lookAheadFrom 20 = .ok (.iload_n 2, 1) := by decide +kernel
theorem dX2_lookAheadFrom_21 : decode cX2_lookAheadFrom 21 = .ok (.iload 6, 2) := by decide +kernel
theorem dX2_lookAheadFrom_23 : decode cX2_lookAheadFrom 23 = .ok (.invokevirtual 61, 3) := by decide +kernel
theorem dX2_lookAheadFrom_26 : decode cX2_lookAheadFrom 26 = .ok (.ifCond .eq 85, 3) := by decide +kernel
theorem dX2_lookAheadFrom_29 : decode cX2_lookAheadFrom 29 = .ok (.aload_n 0, 1) := by decide +kernel
theorem dX2_lookAheadFrom_30 : decode cX2_lookAheadFrom 30 = .ok (.getfield 11, 3) := by decide +kernel
theorem dX2_lookAheadFrom_33 : decode cX2_lookAheadFrom 33 = .ok (.iload_n 3, 1) := by decide +kernel
theorem dX2_lookAheadFrom_34 : decode cX2_lookAheadFrom 34 = .ok (.bipush 8, 2) := by decide +kernel
theorem dX2_lookAheadFrom_36 : decode cX2_lookAheadFrom 36 = .ok (.imul, 1) := by decide +kernel
theorem dX2_lookAheadFrom_37 : decode cX2_lookAheadFrom 37 = .ok (.iload 6, 2) := by decide +kernel
theorem dX2_lookAheadFrom_39 : decode cX2_lookAheadFrom 39 = .ok (.iadd, 1) := by decide +kernel
theorem dX2_lookAheadFrom_40 : decode cX2_lookAheadFrom 40 = .ok (.iaload, 1) := by decide +kernel
theorem dX2_lookAheadFrom_41 : decode cX2_lookAheadFrom 41 = .ok (.istore 7, 2) := by decide +kernel
theorem dX2_lookAheadFrom_43 : decode cX2_lookAheadFrom 43 = .ok (.iload_n 2, 1) := by decide +kernel
theorem dX2_lookAheadFrom_44 : decode cX2_lookAheadFrom 44 = .ok (.iconst 1, 1) := by decide +kernel
theorem dX2_lookAheadFrom_45 : decode cX2_lookAheadFrom 45 = .ok (.iload 6, 2) := by decide +kernel
theorem dX2_lookAheadFrom_47 : decode cX2_lookAheadFrom 47 = .ok (.ishl, 1) := by decide +kernel
theorem dX2_lookAheadFrom_48 : decode cX2_lookAheadFrom 48 = .ok (.ior, 1) := by decide +kernel
theorem dX2_lookAheadFrom_49 : decode cX2_lookAheadFrom 49 = .ok (.bipush 9, 2) := by decide +kernel
theorem dX2_lookAheadFrom_51 : decode cX2_lookAheadFrom 51 = .ok (.imul, 1) := by decide +kernel
theorem dX2_lookAheadFrom_52 : decode cX2_lookAheadFrom 52 = .ok (.iload 6, 2) := by decide +kernel
theorem dX2_lookAheadFrom_54 : decode cX2_lookAheadFrom 54 = .ok (.iadd, 1) := by decide +kernel
theorem dX2_lookAheadFrom_55 : decode cX2_lookAheadFrom 55 = .ok (.istore 8, 2) := by decide +kernel
theorem dX2_lookAheadFrom_57 : decode cX2_lookAheadFrom 57 = .ok (.iload 4, 2) := by decide +kernel
theorem dX2_lookAheadFrom_59 : decode cX2_lookAheadFrom 59 = .ok (.iload 7, 2) := by decide +kernel
theorem dX2_lookAheadFrom_61 : decode cX2_lookAheadFrom 61 = .ok (.aload_n 0, 1) := by decide +kernel
theorem dX2_lookAheadFrom_62 : decode cX2_lookAheadFrom 62 = .ok (.getfield 15, 3) := by decide +kernel
theorem dX2_lookAheadFrom_65 : decode cX2_lookAheadFrom 65 = .ok (.iload 8, 2) := by decide +kernel
theorem dX2_lookAheadFrom_67 : decode cX2_lookAheadFrom 67 = .ok (.iaload, 1) := by decide +kernel
theorem dX2_lookAheadFrom_68 : decode cX2_lookAheadFrom 68 = .ok (.iadd, 1) := by decide +kernel
theorem dX2_lookAheadFrom_69 : decode cX2_lookAheadFrom 69 = .ok (.invokestatic 65, 3) := by decide +kernel
theorem dX2_lookAheadFrom_72 : decode cX2_lookAheadFrom 72 = .ok (.istore 4, 2) := by decide +kernel
theorem dX2_lookAheadFrom_74 : decode cX2_lookAheadFrom 74 = .ok (.iload 5, 2) := by decide +kernel
theorem dX2_lookAheadFrom_76 : decode cX2_lookAheadFrom 76 = .ok (.bipush (-9), 2) := by decide +kernel
theorem dX2_lookAheadFrom_78 : decode cX2_lookAheadFrom 78 = .ok (.if_icmp .ne 16, 3) := by decide +kernel
theorem dX2_lookAheadFrom_81 : decode cX2_lookAheadFrom 81 = .ok (.iload 7, 2) := by decide +kernel
theorem dX2_lookAheadFrom_83 : decode cX2_lookAheadFrom 83 = .ok (.aload_n 0, 1) := by decide +kernel
theorem dX2_lookAheadFrom_84 : decode cX2_lookAheadFrom 84 = .ok (.getfield 18, 3) := by decide +kernel
theorem dX2_lookAheadFrom_87 : decode cX2_lookAheadFrom 87 = .ok (.iload 8, 2) := by decide +kernel
theorem dX2_lookAheadFrom_89 : decode cX2_lookAheadFrom 89 = .ok (.iaload, 1) := by decide +kernel
theorem dX2_lookAheadFrom_90 : decode cX2_lookAheadFrom 90 = .ok (.iadd, 1) := by decide +kernel
theorem dX2_lookAheadFrom_91 : decode cX2_lookAheadFrom 91 = .ok (.goto 18, 3) := by decide +kernel
theorem dX2_lookAheadFrom_94 : decode cX2_lookAheadFrom 94 = .ok (.iload 5, 2) := by decide +kernel
theorem dX2_lookAheadFrom_96 : decode cX2_lookAheadFrom 96 = .ok (.iload 7, 2) := by decide +kernel
theorem dX2_lookAheadFrom_98 : decode cX2_lookAheadFrom 98 = .ok (.aload_n 0, 1) := by decide +kernel
theorem dX2_lookAheadFrom_99 : decode cX2_lookAheadFrom 99 = .ok (.getfield 18, 3) := by decide +kernel
theorem dX2_lookAheadFrom_102 : decode cX2_lookAheadFrom 102 = .ok (.iload 8, 2) := by decide +kernel
theorem dX2_lookAheadFrom_104 : decode cX2_lookAheadFrom 104 = .ok (.iaload, 1) := by decide +kernel
theorem dX2_lookAheadFrom_105 : decode cX2_lookAheadFrom 105 = .ok (.iadd, 1) := by decide +kernel
theorem dX2_lookAheadFrom_106 : decode cX2_lookAheadFrom 106 = .ok (.invokestatic 71, 3) := by decide +kernel
theorem dX2_lookAheadFrom_109 : decode cX2_lookAheadFrom 109 = .ok (.istore 5, 2) := by decide +kernel
theorem dX2_lookAheadFrom_111 : decode cX2_lookAheadFrom 111 = .ok (.iinc 6 1, 3) := by decide +kernel
theorem dX2_lookAheadFrom_114 : decode cX2_lookAheadFrom 114 = .ok (.goto (-104), 3) := by decide +kernel
theorem dX2_lookAheadFrom_117 : decode cX2_lookAheadFrom 117 = .ok (.aload_n 0, 1) := by decide +kernel
theorem dX2_lookAheadFrom_118 : decode cX2_lookAheadFrom 118 = .ok (.getfield 15, 3) := by decide +kernel
theorem dX2_lookAheadFrom_121 : decode cX2_lookAheadFrom 121 = .ok (.iload_n 2, 1) := by decide +kernel
theorem dX2_lookAheadFrom_122 : decode cX2_lookAheadFrom 122 = .ok (.bipush 9, 2) := by decide +kernel
theorem dX2_lookAheadFrom_124 : decode cX2_lookAheadFrom 124 = .ok (.imul, 1) := by decide +kernel
theorem dX2_lookAheadFrom_125 : decode cX2_lookAheadFrom 125 = .ok (.iload_n 3, 1) := by decide +kernel
theorem dX2_lookAheadFrom_126 : decode cX2_lookAheadFrom 126 = .ok (.iadd, 1) := by decide +kernel
theorem dX2_lookAheadFrom_127 : decode cX2_lookAheadFrom 127 = .ok (.iload 4, 2) := by decide +kernel
theorem dX2_lookAheadFrom_129 : decode cX2_lookAheadFrom 129 = .ok (.iastore, 1) := by decide +kernel
theorem dX2_lookAheadFrom_130 : decode cX2_lookAheadFrom 130 = .ok (.aload_n 0, 1) := by decide +kernel
theorem dX2_lookAheadFrom_131 : decode cX2_lookAheadFrom 131 = .ok (.getfield 18, 3) := by decide +kernel
theorem dX2_lookAheadFrom_134 : decode cX2_lookAheadFrom 134 = .ok (.iload_n 2, 1) := by decide +kernel
theorem dX2_lookAheadFrom_135 : decode cX2_lookAheadFrom 135 = .ok (.bipush 9, 2) := by decide +kernel
theorem dX2_lookAheadFrom_137 : decode cX2_lookAheadFrom 137 = .ok (.imul, 1) := by decide +kernel
theorem dX2_lookAheadFrom_138 : decode cX2_lookAheadFrom 138 = .ok (.iload_n 3, 1) := by decide +kernel
theorem dX2_lookAheadFrom_139 : decode cX2_lookAheadFrom 139 = .ok (.iadd, 1) := by decide +kernel
theorem dX2_lookAheadFrom_140 : decode cX2_lookAheadFrom 140 = .ok (.iload 5, 2) := by decide +kernel
theorem dX2_lookAheadFrom_142 : decode cX2_lookAheadFrom 142 = .ok (.iconst 0, 1) := by decide +kernel
theorem dX2_lookAheadFrom_143 : decode cX2_lookAheadFrom 143 = .ok (.invokestatic 65, 3) := by decide +kernel
theorem dX2_lookAheadFrom_146 : decode cX2_lookAheadFrom 146 = .ok (.iastore, 1) := by decide +kernel
theorem dX2_lookAheadFrom_147 : decode cX2_lookAheadFrom 147 = .ok (.return_, 1) := by decide +kernel
theorem dX2_gapsOf_0 : decode cX2_gapsOf 0 = .ok (.aload_n 0, 1) := by decide +kernel
theorem dX2_gapsOf_1 : decode cX2_gapsOf 1 = .ok (.getfield 21, 3) := by decide +kernel
theorem dX2_gapsOf_4 : decode cX2_gapsOf 4 = .ok (.istore_n 3, 1) := by decide +kernel
theorem dX2_gapsOf_5 : decode cX2_gapsOf 5 = .ok (.iconst 1, 1) := by decide +kernel
theorem dX2_gapsOf_6 : decode cX2_gapsOf 6 = .ok (.istore 4, 2) := by decide +kernel
theorem dX2_gapsOf_8 : decode cX2_gapsOf 8 = .ok (.iload 4, 2) := by decide +kernel
theorem dX2_gapsOf_10 : decode cX2_gapsOf 10 = .ok (.iload_n 2, 1) := by decide +kernel
theorem dX2_gapsOf_11 : decode cX2_gapsOf 11 = .ok (.if_icmp .ge 31, 3) := by decide +kernel
theorem dX2_gapsOf_14 : decode cX2_gapsOf 14 = .ok (.iload_n 3, 1) := by decide +kernel
theorem dX2_gapsOf_15 : decode cX2_gapsOf 15 = .ok (.aload_n 0, 1) := by decide +kernel
theorem dX2_gapsOf_16 : decode cX2_gapsOf 16 = .ok (.getfield 11, 3) := by decide +kernel
theorem dX2_gapsOf_19 : decode cX2_gapsOf 19 = .ok (.aload_n 1, 1) := by decide +kernel
theorem dX2_gapsOf_20 : decode cX2_gapsOf 20 = .ok (.iload 4, 2) := by decide +kernel
theorem dX2_gapsOf_22 : decode cX2_gapsOf 22 = .ok (.iconst 1, 1) := by decide +kernel
theorem dX2_gapsOf_23 : decode cX2_gapsOf 23 = .ok (.isub, 1) := by decide +kernel
theorem dX2_gapsOf_24 : decode cX2_gapsOf 24 = .ok (.iaload, 1) := by decide +kernel
theorem dX2_gapsOf_25 : decode cX2_gapsOf 25 = .ok (.bipush 8, 2) := by decide +kernel
theorem dX2_gapsOf_27 : decode cX2_gapsOf 27 = .ok (.imul, 1) := by decide +kernel
theorem dX2_gapsOf_28 : decode cX2_gapsOf 28 = .ok (.aload_n 1, 1) := by decide +kernel
theorem dX2_gapsOf_29 : decode cX2_gapsOf 29 = .ok (.iload 4, 2) := by decide +kernel
theorem dX2_gapsOf_31 : decode cX2_gapsOf 31 = .ok (.iaload, 1) := by decide +kernel
theorem dX2_gapsOf_32 : decode cX2_gapsOf 32 = .ok (.iadd, 1) := by decide +kernel
theorem dX2_gapsOf_33 : decode cX2_gapsOf 33 = .ok (.iaload, 1) := by decide +kernel
theorem dX2_gapsOf_34 : decode cX2_gapsOf 34 = .ok (.isub, 1) := by decide +kernel
theorem dX2_gapsOf_35 : decode cX2_gapsOf 35 = .ok (.istore_n 3, 1) := by decide +kernel
theorem dX2_gapsOf_36 : decode cX2_gapsOf 36 = .ok (.iinc 4 1, 3) := by decide +kernel
theorem dX2_gapsOf_39 : decode cX2_gapsOf 39 = .ok (.goto (-31), 3) := by decide +kernel
theorem dX2_gapsOf_42 : decode cX2_gapsOf 42 = .ok (.iload_n 3, 1) := by decide +kernel
theorem dX2_gapsOf_43 : decode cX2_gapsOf 43 = .ok (.ireturn, 1) := by decide +kernel
set_option maxRecDepth 20000 in
theorem ggX2_numberOfBest_X2_bestColumn : GoodIn wsX2_numberOfBest wsX2_bestColumn := goodIn_r _ [5, 6, 7, 8, 9, 10, 11, 12, 13, 20, 21, 22, 23, 24, 25, 26, 27] (by decide +kernel) (by decide +kernel)
set_option maxRecDepth 20000 in
theorem gX2_numberOfBest_X2_bestColumn : GoodIn wsX2_numberOfBest (wsV RX2 74 RX2 yX2_bestColumn wsX2_bestColumn) := goodIn_app (goodIn_of _ (by decide +kernel)) ggX2_numberOfBest_X2_bestColumn
set_option maxRecDepth 20000 in
theorem ggX2_numberOfBest_X1_rowsAhead : GoodIn wsX2_numberOfBest wsX1_rowsAhead := goodIn_r _ [17, 18, 19, 9, 10, 11, 12, 13, 20, 21, 22, 23] (by decide +kernel) (by decide +kernel)
set_option maxRecDepth 20000 in
theorem gX2_numberOfBest_X1_rowsAhead : GoodIn wsX2_numberOfBest (wsV RX2 78 RX1 yX1_rowsAhead wsX1_rowsAhead) := goodIn_app (goodIn_of _ (by decide +kernel)) ggX2_numberOfBest_X1_rowsAhead
theorem dX2_numberOfBest_0 : decode cX2_numberOfBest 0 = .ok (.iconst 0, 1) := by decide +kernel
theorem dX2_numberOfBest_1 : decode cX2_numberOfBest 1 = .ok (.istore_n 2, 1) := by decide +kernel
theorem dX2_numberOfBest_2 : decode cX2_numberOfBest 2 = .ok (.bipush 8, 2) := by decide +kernel
theorem dX2_numberOfBest_4 : decode cX2_numberOfBest 4 = .ok (.istore_n 3, 1) := by decide +kernel
theorem dX2_numberOfBest_5 : decode cX2_numberOfBest 5 = .ok (.iconst 0, 1) := by decide +kernel
theorem dX2_numberOfBest_6 : decode cX2_numberOfBest 6 = .ok (.istore 4, 2) := by decide +kernel
theorem dX2_numberOfBest_8 : decode cX2_numberOfBest 8 = .ok (.iconst 0, 1) := by decide +kernel
theorem dX2_numberOfBest_9 : decode cX2_numberOfBest 9 = .ok (.istore 5, 2) := by decide +kernel
theorem dX2_numberOfBest_11 : decode cX2_numberOfBest 11 = .ok (.iload 5, 2) := by decide +kernel
theorem dX2_numberOfBest_13 : decode cX2_numberOfBest 13 = .ok (.aload_n 1, 1) := by decide +kernel
theorem dX2_numberOfBest_14 : decode cX2_numberOfBest 14 = .ok (.getfield 54, 3) := by decide +kernel
theorem dX2_numberOfBest_17 : decode cX2_numberOfBest 17 = .ok (.if_icmp .ge 40, 3) := by decide +kernel
theorem dX2_numberOfBest_20 : decode cX2_numberOfBest 20 = .ok (.aload_n 0, 1) := by decide +kernel
theorem dX2_numberOfBest_21 : decode cX2_numberOfBest 21 = .ok (.aload_n 1, 1) := by decide +kernel
theorem dX2_numberOfBest_22 : decode cX2_numberOfBest 22 = .ok (.iload_n 2, 1) := by decide +kernel
theorem dX2_numberOfBest_23 : decode cX2_numberOfBest 23 = .ok (.iload_n 3, 1) := by decide +kernel
theorem dX2_numberOfBest_24 : decode cX2_numberOfBest 24 = .ok (.invokevirtual 74, 3) := by decide +kernel
theorem dX2_numberOfBest_27 : decode cX2_numberOfBest 27 = .ok (.istore 6, 2) := by decide +kernel
theorem dX2_numberOfBest_29 : decode cX2_numberOfBest 29 = .ok (.iload 4, 2) := by decide +kernel
theorem dX2_numberOfBest_31 : decode cX2_numberOfBest 31 = .ok (.aload_n 1, 1) := by decide +kernel
theorem dX2_numberOfBest_32 : decode cX2_numberOfBest 32 = .ok (.iload_n 2, 1) := by decide +kernel
theorem dX2_numberOfBest_33 : decode cX2_numberOfBest 33 = .ok (.iload 6, 2) := by decide +kernel
theorem dX2_numberOfBest_35 : decode cX2_numberOfBest 35 = .ok (.invokevirtual 78, 3) := by decide +kernel
theorem dX2_numberOfBest_38 : decode cX2_numberOfBest 38 = .ok (.iadd, 1) := by decide +kernel
theorem dX2_numberOfBest_39 : decode cX2_numberOfBest 39 = .ok (.istore 4, 2) := by decide +kernel
theorem dX2_numberOfBest_41 : decode cX2_numberOfBest 41 = .ok (.iload_n 2, 1) := by decide +kernel
theorem dX2_numberOfBest_42 : decode cX2_numberOfBest 42 = .ok (.iconst 1, 1) := by decide +kernel
theorem dX2_numberOfBest_43 : decode cX2_numberOfBest 43 = .ok (.iload 6, 2) := by decide +kernel
theorem dX2_numberOfBest_45 : decode cX2_numberOfBest 45 = .ok (.ishl, 1) := by decide +kernel
theorem dX2_numberOfBest_46 : decode cX2_numberOfBest 46 = .ok (.ior, 1) := by decide +kernel
theorem dX2_numberOfBest_47 : decode cX2_numberOfBest 47 = .ok (.istore_n 2, 1) := by decide +kernel
theorem dX2_numberOfBest_48 : decode cX2_numberOfBest 48 = .ok (.iload 6, 2) := by decide +kernel
theorem dX2_numberOfBest_50 : decode cX2_numberOfBest 50 = .ok (.istore_n 3, 1) := by decide +kernel
theorem dX2_numberOfBest_51 : decode cX2_numberOfBest 51 = .ok (.iinc 5 1, 3) := by decide +kernel
theorem dX2_numberOfBest_54 : decode cX2_numberOfBest 54 = .ok (.goto (-43), 3) := by decide +kernel
theorem dX2_numberOfBest_57 : decode cX2_numberOfBest 57 = .ok (.iload 4, 2) := by decide +kernel
theorem dX2_numberOfBest_59 : decode cX2_numberOfBest 59 = .ok (.ireturn, 1) := by decide +kernel
set_option maxRecDepth 20000 in
theorem ggX2_bestColumn_X1_mayFollow : GoodIn wsX2_bestColumn wsX1_mayFollow := goodIn_r _ [7, 8, 9, 10, 11, 12] (by decide +kernel) (by decide +kernel)
set_option maxRecDepth 20000 in
theorem gX2_bestColumn_X1_mayFollow : GoodIn wsX2_bestColumn (wsV RX2 61 RX1 yX1_mayFollow wsX1_mayFollow) := goodIn_app (goodIn_of _ (by decide +kernel)) ggX2_bestColumn_X1_mayFollow
theorem dX2_bestColumn_0 : decode cX2_bestColumn 0 = .ok (.iconst 0, 1) := by decide +kernel
theorem dX2_bestColumn_1 : decode cX2_bestColumn 1 = .ok (.istore 4, 2) := by decide +kernel
theorem dX2_bestColumn_3 : decode cX2_bestColumn 3 = .ok (.iload 4, 2) := by decide +kernel
theorem dX2_bestColumn_5 : decode cX2_bestColumn 5 = .ok (.aload_n 1, 1) := by decide +kernel
theorem dX2_bestColumn_6 : decode cX2_bestColumn 6 = .ok (.getfield 54, 3) := by decide +kernel
theorem dX2_bestColumn_9 : decode cX2_bestColumn 9 = .ok (.if_icmp .ge 70, 3) := by decide +kernel
theorem dX2_bestColumn_12 : decode cX2_bestColumn 12 = .ok (.aload_n 1, 1) := by decide +kernel
theorem dX2_bestColumn_13 : decode cX2_bestColumn 13 = .ok (.iload_n 2, 1) := by decide +kernel
theorem dX2_bestColumn_14 : decode cX2_bestColumn 14 = .ok (.iload 4, 2) := by decide +kernel
theorem dX2_bestColumn_16 : decode cX2_bestColumn 16 = .ok (.invokevirtual 61, 3) := by decide +kernel
theorem dX2_bestColumn_19 : decode cX2_bestColumn 19 = .ok (.ifCond .eq 54, 3) := by decide +kernel
theorem dX2_bestColumn_22 : decode cX2_bestColumn 22 = .ok (.aload_n 0, 1) := by decide +kernel
theorem dX2_bestColumn_23 : decode cX2_bestColumn 23 = .ok (.getfield 15, 3) := by decide +kernel
theorem dX2_bestColumn_26 : decode cX2_bestColumn 26 = .ok (.iload_n 2, 1) := by decide +kernel
theorem dX2_bestColumn_27 : decode cX2_bestColumn 27 = .ok (.iconst 1, 1) := by decide +kernel
theorem dX2_bestColumn_28 : decode cX2_bestColumn 28 = .ok (.iload 4, 2) := by decide +kernel
theorem dX2_bestColumn_30 : decode cX2_bestColumn 30 = .ok (.ishl, 1) := by decide +kernel
theorem dX2_bestColumn_31 : decode cX2_bestColumn 31 = .ok (.ior, 1) := by decide +kernel
theorem dX2_bestColumn_32 : decode cX2_bestColumn 32 = .ok (.bipush 9, 2) := by decide +kernel
theorem dX2_bestColumn_34 : decode cX2_bestColumn 34 = .ok (.imul, 1) := by decide +kernel
theorem dX2_bestColumn_35 : decode cX2_bestColumn 35 = .ok (.iload 4, 2) := by decide +kernel
theorem dX2_bestColumn_37 : decode cX2_bestColumn 37 = .ok (.iadd, 1) := by decide +kernel
theorem dX2_bestColumn_38 : decode cX2_bestColumn 38 = .ok (.iaload, 1) := by decide +kernel
theorem dX2_bestColumn_39 : decode cX2_bestColumn 39 = .ok (.istore 5, 2) := by decide +kernel
theorem dX2_bestColumn_41 : decode cX2_bestColumn 41 = .ok (.aload_n 0, 1) := by decide +kernel
theorem dX2_bestColumn_42 : decode cX2_bestColumn 42 = .ok (.getfield 11, 3) := by decide +kernel
theorem dX2_bestColumn_45 : decode cX2_bestColumn 45 = .ok (.iload_n 3, 1) := by decide +kernel
theorem dX2_bestColumn_46 : decode cX2_bestColumn 46 = .ok (.bipush 8, 2) := by decide +kernel
theorem dX2_bestColumn_48 : decode cX2_bestColumn 48 = .ok (.imul, 1) := by decide +kernel
theorem dX2_bestColumn_49 : decode cX2_bestColumn 49 = .ok (.iload 4, 2) := by decide +kernel
theorem dX2_bestColumn_51 : decode cX2_bestColumn 51 = .ok (.iadd, 1) := by decide +kernel
theorem dX2_bestColumn_52 : decode cX2_bestColumn 52 = .ok (.iaload, 1) := by decide +kernel
theorem dX2_bestColumn_53 : decode cX2_bestColumn 53 = .ok (.iload 5, 2) := by decide +kernel
theorem dX2_bestColumn_55 : decode cX2_bestColumn 55 = .ok (.iadd, 1) := by decide +kernel
theorem dX2_bestColumn_56 : decode cX2_bestColumn 56 = .ok (.aload_n 0, 1) := by decide +kernel
theorem dX2_bestColumn_57 : decode cX2_bestColumn 57 = .ok (.getfield 15, 3) := by decide +kernel
theorem dX2_bestColumn_60 : decode cX2_bestColumn 60 = .ok (.iload_n 2, 1) := by decide +kernel
theorem dX2_bestColumn_61 : decode cX2_bestColumn 61 = .ok (.bipush 9, 2) := by decide +kernel
theorem dX2_bestColumn_63 : decode cX2_bestColumn 63 = .ok (.imul, 1) := by decide +kernel
theorem dX2_bestColumn_64 : decode cX2_bestColumn 64 = .ok (.iload_n 3, 1) := by decide +kernel
theorem dX2_bestColumn_65 : decode cX2_bestColumn 65 = .ok (.iadd, 1) := by decide +kernel
theorem dX2_bestColumn_66 : decode cX2_bestColumn 66 = .ok (.iaload, 1) := by decide +kernel
theorem dX2_bestColumn_67 : decode cX2_bestColumn 67 = .ok (.if_icmp .ne 6, 3) := by decide +kernel
theorem dX2_bestColumn_70 : decode cX2_bestColumn 70 = .ok (.iload 4, 2) := by decide +kernel
theorem dX2_bestColumn_72 : decode cX2_bestColumn 72 = .ok (.ireturn, 1) := by decide +kernel
theorem dX2_bestColumn_73 : decode cX2_bestColumn 73 = .ok (.iinc 4 1, 3) := by decide +kernel
theorem dX2_bestColumn_76 : decode cX2_bestColumn 76 = .ok (.goto (-73), 3) := by decide +kernel
theorem dX2_bestColumn_79 : decode cX2_bestColumn 79 = .ok (.iconst 0, 1) := by decide +kernel
theorem dX2_bestColumn_80 : decode cX2_bestColumn 80 = .ok (.ireturn, 1) := by decide +kernel
set_option maxRecDepth 20000 in
theorem ggX2_rowsUpTo_X1_howMany : GoodIn wsX2_rowsUpTo wsX1_howMany := goodIn_r _ [6, 7, 24, 25, 26, 27] (by decide +kernel) (by decide +kernel)
set_option maxRecDepth 20000 in
theorem gX2_rowsUpTo_X1_howMany : GoodIn wsX2_rowsUpTo (wsV RX2 81 RX1 yX1_howMany wsX1_howMany) := goodIn_app (goodIn_of _ (by decide +kernel)) ggX2_rowsUpTo_X1_howMany
set_option maxRecDepth 20000 in
theorem ggX2_rowsUpTo_X2_rowsThatSave : GoodIn wsX2_rowsUpTo wsX2_rowsThatSave := goodIn_r _ [11, 12, 13, 14, 15, 16, 17, 5, 18, 19, 8, 9, 10, 20, 21, 22, 23, 24, 25, 26, 27] (by decide +kernel) (by decide +kernel)
set_option maxRecDepth 20000 in
theorem gX2_rowsUpTo_X2_rowsThatSave : GoodIn wsX2_rowsUpTo (va_wsS RX2 85 yX2_rowsThatSave wsX2_rowsThatSave) := goodIn_app (goodIn_of _ (by decide +kernel)) ggX2_rowsUpTo_X2_rowsThatSave
theorem dX2_rowsUpTo_0 : decode cX2_rowsUpTo 0 = .ok (.iload_n 2, 1) := by decide +kernel
theorem dX2_rowsUpTo_1 : decode cX2_rowsUpTo 1 = .ok (.ifCond .ge 5, 3) := by decide +kernel
theorem dX2_rowsUpTo_4 : decode cX2_rowsUpTo 4 = .ok (.iconst 0, 1) := by decide +kernel
theorem dX2_rowsUpTo_5 : decode cX2_rowsUpTo 5 = .ok (.ireturn, 1) := by decide +kernel
theorem dX2_rowsUpTo_6 : decode cX2_rowsUpTo 6 = .ok (.iload_n 2, 1) := by decide +kernel
theorem dX2_rowsUpTo_7 : decode cX2_rowsUpTo 7 = .ok (.aload_n 0, 1) := by decide +kernel
theorem dX2_rowsUpTo_8 : decode cX2_rowsUpTo 8 = .ok (.getfield 21, 3) := by decide +kernel
theorem dX2_rowsUpTo_11 : decode cX2_rowsUpTo 11 = .ok (.if_icmp .lt 8, 3) := by decide +kernel
theorem dX2_rowsUpTo_14 : decode cX2_rowsUpTo 14 = .ok (.aload_n 1, 1) := by decide +kernel
theorem dX2_rowsUpTo_15 : decode cX2_rowsUpTo 15 = .ok (.invokevirtual 81, 3) := by decide +kernel
theorem dX2_rowsUpTo_18 : decode cX2_rowsUpTo 18 = .ok (.ireturn, 1) := by decide +kernel
theorem dX2_rowsUpTo_19 : decode cX2_rowsUpTo 19 = .ok (.aload_n 0, 1) := by decide +kernel
theorem dX2_rowsUpTo_20 : decode cX2_rowsUpTo 20 = .ok (.aload_n 1, 1) := by decide +kernel
theorem dX2_rowsUpTo_21 : decode cX2_rowsUpTo 21 = .ok (.iconst 0, 1) := by decide +kernel
theorem dX2_rowsUpTo_22 : decode cX2_rowsUpTo 22 = .ok (.bipush 8, 2) := by decide +kernel
theorem dX2_rowsUpTo_24 : decode cX2_rowsUpTo 24 = .ok (.aload_n 0, 1) := by decide +kernel
theorem dX2_rowsUpTo_25 : decode cX2_rowsUpTo 25 = .ok (.getfield 21, 3) := by decide +kernel
theorem dX2_rowsUpTo_28 : decode cX2_rowsUpTo 28 = .ok (.iload_n 2, 1) := by decide +kernel
theorem dX2_rowsUpTo_29 : decode cX2_rowsUpTo 29 = .ok (.isub, 1) := by decide +kernel
theorem dX2_rowsUpTo_30 : decode cX2_rowsUpTo 30 = .ok (.iconst 0, 1) := by decide +kernel
theorem dX2_rowsUpTo_31 : decode cX2_rowsUpTo 31 = .ok (.invokestatic 85, 3) := by decide +kernel
theorem dX2_rowsUpTo_34 : decode cX2_rowsUpTo 34 = .ok (.ireturn, 1) := by decide +kernel
set_option maxRecDepth 20000 in
theorem ggX2_rowsThatSave_X1_mayFollow : GoodIn wsX2_rowsThatSave wsX1_mayFollow := goodIn_r _ [8, 9, 17, 18, 19, 20] (by decide +kernel) (by decide +kernel)
set_option maxRecDepth 20000 in
theorem gX2_rowsThatSave_X1_mayFollow : GoodIn wsX2_rowsThatSave (wsV RX2 61 RX1 yX1_mayFollow wsX1_mayFollow) := goodIn_app (goodIn_of _ (by decide +kernel)) ggX2_rowsThatSave_X1_mayFollow
set_option maxRecDepth 20000 in
theorem ggX2_rowsThatSave_X2_rowsThatSave : GoodIn wsX2_rowsThatSave wsX2_rowsThatSave := goodIn_r _ [0, 1, 2, 3, 4, 5, 6, 7, 8, 9, 10, 11, 12, 13, 14, 15, 16, 17, 18, 19, 20] (by decide +kernel) (by decide +kernel)
set_option maxRecDepth 20000 in
theorem gX2_rowsThatSave_X2_rowsThatSave : GoodIn wsX2_rowsThatSave (va_wsS RX2 85 yX2_rowsThatSave wsX2_rowsThatSave) := goodIn_app (goodIn_of _ (by decide +kernel)) ggX2_rowsThatSave_X2_rowsThatSave
theorem dX2_rowsThatSave_0 : decode cX2_rowsThatSave 0 = .ok (.iload_n 2, 1) := by decide +kernel
theorem dX2_rowsThatSave_1 : decode cX2_rowsThatSave 1 = .ok (.bipush 9, 2) := by decide +kernel
theorem dX2_rowsThatSave_3 : decode cX2_rowsThatSave 3 = .ok (.imul, 1) := by decide +kernel
theorem dX2_rowsThatSave_4 : decode cX2_rowsThatSave 4 = .ok (.iload_n 3, 1) := by decide +kernel
theorem dX2_rowsThatSave_5 : decode cX2_rowsThatSave 5 = .ok (.iadd, 1) := by decide +kernel
theorem dX2_rowsThatSave_6 : decode cX2_rowsThatSave 6 = .ok (.istore 6, 2) := by decide +kernel
theorem dX2_rowsThatSave_8 : decode cX2_rowsThatSave 8 = .ok (.iload 4, 2) := by decide +kernel
theorem dX2_rowsThatSave_10 : decode cX2_rowsThatSave 10 = .ok (.aload_n 0, 1) := by decide +kernel
theorem dX2_rowsThatSave_11 : decode cX2_rowsThatSave 11 = .ok (.getfield 15, 3) := by decide +kernel
theorem dX2_rowsThatSave_14 : decode cX2_rowsThatSave 14 = .ok (.iload 6, 2) := by decide +kernel
theorem dX2_rowsThatSave_16 : decode cX2_rowsThatSave 16 = .ok (.iaload, 1) := by decide +kernel
theorem dX2_rowsThatSave_17 : decode cX2_rowsThatSave 17 = .ok (.if_icmp .gt 10, 3) := by decide +kernel
theorem dX2_rowsThatSave_20 : decode cX2_rowsThatSave 20 = .ok (.iload 5, 2) := by decide +kernel
theorem dX2_rowsThatSave_22 : decode cX2_rowsThatSave 22 = .ok (.bipush 8, 2) := by decide +kernel
theorem dX2_rowsThatSave_24 : decode cX2_rowsThatSave 24 = .ok (.if_icmp .le 5, 3) := by decide +kernel
theorem dX2_rowsThatSave_27 : decode cX2_rowsThatSave 27 = .ok (.iconst 0, 1) := by decide +kernel
theorem dX2_rowsThatSave_28 : decode cX2_rowsThatSave 28 = .ok (.ireturn, 1) := by decide +kernel
theorem dX2_rowsThatSave_29 : decode cX2_rowsThatSave 29 = .ok (.iload 4, 2) := by decide +kernel
theorem dX2_rowsThatSave_31 : decode cX2_rowsThatSave 31 = .ok (.aload_n 0, 1) := by decide +kernel
theorem dX2_rowsThatSave_32 : decode cX2_rowsThatSave 32 = .ok (.getfield 18, 3) := by decide +kernel
theorem dX2_rowsThatSave_35 : decode cX2_rowsThatSave 35 = .ok (.iload 6, 2) := by decide +kernel
theorem dX2_rowsThatSave_37 : decode cX2_rowsThatSave 37 = .ok (.iaload, 1) := by decide +kernel
theorem dX2_rowsThatSave_38 : decode cX2_rowsThatSave 38 = .ok (.if_icmp .gt 10, 3) := by decide +kernel
theorem dX2_rowsThatSave_41 : decode cX2_rowsThatSave 41 = .ok (.aload_n 1, 1) := by decide +kernel
theorem dX2_rowsThatSave_42 : decode cX2_rowsThatSave 42 = .ok (.getfield 89, 3) := by decide +kernel
theorem dX2_rowsThatSave_45 : decode cX2_rowsThatSave 45 = .ok (.iload_n 2, 1) := by decide +kernel
theorem dX2_rowsThatSave_46 : decode cX2_rowsThatSave 46 = .ok (.iaload, 1) := by decide +kernel
theorem dX2_rowsThatSave_47 : decode cX2_rowsThatSave 47 = .ok (.ireturn, 1) := by decide +kernel
theorem dX2_rowsThatSave_48 : decode cX2_rowsThatSave 48 = .ok (.iconst 0, 1) := by decide +kernel
theorem dX2_rowsThatSave_49 : decode cX2_rowsThatSave 49 = .ok (.istore 7, 2) := by decide +kernel
theorem dX2_rowsThatSave_51 : decode cX2_rowsThatSave 51 = .ok (.iconst 0, 1) := by decide +kernel
theorem dX2_rowsThatSave_52 : decode cX2_rowsThatSave 52 = .ok (.istore 8, 2) := by decide +kernel
theorem dX2_rowsThatSave_54 : decode cX2_rowsThatSave 54 = .ok (.iload 8, 2) := by decide +kernel
theorem dX2_rowsThatSave_56 : decode cX2_rowsThatSave 56 = .ok (.aload_n 1, 1) := by decide +kernel
theorem dX2_rowsThatSave_57 : decode cX2_rowsThatSave 57 = .ok (.getfield 54, 3) := by decide +kernel
theorem dX2_rowsThatSave_60 : decode cX2_rowsThatSave 60 = .ok (.if_icmp .ge 60, 3) := by decide +kernel
theorem dX2_rowsThatSave_63 : decode cX2_rowsThatSave 63 = .ok (.aload_n 1, 1) := by decide +kernel
theorem dX2_rowsThatSave_64 : decode cX2_rowsThatSave 64 = .ok (.iload_n 2, 1) := by decide +kernel
theorem dX2_rowsThatSave_65 : decode cX2_rowsThatSave 65 = .ok (.iload 8, 2) := by decide +kernel
theorem dX2_rowsThatSave_67 : decode cX2_rowsThatSave 67 = .ok (.invokevirtual 61, 3) := by decide +kernel
theorem dX2_rowsThatSave_70 : decode cX2_rowsThatSave 70 = .ok (.ifCond .eq 44, 3) := by decide +kernel
theorem dX2_rowsThatSave_73 : decode cX2_rowsThatSave 73 = .ok (.iload 4, 2) := by decide +kernel
theorem dX2_rowsThatSave_75 : decode cX2_rowsThatSave 75 = .ok (.aload_n 0, 1) := by decide +kernel
theorem dX2_rowsThatSave_76 : decode cX2_rowsThatSave 76 = .ok (.getfield 11, 3) := by decide +kernel
theorem dX2_rowsThatSave_79 : decode cX2_rowsThatSave 79 = .ok (.iload_n 3, 1) := by decide +kernel
theorem dX2_rowsThatSave_80 : decode cX2_rowsThatSave 80 = .ok (.bipush 8, 2) := by decide +kernel
theorem dX2_rowsThatSave_82 : decode cX2_rowsThatSave 82 = .ok (.imul, 1) := by decide +kernel
theorem dX2_rowsThatSave_83 : decode cX2_rowsThatSave 83 = .ok (.iload 8, 2) := by decide +kernel
theorem dX2_rowsThatSave_85 : decode cX2_rowsThatSave 85 = .ok (.iadd, 1) := by decide +kernel
theorem dX2_rowsThatSave_86 : decode cX2_rowsThatSave 86 = .ok (.iaload, 1) := by decide +kernel
theorem dX2_rowsThatSave_87 : decode cX2_rowsThatSave 87 = .ok (.isub, 1) := by decide +kernel
theorem dX2_rowsThatSave_88 : decode cX2_rowsThatSave 88 = .ok (.istore 9, 2) := by decide +kernel
theorem dX2_rowsThatSave_90 : decode cX2_rowsThatSave 90 = .ok (.iload 7, 2) := by decide +kernel
theorem dX2_rowsThatSave_92 : decode cX2_rowsThatSave 92 = .ok (.aload_n 0, 1) := by decide +kernel
theorem dX2_rowsThatSave_93 : decode cX2_rowsThatSave 93 = .ok (.aload_n 1, 1) := by decide +kernel
theorem dX2_rowsThatSave_94 : decode cX2_rowsThatSave 94 = .ok (.iload_n 2, 1) := by decide +kernel
theorem dX2_rowsThatSave_95 : decode cX2_rowsThatSave 95 = .ok (.iconst 1, 1) := by decide +kernel
theorem dX2_rowsThatSave_96 : decode cX2_rowsThatSave 96 = .ok (.iload 8, 2) := by decide +kernel
theorem dX2_rowsThatSave_98 : decode cX2_rowsThatSave 98 = .ok (.ishl, 1) := by decide +kernel
theorem dX2_rowsThatSave_99 : decode cX2_rowsThatSave 99 = .ok (.ior, 1) := by decide +kernel
theorem dX2_rowsThatSave_100 : decode cX2_rowsThatSave 100 = .ok (.iload 8, 2) := by decide +kernel
theorem dX2_rowsThatSave_102 : decode cX2_rowsThatSave 102 = .ok (.iload 9, 2) := by decide +kernel
theorem dX2_rowsThatSave_104 : decode cX2_rowsThatSave 104 = .ok (.iload 5, 2) := by decide +kernel
theorem dX2_rowsThatSave_106 : decode cX2_rowsThatSave 106 = .ok (.iconst 1, 1) := by decide +kernel
theorem dX2_rowsThatSave_107 : decode cX2_rowsThatSave 107 = .ok (.iadd, 1) := by decide +kernel
theorem dX2_rowsThatSave_108 : decode cX2_rowsThatSave 108 = .ok (.invokestatic 85, 3) := by decide +kernel
theorem dX2_rowsThatSave_111 : decode cX2_rowsThatSave 111 = .ok (.iadd, 1) := by decide +kernel
theorem dX2_rowsThatSave_112 : decode cX2_rowsThatSave 112 = .ok (.istore 7, 2) := by decide +kernel
theorem dX2_rowsThatSave_114 : decode cX2_rowsThatSave 114 = .ok (.iinc 8 1, 3) := by decide +kernel
theorem dX2_rowsThatSave_117 : decode cX2_rowsThatSave 117 = .ok (.goto (-63), 3) := by decide +kernel
theorem dX2_rowsThatSave_120 : decode cX2_rowsThatSave 120 = .ok (.iload 7, 2) := by decide +kernel
theorem dX2_rowsThatSave_122 : decode cX2_rowsThatSave 122 = .ok (.ireturn, 1) := by decide +kernel
theorem dX3_init_0 : decode cX3_init 0 = .ok (.aload_n 0, 1) := by decide +kernel
theorem dX3_init_1 : decode cX3_init 1 = .ok (.invokespecial 3, 3) := by decide +kernel
theorem dX3_init_4 : decode cX3_init 4 = .ok (.aload_n 0, 1) := by decide +kernel
theorem dX3_init_5 : decode cX3_init 5 = .ok (.bipush 15, 2) := by decide +kernel
theorem dX3_init_7 : decode cX3_init 7 = .ok (.newarray .int, 2) := by decide +kernel
theorem dX3_init_9 : decode cX3_init 9 = .ok (.putfield 9, 3) := by decide +kernel
theorem dX3_init_12 : decode cX3_init 12 = .ok (.aload_n 0, 1) := by decide +kernel
theorem dX3_init_13 : decode cX3_init 13 = .ok (.bipush 15, 2) := by decide +kernel
theorem dX3_init_15 : decode cX3_init 15 = .ok (.newarray .int, 2) := by decide +kernel
theorem dX3_init_17 : decode cX3_init 17 = .ok (.putfield 15, 3) := by decide +kernel
theorem dX3_init_20 : decode cX3_init 20 = .ok (.aload_n 0, 1) := by decide +kernel
theorem dX3_init_21 : decode cX3_init 21 = .ok (.sipush 256, 3) := by decide +kernel
theorem dX3_init_24 : decode cX3_init 24 = .ok (.newarray .boolean, 2) := by decide +kernel
theorem dX3_init_26 : decode cX3_init 26 = .ok (.putfield 18, 3) := by decide +kernel
theorem dX3_init_29 : decode cX3_init 29 = .ok (.aload_n 0, 1) := by decide +kernel
theorem dX3_init_30 : decode cX3_init 30 = .ok (.bipush 8, 2) := by decide +kernel
theorem dX3_init_32 : decode cX3_init 32 = .ok (.newarray .int, 2) := by decide +kernel
theorem dX3_init_34 : decode cX3_init 34 = .ok (.putfield 22, 3) := by decide +kernel
theorem dX3_init_37 : decode cX3_init 37 = .ok (.return_, 1) := by decide +kernel
set_option maxRecDepth 20000 in
theorem ggX3_grow_X1_alwaysTogether : GoodIn wsX3_grow wsX1_alwaysTogether := goodIn_r _ [11, 12, 13, 37, 38, 39, 40] (by decide +kernel) (by decide +kernel)
set_option maxRecDepth 20000 in
theorem gX3_grow_X1_alwaysTogether : GoodIn wsX3_grow (wsV RX3 35 RX1 yX1_alwaysTogether wsX1_alwaysTogether) := goodIn_app (goodIn_of _ (by decide +kernel)) ggX3_grow_X1_alwaysTogether
set_option maxRecDepth 20000 in
theorem ggX3_grow_X3_addKnots : GoodIn wsX3_grow wsX3_addKnots := goodIn_r _ [18, 4, 6, 19, 20, 21, 22, 23, 24, 25, 26, 27, 28, 17, 29, 3, 30, 31, 32, 41, 42, 43, 44, 45, 46] (by decide +kernel) (by decide +kernel)
set_option maxRecDepth 20000 in
theorem gX3_grow_X3_addKnots : GoodIn wsX3_grow (wsV RX3 42 RX3 yX3_addKnots wsX3_addKnots) := goodIn_app (goodIn_of _ (by decide +kernel)) ggX3_grow_X3_addKnots
set_option maxRecDepth 20000 in
theorem ggX3_grow_X3_leastAround : GoodIn wsX3_grow wsX3_leastAround := goodIn_r _ [36, 4, 6, 41, 42, 43, 44, 45, 46] (by decide +kernel) (by decide +kernel)
set_option maxRecDepth 20000 in
theorem gX3_grow_X3_leastAround : GoodIn wsX3_grow (wsV RX3 46 RX3 yX3_leastAround wsX3_leastAround) := goodIn_app (goodIn_of _ (by decide +kernel)) ggX3_grow_X3_leastAround
theorem dX3_grow_0 : decode cX3_grow 0 = .ok (.aload_n 0, 1) := by decide +kernel
theorem dX3_grow_1 : decode cX3_grow 1 = .ok (.aload_n 1, 1) := by decide +kernel
theorem dX3_grow_2 : decode cX3_grow 2 = .ok (.getfield 25, 3) := by decide +kernel
theorem dX3_grow_5 : decode cX3_grow 5 = .ok (.putfield 31, 3) := by decide +kernel
theorem dX3_grow_8 : decode cX3_grow 8 = .ok (.iconst 0, 1) := by decide +kernel
theorem dX3_grow_9 : decode cX3_grow 9 = .ok (.istore_n 3, 1) := by decide +kernel
theorem dX3_grow_10 : decode cX3_grow 10 = .ok (.iload_n 3, 1) := by decide +kernel
theorem dX3_grow_11 : decode cX3_grow 11 = .ok (.aload_n 0, 1) := by decide +kernel
theorem dX3_grow_12 : decode cX3_grow 12 = .ok (.getfield 31, 3) := by decide +kernel
theorem dX3_grow_15 : decode cX3_grow 15 = .ok (.if_icmp .ge 18, 3) := by decide +kernel
theorem dX3_grow_18 : decode cX3_grow 18 = .ok (.aload_n 0, 1) := by decide +kernel
theorem dX3_grow_19 : decode cX3_grow 19 = .ok (.getfield 22, 3) := by decide +kernel
theorem dX3_grow_22 : decode cX3_grow 22 = .ok (.iload_n 3, 1) := by decide +kernel
theorem dX3_grow_23 : decode cX3_grow 23 = .ok (.aload_n 2, 1) := by decide +kernel
theorem dX3_grow_24 : decode cX3_grow 24 = .ok (.iload_n 3, 1) := by decide +kernel
theorem dX3_grow_25 : decode cX3_grow 25 = .ok (.iaload, 1) := by decide +kernel
theorem dX3_grow_26 : decode cX3_grow 26 = .ok (.iastore, 1) := by decide +kernel
theorem dX3_grow_27 : decode cX3_grow 27 = .ok (.iinc 3 1, 3) := by decide +kernel
theorem dX3_grow_30 : decode cX3_grow 30 = .ok (.goto (-20), 3) := by decide +kernel
theorem dX3_grow_33 : decode cX3_grow 33 = .ok (.iconst 0, 1) := by decide +kernel
theorem dX3_grow_34 : decode cX3_grow 34 = .ok (.istore_n 3, 1) := by decide +kernel
theorem dX3_grow_35 : decode cX3_grow 35 = .ok (.iload_n 3, 1) := by decide +kernel
theorem dX3_grow_36 : decode cX3_grow 36 = .ok (.aload_n 1, 1) := by decide +kernel
theorem dX3_grow_37 : decode cX3_grow 37 = .ok (.getfield 32, 3) := by decide +kernel
theorem dX3_grow_40 : decode cX3_grow 40 = .ok (.if_icmp .gt 20, 3) := by decide +kernel
theorem dX3_grow_43 : decode cX3_grow 43 = .ok (.aload_n 0, 1) := by decide +kernel
theorem dX3_grow_44 : decode cX3_grow 44 = .ok (.getfield 18, 3) := by decide +kernel
theorem dX3_grow_47 : decode cX3_grow 47 = .ok (.iload_n 3, 1) := by decide +kernel
theorem dX3_grow_48 : decode cX3_grow 48 = .ok (.aload_n 1, 1) := by decide +kernel
theorem dX3_grow_49 : decode cX3_grow 49 = .ok (.iload_n 3, 1) := by decide +kernel
theorem dX3_grow_50 : decode cX3_grow 50 = .ok (.invokevirtual 35, 3) := by decide +kernel
theorem dX3_grow_53 : decode cX3_grow 53 = .ok (.bastore, 1) := by decide +kernel
theorem dX3_grow_54 : decode cX3_grow 54 = .ok (.iinc 3 1, 3) := by decide +kernel
theorem dX3_grow_57 : decode cX3_grow 57 = .ok (.goto (-22), 3) := by decide +kernel
theorem dX3_grow_60 : decode cX3_grow 60 = .ok (.aload_n 0, 1) := by decide +kernel
theorem dX3_grow_61 : decode cX3_grow 61 = .ok (.iconst 0, 1) := by decide +kernel
theorem dX3_grow_62 : decode cX3_grow 62 = .ok (.putfield 39, 3) := by decide +kernel
theorem dX3_grow_65 : decode cX3_grow 65 = .ok (.iconst 1, 1) := by decide +kernel
theorem dX3_grow_66 : decode cX3_grow 66 = .ok (.istore_n 3, 1) := by decide +kernel
theorem dX3_grow_67 : decode cX3_grow 67 = .ok (.iload_n 3, 1) := by decide +kernel
theorem dX3_grow_68 : decode cX3_grow 68 = .ok (.aload_n 0, 1) := by decide +kernel
theorem dX3_grow_69 : decode cX3_grow 69 = .ok (.getfield 31, 3) := by decide +kernel
theorem dX3_grow_72 : decode cX3_grow 72 = .ok (.if_icmp .gt 18, 3) := by decide +kernel
theorem dX3_grow_75 : decode cX3_grow 75 = .ok (.aload_n 0, 1) := by decide +kernel
theorem dX3_grow_76 : decode cX3_grow 76 = .ok (.iload_n 3, 1) := by decide +kernel
theorem dX3_grow_77 : decode cX3_grow 77 = .ok (.aload_n 1, 1) := by decide +kernel
theorem dX3_grow_78 : decode cX3_grow 78 = .ok (.getfield 32, 3) := by decide +kernel
theorem dX3_grow_81 : decode cX3_grow 81 = .ok (.invokevirtual 42, 3) := by decide +kernel
theorem dX3_grow_84 : decode cX3_grow 84 = .ok (.iinc 3 1, 3) := by decide +kernel
theorem dX3_grow_87 : decode cX3_grow 87 = .ok (.goto (-20), 3) := by decide +kernel
theorem dX3_grow_90 : decode cX3_grow 90 = .ok (.iconst 0, 1) := by decide +kernel
theorem dX3_grow_91 : decode cX3_grow 91 = .ok (.istore_n 3, 1) := by decide +kernel
theorem dX3_grow_92 : decode cX3_grow 92 = .ok (.iload_n 3, 1) := by decide +kernel
theorem dX3_grow_93 : decode cX3_grow 93 = .ok (.aload_n 0, 1) := by decide +kernel
theorem dX3_grow_94 : decode cX3_grow 94 = .ok (.getfield 39, 3) := by decide +kernel
theorem dX3_grow_97 : decode cX3_grow 97 = .ok (.if_icmp .ge 28, 3) := by decide +kernel
theorem dX3_grow_100 : decode cX3_grow 100 = .ok (.aload_n 0, 1) := by decide +kernel
theorem dX3_grow_101 : decode cX3_grow 101 = .ok (.getfield 15, 3) := by decide +kernel
theorem dX3_grow_104 : decode cX3_grow 104 = .ok (.iload_n 3, 1) := by decide +kernel
theorem dX3_grow_105 : decode cX3_grow 105 = .ok (.aload_n 0, 1) := by decide +kernel
theorem dX3_grow_106 : decode cX3_grow 106 = .ok (.aload_n 0, 1) := by decide +kernel
theorem dX3_grow_107 : decode cX3_grow 107 = .ok (.getfield 9, 3) := by decide +kernel
theorem dX3_grow_110 : decode cX3_grow 110 = .ok (.iload_n 3, 1) := by decide +kernel
theorem dX3_grow_111 : decode cX3_grow 111 = .ok (.iaload, 1) := by decide +kernel
theorem dX3_grow_112 : decode cX3_grow 112 = .ok (.iload_n 3, 1) := by decide +kernel
theorem dX3_grow_113 : decode cX3_grow 113 = .ok (.iconst 1, 1) := by decide +kernel
theorem dX3_grow_114 : decode cX3_grow 114 = .ok (.iadd, 1) := by decide +kernel
theorem dX3_grow_115 : decode cX3_grow 115 = .ok (.invokevirtual 46, 3) := by decide +kernel
theorem dX3_grow_118 : decode cX3_grow 118 = .ok (.iastore, 1) := by decide +kernel
theorem dX3_grow_119 : decode cX3_grow 119 = .ok (.iinc 3 1, 3) := by decide +kernel
theorem dX3_grow_122 : decode cX3_grow 122 = .ok (.goto (-30), 3) := by decide +kernel
theorem dX3_grow_125 : decode cX3_grow 125 = .ok (.return_, 1) := by decide +kernel
set_option maxRecDepth 20000 in
theorem ggX3_addKnots_J6_bitCount_0f7a4 : GoodIn wsX3_addKnots wsJ6_bitCount_0f7a4 := goodIn_r _ [6, 7, 8, 9] (by decide +kernel) (by decide +kernel)
set_option maxRecDepth 20000 in
theorem gX3_addKnots_J6_bitCount_0f7a4 : GoodIn wsX3_addKnots (va_wsS RX3 50 yJ6_bitCount_0f7a4 wsJ6_bitCount_0f7a4) := goodIn_app (goodIn_of _ (by decide +kernel)) ggX3_addKnots_J6_bitCount_0f7a4
set_option maxRecDepth 20000 in
theorem ggX3_addKnots_X3_isKnot : GoodIn wsX3_addKnots wsX3_isKnot := goodIn_r _ [14, 15, 16, 17, 13, 18, 19, 20, 21, 22, 23, 24] (by decide +kernel) (by decide +kernel)
set_option maxRecDepth 20000 in
theorem gX3_addKnots_X3_isKnot : GoodIn wsX3_addKnots (wsV RX3 56 RX3 yX3_isKnot wsX3_isKnot) := goodIn_app (goodIn_of _ (by decide +kernel)) ggX3_addKnots_X3_isKnot
theorem dX3_addKnots_0 : decode cX3_addKnots 0 = .ok (.iconst 1, 1) := by decide +kernel
theorem dX3_addKnots_1 : decode cX3_addKnots 1 = .ok (.istore_n 3, 1) := by decide +kernel
theorem dX3_addKnots_2 : decode cX3_addKnots 2 = .ok (.iload_n 3, 1) := by decide +kernel
theorem dX3_addKnots_3 : decode cX3_addKnots 3 = .ok (.iload_n 2, 1) := by decide +kernel
theorem dX3_addKnots_4 : decode cX3_addKnots 4 = .ok (.if_icmp .gt 55, 3) := by decide +kernel
theorem dX3_addKnots_7 : decode cX3_addKnots 7 = .ok (.iload_n 3, 1) := by decide +kernel
theorem dX3_addKnots_8 : decode cX3_addKnots 8 = .ok (.invokestatic 50, 3) := by decide +kernel
theorem dX3_addKnots_11 : decode cX3_addKnots 11 = .ok (.iload_n 1, 1) := by decide +kernel
theorem dX3_addKnots_12 : decode cX3_addKnots 12 = .ok (.if_icmp .ne 41, 3) := by decide +kernel
theorem dX3_addKnots_15 : decode cX3_addKnots 15 = .ok (.aload_n 0, 1) := by decide +kernel
theorem dX3_addKnots_16 : decode cX3_addKnots 16 = .ok (.iload_n 3, 1) := by decide +kernel
theorem dX3_addKnots_17 : decode cX3_addKnots 17 = .ok (.iload_n 2, 1) := by decide +kernel
theorem dX3_addKnots_18 : decode cX3_addKnots 18 = .ok (.invokevirtual 56, 3) := by decide +kernel
theorem dX3_addKnots_21 : decode cX3_addKnots 21 = .ok (.ifCond .eq 32, 3) := by decide +kernel
theorem dX3_addKnots_24 : decode cX3_addKnots 24 = .ok (.aload_n 0, 1) := by decide +kernel
theorem dX3_addKnots_25 : decode cX3_addKnots 25 = .ok (.getfield 39, 3) := by decide +kernel
theorem dX3_addKnots_28 : decode cX3_addKnots 28 = .ok (.bipush 15, 2) := by decide +kernel
theorem dX3_addKnots_30 : decode cX3_addKnots 30 = .ok (.if_icmp .ge 23, 3) := by decide +kernel
theorem dX3_addKnots_33 : decode cX3_addKnots 33 = .ok (.aload_n 0, 1) := by decide +kernel
theorem dX3_addKnots_34 : decode cX3_addKnots 34 = .ok (.getfield 9, 3) := by decide +kernel
theorem dX3_addKnots_37 : decode cX3_addKnots 37 = .ok (.aload_n 0, 1) := by decide +kernel
theorem dX3_addKnots_38 : decode cX3_addKnots 38 = .ok (.getfield 39, 3) := by decide +kernel
theorem dX3_addKnots_41 : decode cX3_addKnots 41 = .ok (.iload_n 3, 1) := by decide +kernel
theorem dX3_addKnots_42 : decode cX3_addKnots 42 = .ok (.iastore, 1) := by decide +kernel
theorem dX3_addKnots_43 : decode cX3_addKnots 43 = .ok (.aload_n 0, 1) := by decide +kernel
theorem dX3_addKnots_44 : decode cX3_addKnots 44 = .ok (.dup, 1) := by decide +kernel
theorem dX3_addKnots_45 : decode cX3_addKnots 45 = .ok (.getfield 39, 3) := by decide +kernel
theorem dX3_addKnots_48 : decode cX3_addKnots 48 = .ok (.iconst 1, 1) := by decide +kernel
theorem dX3_addKnots_49 : decode cX3_addKnots 49 = .ok (.iadd, 1) := by decide +kernel
theorem dX3_addKnots_50 : decode cX3_addKnots 50 = .ok (.putfield 39, 3) := by decide +kernel
theorem dX3_addKnots_53 : decode cX3_addKnots 53 = .ok (.iinc 3 1, 3) := by decide +kernel
theorem dX3_addKnots_56 : decode cX3_addKnots 56 = .ok (.goto (-54), 3) := by decide +kernel
theorem dX3_addKnots_59 : decode cX3_addKnots 59 = .ok (.return_, 1) := by decide +kernel
set_option maxRecDepth 20000 in
theorem ggX3_isKnot_X3_crosses : GoodIn wsX3_isKnot wsX3_crosses := goodIn_r _ [5] (by decide +kernel) (by decide +kernel)
set_option maxRecDepth 20000 in
theorem gX3_isKnot_X3_crosses : GoodIn wsX3_isKnot (va_wsS RX3 60 yX3_crosses wsX3_crosses) := goodIn_app (goodIn_of _ (by decide +kernel)) ggX3_isKnot_X3_crosses
theorem dX3_isKnot_0 : decode cX3_isKnot 0 = .ok (.aload_n 0, 1) := by decide +kernel
theorem dX3_isKnot_1 : decode cX3_isKnot 1 = .ok (.getfield 18, 3) := by decide +kernel
theorem dX3_isKnot_4 : decode cX3_isKnot 4 = .ok (.iload_n 1, 1) := by decide +kernel
theorem dX3_isKnot_5 : decode cX3_isKnot 5 = .ok (.baload, 1) := by decide +kernel
theorem dX3_isKnot_6 : decode cX3_isKnot 6 = .ok (.ifCond .ne 5, 3) := by decide +kernel
theorem dX3_isKnot_9 : decode cX3_isKnot 9 = .ok (.iconst 0, 1) := by decide +kernel
theorem dX3_isKnot_10 : decode cX3_isKnot 10 = .ok (.ireturn, 1) := by decide +kernel
theorem dX3_isKnot_11 : decode cX3_isKnot 11 = .ok (.iconst 1, 1) := by decide +kernel
theorem dX3_isKnot_12 : decode cX3_isKnot 12 = .ok (.istore_n 3, 1) := by decide +kernel
theorem dX3_isKnot_13 : decode cX3_isKnot 13 = .ok (.iload_n 3, 1) := by decide +kernel
theorem dX3_isKnot_14 : decode cX3_isKnot 14 = .ok (.iload_n 2, 1) := by decide +kernel
theorem dX3_isKnot_15 : decode cX3_isKnot 15 = .ok (.if_icmp .gt 28, 3) := by decide +kernel
theorem dX3_isKnot_18 : decode cX3_isKnot 18 = .ok (.aload_n 0, 1) := by decide +kernel
theorem dX3_isKnot_19 : decode cX3_isKnot 19 = .ok (.getfield 18, 3) := by decide +kernel
theorem dX3_isKnot_22 : decode cX3_isKnot 22 = .ok (.iload_n 3, 1) := by decide +kernel
theorem dX3_isKnot_23 : decode cX3_isKnot 23 = .ok (.baload, 1) := by decide +kernel
theorem dX3_isKnot_24 : decode cX3_isKnot 24 = .ok (.ifCond .eq 13, 3) := by decide +kernel
theorem dX3_isKnot_27 : decode cX3_isKnot 27 = .ok (.iload_n 1, 1) := by decide +kernel
theorem dX3_isKnot_28 : decode cX3_isKnot 28 = .ok (.iload_n 3, 1) := by decide +kernel
theorem dX3_isKnot_29 : decode cX3_isKnot 29 = .ok (.invokestatic 60, 3) := by decide +kernel
theorem dX3_isKnot_32 : decode cX3_isKnot 32 = .ok (.ifCond .eq 5, 3) := by decide +kernel
theorem dX3_isKnot_35 : decode cX3_isKnot 35 = .ok (.iconst 0, 1) := by decide +kernel
theorem dX3_isKnot_36 : decode cX3_isKnot 36 = .ok (.ireturn, 1) := by decide +kernel
theorem dX3_isKnot_37 : decode cX3_isKnot 37 = .ok (.iinc 3 1, 3) := by decide +kernel
theorem dX3_isKnot_40 : decode cX3_isKnot 40 = .ok (.goto (-27), 3) := by decide +kernel
theorem dX3_isKnot_43 : decode cX3_isKnot 43 = .ok (.iconst 1, 1) := by decide +kernel
theorem dX3_isKnot_44 : decode cX3_isKnot 44 = .ok (.ireturn, 1) := by decide +kernel
theorem dX3_crosses_0 : decode cX3_crosses 0 = .ok (.iload_n 0, 1) := by decide +kernel
theorem dX3_crosses_1 : decode cX3_crosses 1 = .ok (.iload_n 1, 1) := by decide +kernel
theorem dX3_crosses_2 : decode cX3_crosses 2 = .ok (.iand, 1) := by decide +kernel
theorem dX3_crosses_3 : decode cX3_crosses 3 = .ok (.ifCond .eq 23, 3) := by decide +kernel
theorem dX3_crosses_6 : decode cX3_crosses 6 = .ok (.iload_n 0, 1) := by decide +kernel
theorem dX3_crosses_7 : decode cX3_crosses 7 = .ok (.iload_n 1, 1) := by decide +kernel
theorem dX3_crosses_8 : decode cX3_crosses 8 = .ok (.iconst (-1), 1) := by decide +kernel
theorem dX3_crosses_9 : decode cX3_crosses 9 = .ok (.ixor, 1) := by decide +kernel
theorem dX3_crosses_10 : decode cX3_crosses 10 = .ok (.iand, 1) := by decide +kernel
theorem dX3_crosses_11 : decode cX3_crosses 11 = .ok (.ifCond .eq 15, 3) := by decide +kernel
theorem dX3_crosses_14 : decode cX3_crosses 14 = .ok (.iload_n 1, 1) := by decide +kernel
theorem dX3_crosses_15 : decode cX3_crosses 15 = .ok (.iload_n 0, 1) := by decide +kernel
theorem dX3_crosses_16 : decode cX3_crosses 16 = .ok (.iconst (-1), 1) := by decide +kernel
theorem dX3_crosses_17 : decode cX3_crosses 17 = .ok (.ixor, 1) := by decide +kernel
theorem dX3_crosses_18 : decode cX3_crosses 18 = .ok (.iand, 1) := by decide +kernel
theorem dX3_crosses_19 : decode cX3_crosses 19 = .ok (.ifCond .eq 7, 3) := by decide +kernel
theorem dX3_crosses_22 : decode cX3_crosses 22 = .ok (.iconst 1, 1) := by decide +kernel
theorem dX3_crosses_23 : decode cX3_crosses 23 = .ok (.goto 4, 3) := by decide +kernel
theorem dX3_crosses_26 : decode cX3_crosses 26 = .ok (.iconst 0, 1) := by decide +kernel
theorem dX3_crosses_27 : decode cX3_crosses 27 = .ok (.ireturn, 1) := by decide +kernel
theorem dX3_leastAround_0 : decode cX3_leastAround 0 = .ok (.iload_n 2, 1) := by decide +kernel
theorem dX3_leastAround_1 : decode cX3_leastAround 1 = .ok (.istore_n 3, 1) := by decide +kernel
theorem dX3_leastAround_2 : decode cX3_leastAround 2 = .ok (.iload_n 3, 1) := by decide +kernel
theorem dX3_leastAround_3 : decode cX3_leastAround 3 = .ok (.aload_n 0, 1) := by decide +kernel
theorem dX3_leastAround_4 : decode cX3_leastAround 4 = .ok (.getfield 39, 3) := by decide +kernel
theorem dX3_leastAround_7 : decode cX3_leastAround 7 = .ok (.if_icmp .ge 24, 3) := by decide +kernel
theorem dX3_leastAround_10 : decode cX3_leastAround 10 = .ok (.iload_n 1, 1) := by decide +kernel
theorem dX3_leastAround_11 : decode cX3_leastAround 11 = .ok (.aload_n 0, 1) := by decide +kernel
theorem dX3_leastAround_12 : decode cX3_leastAround 12 = .ok (.getfield 9, 3) := by decide +kernel
theorem dX3_leastAround_15 : decode cX3_leastAround 15 = .ok (.iload_n 3, 1) := by decide +kernel
theorem dX3_leastAround_16 : decode cX3_leastAround 16 = .ok (.iaload, 1) := by decide +kernel
theorem dX3_leastAround_17 : decode cX3_leastAround 17 = .ok (.iconst (-1), 1) := by decide +kernel
theorem dX3_leastAround_18 : decode cX3_leastAround 18 = .ok (.ixor, 1) := by decide +kernel
theorem dX3_leastAround_19 : decode cX3_leastAround 19 = .ok (.iand, 1) := by decide +kernel
theorem dX3_leastAround_20 : decode cX3_leastAround 20 = .ok (.ifCond .ne 5, 3) := by decide +kernel
theorem dX3_leastAround_23 : decode cX3_leastAround 23 = .ok (.iload_n 3, 1) := by decide +kernel
theorem dX3_leastAround_24 : decode cX3_leastAround 24 = .ok (.ireturn, 1) := by decide +kernel
theorem dX3_leastAround_25 : decode cX3_leastAround 25 = .ok (.iinc 3 1, 3) := by decide +kernel
theorem dX3_leastAround_28 : decode cX3_leastAround 28 = .ok (.goto (-26), 3) := by decide +kernel
theorem dX3_leastAround_31 : decode cX3_leastAround 31 = .ok (.bipush (-9), 2) := by decide +kernel
theorem dX3_leastAround_33 : decode cX3_leastAround 33 = .ok (.ireturn, 1) := by decide +kernel
theorem dX3_partsOf_0 : decode cX3_partsOf 0 = .ok (.iconst 0, 1) := by decide +kernel
theorem dX3_partsOf_1 : decode cX3_partsOf 1 = .ok (.istore_n 2, 1) := by decide +kernel
theorem dX3_partsOf_2 : decode cX3_partsOf 2 = .ok (.iconst 0, 1) := by decide +kernel
theorem dX3_partsOf_3 : decode cX3_partsOf 3 = .ok (.istore_n 3, 1) := by decide +kernel
theorem dX3_partsOf_4 : decode cX3_partsOf 4 = .ok (.iload_n 3, 1) := by decide +kernel
theorem dX3_partsOf_5 : decode cX3_partsOf 5 = .ok (.iload_n 1, 1) := by decide +kernel
theorem dX3_partsOf_6 : decode cX3_partsOf 6 = .ok (.if_icmp .ge 22, 3) := by decide +kernel
theorem dX3_partsOf_9 : decode cX3_partsOf 9 = .ok (.aload_n 0, 1) := by decide +kernel
theorem dX3_partsOf_10 : decode cX3_partsOf 10 = .ok (.getfield 15, 3) := by decide +kernel
theorem dX3_partsOf_13 : decode cX3_partsOf 13 = .ok (.iload_n 3, 1) := by decide +kernel
theorem dX3_partsOf_14 : decode cX3_partsOf 14 = .ok (.iaload, 1) := by decide +kernel
theorem dX3_partsOf_15 : decode cX3_partsOf 15 = .ok (.iload_n 1, 1) := by decide +kernel
theorem dX3_partsOf_16 : decode cX3_partsOf 16 = .ok (.if_icmp .ne 6, 3) := by decide +kernel
theorem dX3_partsOf_19 : decode cX3_partsOf 19 = .ok (.iinc 2 1, 3) := by decide +kernel
theorem dX3_partsOf_22 : decode cX3_partsOf 22 = .ok (.iinc 3 1, 3) := by decide +kernel
theorem dX3_partsOf_25 : decode cX3_partsOf 25 = .ok (.goto (-21), 3) := by decide +kernel
theorem dX3_partsOf_28 : decode cX3_partsOf 28 = .ok (.iload_n 2, 1) := by decide +kernel
theorem dX3_partsOf_29 : decode cX3_partsOf 29 = .ok (.ireturn, 1) := by decide +kernel
set_option maxRecDepth 20000 in
theorem ggX3_part_X3_partWith : GoodIn wsX3_part wsX3_partWith := goodIn_r _ [8, 9, 3, 10, 11, 12, 13, 14, 15] (by decide +kernel) (by decide +kernel)
set_option maxRecDepth 20000 in
theorem gX3_part_X3_partWith : GoodIn wsX3_part (wsV RX3 63 RX3 yX3_partWith wsX3_partWith) := goodIn_app (goodIn_of _ (by decide +kernel)) ggX3_part_X3_partWith
theorem dX3_part_0 : decode cX3_part 0 = .ok (.iconst 0, 1) := by decide +kernel
theorem dX3_part_1 : decode cX3_part 1 = .ok (.istore_n 3, 1) := by decide +kernel
theorem dX3_part_2 : decode cX3_part 2 = .ok (.iconst 0, 1) := by decide +kernel
theorem dX3_part_3 : decode cX3_part 3 = .ok (.istore 4, 2) := by decide +kernel
theorem dX3_part_5 : decode cX3_part 5 = .ok (.iconst 0, 1) := by decide +kernel
theorem dX3_part_6 : decode cX3_part 6 = .ok (.istore 5, 2) := by decide +kernel
theorem dX3_part_8 : decode cX3_part 8 = .ok (.iload 5, 2) := by decide +kernel
theorem dX3_part_10 : decode cX3_part 10 = .ok (.aload_n 0, 1) := by decide +kernel
theorem dX3_part_11 : decode cX3_part 11 = .ok (.getfield 31, 3) := by decide +kernel
theorem dX3_part_14 : decode cX3_part 14 = .ok (.if_icmp .ge 62, 3) := by decide +kernel
theorem dX3_part_17 : decode cX3_part 17 = .ok (.iconst 1, 1) := by decide +kernel
theorem dX3_part_18 : decode cX3_part 18 = .ok (.aload_n 0, 1) := by decide +kernel
theorem dX3_part_19 : decode cX3_part 19 = .ok (.getfield 22, 3) := by decide +kernel
theorem dX3_part_22 : decode cX3_part 22 = .ok (.iload 5, 2) := by decide +kernel
theorem dX3_part_24 : decode cX3_part 24 = .ok (.iaload, 1) := by decide +kernel
theorem dX3_part_25 : decode cX3_part 25 = .ok (.ishl, 1) := by decide +kernel
theorem dX3_part_26 : decode cX3_part 26 = .ok (.istore 6, 2) := by decide +kernel
theorem dX3_part_28 : decode cX3_part 28 = .ok (.aload_n 0, 1) := by decide +kernel
theorem dX3_part_29 : decode cX3_part 29 = .ok (.iload_n 1, 1) := by decide +kernel
theorem dX3_part_30 : decode cX3_part 30 = .ok (.iload 6, 2) := by decide +kernel
theorem dX3_part_32 : decode cX3_part 32 = .ok (.iload_n 3, 1) := by decide +kernel
theorem dX3_part_33 : decode cX3_part 33 = .ok (.iconst (-1), 1) := by decide +kernel
theorem dX3_part_34 : decode cX3_part 34 = .ok (.ixor, 1) := by decide +kernel
theorem dX3_part_35 : decode cX3_part 35 = .ok (.iand, 1) := by decide +kernel
theorem dX3_part_36 : decode cX3_part 36 = .ok (.invokevirtual 63, 3) := by decide +kernel
theorem dX3_part_39 : decode cX3_part 39 = .ok (.istore 7, 2) := by decide +kernel
theorem dX3_part_41 : decode cX3_part 41 = .ok (.iload 7, 2) := by decide +kernel
theorem dX3_part_43 : decode cX3_part 43 = .ok (.bipush (-9), 2) := by decide +kernel
theorem dX3_part_45 : decode cX3_part 45 = .ok (.if_icmp .eq 25, 3) := by decide +kernel
theorem dX3_part_48 : decode cX3_part 48 = .ok (.iload 4, 2) := by decide +kernel
theorem dX3_part_50 : decode cX3_part 50 = .ok (.iload_n 2, 1) := by decide +kernel
theorem dX3_part_51 : decode cX3_part 51 = .ok (.if_icmp .ne 6, 3) := by decide +kernel
theorem dX3_part_54 : decode cX3_part 54 = .ok (.iload 7, 2) := by decide +kernel
theorem dX3_part_56 : decode cX3_part 56 = .ok (.ireturn, 1) := by decide +kernel
theorem dX3_part_57 : decode cX3_part 57 = .ok (.iinc 4 1, 3) := by decide +kernel
theorem dX3_part_60 : decode cX3_part 60 = .ok (.iload_n 3, 1) := by decide +kernel
theorem dX3_part_61 : decode cX3_part 61 = .ok (.aload_n 0, 1) := by decide +kernel
theorem dX3_part_62 : decode cX3_part 62 = .ok (.getfield 9, 3) := by decide +kernel
theorem dX3_part_65 : decode cX3_part 65 = .ok (.iload 7, 2) := by decide +kernel
theorem dX3_part_67 : decode cX3_part 67 = .ok (.iaload, 1) := by decide +kernel
theorem dX3_part_68 : decode cX3_part 68 = .ok (.ior, 1) := by decide +kernel
