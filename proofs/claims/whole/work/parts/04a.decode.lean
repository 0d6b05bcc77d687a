theorem dX0_init_0 : decode cX0_init 0 = .ok (.aload_n 0, 1) := by decide +kernel
theorem dX0_init_1 : decode cX0_init 1 = .ok (.invokespecial 3, 3) := by decide +kernel
theorem dX0_init_4 : decode cX0_init 4 = .ok (.return_, 1) := by decide +kernel
theorem dX0_habit_0 : decode cX0_habit 0 = .ok (.iconst 3, 1) := by decide +kernel
theorem dX0_habit_1 : decode cX0_habit 1 = .ok (.ireturn, 1) := by decide +kernel
theorem dX0_comparesAll_0 : decode cX0_comparesAll 0 = .ok (.iconst 0, 1) := by decide +kernel
theorem dX0_comparesAll_1 : decode cX0_comparesAll 1 = .ok (.ireturn, 1) := by decide +kernel
theorem dX1_init_0 : decode cX1_init 0 = .ok (.aload_n 0, 1) := by decide +kernel
theorem dX1_init_1 : decode cX1_init 1 = .ok (.invokespecial 3, 3) := by decide +kernel
theorem dX1_init_4 : decode cX1_init 4 = .ok (.return_, 1) := by decide +kernel
theorem dX1_waitsFor_0 : decode cX1_waitsFor 0 = .ok (.iconst (-1), 1) := by decide +kernel
theorem dX1_waitsFor_1 : decode cX1_waitsFor 1 = .ok (.ireturn, 1) := by decide +kernel
theorem dX3_init_0 : decode cX3_init 0 = .ok (.aload_n 0, 1) := by decide +kernel
theorem dX3_init_1 : decode cX3_init 1 = .ok (.invokespecial 3, 3) := by decide +kernel
theorem dX3_init_4 : decode cX3_init 4 = .ok (.return_, 1) := by decide +kernel
theorem dX3_habit_0 : decode cX3_habit 0 = .ok (.iconst 1, 1) := by decide +kernel
theorem dX3_habit_1 : decode cX3_habit 1 = .ok (.ireturn, 1) := by decide +kernel
theorem dX3_comparesAll_0 : decode cX3_comparesAll 0 = .ok (.iconst 1, 1) := by decide +kernel
theorem dX3_comparesAll_1 : decode cX3_comparesAll 1 = .ok (.ireturn, 1) := by decide +kernel
theorem dX4_init_0 : decode cX4_init 0 = .ok (.aload_n 0, 1) := by decide +kernel
theorem dX4_init_1 : decode cX4_init 1 = .ok (.invokespecial 3, 3) := by decide +kernel
theorem dX4_init_4 : decode cX4_init 4 = .ok (.aload_n 0, 1) := by decide +kernel
theorem dX4_init_5 : decode cX4_init 5 = .ok (.bipush 30, 2) := by decide +kernel
theorem dX4_init_7 : decode cX4_init 7 = .ok (.newarray .int, 2) := by decide +kernel
theorem dX4_init_9 : decode cX4_init 9 = .ok (.putfield 9, 3) := by decide +kernel
theorem dX4_init_12 : decode cX4_init 12 = .ok (.return_, 1) := by decide +kernel
theorem dX4_of_0 : decode cX4_of 0 = .ok (.iload_n 1, 1) := by decide +kernel
theorem dX4_of_1 : decode cX4_of 1 = .ok (.ifCond .lt 22, 3) := by decide +kernel
theorem dX4_of_4 : decode cX4_of 4 = .ok (.iload_n 1, 1) := by decide +kernel
theorem dX4_of_5 : decode cX4_of 5 = .ok (.iconst 5, 1) := by decide +kernel
theorem dX4_of_6 : decode cX4_of 6 = .ok (.if_icmp .ge 17, 3) := by decide +kernel
theorem dX4_of_9 : decode cX4_of 9 = .ok (.iload_n 2, 1) := by decide +kernel
theorem dX4_of_10 : decode cX4_of 10 = .ok (.ifCond .lt 13, 3) := by decide +kernel
theorem dX4_of_13 : decode cX4_of 13 = .ok (.iload_n 2, 1) := by decide +kernel
theorem dX4_of_14 : decode cX4_of 14 = .ok (.bipush 6, 2) := by decide +kernel
theorem dX4_of_16 : decode cX4_of 16 = .ok (.if_icmp .ge 7, 3) := by decide +kernel
theorem dX4_of_19 : decode cX4_of 19 = .ok (.iconst 1, 1) := by decide +kernel
theorem dX4_of_20 : decode cX4_of 20 = .ok (.goto 4, 3) := by decide +kernel
theorem dX4_of_23 : decode cX4_of 23 = .ok (.iconst 0, 1) := by decide +kernel
theorem dX4_of_24 : decode cX4_of 24 = .ok (.istore_n 3, 1) := by decide +kernel
theorem dX4_of_25 : decode cX4_of 25 = .ok (.iload_n 3, 1) := by decide +kernel
theorem dX4_of_26 : decode cX4_of 26 = .ok (.ifCond .eq 17, 3) := by decide +kernel
theorem dX4_of_29 : decode cX4_of 29 = .ok (.aload_n 0, 1) := by decide +kernel
theorem dX4_of_30 : decode cX4_of 30 = .ok (.getfield 9, 3) := by decide +kernel
theorem dX4_of_33 : decode cX4_of 33 = .ok (.iload_n 1, 1) := by decide +kernel
theorem dX4_of_34 : decode cX4_of 34 = .ok (.bipush 6, 2) := by decide +kernel
theorem dX4_of_36 : decode cX4_of 36 = .ok (.imul, 1) := by decide +kernel
theorem dX4_of_37 : decode cX4_of 37 = .ok (.iload_n 2, 1) := by decide +kernel
theorem dX4_of_38 : decode cX4_of 38 = .ok (.iadd, 1) := by decide +kernel
theorem dX4_of_39 : decode cX4_of 39 = .ok (.iaload, 1) := by decide +kernel
theorem dX4_of_40 : decode cX4_of 40 = .ok (.goto 4, 3) := by decide +kernel
theorem dX4_of_43 : decode cX4_of 43 = .ok (.iconst 0, 1) := by decide +kernel
theorem dX4_of_44 : decode cX4_of 44 = .ok (.ireturn, 1) := by decide +kernel
theorem dX4_add_0 : decode cX4_add 0 = .ok (.iload_n 1, 1) := by decide +kernel
theorem dX4_add_1 : decode cX4_add 1 = .ok (.ifCond .lt 33, 3) := by decide +kernel
theorem dX4_add_4 : decode cX4_add 4 = .ok (.iload_n 1, 1) := by decide +kernel
theorem dX4_add_5 : decode cX4_add 5 = .ok (.iconst 5, 1) := by decide +kernel
theorem dX4_add_6 : decode cX4_add 6 = .ok (.if_icmp .ge 28, 3) := by decide +kernel
theorem dX4_add_9 : decode cX4_add 9 = .ok (.iload_n 2, 1) := by decide +kernel
theorem dX4_add_10 : decode cX4_add 10 = .ok (.ifCond .lt 24, 3) := by decide +kernel
theorem dX4_add_13 : decode cX4_add 13 = .ok (.iload_n 2, 1) := by decide +kernel
theorem dX4_add_14 : decode cX4_add 14 = .ok (.bipush 6, 2) := by decide +kernel
theorem dX4_add_16 : decode cX4_add 16 = .ok (.if_icmp .ge 18, 3) := by decide +kernel
theorem dX4_add_19 : decode cX4_add 19 = .ok (.aload_n 0, 1) := by decide +kernel
theorem dX4_add_20 : decode cX4_add 20 = .ok (.getfield 9, 3) := by decide +kernel
theorem dX4_add_23 : decode cX4_add 23 = .ok (.iload_n 1, 1) := by decide +kernel
theorem dX4_add_24 : decode cX4_add 24 = .ok (.bipush 6, 2) := by decide +kernel
theorem dX4_add_26 : decode cX4_add 26 = .ok (.imul, 1) := by decide +kernel
theorem dX4_add_27 : decode cX4_add 27 = .ok (.iload_n 2, 1) := by decide +kernel
theorem dX4_add_28 : decode cX4_add 28 = .ok (.iadd, 1) := by decide +kernel
theorem dX4_add_29 : decode cX4_add 29 = .ok (.dup2, 1) := by decide +kernel
theorem dX4_add_30 : decode cX4_add 30 = .ok (.iaload, 1) := by decide +kernel
theorem dX4_add_31 : decode cX4_add 31 = .ok (.iload_n 3, 1) := by decide +kernel
theorem dX4_add_32 : decode cX4_add 32 = .ok (.iadd, 1) := by decide +kernel
theorem dX4_add_33 : decode cX4_add 33 = .ok (.iastore, 1) := by decide +kernel
theorem dX4_add_34 : decode cX4_add 34 = .ok (.return_, 1) := by decide +kernel
theorem dX4_empty_0 : decode cX4_empty 0 = .ok (.iconst 0, 1) := by decide +kernel
theorem dX4_empty_1 : decode cX4_empty 1 = .ok (.istore_n 1, 1) := by decide +kernel
theorem dX4_empty_2 : decode cX4_empty 2 = .ok (.iload_n 1, 1) := by decide +kernel
theorem dX4_empty_3 : decode cX4_empty 3 = .ok (.aload_n 0, 1) := by decide +kernel
theorem dX4_empty_4 : decode cX4_empty 4 = .ok (.getfield 9, 3) := by decide +kernel
theorem dX4_empty_7 : decode cX4_empty 7 = .ok (.arraylength, 1) := by decide +kernel
theorem dX4_empty_8 : decode cX4_empty 8 = .ok (.if_icmp .ge 16, 3) := by decide +kernel
theorem dX4_empty_11 : decode cX4_empty 11 = .ok (.aload_n 0, 1) := by decide +kernel
theorem dX4_empty_12 : decode cX4_empty 12 = .ok (.getfield 9, 3) := by decide +kernel
theorem dX4_empty_15 : decode cX4_empty 15 = .ok (.iload_n 1, 1) := by decide +kernel
theorem dX4_empty_16 : decode cX4_empty 16 = .ok (.iconst 0, 1) := by decide +kernel
theorem dX4_empty_17 : decode cX4_empty 17 = .ok (.iastore, 1) := by decide +kernel
theorem dX4_empty_18 : decode cX4_empty 18 = .ok (.iinc 1 1, 3) := by decide +kernel
theorem dX4_empty_21 : decode cX4_empty 21 = .ok (.goto (-19), 3) := by decide +kernel
theorem dX4_empty_24 : decode cX4_empty 24 = .ok (.return_, 1) := by decide +kernel
theorem dX4_copyFrom_0 : decode cX4_copyFrom 0 = .ok (.aload_n 1, 1) := by decide +kernel
theorem dX4_copyFrom_1 : decode cX4_copyFrom 1 = .ok (.getfield 9, 3) := by decide +kernel
theorem dX4_copyFrom_4 : decode cX4_copyFrom 4 = .ok (.iconst 0, 1) := by decide +kernel
theorem dX4_copyFrom_5 : decode cX4_copyFrom 5 = .ok (.aload_n 0, 1) := by decide +kernel
theorem dX4_copyFrom_6 : decode cX4_copyFrom 6 = .ok (.getfield 9, 3) := by decide +kernel
theorem dX4_copyFrom_9 : decode cX4_copyFrom 9 = .ok (.iconst 0, 1) := by decide +kernel
theorem dX4_copyFrom_10 : decode cX4_copyFrom 10 = .ok (.aload_n 0, 1) := by decide +kernel
theorem dX4_copyFrom_11 : decode cX4_copyFrom 11 = .ok (.getfield 9, 3) := by decide +kernel
theorem dX4_copyFrom_14 : decode cX4_copyFrom 14 = .ok (.arraylength, 1) := by decide +kernel
theorem dX4_copyFrom_15 : decode cX4_copyFrom 15 = .ok (.invokestatic 15, 3) := by decide +kernel
theorem dX4_copyFrom_18 : decode cX4_copyFrom 18 = .ok (.aload_n 0, 1) := by decide +kernel
theorem dX4_copyFrom_19 : decode cX4_copyFrom 19 = .ok (.aload_n 1, 1) := by decide +kernel
theorem dX4_copyFrom_20 : decode cX4_copyFrom 20 = .ok (.getfield 21, 3) := by decide +kernel
theorem dX4_copyFrom_23 : decode cX4_copyFrom 23 = .ok (.putfield 21, 3) := by decide +kernel
theorem dX4_copyFrom_26 : decode cX4_copyFrom 26 = .ok (.return_, 1) := by decide +kernel
theorem dX5_init_0 : decode cX5_init 0 = .ok (.aload_n 0, 1) := by decide +kernel
theorem dX5_init_1 : decode cX5_init 1 = .ok (.invokespecial 3, 3) := by decide +kernel
theorem dX5_init_4 : decode cX5_init 4 = .ok (.return_, 1) := by decide +kernel
theorem dX5_habit_0 : decode cX5_habit 0 = .ok (.iconst 0, 1) := by decide +kernel
theorem dX5_habit_1 : decode cX5_habit 1 = .ok (.ireturn, 1) := by decide +kernel
theorem dX5_wouldThrow_0 : decode cX5_wouldThrow 0 = .ok (.iconst (-1), 1) := by decide +kernel
theorem dX5_wouldThrow_1 : decode cX5_wouldThrow 1 = .ok (.ireturn, 1) := by decide +kernel
theorem dX6_init_0 : decode cX6_init 0 = .ok (.aload_n 0, 1) := by decide +kernel
theorem dX6_init_1 : decode cX6_init 1 = .ok (.invokespecial 3, 3) := by decide +kernel
theorem dX6_init_4 : decode cX6_init 4 = .ok (.aload_n 0, 1) := by decide +kernel
theorem dX6_init_5 : decode cX6_init 5 = .ok (.new 9, 3) := by decide +kernel
theorem dX6_init_8 : decode cX6_init 8 = .ok (.dup, 1) := by decide +kernel
theorem dX6_init_9 : decode cX6_init 9 = .ok (.invokespecial 11, 3) := by decide +kernel
theorem dX6_init_12 : decode cX6_init 12 = .ok (.putfield 12, 3) := by decide +kernel
theorem dX6_init_15 : decode cX6_init 15 = .ok (.aload_n 0, 1) := by decide +kernel
theorem dX6_init_16 : decode cX6_init 16 = .ok (.bipush 6, 2) := by decide +kernel
theorem dX6_init_18 : decode cX6_init 18 = .ok (.newarray .int, 2) := by decide +kernel
theorem dX6_init_20 : decode cX6_init 20 = .ok (.putfield 18, 3) := by decide +kernel
theorem dX6_init_23 : decode cX6_init 23 = .ok (.aload_n 0, 1) := by decide +kernel
theorem dX6_init_24 : decode cX6_init 24 = .ok (.bipush 6, 2) := by decide +kernel
theorem dX6_init_26 : decode cX6_init 26 = .ok (.newarray .int, 2) := by decide +kernel
theorem dX6_init_28 : decode cX6_init 28 = .ok (.putfield 22, 3) := by decide +kernel
theorem dX6_init_31 : decode cX6_init 31 = .ok (.aload_n 0, 1) := by decide +kernel
theorem dX6_init_32 : decode cX6_init 32 = .ok (.bipush 6, 2) := by decide +kernel
theorem dX6_init_34 : decode cX6_init 34 = .ok (.newarray .int, 2) := by decide +kernel
theorem dX6_init_36 : decode cX6_init 36 = .ok (.putfield 25, 3) := by decide +kernel
theorem dX6_init_39 : decode cX6_init 39 = .ok (.aload_n 0, 1) := by decide +kernel
theorem dX6_init_40 : decode cX6_init 40 = .ok (.bipush 6, 2) := by decide +kernel
theorem dX6_init_42 : decode cX6_init 42 = .ok (.newarray .int, 2) := by decide +kernel
theorem dX6_init_44 : decode cX6_init 44 = .ok (.putfield 28, 3) := by decide +kernel
theorem dX6_init_47 : decode cX6_init 47 = .ok (.aload_n 0, 1) := by decide +kernel
theorem dX6_init_48 : decode cX6_init 48 = .ok (.aload_n 1, 1) := by decide +kernel
theorem dX6_init_49 : decode cX6_init 49 = .ok (.putfield 31, 3) := by decide +kernel
theorem dX6_init_52 : decode cX6_init 52 = .ok (.return_, 1) := by decide +kernel
theorem dX6_add_0 : decode cX6_add 0 = .ok (.aload_n 0, 1) := by decide +kernel
theorem dX6_add_1 : decode cX6_add 1 = .ok (.getfield 35, 3) := by decide +kernel
theorem dX6_add_4 : decode cX6_add 4 = .ok (.ifCond .lt 12, 3) := by decide +kernel
theorem dX6_add_7 : decode cX6_add 7 = .ok (.aload_n 0, 1) := by decide +kernel
theorem dX6_add_8 : decode cX6_add 8 = .ok (.getfield 35, 3) := by decide +kernel
theorem dX6_add_11 : decode cX6_add 11 = .ok (.bipush 6, 2) := by decide +kernel
theorem dX6_add_13 : decode cX6_add 13 = .ok (.if_icmp .lt 5, 3) := by decide +kernel
theorem dX6_add_16 : decode cX6_add 16 = .ok (.iconst 0, 1) := by decide +kernel
theorem dX6_add_17 : decode cX6_add 17 = .ok (.ireturn, 1) := by decide +kernel
theorem dX6_add_18 : decode cX6_add 18 = .ok (.aload_n 0, 1) := by decide +kernel
theorem dX6_add_19 : decode cX6_add 19 = .ok (.getfield 18, 3) := by decide +kernel
theorem dX6_add_22 : decode cX6_add 22 = .ok (.aload_n 0, 1) := by decide +kernel
theorem dX6_add_23 : decode cX6_add 23 = .ok (.getfield 35, 3) := by decide +kernel
theorem dX6_add_26 : decode cX6_add 26 = .ok (.iload_n 1, 1) := by decide +kernel
theorem dX6_add_27 : decode cX6_add 27 = .ok (.iastore, 1) := by decide +kernel
theorem dX6_add_28 : decode cX6_add 28 = .ok (.aload_n 0, 1) := by decide +kernel
theorem dX6_add_29 : decode cX6_add 29 = .ok (.getfield 22, 3) := by decide +kernel
theorem dX6_add_32 : decode cX6_add 32 = .ok (.aload_n 0, 1) := by decide +kernel
theorem dX6_add_33 : decode cX6_add 33 = .ok (.getfield 35, 3) := by decide +kernel
theorem dX6_add_36 : decode cX6_add 36 = .ok (.iload_n 2, 1) := by decide +kernel
theorem dX6_add_37 : decode cX6_add 37 = .ok (.iastore, 1) := by decide +kernel
theorem dX6_add_38 : decode cX6_add 38 = .ok (.aload_n 0, 1) := by decide +kernel
theorem dX6_add_39 : decode cX6_add 39 = .ok (.dup, 1) := by decide +kernel
theorem dX6_add_40 : decode cX6_add 40 = .ok (.getfield 35, 3) := by decide +kernel
theorem dX6_add_43 : decode cX6_add 43 = .ok (.iconst 1, 1) := by decide +kernel
theorem dX6_add_44 : decode cX6_add 44 = .ok (.iadd, 1) := by decide +kernel
theorem dX6_add_45 : decode cX6_add 45 = .ok (.putfield 35, 3) := by decide +kernel
theorem dX6_add_48 : decode cX6_add 48 = .ok (.iconst 1, 1) := by decide +kernel
theorem dX6_add_49 : decode cX6_add 49 = .ok (.ireturn, 1) := by decide +kernel
theorem dX6_leastOf_0 : decode cX6_leastOf 0 = .ok (.iload_n 1, 1) := by decide +kernel
theorem dX6_leastOf_1 : decode cX6_leastOf 1 = .ok (.ifCond .lt 18, 3) := by decide +kernel
theorem dX6_leastOf_4 : decode cX6_leastOf 4 = .ok (.iload_n 1, 1) := by decide +kernel
theorem dX6_leastOf_5 : decode cX6_leastOf 5 = .ok (.bipush 6, 2) := by decide +kernel
theorem dX6_leastOf_7 : decode cX6_leastOf 7 = .ok (.if_icmp .ge 12, 3) := by decide +kernel
theorem dX6_leastOf_10 : decode cX6_leastOf 10 = .ok (.aload_n 0, 1) := by decide +kernel
theorem dX6_leastOf_11 : decode cX6_leastOf 11 = .ok (.getfield 25, 3) := by decide +kernel
theorem dX6_leastOf_14 : decode cX6_leastOf 14 = .ok (.iload_n 1, 1) := by decide +kernel
theorem dX6_leastOf_15 : decode cX6_leastOf 15 = .ok (.iaload, 1) := by decide +kernel
theorem dX6_leastOf_16 : decode cX6_leastOf 16 = .ok (.goto 4, 3) := by decide +kernel
theorem dX6_leastOf_19 : decode cX6_leastOf 19 = .ok (.iconst (-1), 1) := by decide +kernel
theorem dX6_leastOf_20 : decode cX6_leastOf 20 = .ok (.ireturn, 1) := by decide +kernel
theorem dX6_mostOf_0 : decode cX6_mostOf 0 = .ok (.iload_n 1, 1) := by decide +kernel
theorem dX6_mostOf_1 : decode cX6_mostOf 1 = .ok (.ifCond .lt 18, 3) := by decide +kernel
theorem dX6_mostOf_4 : decode cX6_mostOf 4 = .ok (.iload_n 1, 1) := by decide +kernel
theorem dX6_mostOf_5 : decode cX6_mostOf 5 = .ok (.bipush 6, 2) := by decide +kernel
theorem dX6_mostOf_7 : decode cX6_mostOf 7 = .ok (.if_icmp .ge 12, 3) := by decide +kernel
theorem dX6_mostOf_10 : decode cX6_mostOf 10 = .ok (.aload_n 0, 1) := by decide +kernel
theorem dX6_mostOf_11 : decode cX6_mostOf 11 = .ok (.getfield 28, 3) := by decide +kernel
theorem dX6_mostOf_14 : decode cX6_mostOf 14 = .ok (.iload_n 1, 1) := by decide +kernel
theorem dX6_mostOf_15 : decode cX6_mostOf 15 = .ok (.iaload, 1) := by decide +kernel
theorem dX6_mostOf_16 : decode cX6_mostOf 16 = .ok (.goto 4, 3) := by decide +kernel
theorem dX6_mostOf_19 : decode cX6_mostOf 19 = .ok (.iconst (-1), 1) := by decide +kernel
theorem dX6_mostOf_20 : decode cX6_mostOf 20 = .ok (.ireturn, 1) := by decide +kernel
theorem dX6_searchLayings_0 : decode cX6_searchLayings 0 = .ok (.aload_n 0, 1) := by decide +kernel
theorem dX6_searchLayings_1 : decode cX6_searchLayings 1 = .ok (.iconst 0, 1) := by decide +kernel
theorem dX6_searchLayings_2 : decode cX6_searchLayings 2 = .ok (.putfield 39, 3) := by decide +kernel
theorem dX6_searchLayings_5 : decode cX6_searchLayings 5 = .ok (.aload_n 0, 1) := by decide +kernel
theorem dX6_searchLayings_6 : decode cX6_searchLayings 6 = .ok (.iconst (-1), 1) := by decide +kernel
theorem dX6_searchLayings_7 : decode cX6_searchLayings 7 = .ok (.putfield 42, 3) := by decide +kernel
theorem dX6_searchLayings_10 : decode cX6_searchLayings 10 = .ok (.iconst 0, 1) := by decide +kernel
theorem dX6_searchLayings_11 : decode cX6_searchLayings 11 = .ok (.istore_n 1, 1) := by decide +kernel
theorem dX6_searchLayings_12 : decode cX6_searchLayings 12 = .ok (.iload_n 1, 1) := by decide +kernel
theorem dX6_searchLayings_13 : decode cX6_searchLayings 13 = .ok (.bipush 6, 2) := by decide +kernel
theorem dX6_searchLayings_15 : decode cX6_searchLayings 15 = .ok (.if_icmp .ge 23, 3) := by decide +kernel
theorem dX6_searchLayings_18 : decode cX6_searchLayings 18 = .ok (.aload_n 0, 1) := by decide +kernel
theorem dX6_searchLayings_19 : decode cX6_searchLayings 19 = .ok (.getfield 25, 3) := by decide +kernel
theorem dX6_searchLayings_22 : decode cX6_searchLayings 22 = .ok (.iload_n 1, 1) := by decide +kernel
theorem dX6_searchLayings_23 : decode cX6_searchLayings 23 = .ok (.iconst (-1), 1) := by decide +kernel
theorem dX6_searchLayings_24 : decode cX6_searchLayings 24 = .ok (.iastore, 1) := by decide +kernel
theorem dX6_searchLayings_25 : decode cX6_searchLayings 25 = .ok (.aload_n 0, 1) := by decide +kernel
theorem dX6_searchLayings_26 : decode cX6_searchLayings 26 = .ok (.getfield 28, 3) := by decide +kernel
theorem dX6_searchLayings_29 : decode cX6_searchLayings 29 = .ok (.iload_n 1, 1) := by decide +kernel
theorem dX6_searchLayings_30 : decode cX6_searchLayings 30 = .ok (.iconst (-1), 1) := by decide +kernel
theorem dX6_searchLayings_31 : decode cX6_searchLayings 31 = .ok (.iastore, 1) := by decide +kernel
theorem dX6_searchLayings_32 : decode cX6_searchLayings 32 = .ok (.iinc 1 1, 3) := by decide +kernel
theorem dX6_searchLayings_35 : decode cX6_searchLayings 35 = .ok (.goto (-23), 3) := by decide +kernel
theorem dX6_searchLayings_38 : decode cX6_searchLayings 38 = .ok (.iconst 1, 1) := by decide +kernel
theorem dX6_searchLayings_39 : decode cX6_searchLayings 39 = .ok (.iconst 2, 1) := by decide +kernel
theorem dX6_searchLayings_40 : decode cX6_searchLayings 40 = .ok (.aload_n 0, 1) := by decide +kernel
theorem dX6_searchLayings_41 : decode cX6_searchLayings 41 = .ok (.getfield 31, 3) := by decide +kernel
theorem dX6_searchLayings_44 : decode cX6_searchLayings 44 = .ok (.getfield 45, 3) := by decide +kernel
theorem dX6_searchLayings_47 : decode cX6_searchLayings 47 = .ok (.iconst 4, 1) := by decide +kernel
theorem dX6_searchLayings_48 : decode cX6_searchLayings 48 = .ok (.invokestatic 50, 3) := by decide +kernel
theorem dX6_searchLayings_51 : decode cX6_searchLayings 51 = .ok (.imul, 1) := by decide +kernel
theorem dX6_searchLayings_52 : decode cX6_searchLayings 52 = .ok (.ishl, 1) := by decide +kernel
theorem dX6_searchLayings_53 : decode cX6_searchLayings 53 = .ok (.istore_n 1, 1) := by decide +kernel
theorem dX6_searchLayings_54 : decode cX6_searchLayings 54 = .ok (.iconst 0, 1) := by decide +kernel
theorem dX6_searchLayings_55 : decode cX6_searchLayings 55 = .ok (.istore_n 2, 1) := by decide +kernel
theorem dX6_searchLayings_56 : decode cX6_searchLayings 56 = .ok (.iload_n 2, 1) := by decide +kernel
theorem dX6_searchLayings_57 : decode cX6_searchLayings 57 = .ok (.iload_n 1, 1) := by decide +kernel
theorem dX6_searchLayings_58 : decode cX6_searchLayings 58 = .ok (.if_icmp .ge 22, 3) := by decide +kernel
theorem dX6_searchLayings_61 : decode cX6_searchLayings 61 = .ok (.aload_n 0, 1) := by decide +kernel
theorem dX6_searchLayings_62 : decode cX6_searchLayings 62 = .ok (.iload_n 2, 1) := by decide +kernel
theorem dX6_searchLayings_63 : decode cX6_searchLayings 63 = .ok (.invokevirtual 56, 3) := by decide +kernel
theorem dX6_searchLayings_66 : decode cX6_searchLayings 66 = .ok (.ifCond .eq 8, 3) := by decide +kernel
theorem dX6_searchLayings_69 : decode cX6_searchLayings 69 = .ok (.aload_n 0, 1) := by decide +kernel
theorem dX6_searchLayings_70 : decode cX6_searchLayings 70 = .ok (.iload_n 2, 1) := by decide +kernel
theorem dX6_searchLayings_71 : decode cX6_searchLayings 71 = .ok (.invokevirtual 60, 3) := by decide +kernel
theorem dX6_searchLayings_74 : decode cX6_searchLayings 74 = .ok (.iinc 2 1, 3) := by decide +kernel
theorem dX6_searchLayings_77 : decode cX6_searchLayings 77 = .ok (.goto (-21), 3) := by decide +kernel
theorem dX6_searchLayings_80 : decode cX6_searchLayings 80 = .ok (.return_, 1) := by decide +kernel
theorem dX6_figureOf_0 : decode cX6_figureOf 0 = .ok (.iload_n 1, 1) := by decide +kernel
theorem dX6_figureOf_1 : decode cX6_figureOf 1 = .ok (.iconst 2, 1) := by decide +kernel
theorem dX6_figureOf_2 : decode cX6_figureOf 2 = .ok (.aload_n 0, 1) := by decide +kernel
theorem dX6_figureOf_3 : decode cX6_figureOf 3 = .ok (.getfield 31, 3) := by decide +kernel
theorem dX6_figureOf_6 : decode cX6_figureOf 6 = .ok (.getfield 45, 3) := by decide +kernel
theorem dX6_figureOf_9 : decode cX6_figureOf 9 = .ok (.iconst 1, 1) := by decide +kernel
theorem dX6_figureOf_10 : decode cX6_figureOf 10 = .ok (.isub, 1) := by decide +kernel
theorem dX6_figureOf_11 : decode cX6_figureOf 11 = .ok (.iload_n 2, 1) := by decide +kernel
theorem dX6_figureOf_12 : decode cX6_figureOf 12 = .ok (.isub, 1) := by decide +kernel
theorem dX6_figureOf_13 : decode cX6_figureOf 13 = .ok (.imul, 1) := by decide +kernel
theorem dX6_figureOf_14 : decode cX6_figureOf 14 = .ok (.ishr, 1) := by decide +kernel
theorem dX6_figureOf_15 : decode cX6_figureOf 15 = .ok (.iconst 3, 1) := by decide +kernel
theorem dX6_figureOf_16 : decode cX6_figureOf 16 = .ok (.iand, 1) := by decide +kernel
theorem dX6_figureOf_17 : decode cX6_figureOf 17 = .ok (.ireturn, 1) := by decide +kernel
theorem dX6_fits_0 : decode cX6_fits 0 = .ok (.aload_n 0, 1) := by decide +kernel
theorem dX6_fits_1 : decode cX6_fits 1 = .ok (.getfield 12, 3) := by decide +kernel
theorem dX6_fits_4 : decode cX6_fits 4 = .ok (.invokevirtual 64, 3) := by decide +kernel
theorem dX6_fits_7 : decode cX6_fits 7 = .ok (.iconst 0, 1) := by decide +kernel
theorem dX6_fits_8 : decode cX6_fits 8 = .ok (.istore_n 2, 1) := by decide +kernel
theorem dX6_fits_9 : decode cX6_fits 9 = .ok (.iload_n 2, 1) := by decide +kernel
theorem dX6_fits_10 : decode cX6_fits 10 = .ok (.aload_n 0, 1) := by decide +kernel
theorem dX6_fits_11 : decode cX6_fits 11 = .ok (.getfield 31, 3) := by decide +kernel
theorem dX6_fits_14 : decode cX6_fits 14 = .ok (.getfield 45, 3) := by decide +kernel
theorem dX6_fits_17 : decode cX6_fits 17 = .ok (.if_icmp .ge 24, 3) := by decide +kernel
theorem dX6_fits_20 : decode cX6_fits 20 = .ok (.aload_n 0, 1) := by decide +kernel
theorem dX6_fits_21 : decode cX6_fits 21 = .ok (.getfield 12, 3) := by decide +kernel
theorem dX6_fits_24 : decode cX6_fits 24 = .ok (.iconst 4, 1) := by decide +kernel
theorem dX6_fits_25 : decode cX6_fits 25 = .ok (.iload_n 2, 1) := by decide +kernel
theorem dX6_fits_26 : decode cX6_fits 26 = .ok (.aload_n 0, 1) := by decide +kernel
theorem dX6_fits_27 : decode cX6_fits 27 = .ok (.iload_n 1, 1) := by decide +kernel
theorem dX6_fits_28 : decode cX6_fits 28 = .ok (.iload_n 2, 1) := by decide +kernel
theorem dX6_fits_29 : decode cX6_fits 29 = .ok (.invokevirtual 67, 3) := by decide +kernel
theorem dX6_fits_32 : decode cX6_fits 32 = .ok (.invokevirtual 70, 3) := by decide +kernel
theorem dX6_fits_35 : decode cX6_fits 35 = .ok (.iinc 2 1, 3) := by decide +kernel
theorem dX6_fits_38 : decode cX6_fits 38 = .ok (.goto (-29), 3) := by decide +kernel
theorem dX6_fits_41 : decode cX6_fits 41 = .ok (.iconst 0, 1) := by decide +kernel
theorem dX6_fits_42 : decode cX6_fits 42 = .ok (.istore_n 2, 1) := by decide +kernel
theorem dX6_fits_43 : decode cX6_fits 43 = .ok (.iload_n 2, 1) := by decide +kernel
theorem dX6_fits_44 : decode cX6_fits 44 = .ok (.aload_n 0, 1) := by decide +kernel
theorem dX6_fits_45 : decode cX6_fits 45 = .ok (.getfield 35, 3) := by decide +kernel
theorem dX6_fits_48 : decode cX6_fits 48 = .ok (.if_icmp .ge 75, 3) := by decide +kernel
theorem dX6_fits_51 : decode cX6_fits 51 = .ok (.iload_n 2, 1) := by decide +kernel
theorem dX6_fits_52 : decode cX6_fits 52 = .ok (.bipush 6, 2) := by decide +kernel
theorem dX6_fits_54 : decode cX6_fits 54 = .ok (.if_icmp .ge 69, 3) := by decide +kernel
theorem dX6_fits_57 : decode cX6_fits 57 = .ok (.aload_n 0, 1) := by decide +kernel
theorem dX6_fits_58 : decode cX6_fits 58 = .ok (.getfield 31, 3) := by decide +kernel
theorem dX6_fits_61 : decode cX6_fits 61 = .ok (.aload_n 0, 1) := by decide +kernel
theorem dX6_fits_62 : decode cX6_fits 62 = .ok (.getfield 12, 3) := by decide +kernel
theorem dX6_fits_65 : decode cX6_fits 65 = .ok (.aload_n 0, 1) := by decide +kernel
theorem dX6_fits_66 : decode cX6_fits 66 = .ok (.getfield 18, 3) := by decide +kernel
theorem dX6_fits_69 : decode cX6_fits 69 = .ok (.iload_n 2, 1) := by decide +kernel
theorem dX6_fits_70 : decode cX6_fits 70 = .ok (.iaload, 1) := by decide +kernel
theorem dX6_fits_71 : decode cX6_fits 71 = .ok (.invokevirtual 74, 3) := by decide +kernel
theorem dX6_fits_74 : decode cX6_fits 74 = .ok (.aload_n 0, 1) := by decide +kernel
theorem dX6_fits_75 : decode cX6_fits 75 = .ok (.getfield 31, 3) := by decide +kernel
theorem dX6_fits_78 : decode cX6_fits 78 = .ok (.aload_n 0, 1) := by decide +kernel
theorem dX6_fits_79 : decode cX6_fits 79 = .ok (.getfield 18, 3) := by decide +kernel
theorem dX6_fits_82 : decode cX6_fits 82 = .ok (.iload_n 2, 1) := by decide +kernel
theorem dX6_fits_83 : decode cX6_fits 83 = .ok (.iaload, 1) := by decide +kernel
theorem dX6_fits_84 : decode cX6_fits 84 = .ok (.invokevirtual 78, 3) := by decide +kernel
theorem dX6_fits_87 : decode cX6_fits 87 = .ok (.iadd, 1) := by decide +kernel
theorem dX6_fits_88 : decode cX6_fits 88 = .ok (.aload_n 0, 1) := by decide +kernel
theorem dX6_fits_89 : decode cX6_fits 89 = .ok (.getfield 22, 3) := by decide +kernel
theorem dX6_fits_92 : decode cX6_fits 92 = .ok (.iload_n 2, 1) := by decide +kernel
theorem dX6_fits_93 : decode cX6_fits 93 = .ok (.iaload, 1) := by decide +kernel
theorem dX6_fits_94 : decode cX6_fits 94 = .ok (.if_icmp .eq 5, 3) := by decide +kernel
theorem dX6_fits_97 : decode cX6_fits 97 = .ok (.iconst 0, 1) := by decide +kernel
theorem dX6_fits_98 : decode cX6_fits 98 = .ok (.ireturn, 1) := by decide +kernel
theorem dX6_fits_99 : decode cX6_fits 99 = .ok (.aload_n 0, 1) := by decide +kernel
theorem dX6_fits_100 : decode cX6_fits 100 = .ok (.getfield 31, 3) := by decide +kernel
theorem dX6_fits_103 : decode cX6_fits 103 = .ok (.aload_n 0, 1) := by decide +kernel
theorem dX6_fits_104 : decode cX6_fits 104 = .ok (.getfield 12, 3) := by decide +kernel
theorem dX6_fits_107 : decode cX6_fits 107 = .ok (.iconst 0, 1) := by decide +kernel
theorem dX6_fits_108 : decode cX6_fits 108 = .ok (.aload_n 0, 1) := by decide +kernel
theorem dX6_fits_109 : decode cX6_fits 109 = .ok (.getfield 18, 3) := by decide +kernel
theorem dX6_fits_112 : decode cX6_fits 112 = .ok (.iload_n 2, 1) := by decide +kernel
theorem dX6_fits_113 : decode cX6_fits 113 = .ok (.iaload, 1) := by decide +kernel
theorem dX6_fits_114 : decode cX6_fits 114 = .ok (.invokevirtual 82, 3) := by decide +kernel
theorem dX6_fits_117 : decode cX6_fits 117 = .ok (.iinc 2 1, 3) := by decide +kernel
theorem dX6_fits_120 : decode cX6_fits 120 = .ok (.goto (-77), 3) := by decide +kernel
theorem dX6_fits_123 : decode cX6_fits 123 = .ok (.iconst 1, 1) := by decide +kernel
theorem dX6_fits_124 : decode cX6_fits 124 = .ok (.ireturn, 1) := by decide +kernel
theorem dX6_tally_0 : decode cX6_tally 0 = .ok (.aload_n 0, 1) := by decide +kernel
theorem dX6_tally_1 : decode cX6_tally 1 = .ok (.dup, 1) := by decide +kernel
theorem dX6_tally_2 : decode cX6_tally 2 = .ok (.getfield 39, 3) := by decide +kernel
theorem dX6_tally_5 : decode cX6_tally 5 = .ok (.iconst 1, 1) := by decide +kernel
theorem dX6_tally_6 : decode cX6_tally 6 = .ok (.iadd, 1) := by decide +kernel
theorem dX6_tally_7 : decode cX6_tally 7 = .ok (.putfield 39, 3) := by decide +kernel
theorem dX6_tally_10 : decode cX6_tally 10 = .ok (.aload_n 0, 1) := by decide +kernel
theorem dX6_tally_11 : decode cX6_tally 11 = .ok (.aload_n 0, 1) := by decide +kernel
theorem dX6_tally_12 : decode cX6_tally 12 = .ok (.getfield 42, 3) := by decide +kernel
theorem dX6_tally_15 : decode cX6_tally 15 = .ok (.iconst (-1), 1) := by decide +kernel
theorem dX6_tally_16 : decode cX6_tally 16 = .ok (.if_icmp .ne 7, 3) := by decide +kernel
theorem dX6_tally_19 : decode cX6_tally 19 = .ok (.iload_n 1, 1) := by decide +kernel
theorem dX6_tally_20 : decode cX6_tally 20 = .ok (.goto 7, 3) := by decide +kernel
theorem dX6_tally_23 : decode cX6_tally 23 = .ok (.aload_n 0, 1) := by decide +kernel
theorem dX6_tally_24 : decode cX6_tally 24 = .ok (.getfield 42, 3) := by decide +kernel
theorem dX6_tally_27 : decode cX6_tally 27 = .ok (.putfield 42, 3) := by decide +kernel
theorem dX6_tally_30 : decode cX6_tally 30 = .ok (.iconst 0, 1) := by decide +kernel
theorem dX6_tally_31 : decode cX6_tally 31 = .ok (.istore_n 2, 1) := by decide +kernel
theorem dX6_tally_32 : decode cX6_tally 32 = .ok (.iload_n 2, 1) := by decide +kernel
theorem dX6_tally_33 : decode cX6_tally 33 = .ok (.aload_n 0, 1) := by decide +kernel
theorem dX6_tally_34 : decode cX6_tally 34 = .ok (.getfield 31, 3) := by decide +kernel
theorem dX6_tally_37 : decode cX6_tally 37 = .ok (.getfield 45, 3) := by decide +kernel
theorem dX6_tally_40 : decode cX6_tally 40 = .ok (.if_icmp .ge 68, 3) := by decide +kernel
theorem dX6_tally_43 : decode cX6_tally 43 = .ok (.iload_n 2, 1) := by decide +kernel
theorem dX6_tally_44 : decode cX6_tally 44 = .ok (.bipush 6, 2) := by decide +kernel
theorem dX6_tally_46 : decode cX6_tally 46 = .ok (.if_icmp .ge 62, 3) := by decide +kernel
theorem dX6_tally_49 : decode cX6_tally 49 = .ok (.aload_n 0, 1) := by decide +kernel
theorem dX6_tally_50 : decode cX6_tally 50 = .ok (.iload_n 1, 1) := by decide +kernel
theorem dX6_tally_51 : decode cX6_tally 51 = .ok (.iload_n 2, 1) := by decide +kernel
theorem dX6_tally_52 : decode cX6_tally 52 = .ok (.invokevirtual 67, 3) := by decide +kernel
theorem dX6_tally_55 : decode cX6_tally 55 = .ok (.istore_n 3, 1) := by decide +kernel
theorem dX6_tally_56 : decode cX6_tally 56 = .ok (.aload_n 0, 1) := by decide +kernel
theorem dX6_tally_57 : decode cX6_tally 57 = .ok (.getfield 25, 3) := by decide +kernel
theorem dX6_tally_60 : decode cX6_tally 60 = .ok (.iload_n 2, 1) := by decide +kernel
theorem dX6_tally_61 : decode cX6_tally 61 = .ok (.aload_n 0, 1) := by decide +kernel
theorem dX6_tally_62 : decode cX6_tally 62 = .ok (.getfield 25, 3) := by decide +kernel
theorem dX6_tally_65 : decode cX6_tally 65 = .ok (.iload_n 2, 1) := by decide +kernel
theorem dX6_tally_66 : decode cX6_tally 66 = .ok (.iaload, 1) := by decide +kernel
theorem dX6_tally_67 : decode cX6_tally 67 = .ok (.iconst (-1), 1) := by decide +kernel
theorem dX6_tally_68 : decode cX6_tally 68 = .ok (.if_icmp .ne 7, 3) := by decide +kernel
theorem dX6_tally_71 : decode cX6_tally 71 = .ok (.iload_n 3, 1) := by decide +kernel
theorem dX6_tally_72 : decode cX6_tally 72 = .ok (.goto 13, 3) := by decide +kernel
theorem dX6_tally_75 : decode cX6_tally 75 = .ok (.aload_n 0, 1) := by decide +kernel
theorem dX6_tally_76 : decode cX6_tally 76 = .ok (.getfield 25, 3) := by decide +kernel
theorem dX6_tally_79 : decode cX6_tally 79 = .ok (.iload_n 2, 1) := by decide +kernel
theorem dX6_tally_80 : decode cX6_tally 80 = .ok (.iaload, 1) := by decide +kernel
theorem dX6_tally_81 : decode cX6_tally 81 = .ok (.iload_n 3, 1) := by decide +kernel
theorem dX6_tally_82 : decode cX6_tally 82 = .ok (.invokestatic 50, 3) := by decide +kernel
theorem dX6_tally_85 : decode cX6_tally 85 = .ok (.iastore, 1) := by decide +kernel
theorem dX6_tally_86 : decode cX6_tally 86 = .ok (.aload_n 0, 1) := by decide +kernel
theorem dX6_tally_87 : decode cX6_tally 87 = .ok (.getfield 28, 3) := by decide +kernel
theorem dX6_tally_90 : decode cX6_tally 90 = .ok (.iload_n 2, 1) := by decide +kernel
theorem dX6_tally_91 : decode cX6_tally 91 = .ok (.aload_n 0, 1) := by decide +kernel
theorem dX6_tally_92 : decode cX6_tally 92 = .ok (.getfield 28, 3) := by decide +kernel
theorem dX6_tally_95 : decode cX6_tally 95 = .ok (.iload_n 2, 1) := by decide +kernel
theorem dX6_tally_96 : decode cX6_tally 96 = .ok (.iaload, 1) := by decide +kernel
theorem dX6_tally_97 : decode cX6_tally 97 = .ok (.iload_n 3, 1) := by decide +kernel
theorem dX6_tally_98 : decode cX6_tally 98 = .ok (.invokestatic 86, 3) := by decide +kernel
theorem dX6_tally_101 : decode cX6_tally 101 = .ok (.iastore, 1) := by decide +kernel
theorem dX6_tally_102 : decode cX6_tally 102 = .ok (.iinc 2 1, 3) := by decide +kernel
theorem dX6_tally_105 : decode cX6_tally 105 = .ok (.goto (-73), 3) := by decide +kernel
theorem dX6_tally_108 : decode cX6_tally 108 = .ok (.return_, 1) := by decide +kernel
theorem dX8_init_0 : decode cX8_init 0 = .ok (.aload_n 0, 1) := by decide +kernel
theorem dX8_init_1 : decode cX8_init 1 = .ok (.invokespecial 3, 3) := by decide +kernel
theorem dX8_init_4 : decode cX8_init 4 = .ok (.return_, 1) := by decide +kernel
theorem dX8_leastGain_0 : decode cX8_leastGain 0 = .ok (.iconst 1, 1) := by decide +kernel
theorem dX8_leastGain_1 : decode cX8_leastGain 1 = .ok (.ireturn, 1) := by decide +kernel
theorem dX8_wouldThrow_0 : decode cX8_wouldThrow 0 = .ok (.iconst (-1), 1) := by decide +kernel
theorem dX8_wouldThrow_1 : decode cX8_wouldThrow 1 = .ok (.istore 4, 2) := by decide +kernel
theorem dX8_wouldThrow_3 : decode cX8_wouldThrow 3 = .ok (.aload_n 0, 1) := by decide +kernel
theorem dX8_wouldThrow_4 : decode cX8_wouldThrow 4 = .ok (.aload_n 1, 1) := by decide +kernel
theorem dX8_wouldThrow_5 : decode cX8_wouldThrow 5 = .ok (.iload_n 3, 1) := by decide +kernel
theorem dX8_wouldThrow_6 : decode cX8_wouldThrow 6 = .ok (.invokevirtual 9, 3) := by decide +kernel
theorem dX8_wouldThrow_9 : decode cX8_wouldThrow 9 = .ok (.istore 5, 2) := by decide +kernel
theorem dX8_wouldThrow_11 : decode cX8_wouldThrow 11 = .ok (.iconst 0, 1) := by decide +kernel
theorem dX8_wouldThrow_12 : decode cX8_wouldThrow 12 = .ok (.istore 6, 2) := by decide +kernel
theorem dX8_wouldThrow_14 : decode cX8_wouldThrow 14 = .ok (.iload 6, 2) := by decide +kernel
theorem dX8_wouldThrow_16 : decode cX8_wouldThrow 16 = .ok (.aload_n 1, 1) := by decide +kernel
theorem dX8_wouldThrow_17 : decode cX8_wouldThrow 17 = .ok (.getfield 15, 3) := by decide +kernel
theorem dX8_wouldThrow_20 : decode cX8_wouldThrow 20 = .ok (.if_icmp .ge 59, 3) := by decide +kernel
theorem dX8_wouldThrow_23 : decode cX8_wouldThrow 23 = .ok (.aload_n 2, 1) := by decide +kernel
theorem dX8_wouldThrow_24 : decode cX8_wouldThrow 24 = .ok (.iload_n 3, 1) := by decide +kernel
theorem dX8_wouldThrow_25 : decode cX8_wouldThrow 25 = .ok (.iload 6, 2) := by decide +kernel
theorem dX8_wouldThrow_27 : decode cX8_wouldThrow 27 = .ok (.invokevirtual 21, 3) := by decide +kernel
theorem dX8_wouldThrow_30 : decode cX8_wouldThrow 30 = .ok (.ifCond .le 13, 3) := by decide +kernel
theorem dX8_wouldThrow_33 : decode cX8_wouldThrow 33 = .ok (.aload_n 1, 1) := by decide +kernel
theorem dX8_wouldThrow_34 : decode cX8_wouldThrow 34 = .ok (.aload_n 2, 1) := by decide +kernel
theorem dX8_wouldThrow_35 : decode cX8_wouldThrow 35 = .ok (.iload 6, 2) := by decide +kernel
theorem dX8_wouldThrow_37 : decode cX8_wouldThrow 37 = .ok (.invokevirtual 27, 3) := by decide +kernel
theorem dX8_wouldThrow_40 : decode cX8_wouldThrow 40 = .ok (.goto 4, 3) := by decide +kernel
theorem dX8_wouldThrow_43 : decode cX8_wouldThrow 43 = .ok (.iconst 0, 1) := by decide +kernel
theorem dX8_wouldThrow_44 : decode cX8_wouldThrow 44 = .ok (.istore 7, 2) := by decide +kernel
theorem dX8_wouldThrow_46 : decode cX8_wouldThrow 46 = .ok (.iload 7, 2) := by decide +kernel
theorem dX8_wouldThrow_48 : decode cX8_wouldThrow 48 = .ok (.iload 5, 2) := by decide +kernel
theorem dX8_wouldThrow_50 : decode cX8_wouldThrow 50 = .ok (.if_icmp .lt 23, 3) := by decide +kernel
theorem dX8_wouldThrow_53 : decode cX8_wouldThrow 53 = .ok (.iload 6, 2) := by decide +kernel
theorem dX8_wouldThrow_55 : decode cX8_wouldThrow 55 = .ok (.istore 4, 2) := by decide +kernel
theorem dX8_wouldThrow_57 : decode cX8_wouldThrow 57 = .ok (.iload 7, 2) := by decide +kernel
theorem dX8_wouldThrow_59 : decode cX8_wouldThrow 59 = .ok (.iconst 1, 1) := by decide +kernel
theorem dX8_wouldThrow_60 : decode cX8_wouldThrow 60 = .ok (.iadd, 1) := by decide +kernel
theorem dX8_wouldThrow_61 : decode cX8_wouldThrow 61 = .ok (.istore 5, 2) := by decide +kernel
theorem dX8_wouldThrow_63 : decode cX8_wouldThrow 63 = .ok (.aload_n 0, 1) := by decide +kernel
theorem dX8_wouldThrow_64 : decode cX8_wouldThrow 64 = .ok (.invokevirtual 31, 3) := by decide +kernel
theorem dX8_wouldThrow_67 : decode cX8_wouldThrow 67 = .ok (.ifCond .ne 6, 3) := by decide +kernel
theorem dX8_wouldThrow_70 : decode cX8_wouldThrow 70 = .ok (.iload 4, 2) := by decide +kernel
theorem dX8_wouldThrow_72 : decode cX8_wouldThrow 72 = .ok (.ireturn, 1) := by decide +kernel
theorem dX8_wouldThrow_73 : decode cX8_wouldThrow 73 = .ok (.iinc 6 1, 3) := by decide +kernel
theorem dX8_wouldThrow_76 : decode cX8_wouldThrow 76 = .ok (.goto (-62), 3) := by decide +kernel
theorem dX8_wouldThrow_79 : decode cX8_wouldThrow 79 = .ok (.iload 4, 2) := by decide +kernel
theorem dX8_wouldThrow_81 : decode cX8_wouldThrow 81 = .ok (.ireturn, 1) := by decide +kernel
theorem dX9_init_0 : decode cX9_init 0 = .ok (.aload_n 0, 1) := by decide +kernel
theorem dX9_init_1 : decode cX9_init 1 = .ok (.invokespecial 3, 3) := by decide +kernel
theorem dX9_init_4 : decode cX9_init 4 = .ok (.aload_n 0, 1) := by decide +kernel
theorem dX9_init_5 : decode cX9_init 5 = .ok (.new 9, 3) := by decide +kernel
theorem dX9_init_8 : decode cX9_init 8 = .ok (.dup, 1) := by decide +kernel
theorem dX9_init_9 : decode cX9_init 9 = .ok (.invokespecial 11, 3) := by decide +kernel
theorem dX9_init_12 : decode cX9_init 12 = .ok (.putfield 12, 3) := by decide +kernel
theorem dX9_init_15 : decode cX9_init 15 = .ok (.aload_n 0, 1) := by decide +kernel
theorem dX9_init_16 : decode cX9_init 16 = .ok (.new 18, 3) := by decide +kernel
theorem dX9_init_19 : decode cX9_init 19 = .ok (.dup, 1) := by decide +kernel
theorem dX9_init_20 : decode cX9_init 20 = .ok (.invokespecial 20, 3) := by decide +kernel
theorem dX9_init_23 : decode cX9_init 23 = .ok (.putfield 21, 3) := by decide +kernel
theorem dX9_init_26 : decode cX9_init 26 = .ok (.aload_n 0, 1) := by decide +kernel
theorem dX9_init_27 : decode cX9_init 27 = .ok (.new 24, 3) := by decide +kernel
theorem dX9_init_30 : decode cX9_init 30 = .ok (.dup, 1) := by decide +kernel
theorem dX9_init_31 : decode cX9_init 31 = .ok (.invokespecial 26, 3) := by decide +kernel
theorem dX9_init_34 : decode cX9_init 34 = .ok (.putfield 27, 3) := by decide +kernel
theorem dX9_init_37 : decode cX9_init 37 = .ok (.aload_n 0, 1) := by decide +kernel
theorem dX9_init_38 : decode cX9_init 38 = .ok (.new 30, 3) := by decide +kernel
theorem dX9_init_41 : decode cX9_init 41 = .ok (.dup, 1) := by decide +kernel
theorem dX9_init_42 : decode cX9_init 42 = .ok (.invokespecial 32, 3) := by decide +kernel
theorem dX9_init_45 : decode cX9_init 45 = .ok (.putfield 33, 3) := by decide +kernel
theorem dX9_init_48 : decode cX9_init 48 = .ok (.aload_n 0, 1) := by decide +kernel
theorem dX9_init_49 : decode cX9_init 49 = .ok (.bipush 6, 2) := by decide +kernel
theorem dX9_init_51 : decode cX9_init 51 = .ok (.newarray .int, 2) := by decide +kernel
theorem dX9_init_53 : decode cX9_init 53 = .ok (.putfield 36, 3) := by decide +kernel
theorem dX9_init_56 : decode cX9_init 56 = .ok (.aload_n 0, 1) := by decide +kernel
theorem dX9_init_57 : decode cX9_init 57 = .ok (.iconst 4, 1) := by decide +kernel
theorem dX9_init_58 : decode cX9_init 58 = .ok (.newarray .int, 2) := by decide +kernel
theorem dX9_init_60 : decode cX9_init 60 = .ok (.putfield 40, 3) := by decide +kernel
theorem dX9_init_63 : decode cX9_init 63 = .ok (.aload_n 0, 1) := by decide +kernel
theorem dX9_init_64 : decode cX9_init 64 = .ok (.iconst 4, 1) := by decide +kernel
theorem dX9_init_65 : decode cX9_init 65 = .ok (.newarray .int, 2) := by decide +kernel
theorem dX9_init_67 : decode cX9_init 67 = .ok (.putfield 43, 3) := by decide +kernel
theorem dX9_init_70 : decode cX9_init 70 = .ok (.aload_n 0, 1) := by decide +kernel
theorem dX9_init_71 : decode cX9_init 71 = .ok (.bipush 24, 2) := by decide +kernel
theorem dX9_init_73 : decode cX9_init 73 = .ok (.newarray .int, 2) := by decide +kernel
theorem dX9_init_75 : decode cX9_init 75 = .ok (.putfield 46, 3) := by decide +kernel
theorem dX9_init_78 : decode cX9_init 78 = .ok (.aload_n 0, 1) := by decide +kernel
theorem dX9_init_79 : decode cX9_init 79 = .ok (.new 49, 3) := by decide +kernel
theorem dX9_init_82 : decode cX9_init 82 = .ok (.dup, 1) := by decide +kernel
theorem dX9_init_83 : decode cX9_init 83 = .ok (.invokespecial 51, 3) := by decide +kernel
theorem dX9_init_86 : decode cX9_init 86 = .ok (.putfield 52, 3) := by decide +kernel
theorem dX9_init_89 : decode cX9_init 89 = .ok (.aload_n 0, 1) := by decide +kernel
theorem dX9_init_90 : decode cX9_init 90 = .ok (.iconst 1, 1) := by decide +kernel
theorem dX9_init_91 : decode cX9_init 91 = .ok (.putfield 56, 3) := by decide +kernel
theorem dX9_init_94 : decode cX9_init 94 = .ok (.aload_n 0, 1) := by decide +kernel
theorem dX9_init_95 : decode cX9_init 95 = .ok (.iconst 0, 1) := by decide +kernel
theorem dX9_init_96 : decode cX9_init 96 = .ok (.putfield 60, 3) := by decide +kernel
theorem dX9_init_99 : decode cX9_init 99 = .ok (.aload_n 0, 1) := by decide +kernel
theorem dX9_init_100 : decode cX9_init 100 = .ok (.getfield 36, 3) := by decide +kernel
theorem dX9_init_103 : decode cX9_init 103 = .ok (.iconst 0, 1) := by decide +kernel
theorem dX9_init_104 : decode cX9_init 104 = .ok (.iconst 1, 1) := by decide +kernel
theorem dX9_init_105 : decode cX9_init 105 = .ok (.iastore, 1) := by decide +kernel
theorem dX9_init_106 : decode cX9_init 106 = .ok (.return_, 1) := by decide +kernel
theorem dX9_copyFrom_0 : decode cX9_copyFrom 0 = .ok (.aload_n 1, 1) := by decide +kernel
theorem dX9_copyFrom_1 : decode cX9_copyFrom 1 = .ok (.getfield 36, 3) := by decide +kernel
theorem dX9_copyFrom_4 : decode cX9_copyFrom 4 = .ok (.iconst 0, 1) := by decide +kernel
theorem dX9_copyFrom_5 : decode cX9_copyFrom 5 = .ok (.aload_n 0, 1) := by decide +kernel
theorem dX9_copyFrom_6 : decode cX9_copyFrom 6 = .ok (.getfield 36, 3) := by decide +kernel
theorem dX9_copyFrom_9 : decode cX9_copyFrom 9 = .ok (.iconst 0, 1) := by decide +kernel
theorem dX9_copyFrom_10 : decode cX9_copyFrom 10 = .ok (.bipush 6, 2) := by decide +kernel
theorem dX9_copyFrom_12 : decode cX9_copyFrom 12 = .ok (.invokestatic 63, 3) := by decide +kernel
theorem dX9_copyFrom_15 : decode cX9_copyFrom 15 = .ok (.aload_n 1, 1) := by decide +kernel
theorem dX9_copyFrom_16 : decode cX9_copyFrom 16 = .ok (.getfield 40, 3) := by decide +kernel
theorem dX9_copyFrom_19 : decode cX9_copyFrom 19 = .ok (.iconst 0, 1) := by decide +kernel
theorem dX9_copyFrom_20 : decode cX9_copyFrom 20 = .ok (.aload_n 0, 1) := by decide +kernel
theorem dX9_copyFrom_21 : decode cX9_copyFrom 21 = .ok (.getfield 40, 3) := by decide +kernel
theorem dX9_copyFrom_24 : decode cX9_copyFrom 24 = .ok (.iconst 0, 1) := by decide +kernel
theorem dX9_copyFrom_25 : decode cX9_copyFrom 25 = .ok (.iconst 4, 1) := by decide +kernel
theorem dX9_copyFrom_26 : decode cX9_copyFrom 26 = .ok (.invokestatic 63, 3) := by decide +kernel
theorem dX9_copyFrom_29 : decode cX9_copyFrom 29 = .ok (.aload_n 1, 1) := by decide +kernel
theorem dX9_copyFrom_30 : decode cX9_copyFrom 30 = .ok (.getfield 43, 3) := by decide +kernel
theorem dX9_copyFrom_33 : decode cX9_copyFrom 33 = .ok (.iconst 0, 1) := by decide +kernel
theorem dX9_copyFrom_34 : decode cX9_copyFrom 34 = .ok (.aload_n 0, 1) := by decide +kernel
theorem dX9_copyFrom_35 : decode cX9_copyFrom 35 = .ok (.getfield 43, 3) := by decide +kernel
theorem dX9_copyFrom_38 : decode cX9_copyFrom 38 = .ok (.iconst 0, 1) := by decide +kernel
theorem dX9_copyFrom_39 : decode cX9_copyFrom 39 = .ok (.iconst 4, 1) := by decide +kernel
theorem dX9_copyFrom_40 : decode cX9_copyFrom 40 = .ok (.invokestatic 63, 3) := by decide +kernel
theorem dX9_copyFrom_43 : decode cX9_copyFrom 43 = .ok (.aload_n 1, 1) := by decide +kernel
theorem dX9_copyFrom_44 : decode cX9_copyFrom 44 = .ok (.getfield 46, 3) := by decide +kernel
theorem dX9_copyFrom_47 : decode cX9_copyFrom 47 = .ok (.iconst 0, 1) := by decide +kernel
theorem dX9_copyFrom_48 : decode cX9_copyFrom 48 = .ok (.aload_n 0, 1) := by decide +kernel
theorem dX9_copyFrom_49 : decode cX9_copyFrom 49 = .ok (.getfield 46, 3) := by decide +kernel
theorem dX9_copyFrom_52 : decode cX9_copyFrom 52 = .ok (.iconst 0, 1) := by decide +kernel
theorem dX9_copyFrom_53 : decode cX9_copyFrom 53 = .ok (.bipush 24, 2) := by decide +kernel
theorem dX9_copyFrom_55 : decode cX9_copyFrom 55 = .ok (.invokestatic 63, 3) := by decide +kernel
theorem dX9_copyFrom_58 : decode cX9_copyFrom 58 = .ok (.aload_n 0, 1) := by decide +kernel
theorem dX9_copyFrom_59 : decode cX9_copyFrom 59 = .ok (.getfield 52, 3) := by decide +kernel
theorem dX9_copyFrom_62 : decode cX9_copyFrom 62 = .ok (.aload_n 1, 1) := by decide +kernel
theorem dX9_copyFrom_63 : decode cX9_copyFrom 63 = .ok (.getfield 52, 3) := by decide +kernel
theorem dX9_copyFrom_66 : decode cX9_copyFrom 66 = .ok (.invokevirtual 69, 3) := by decide +kernel
theorem dX9_copyFrom_69 : decode cX9_copyFrom 69 = .ok (.aload_n 0, 1) := by decide +kernel
theorem dX9_copyFrom_70 : decode cX9_copyFrom 70 = .ok (.aload_n 1, 1) := by decide +kernel
theorem dX9_copyFrom_71 : decode cX9_copyFrom 71 = .ok (.getfield 56, 3) := by decide +kernel
theorem dX9_copyFrom_74 : decode cX9_copyFrom 74 = .ok (.putfield 56, 3) := by decide +kernel
theorem dX9_copyFrom_77 : decode cX9_copyFrom 77 = .ok (.aload_n 0, 1) := by decide +kernel
theorem dX9_copyFrom_78 : decode cX9_copyFrom 78 = .ok (.aload_n 1, 1) := by decide +kernel
theorem dX9_copyFrom_79 : decode cX9_copyFrom 79 = .ok (.getfield 73, 3) := by decide +kernel
theorem dX9_copyFrom_82 : decode cX9_copyFrom 82 = .ok (.putfield 73, 3) := by decide +kernel
theorem dX9_copyFrom_85 : decode cX9_copyFrom 85 = .ok (.aload_n 0, 1) := by decide +kernel
theorem dX9_copyFrom_86 : decode cX9_copyFrom 86 = .ok (.aload_n 1, 1) := by decide +kernel
theorem dX9_copyFrom_87 : decode cX9_copyFrom 87 = .ok (.getfield 60, 3) := by decide +kernel
theorem dX9_copyFrom_90 : decode cX9_copyFrom 90 = .ok (.putfield 60, 3) := by decide +kernel
theorem dX9_copyFrom_93 : decode cX9_copyFrom 93 = .ok (.return_, 1) := by decide +kernel
theorem dX9_hasKind_0 : decode cX9_hasKind 0 = .ok (.iload_n 1, 1) := by decide +kernel
theorem dX9_hasKind_1 : decode cX9_hasKind 1 = .ok (.ifCond .lt 15, 3) := by decide +kernel
theorem dX9_hasKind_4 : decode cX9_hasKind 4 = .ok (.iload_n 1, 1) := by decide +kernel
theorem dX9_hasKind_5 : decode cX9_hasKind 5 = .ok (.aload_n 0, 1) := by decide +kernel
theorem dX9_hasKind_6 : decode cX9_hasKind 6 = .ok (.getfield 56, 3) := by decide +kernel
theorem dX9_hasKind_9 : decode cX9_hasKind 9 = .ok (.if_icmp .ge 7, 3) := by decide +kernel
theorem dX9_hasKind_12 : decode cX9_hasKind 12 = .ok (.iconst 1, 1) := by decide +kernel
theorem dX9_hasKind_13 : decode cX9_hasKind 13 = .ok (.goto 4, 3) := by decide +kernel
theorem dX9_hasKind_16 : decode cX9_hasKind 16 = .ok (.iconst 0, 1) := by decide +kernel
theorem dX9_hasKind_17 : decode cX9_hasKind 17 = .ok (.ireturn, 1) := by decide +kernel
theorem dX9_worthOf_0 : decode cX9_worthOf 0 = .ok (.iload_n 1, 1) := by decide +kernel
theorem dX9_worthOf_1 : decode cX9_worthOf 1 = .ok (.ifCond .lt 18, 3) := by decide +kernel
theorem dX9_worthOf_4 : decode cX9_worthOf 4 = .ok (.iload_n 1, 1) := by decide +kernel
theorem dX9_worthOf_5 : decode cX9_worthOf 5 = .ok (.bipush 6, 2) := by decide +kernel
theorem dX9_worthOf_7 : decode cX9_worthOf 7 = .ok (.if_icmp .ge 12, 3) := by decide +kernel
theorem dX9_worthOf_10 : decode cX9_worthOf 10 = .ok (.aload_n 0, 1) := by decide +kernel
theorem dX9_worthOf_11 : decode cX9_worthOf 11 = .ok (.getfield 36, 3) := by decide +kernel
theorem dX9_worthOf_14 : decode cX9_worthOf 14 = .ok (.iload_n 1, 1) := by decide +kernel
theorem dX9_worthOf_15 : decode cX9_worthOf 15 = .ok (.iaload, 1) := by decide +kernel
theorem dX9_worthOf_16 : decode cX9_worthOf 16 = .ok (.goto 4, 3) := by decide +kernel
theorem dX9_worthOf_19 : decode cX9_worthOf 19 = .ok (.iconst 0, 1) := by decide +kernel
theorem dX9_worthOf_20 : decode cX9_worthOf 20 = .ok (.ireturn, 1) := by decide +kernel
theorem dX9_addKind_0 : decode cX9_addKind 0 = .ok (.aload_n 0, 1) := by decide +kernel
theorem dX9_addKind_1 : decode cX9_addKind 1 = .ok (.getfield 56, 3) := by decide +kernel
theorem dX9_addKind_4 : decode cX9_addKind 4 = .ok (.ifCond .lt 32, 3) := by decide +kernel
theorem dX9_addKind_7 : decode cX9_addKind 7 = .ok (.aload_n 0, 1) := by decide +kernel
theorem dX9_addKind_8 : decode cX9_addKind 8 = .ok (.getfield 56, 3) := by decide +kernel
theorem dX9_addKind_11 : decode cX9_addKind 11 = .ok (.bipush 6, 2) := by decide +kernel
theorem dX9_addKind_13 : decode cX9_addKind 13 = .ok (.if_icmp .ge 23, 3) := by decide +kernel
theorem dX9_addKind_16 : decode cX9_addKind 16 = .ok (.aload_n 0, 1) := by decide +kernel
theorem dX9_addKind_17 : decode cX9_addKind 17 = .ok (.getfield 36, 3) := by decide +kernel
theorem dX9_addKind_20 : decode cX9_addKind 20 = .ok (.aload_n 0, 1) := by decide +kernel
theorem dX9_addKind_21 : decode cX9_addKind 21 = .ok (.getfield 56, 3) := by decide +kernel
theorem dX9_addKind_24 : decode cX9_addKind 24 = .ok (.iload_n 1, 1) := by decide +kernel
theorem dX9_addKind_25 : decode cX9_addKind 25 = .ok (.iastore, 1) := by decide +kernel
theorem dX9_addKind_26 : decode cX9_addKind 26 = .ok (.aload_n 0, 1) := by decide +kernel
theorem dX9_addKind_27 : decode cX9_addKind 27 = .ok (.dup, 1) := by decide +kernel
theorem dX9_addKind_28 : decode cX9_addKind 28 = .ok (.getfield 56, 3) := by decide +kernel
theorem dX9_addKind_31 : decode cX9_addKind 31 = .ok (.iconst 1, 1) := by decide +kernel
theorem dX9_addKind_32 : decode cX9_addKind 32 = .ok (.iadd, 1) := by decide +kernel
theorem dX9_addKind_33 : decode cX9_addKind 33 = .ok (.putfield 56, 3) := by decide +kernel
theorem dX9_addKind_36 : decode cX9_addKind 36 = .ok (.return_, 1) := by decide +kernel
theorem dX9_setHabit_0 : decode cX9_setHabit 0 = .ok (.iload_n 1, 1) := by decide +kernel
theorem dX9_setHabit_1 : decode cX9_setHabit 1 = .ok (.invokestatic 76, 3) := by decide +kernel
theorem dX9_setHabit_4 : decode cX9_setHabit 4 = .ok (.ifCond .eq 17, 3) := by decide +kernel
theorem dX9_setHabit_7 : decode cX9_setHabit 7 = .ok (.aload_n 0, 1) := by decide +kernel
theorem dX9_setHabit_8 : decode cX9_setHabit 8 = .ok (.getfield 40, 3) := by decide +kernel
theorem dX9_setHabit_11 : decode cX9_setHabit 11 = .ok (.iload_n 1, 1) := by decide +kernel
theorem dX9_setHabit_12 : decode cX9_setHabit 12 = .ok (.iload_n 2, 1) := by decide +kernel
theorem dX9_setHabit_13 : decode cX9_setHabit 13 = .ok (.iastore, 1) := by decide +kernel
theorem dX9_setHabit_14 : decode cX9_setHabit 14 = .ok (.aload_n 0, 1) := by decide +kernel
theorem dX9_setHabit_15 : decode cX9_setHabit 15 = .ok (.getfield 43, 3) := by decide +kernel
theorem dX9_setHabit_18 : decode cX9_setHabit 18 = .ok (.iload_n 1, 1) := by decide +kernel
theorem dX9_setHabit_19 : decode cX9_setHabit 19 = .ok (.iload_n 3, 1) := by decide +kernel
theorem dX9_setHabit_20 : decode cX9_setHabit 20 = .ok (.iastore, 1) := by decide +kernel
theorem dX9_setHabit_21 : decode cX9_setHabit 21 = .ok (.return_, 1) := by decide +kernel
theorem dX9_boundOf_0 : decode cX9_boundOf 0 = .ok (.iload_n 1, 1) := by decide +kernel
theorem dX9_boundOf_1 : decode cX9_boundOf 1 = .ok (.ifCond .lt 17, 3) := by decide +kernel
theorem dX9_boundOf_4 : decode cX9_boundOf 4 = .ok (.iload_n 1, 1) := by decide +kernel
theorem dX9_boundOf_5 : decode cX9_boundOf 5 = .ok (.iconst 4, 1) := by decide +kernel
theorem dX9_boundOf_6 : decode cX9_boundOf 6 = .ok (.if_icmp .ge 12, 3) := by decide +kernel
theorem dX9_boundOf_9 : decode cX9_boundOf 9 = .ok (.aload_n 0, 1) := by decide +kernel
theorem dX9_boundOf_10 : decode cX9_boundOf 10 = .ok (.getfield 43, 3) := by decide +kernel
theorem dX9_boundOf_13 : decode cX9_boundOf 13 = .ok (.iload_n 1, 1) := by decide +kernel
theorem dX9_boundOf_14 : decode cX9_boundOf 14 = .ok (.iaload, 1) := by decide +kernel
theorem dX9_boundOf_15 : decode cX9_boundOf 15 = .ok (.goto 4, 3) := by decide +kernel
theorem dX9_boundOf_18 : decode cX9_boundOf 18 = .ok (.iconst 0, 1) := by decide +kernel
theorem dX9_boundOf_19 : decode cX9_boundOf 19 = .ok (.ireturn, 1) := by decide +kernel
theorem dX9_folkOf_0 : decode cX9_folkOf 0 = .ok (.iload_n 1, 1) := by decide +kernel
theorem dX9_folkOf_1 : decode cX9_folkOf 1 = .ok (.invokestatic 76, 3) := by decide +kernel
theorem dX9_folkOf_4 : decode cX9_folkOf 4 = .ok (.ifCond .eq 12, 3) := by decide +kernel
theorem dX9_folkOf_7 : decode cX9_folkOf 7 = .ok (.aload_n 0, 1) := by decide +kernel
theorem dX9_folkOf_8 : decode cX9_folkOf 8 = .ok (.getfield 40, 3) := by decide +kernel
theorem dX9_folkOf_11 : decode cX9_folkOf 11 = .ok (.iload_n 1, 1) := by decide +kernel
theorem dX9_folkOf_12 : decode cX9_folkOf 12 = .ok (.iaload, 1) := by decide +kernel
theorem dX9_folkOf_13 : decode cX9_folkOf 13 = .ok (.goto 4, 3) := by decide +kernel
theorem dX9_folkOf_16 : decode cX9_folkOf 16 = .ok (.iconst 0, 1) := by decide +kernel
theorem dX9_folkOf_17 : decode cX9_folkOf 17 = .ok (.tableswitch 42 1 3 #[27, 32, 37], 27) := by decide +kernel
theorem dX9_folkOf_44 : decode cX9_folkOf 44 = .ok (.aload_n 0, 1) := by decide +kernel
theorem dX9_folkOf_45 : decode cX9_folkOf 45 = .ok (.getfield 21, 3) := by decide +kernel
theorem dX9_folkOf_48 : decode cX9_folkOf 48 = .ok (.areturn, 1) := by decide +kernel
theorem dX9_folkOf_49 : decode cX9_folkOf 49 = .ok (.aload_n 0, 1) := by decide +kernel
theorem dX9_folkOf_50 : decode cX9_folkOf 50 = .ok (.getfield 27, 3) := by decide +kernel
theorem dX9_folkOf_53 : decode cX9_folkOf 53 = .ok (.areturn, 1) := by decide +kernel
theorem dX9_folkOf_54 : decode cX9_folkOf 54 = .ok (.aload_n 0, 1) := by decide +kernel
theorem dX9_folkOf_55 : decode cX9_folkOf 55 = .ok (.getfield 33, 3) := by decide +kernel
theorem dX9_folkOf_58 : decode cX9_folkOf 58 = .ok (.areturn, 1) := by decide +kernel
theorem dX9_folkOf_59 : decode cX9_folkOf 59 = .ok (.aload_n 0, 1) := by decide +kernel
theorem dX9_folkOf_60 : decode cX9_folkOf 60 = .ok (.getfield 12, 3) := by decide +kernel
theorem dX9_folkOf_63 : decode cX9_folkOf 63 = .ok (.areturn, 1) := by decide +kernel
theorem dX9_addVisit_0 : decode cX9_addVisit 0 = .ok (.aload_n 0, 1) := by decide +kernel
theorem dX9_addVisit_1 : decode cX9_addVisit 1 = .ok (.getfield 73, 3) := by decide +kernel
theorem dX9_addVisit_4 : decode cX9_addVisit 4 = .ok (.ifCond .lt 32, 3) := by decide +kernel
theorem dX9_addVisit_7 : decode cX9_addVisit 7 = .ok (.aload_n 0, 1) := by decide +kernel
theorem dX9_addVisit_8 : decode cX9_addVisit 8 = .ok (.getfield 73, 3) := by decide +kernel
theorem dX9_addVisit_11 : decode cX9_addVisit 11 = .ok (.bipush 24, 2) := by decide +kernel
theorem dX9_addVisit_13 : decode cX9_addVisit 13 = .ok (.if_icmp .ge 23, 3) := by decide +kernel
theorem dX9_addVisit_16 : decode cX9_addVisit 16 = .ok (.aload_n 0, 1) := by decide +kernel
theorem dX9_addVisit_17 : decode cX9_addVisit 17 = .ok (.getfield 46, 3) := by decide +kernel
theorem dX9_addVisit_20 : decode cX9_addVisit 20 = .ok (.aload_n 0, 1) := by decide +kernel
theorem dX9_addVisit_21 : decode cX9_addVisit 21 = .ok (.getfield 73, 3) := by decide +kernel
theorem dX9_addVisit_24 : decode cX9_addVisit 24 = .ok (.iload_n 1, 1) := by decide +kernel
theorem dX9_addVisit_25 : decode cX9_addVisit 25 = .ok (.iastore, 1) := by decide +kernel
theorem dX9_addVisit_26 : decode cX9_addVisit 26 = .ok (.aload_n 0, 1) := by decide +kernel
theorem dX9_addVisit_27 : decode cX9_addVisit 27 = .ok (.dup, 1) := by decide +kernel
theorem dX9_addVisit_28 : decode cX9_addVisit 28 = .ok (.getfield 73, 3) := by decide +kernel
theorem dX9_addVisit_31 : decode cX9_addVisit 31 = .ok (.iconst 1, 1) := by decide +kernel
theorem dX9_addVisit_32 : decode cX9_addVisit 32 = .ok (.iadd, 1) := by decide +kernel
theorem dX9_addVisit_33 : decode cX9_addVisit 33 = .ok (.putfield 73, 3) := by decide +kernel
theorem dX9_addVisit_36 : decode cX9_addVisit 36 = .ok (.return_, 1) := by decide +kernel
theorem dX9_visitor_0 : decode cX9_visitor 0 = .ok (.iload_n 1, 1) := by decide +kernel
theorem dX9_visitor_1 : decode cX9_visitor 1 = .ok (.ifCond .lt 26, 3) := by decide +kernel
theorem dX9_visitor_4 : decode cX9_visitor 4 = .ok (.iload_n 1, 1) := by decide +kernel
theorem dX9_visitor_5 : decode cX9_visitor 5 = .ok (.aload_n 0, 1) := by decide +kernel
theorem dX9_visitor_6 : decode cX9_visitor 6 = .ok (.getfield 73, 3) := by decide +kernel
theorem dX9_visitor_9 : decode cX9_visitor 9 = .ok (.if_icmp .ge 18, 3) := by decide +kernel
theorem dX9_visitor_12 : decode cX9_visitor 12 = .ok (.iload_n 1, 1) := by decide +kernel
theorem dX9_visitor_13 : decode cX9_visitor 13 = .ok (.bipush 24, 2) := by decide +kernel
theorem dX9_visitor_15 : decode cX9_visitor 15 = .ok (.if_icmp .ge 12, 3) := by decide +kernel
theorem dX9_visitor_18 : decode cX9_visitor 18 = .ok (.aload_n 0, 1) := by decide +kernel
theorem dX9_visitor_19 : decode cX9_visitor 19 = .ok (.getfield 46, 3) := by decide +kernel
theorem dX9_visitor_22 : decode cX9_visitor 22 = .ok (.iload_n 1, 1) := by decide +kernel
theorem dX9_visitor_23 : decode cX9_visitor 23 = .ok (.iaload, 1) := by decide +kernel
theorem dX9_visitor_24 : decode cX9_visitor 24 = .ok (.goto 4, 3) := by decide +kernel
theorem dX9_visitor_27 : decode cX9_visitor 27 = .ok (.iconst (-1), 1) := by decide +kernel
theorem dX9_visitor_28 : decode cX9_visitor 28 = .ok (.ireturn, 1) := by decide +kernel
theorem dX9_visitsLeft_0 : decode cX9_visitsLeft 0 = .ok (.iconst 0, 1) := by decide +kernel
theorem dX9_visitsLeft_1 : decode cX9_visitsLeft 1 = .ok (.istore_n 3, 1) := by decide +kernel
theorem dX9_visitsLeft_2 : decode cX9_visitsLeft 2 = .ok (.aload_n 1, 1) := by decide +kernel
theorem dX9_visitsLeft_3 : decode cX9_visitsLeft 3 = .ok (.getfield 80, 3) := by decide +kernel
theorem dX9_visitsLeft_6 : decode cX9_visitsLeft 6 = .ok (.istore 4, 2) := by decide +kernel
theorem dX9_visitsLeft_8 : decode cX9_visitsLeft 8 = .ok (.iload 4, 2) := by decide +kernel
theorem dX9_visitsLeft_10 : decode cX9_visitsLeft 10 = .ok (.aload_n 0, 1) := by decide +kernel
theorem dX9_visitsLeft_11 : decode cX9_visitsLeft 11 = .ok (.getfield 73, 3) := by decide +kernel
theorem dX9_visitsLeft_14 : decode cX9_visitsLeft 14 = .ok (.if_icmp .ge 22, 3) := by decide +kernel
theorem dX9_visitsLeft_17 : decode cX9_visitsLeft 17 = .ok (.iload_n 3, 1) := by decide +kernel
theorem dX9_visitsLeft_18 : decode cX9_visitsLeft 18 = .ok (.iload_n 2, 1) := by decide +kernel
theorem dX9_visitsLeft_19 : decode cX9_visitsLeft 19 = .ok (.aload_n 0, 1) := by decide +kernel
theorem dX9_visitsLeft_20 : decode cX9_visitsLeft 20 = .ok (.iload 4, 2) := by decide +kernel
theorem dX9_visitsLeft_22 : decode cX9_visitsLeft 22 = .ok (.invokevirtual 83, 3) := by decide +kernel
theorem dX9_visitsLeft_25 : decode cX9_visitsLeft 25 = .ok (.ishr, 1) := by decide +kernel
theorem dX9_visitsLeft_26 : decode cX9_visitsLeft 26 = .ok (.iconst 1, 1) := by decide +kernel
theorem dX9_visitsLeft_27 : decode cX9_visitsLeft 27 = .ok (.iand, 1) := by decide +kernel
theorem dX9_visitsLeft_28 : decode cX9_visitsLeft 28 = .ok (.iadd, 1) := by decide +kernel
theorem dX9_visitsLeft_29 : decode cX9_visitsLeft 29 = .ok (.istore_n 3, 1) := by decide +kernel
theorem dX9_visitsLeft_30 : decode cX9_visitsLeft 30 = .ok (.iinc 4 1, 3) := by decide +kernel
theorem dX9_visitsLeft_33 : decode cX9_visitsLeft 33 = .ok (.goto (-25), 3) := by decide +kernel
theorem dX9_visitsLeft_36 : decode cX9_visitsLeft 36 = .ok (.iload_n 3, 1) := by decide +kernel
theorem dX9_visitsLeft_37 : decode cX9_visitsLeft 37 = .ok (.ireturn, 1) := by decide +kernel
theorem dX9_wealth_0 : decode cX9_wealth 0 = .ok (.iconst 0, 1) := by decide +kernel
theorem dX9_wealth_1 : decode cX9_wealth 1 = .ok (.istore_n 3, 1) := by decide +kernel
theorem dX9_wealth_2 : decode cX9_wealth 2 = .ok (.iconst 0, 1) := by decide +kernel
theorem dX9_wealth_3 : decode cX9_wealth 3 = .ok (.istore 4, 2) := by decide +kernel
theorem dX9_wealth_5 : decode cX9_wealth 5 = .ok (.iload 4, 2) := by decide +kernel
theorem dX9_wealth_7 : decode cX9_wealth 7 = .ok (.aload_n 0, 1) := by decide +kernel
theorem dX9_wealth_8 : decode cX9_wealth 8 = .ok (.getfield 56, 3) := by decide +kernel
theorem dX9_wealth_11 : decode cX9_wealth 11 = .ok (.if_icmp .ge 26, 3) := by decide +kernel
theorem dX9_wealth_14 : decode cX9_wealth 14 = .ok (.iload_n 3, 1) := by decide +kernel
theorem dX9_wealth_15 : decode cX9_wealth 15 = .ok (.aload_n 0, 1) := by decide +kernel
theorem dX9_wealth_16 : decode cX9_wealth 16 = .ok (.iload 4, 2) := by decide +kernel
theorem dX9_wealth_18 : decode cX9_wealth 18 = .ok (.invokevirtual 87, 3) := by decide +kernel
theorem dX9_wealth_21 : decode cX9_wealth 21 = .ok (.aload_n 1, 1) := by decide +kernel
theorem dX9_wealth_22 : decode cX9_wealth 22 = .ok (.iload_n 2, 1) := by decide +kernel
theorem dX9_wealth_23 : decode cX9_wealth 23 = .ok (.iload 4, 2) := by decide +kernel
theorem dX9_wealth_25 : decode cX9_wealth 25 = .ok (.invokevirtual 90, 3) := by decide +kernel
theorem dX9_wealth_28 : decode cX9_wealth 28 = .ok (.imul, 1) := by decide +kernel
theorem dX9_wealth_29 : decode cX9_wealth 29 = .ok (.iadd, 1) := by decide +kernel
theorem dX9_wealth_30 : decode cX9_wealth 30 = .ok (.istore_n 3, 1) := by decide +kernel
theorem dX9_wealth_31 : decode cX9_wealth 31 = .ok (.iinc 4 1, 3) := by decide +kernel
theorem dX9_wealth_34 : decode cX9_wealth 34 = .ok (.goto (-29), 3) := by decide +kernel
theorem dX9_wealth_37 : decode cX9_wealth 37 = .ok (.iload_n 3, 1) := by decide +kernel
theorem dX9_wealth_38 : decode cX9_wealth 38 = .ok (.ireturn, 1) := by decide +kernel
theorem dX9_gainOf_0 : decode cX9_gainOf 0 = .ok (.aload_n 0, 1) := by decide +kernel
theorem dX9_gainOf_1 : decode cX9_gainOf 1 = .ok (.iload_n 2, 1) := by decide +kernel
theorem dX9_gainOf_2 : decode cX9_gainOf 2 = .ok (.invokevirtual 87, 3) := by decide +kernel
theorem dX9_gainOf_5 : decode cX9_gainOf 5 = .ok (.ineg, 1) := by decide +kernel
theorem dX9_gainOf_6 : decode cX9_gainOf 6 = .ok (.istore_n 3, 1) := by decide +kernel
theorem dX9_gainOf_7 : decode cX9_gainOf 7 = .ok (.aload_n 0, 1) := by decide +kernel
theorem dX9_gainOf_8 : decode cX9_gainOf 8 = .ok (.iload_n 2, 1) := by decide +kernel
theorem dX9_gainOf_9 : decode cX9_gainOf 9 = .ok (.invokevirtual 94, 3) := by decide +kernel
theorem dX9_gainOf_12 : decode cX9_gainOf 12 = .ok (.istore 4, 2) := by decide +kernel
theorem dX9_gainOf_14 : decode cX9_gainOf 14 = .ok (.iload 4, 2) := by decide +kernel
theorem dX9_gainOf_16 : decode cX9_gainOf 16 = .ok (.ifCond .lt 52, 3) := by decide +kernel
theorem dX9_gainOf_19 : decode cX9_gainOf 19 = .ok (.aload_n 1, 1) := by decide +kernel
theorem dX9_gainOf_20 : decode cX9_gainOf 20 = .ok (.iconst 4, 1) := by decide +kernel
theorem dX9_gainOf_21 : decode cX9_gainOf 21 = .ok (.iload 4, 2) := by decide +kernel
theorem dX9_gainOf_23 : decode cX9_gainOf 23 = .ok (.invokevirtual 90, 3) := by decide +kernel
theorem dX9_gainOf_26 : decode cX9_gainOf 26 = .ok (.aload_n 0, 1) := by decide +kernel
theorem dX9_gainOf_27 : decode cX9_gainOf 27 = .ok (.invokevirtual 97, 3) := by decide +kernel
theorem dX9_gainOf_30 : decode cX9_gainOf 30 = .ok (.invokestatic 101, 3) := by decide +kernel
theorem dX9_gainOf_33 : decode cX9_gainOf 33 = .ok (.istore 5, 2) := by decide +kernel
theorem dX9_gainOf_35 : decode cX9_gainOf 35 = .ok (.iload_n 3, 1) := by decide +kernel
theorem dX9_gainOf_36 : decode cX9_gainOf 36 = .ok (.aload_n 0, 1) := by decide +kernel
theorem dX9_gainOf_37 : decode cX9_gainOf 37 = .ok (.iload 4, 2) := by decide +kernel
theorem dX9_gainOf_39 : decode cX9_gainOf 39 = .ok (.invokevirtual 87, 3) := by decide +kernel
theorem dX9_gainOf_42 : decode cX9_gainOf 42 = .ok (.iload 5, 2) := by decide +kernel
theorem dX9_gainOf_44 : decode cX9_gainOf 44 = .ok (.imul, 1) := by decide +kernel
theorem dX9_gainOf_45 : decode cX9_gainOf 45 = .ok (.iadd, 1) := by decide +kernel
theorem dX9_gainOf_46 : decode cX9_gainOf 46 = .ok (.istore_n 3, 1) := by decide +kernel
theorem dX9_gainOf_47 : decode cX9_gainOf 47 = .ok (.iload 5, 2) := by decide +kernel
theorem dX9_gainOf_49 : decode cX9_gainOf 49 = .ok (.ifCond .le 13, 3) := by decide +kernel
theorem dX9_gainOf_52 : decode cX9_gainOf 52 = .ok (.aload_n 0, 1) := by decide +kernel
theorem dX9_gainOf_53 : decode cX9_gainOf 53 = .ok (.invokevirtual 106, 3) := by decide +kernel
theorem dX9_gainOf_56 : decode cX9_gainOf 56 = .ok (.ifCond .eq 6, 3) := by decide +kernel
theorem dX9_gainOf_59 : decode cX9_gainOf 59 = .ok (.goto 9, 3) := by decide +kernel
theorem dX9_gainOf_62 : decode cX9_gainOf 62 = .ok (.iinc 4 (-1), 3) := by decide +kernel
theorem dX9_gainOf_65 : decode cX9_gainOf 65 = .ok (.goto (-51), 3) := by decide +kernel
theorem dX9_gainOf_68 : decode cX9_gainOf 68 = .ok (.iload_n 3, 1) := by decide +kernel
theorem dX9_gainOf_69 : decode cX9_gainOf 69 = .ok (.ireturn, 1) := by decide +kernel
theorem dX9_throwCoin_0 : decode cX9_throwCoin 0 = .ok (.aload_n 0, 1) := by decide +kernel
theorem dX9_throwCoin_1 : decode cX9_throwCoin 1 = .ok (.iload_n 3, 1) := by decide +kernel
theorem dX9_throwCoin_2 : decode cX9_throwCoin 2 = .ok (.invokevirtual 94, 3) := by decide +kernel
theorem dX9_throwCoin_5 : decode cX9_throwCoin 5 = .ok (.istore 4, 2) := by decide +kernel
theorem dX9_throwCoin_7 : decode cX9_throwCoin 7 = .ok (.iload 4, 2) := by decide +kernel
theorem dX9_throwCoin_9 : decode cX9_throwCoin 9 = .ok (.ifCond .lt 59, 3) := by decide +kernel
theorem dX9_throwCoin_12 : decode cX9_throwCoin 12 = .ok (.aload_n 1, 1) := by decide +kernel
theorem dX9_throwCoin_13 : decode cX9_throwCoin 13 = .ok (.iconst 4, 1) := by decide +kernel
theorem dX9_throwCoin_14 : decode cX9_throwCoin 14 = .ok (.iload 4, 2) := by decide +kernel
theorem dX9_throwCoin_16 : decode cX9_throwCoin 16 = .ok (.invokevirtual 90, 3) := by decide +kernel
theorem dX9_throwCoin_19 : decode cX9_throwCoin 19 = .ok (.aload_n 0, 1) := by decide +kernel
theorem dX9_throwCoin_20 : decode cX9_throwCoin 20 = .ok (.invokevirtual 97, 3) := by decide +kernel
theorem dX9_throwCoin_23 : decode cX9_throwCoin 23 = .ok (.invokestatic 101, 3) := by decide +kernel
theorem dX9_throwCoin_26 : decode cX9_throwCoin 26 = .ok (.istore 5, 2) := by decide +kernel
theorem dX9_throwCoin_28 : decode cX9_throwCoin 28 = .ok (.aload_n 1, 1) := by decide +kernel
theorem dX9_throwCoin_29 : decode cX9_throwCoin 29 = .ok (.iconst 4, 1) := by decide +kernel
theorem dX9_throwCoin_30 : decode cX9_throwCoin 30 = .ok (.iload 4, 2) := by decide +kernel
theorem dX9_throwCoin_32 : decode cX9_throwCoin 32 = .ok (.iload 5, 2) := by decide +kernel
theorem dX9_throwCoin_34 : decode cX9_throwCoin 34 = .ok (.ineg, 1) := by decide +kernel
theorem dX9_throwCoin_35 : decode cX9_throwCoin 35 = .ok (.invokevirtual 110, 3) := by decide +kernel
theorem dX9_throwCoin_38 : decode cX9_throwCoin 38 = .ok (.aload_n 1, 1) := by decide +kernel
theorem dX9_throwCoin_39 : decode cX9_throwCoin 39 = .ok (.iload_n 2, 1) := by decide +kernel
theorem dX9_throwCoin_40 : decode cX9_throwCoin 40 = .ok (.iload 4, 2) := by decide +kernel
theorem dX9_throwCoin_42 : decode cX9_throwCoin 42 = .ok (.iload 5, 2) := by decide +kernel
theorem dX9_throwCoin_44 : decode cX9_throwCoin 44 = .ok (.invokevirtual 110, 3) := by decide +kernel
theorem dX9_throwCoin_47 : decode cX9_throwCoin 47 = .ok (.iload 5, 2) := by decide +kernel
theorem dX9_throwCoin_49 : decode cX9_throwCoin 49 = .ok (.ifCond .le 13, 3) := by decide +kernel
theorem dX9_throwCoin_52 : decode cX9_throwCoin 52 = .ok (.aload_n 0, 1) := by decide +kernel
theorem dX9_throwCoin_53 : decode cX9_throwCoin 53 = .ok (.invokevirtual 106, 3) := by decide +kernel
theorem dX9_throwCoin_56 : decode cX9_throwCoin 56 = .ok (.ifCond .eq 6, 3) := by decide +kernel
theorem dX9_throwCoin_59 : decode cX9_throwCoin 59 = .ok (.goto 9, 3) := by decide +kernel
theorem dX9_throwCoin_62 : decode cX9_throwCoin 62 = .ok (.iinc 4 (-1), 3) := by decide +kernel
theorem dX9_throwCoin_65 : decode cX9_throwCoin 65 = .ok (.goto (-58), 3) := by decide +kernel
theorem dX9_throwCoin_68 : decode cX9_throwCoin 68 = .ok (.aload_n 1, 1) := by decide +kernel
theorem dX9_throwCoin_69 : decode cX9_throwCoin 69 = .ok (.iload_n 2, 1) := by decide +kernel
theorem dX9_throwCoin_70 : decode cX9_throwCoin 70 = .ok (.iload_n 3, 1) := by decide +kernel
theorem dX9_throwCoin_71 : decode cX9_throwCoin 71 = .ok (.iconst (-1), 1) := by decide +kernel
theorem dX9_throwCoin_72 : decode cX9_throwCoin 72 = .ok (.invokevirtual 110, 3) := by decide +kernel
theorem dX9_throwCoin_75 : decode cX9_throwCoin 75 = .ok (.aload_n 1, 1) := by decide +kernel
theorem dX9_throwCoin_76 : decode cX9_throwCoin 76 = .ok (.iconst 4, 1) := by decide +kernel
theorem dX9_throwCoin_77 : decode cX9_throwCoin 77 = .ok (.iload_n 3, 1) := by decide +kernel
theorem dX9_throwCoin_78 : decode cX9_throwCoin 78 = .ok (.iconst 1, 1) := by decide +kernel
theorem dX9_throwCoin_79 : decode cX9_throwCoin 79 = .ok (.invokevirtual 110, 3) := by decide +kernel
theorem dX9_throwCoin_82 : decode cX9_throwCoin 82 = .ok (.return_, 1) := by decide +kernel
theorem dX9_greatestTaken_0 : decode cX9_greatestTaken 0 = .ok (.aload_n 0, 1) := by decide +kernel
theorem dX9_greatestTaken_1 : decode cX9_greatestTaken 1 = .ok (.getfield 60, 3) := by decide +kernel
theorem dX9_greatestTaken_4 : decode cX9_greatestTaken 4 = .ok (.iconst 1, 1) := by decide +kernel
theorem dX9_greatestTaken_5 : decode cX9_greatestTaken 5 = .ok (.if_icmp .ne 7, 3) := by decide +kernel
theorem dX9_greatestTaken_8 : decode cX9_greatestTaken 8 = .ok (.iload_n 1, 1) := by decide +kernel
theorem dX9_greatestTaken_9 : decode cX9_greatestTaken 9 = .ok (.goto 6, 3) := by decide +kernel
theorem dX9_greatestTaken_12 : decode cX9_greatestTaken 12 = .ok (.iload_n 1, 1) := by decide +kernel
theorem dX9_greatestTaken_13 : decode cX9_greatestTaken 13 = .ok (.iconst 1, 1) := by decide +kernel
theorem dX9_greatestTaken_14 : decode cX9_greatestTaken 14 = .ok (.isub, 1) := by decide +kernel
theorem dX9_greatestTaken_15 : decode cX9_greatestTaken 15 = .ok (.ireturn, 1) := by decide +kernel
theorem dX9_mostTakenOfKind_0 : decode cX9_mostTakenOfKind 0 = .ok (.aload_n 0, 1) := by decide +kernel
theorem dX9_mostTakenOfKind_1 : decode cX9_mostTakenOfKind 1 = .ok (.getfield 60, 3) := by decide +kernel
theorem dX9_mostTakenOfKind_4 : decode cX9_mostTakenOfKind 4 = .ok (.iconst 2, 1) := by decide +kernel
theorem dX9_mostTakenOfKind_5 : decode cX9_mostTakenOfKind 5 = .ok (.if_icmp .ne 7, 3) := by decide +kernel
theorem dX9_mostTakenOfKind_8 : decode cX9_mostTakenOfKind 8 = .ok (.iconst 1, 1) := by decide +kernel
theorem dX9_mostTakenOfKind_9 : decode cX9_mostTakenOfKind 9 = .ok (.goto 5, 3) := by decide +kernel
theorem dX9_mostTakenOfKind_12 : decode cX9_mostTakenOfKind 12 = .ok (.ldc 114, 2) := by decide +kernel
theorem dX9_mostTakenOfKind_14 : decode cX9_mostTakenOfKind 14 = .ok (.ireturn, 1) := by decide +kernel
theorem dX9_takesOneKind_0 : decode cX9_takesOneKind 0 = .ok (.aload_n 0, 1) := by decide +kernel
theorem dX9_takesOneKind_1 : decode cX9_takesOneKind 1 = .ok (.getfield 60, 3) := by decide +kernel
theorem dX9_takesOneKind_4 : decode cX9_takesOneKind 4 = .ok (.iconst 2, 1) := by decide +kernel
theorem dX9_takesOneKind_5 : decode cX9_takesOneKind 5 = .ok (.if_icmp .eq 11, 3) := by decide +kernel
theorem dX9_takesOneKind_8 : decode cX9_takesOneKind 8 = .ok (.aload_n 0, 1) := by decide +kernel
theorem dX9_takesOneKind_9 : decode cX9_takesOneKind 9 = .ok (.getfield 60, 3) := by decide +kernel
theorem dX9_takesOneKind_12 : decode cX9_takesOneKind 12 = .ok (.iconst 3, 1) := by decide +kernel
theorem dX9_takesOneKind_13 : decode cX9_takesOneKind 13 = .ok (.if_icmp .ne 7, 3) := by decide +kernel
theorem dX9_takesOneKind_16 : decode cX9_takesOneKind 16 = .ok (.iconst 1, 1) := by decide +kernel
theorem dX9_takesOneKind_17 : decode cX9_takesOneKind 17 = .ok (.goto 4, 3) := by decide +kernel
theorem dX9_takesOneKind_20 : decode cX9_takesOneKind 20 = .ok (.iconst 0, 1) := by decide +kernel
theorem dX9_takesOneKind_21 : decode cX9_takesOneKind 21 = .ok (.ireturn, 1) := by decide +kernel
theorem dX9_habitual_0 : decode cX9_habitual 0 = .ok (.aload_n 0, 1) := by decide +kernel
theorem dX9_habitual_1 : decode cX9_habitual 1 = .ok (.aload_n 1, 1) := by decide +kernel
theorem dX9_habitual_2 : decode cX9_habitual 2 = .ok (.getfield 80, 3) := by decide +kernel
theorem dX9_habitual_5 : decode cX9_habitual 5 = .ok (.invokevirtual 83, 3) := by decide +kernel
theorem dX9_habitual_8 : decode cX9_habitual 8 = .ok (.istore_n 2, 1) := by decide +kernel
theorem dX9_habitual_9 : decode cX9_habitual 9 = .ok (.aload_n 0, 1) := by decide +kernel
theorem dX9_habitual_10 : decode cX9_habitual 10 = .ok (.iload_n 2, 1) := by decide +kernel
theorem dX9_habitual_11 : decode cX9_habitual 11 = .ok (.invokevirtual 115, 3) := by decide +kernel
theorem dX9_habitual_14 : decode cX9_habitual 14 = .ok (.aload_n 0, 1) := by decide +kernel
theorem dX9_habitual_15 : decode cX9_habitual 15 = .ok (.aload_n 1, 1) := by decide +kernel
theorem dX9_habitual_16 : decode cX9_habitual 16 = .ok (.iload_n 2, 1) := by decide +kernel
theorem dX9_habitual_17 : decode cX9_habitual 17 = .ok (.invokevirtual 119, 3) := by decide +kernel
theorem dX9_habitual_20 : decode cX9_habitual 20 = .ok (.ireturn, 1) := by decide +kernel
theorem dX9_letVisit_0 : decode cX9_letVisit 0 = .ok (.iload_n 2, 1) := by decide +kernel
theorem dX9_letVisit_1 : decode cX9_letVisit 1 = .ok (.iconst (-1), 1) := by decide +kernel
theorem dX9_letVisit_2 : decode cX9_letVisit 2 = .ok (.if_icmp .eq 17, 3) := by decide +kernel
theorem dX9_letVisit_5 : decode cX9_letVisit 5 = .ok (.aload_n 0, 1) := by decide +kernel
theorem dX9_letVisit_6 : decode cX9_letVisit 6 = .ok (.aload_n 1, 1) := by decide +kernel
theorem dX9_letVisit_7 : decode cX9_letVisit 7 = .ok (.aload_n 0, 1) := by decide +kernel
theorem dX9_letVisit_8 : decode cX9_letVisit 8 = .ok (.aload_n 1, 1) := by decide +kernel
theorem dX9_letVisit_9 : decode cX9_letVisit 9 = .ok (.getfield 80, 3) := by decide +kernel
theorem dX9_letVisit_12 : decode cX9_letVisit 12 = .ok (.invokevirtual 83, 3) := by decide +kernel
theorem dX9_letVisit_15 : decode cX9_letVisit 15 = .ok (.iload_n 2, 1) := by decide +kernel
theorem dX9_letVisit_16 : decode cX9_letVisit 16 = .ok (.invokevirtual 125, 3) := by decide +kernel
theorem dX9_letVisit_19 : decode cX9_letVisit 19 = .ok (.aload_n 1, 1) := by decide +kernel
theorem dX9_letVisit_20 : decode cX9_letVisit 20 = .ok (.dup, 1) := by decide +kernel
theorem dX9_letVisit_21 : decode cX9_letVisit 21 = .ok (.getfield 80, 3) := by decide +kernel
theorem dX9_letVisit_24 : decode cX9_letVisit 24 = .ok (.iconst 1, 1) := by decide +kernel
theorem dX9_letVisit_25 : decode cX9_letVisit 25 = .ok (.iadd, 1) := by decide +kernel
theorem dX9_letVisit_26 : decode cX9_letVisit 26 = .ok (.putfield 80, 3) := by decide +kernel
theorem dX9_letVisit_29 : decode cX9_letVisit 29 = .ok (.return_, 1) := by decide +kernel
theorem dX10_init_0 : decode cX10_init 0 = .ok (.aload_n 0, 1) := by decide +kernel
theorem dX10_init_1 : decode cX10_init 1 = .ok (.invokespecial 3, 3) := by decide +kernel
theorem dX10_init_4 : decode cX10_init 4 = .ok (.return_, 1) := by decide +kernel
theorem dX10_habit_0 : decode cX10_habit 0 = .ok (.iconst 2, 1) := by decide +kernel
theorem dX10_habit_1 : decode cX10_habit 1 = .ok (.ireturn, 1) := by decide +kernel
theorem dX10_leastGain_0 : decode cX10_leastGain 0 = .ok (.iconst 1, 1) := by decide +kernel
theorem dX10_leastGain_1 : decode cX10_leastGain 1 = .ok (.aload_n 1, 1) := by decide +kernel
theorem dX10_leastGain_2 : decode cX10_leastGain 2 = .ok (.iload_n 2, 1) := by decide +kernel
theorem dX10_leastGain_3 : decode cX10_leastGain 3 = .ok (.invokevirtual 9, 3) := by decide +kernel
theorem dX10_leastGain_6 : decode cX10_leastGain 6 = .ok (.invokestatic 15, 3) := by decide +kernel
theorem dX10_leastGain_9 : decode cX10_leastGain 9 = .ok (.ireturn, 1) := by decide +kernel
theorem dX10_waitsFor_0 : decode cX10_waitsFor 0 = .ok (.aload_n 1, 1) := by decide +kernel
theorem dX10_waitsFor_1 : decode cX10_waitsFor 1 = .ok (.iload_n 2, 1) := by decide +kernel
theorem dX10_waitsFor_2 : decode cX10_waitsFor 2 = .ok (.invokevirtual 9, 3) := by decide +kernel
theorem dX10_waitsFor_5 : decode cX10_waitsFor 5 = .ok (.ireturn, 1) := by decide +kernel
