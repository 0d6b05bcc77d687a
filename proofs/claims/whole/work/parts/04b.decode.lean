theorem dX2_init_0 : decode cX2_init 0 = .ok (.aload_n 0, 1) := by decide +kernel
theorem dX2_init_1 : decode cX2_init 1 = .ok (.invokespecial 3, 3) := by decide +kernel
theorem dX2_init_4 : decode cX2_init 4 = .ok (.aload_n 0, 1) := by decide +kernel
theorem dX2_init_5 : decode cX2_init 5 = .ok (.bipush 11, 2) := by decide +kernel
theorem dX2_init_7 : decode cX2_init 7 = .ok (.anewarray 11, 3) := by decide +kernel
theorem dX2_init_10 : decode cX2_init 10 = .ok (.putfield 13, 3) := by decide +kernel
theorem dX2_init_13 : decode cX2_init 13 = .ok (.aload_n 0, 1) := by decide +kernel
theorem dX2_init_14 : decode cX2_init 14 = .ok (.bipush 11, 2) := by decide +kernel
theorem dX2_init_16 : decode cX2_init 16 = .ok (.iconst 4, 1) := by decide +kernel
theorem dX2_init_17 : decode cX2_init 17 = .ok (.multianewarray 17 2, 4) := by decide +kernel
theorem dX2_init_21 : decode cX2_init 21 = .ok (.putfield 19, 3) := by decide +kernel
theorem dX2_init_24 : decode cX2_init 24 = .ok (.aload_n 0, 1) := by decide +kernel
theorem dX2_init_25 : decode cX2_init 25 = .ok (.bipush 11, 2) := by decide +kernel
theorem dX2_init_27 : decode cX2_init 27 = .ok (.bipush 11, 2) := by decide +kernel
theorem dX2_init_29 : decode cX2_init 29 = .ok (.multianewarray 17 2, 4) := by decide +kernel
theorem dX2_init_33 : decode cX2_init 33 = .ok (.putfield 22, 3) := by decide +kernel
theorem dX2_init_36 : decode cX2_init 36 = .ok (.aload_n 0, 1) := by decide +kernel
theorem dX2_init_37 : decode cX2_init 37 = .ok (.iconst (-1), 1) := by decide +kernel
theorem dX2_init_38 : decode cX2_init 38 = .ok (.putfield 25, 3) := by decide +kernel
theorem dX2_init_41 : decode cX2_init 41 = .ok (.aload_n 0, 1) := by decide +kernel
theorem dX2_init_42 : decode cX2_init 42 = .ok (.aload_n 1, 1) := by decide +kernel
theorem dX2_init_43 : decode cX2_init 43 = .ok (.putfield 29, 3) := by decide +kernel
theorem dX2_init_46 : decode cX2_init 46 = .ok (.iconst 0, 1) := by decide +kernel
theorem dX2_init_47 : decode cX2_init 47 = .ok (.istore_n 2, 1) := by decide +kernel
theorem dX2_init_48 : decode cX2_init 48 = .ok (.iload_n 2, 1) := by decide +kernel
theorem dX2_init_49 : decode cX2_init 49 = .ok (.bipush 11, 2) := by decide +kernel
theorem dX2_init_51 : decode cX2_init 51 = .ok (.if_icmp .ge 22, 3) := by decide +kernel
theorem dX2_init_54 : decode cX2_init 54 = .ok (.aload_n 0, 1) := by decide +kernel
theorem dX2_init_55 : decode cX2_init 55 = .ok (.getfield 13, 3) := by decide +kernel
theorem dX2_init_58 : decode cX2_init 58 = .ok (.iload_n 2, 1) := by decide +kernel
theorem dX2_init_59 : decode cX2_init 59 = .ok (.new 11, 3) := by decide +kernel
theorem dX2_init_62 : decode cX2_init 62 = .ok (.dup, 1) := by decide +kernel
theorem dX2_init_63 : decode cX2_init 63 = .ok (.invokespecial 33, 3) := by decide +kernel
theorem dX2_init_66 : decode cX2_init 66 = .ok (.aastore, 1) := by decide +kernel
theorem dX2_init_67 : decode cX2_init 67 = .ok (.iinc 2 1, 3) := by decide +kernel
theorem dX2_init_70 : decode cX2_init 70 = .ok (.goto (-22), 3) := by decide +kernel
theorem dX2_init_73 : decode cX2_init 73 = .ok (.return_, 1) := by decide +kernel
theorem dX2_becomeStale_0 : decode cX2_becomeStale 0 = .ok (.aload_n 0, 1) := by decide +kernel
theorem dX2_becomeStale_1 : decode cX2_becomeStale 1 = .ok (.iconst (-1), 1) := by decide +kernel
theorem dX2_becomeStale_2 : decode cX2_becomeStale 2 = .ok (.putfield 25, 3) := by decide +kernel
theorem dX2_becomeStale_5 : decode cX2_becomeStale 5 = .ok (.return_, 1) := by decide +kernel
theorem dX2_foresee_0 : decode cX2_foresee 0 = .ok (.aload_n 0, 1) := by decide +kernel
theorem dX2_foresee_1 : decode cX2_foresee 1 = .ok (.getfield 25, 3) := by decide +kernel
theorem dX2_foresee_4 : decode cX2_foresee 4 = .ok (.iload_n 2, 1) := by decide +kernel
theorem dX2_foresee_5 : decode cX2_foresee 5 = .ok (.if_icmp .ne 4, 3) := by decide +kernel
theorem dX2_foresee_8 : decode cX2_foresee 8 = .ok (.return_, 1) := by decide +kernel
theorem dX2_foresee_9 : decode cX2_foresee 9 = .ok (.aload_n 0, 1) := by decide +kernel
theorem dX2_foresee_10 : decode cX2_foresee 10 = .ok (.iload_n 2, 1) := by decide +kernel
theorem dX2_foresee_11 : decode cX2_foresee 11 = .ok (.putfield 25, 3) := by decide +kernel
theorem dX2_foresee_14 : decode cX2_foresee 14 = .ok (.aload_n 0, 1) := by decide +kernel
theorem dX2_foresee_15 : decode cX2_foresee 15 = .ok (.iconst 0, 1) := by decide +kernel
theorem dX2_foresee_16 : decode cX2_foresee 16 = .ok (.putfield 34, 3) := by decide +kernel
theorem dX2_foresee_19 : decode cX2_foresee 19 = .ok (.aload_n 1, 1) := by decide +kernel
theorem dX2_foresee_20 : decode cX2_foresee 20 = .ok (.getfield 37, 3) := by decide +kernel
theorem dX2_foresee_23 : decode cX2_foresee 23 = .ok (.istore_n 3, 1) := by decide +kernel
theorem dX2_foresee_24 : decode cX2_foresee 24 = .ok (.iload_n 3, 1) := by decide +kernel
theorem dX2_foresee_25 : decode cX2_foresee 25 = .ok (.aload_n 0, 1) := by decide +kernel
theorem dX2_foresee_26 : decode cX2_foresee 26 = .ok (.getfield 29, 3) := by decide +kernel
theorem dX2_foresee_29 : decode cX2_foresee 29 = .ok (.getfield 40, 3) := by decide +kernel
theorem dX2_foresee_32 : decode cX2_foresee 32 = .ok (.if_icmp .ge 38, 3) := by decide +kernel
theorem dX2_foresee_35 : decode cX2_foresee 35 = .ok (.aload_n 0, 1) := by decide +kernel
theorem dX2_foresee_36 : decode cX2_foresee 36 = .ok (.dup, 1) := by decide +kernel
theorem dX2_foresee_37 : decode cX2_foresee 37 = .ok (.getfield 34, 3) := by decide +kernel
theorem dX2_foresee_40 : decode cX2_foresee 40 = .ok (.aload_n 0, 1) := by decide +kernel
theorem dX2_foresee_41 : decode cX2_foresee 41 = .ok (.aload_n 0, 1) := by decide +kernel
theorem dX2_foresee_42 : decode cX2_foresee 42 = .ok (.getfield 29, 3) := by decide +kernel
theorem dX2_foresee_45 : decode cX2_foresee 45 = .ok (.iload_n 3, 1) := by decide +kernel
theorem dX2_foresee_46 : decode cX2_foresee 46 = .ok (.invokevirtual 45, 3) := by decide +kernel
theorem dX2_foresee_49 : decode cX2_foresee 49 = .ok (.invokevirtual 49, 3) := by decide +kernel
theorem dX2_foresee_52 : decode cX2_foresee 52 = .ok (.ifCond .eq 7, 3) := by decide +kernel
theorem dX2_foresee_55 : decode cX2_foresee 55 = .ok (.iconst 1, 1) := by decide +kernel
theorem dX2_foresee_56 : decode cX2_foresee 56 = .ok (.goto 4, 3) := by decide +kernel
theorem dX2_foresee_59 : decode cX2_foresee 59 = .ok (.iconst 0, 1) := by decide +kernel
theorem dX2_foresee_60 : decode cX2_foresee 60 = .ok (.iadd, 1) := by decide +kernel
theorem dX2_foresee_61 : decode cX2_foresee 61 = .ok (.putfield 34, 3) := by decide +kernel
theorem dX2_foresee_64 : decode cX2_foresee 64 = .ok (.iinc 3 1, 3) := by decide +kernel
theorem dX2_foresee_67 : decode cX2_foresee 67 = .ok (.goto (-43), 3) := by decide +kernel
theorem dX2_foresee_70 : decode cX2_foresee 70 = .ok (.aload_n 0, 1) := by decide +kernel
theorem dX2_foresee_71 : decode cX2_foresee 71 = .ok (.getfield 13, 3) := by decide +kernel
theorem dX2_foresee_74 : decode cX2_foresee 74 = .ok (.iconst 0, 1) := by decide +kernel
theorem dX2_foresee_75 : decode cX2_foresee 75 = .ok (.aaload, 1) := by decide +kernel
theorem dX2_foresee_76 : decode cX2_foresee 76 = .ok (.aload_n 1, 1) := by decide +kernel
theorem dX2_foresee_77 : decode cX2_foresee 77 = .ok (.invokevirtual 53, 3) := by decide +kernel
theorem dX2_foresee_80 : decode cX2_foresee 80 = .ok (.aload_n 0, 1) := by decide +kernel
theorem dX2_foresee_81 : decode cX2_foresee 81 = .ok (.iconst 0, 1) := by decide +kernel
theorem dX2_foresee_82 : decode cX2_foresee 82 = .ok (.invokestatic 57, 3) := by decide +kernel
theorem dX2_foresee_85 : decode cX2_foresee 85 = .ok (.return_, 1) := by decide +kernel
theorem dX2_endOf_0 : decode cX2_endOf 0 = .ok (.iload_n 1, 1) := by decide +kernel
theorem dX2_endOf_1 : decode cX2_endOf 1 = .ok (.invokestatic 61, 3) := by decide +kernel
theorem dX2_endOf_4 : decode cX2_endOf 4 = .ok (.ifCond .eq 14, 3) := by decide +kernel
theorem dX2_endOf_7 : decode cX2_endOf 7 = .ok (.aload_n 0, 1) := by decide +kernel
theorem dX2_endOf_8 : decode cX2_endOf 8 = .ok (.getfield 19, 3) := by decide +kernel
theorem dX2_endOf_11 : decode cX2_endOf 11 = .ok (.iconst 0, 1) := by decide +kernel
theorem dX2_endOf_12 : decode cX2_endOf 12 = .ok (.aaload, 1) := by decide +kernel
theorem dX2_endOf_13 : decode cX2_endOf 13 = .ok (.iload_n 1, 1) := by decide +kernel
theorem dX2_endOf_14 : decode cX2_endOf 14 = .ok (.iaload, 1) := by decide +kernel
theorem dX2_endOf_15 : decode cX2_endOf 15 = .ok (.goto 4, 3) := by decide +kernel
theorem dX2_endOf_18 : decode cX2_endOf 18 = .ok (.iconst 0, 1) := by decide +kernel
theorem dX2_endOf_19 : decode cX2_endOf 19 = .ok (.ireturn, 1) := by decide +kernel
theorem dX2_step_0 : decode cX2_step 0 = .ok (.iload_n 1, 1) := by decide +kernel
theorem dX2_step_1 : decode cX2_step 1 = .ok (.ifCond .lt 30, 3) := by decide +kernel
theorem dX2_step_4 : decode cX2_step 4 = .ok (.iload_n 1, 1) := by decide +kernel
theorem dX2_step_5 : decode cX2_step 5 = .ok (.aload_n 0, 1) := by decide +kernel
theorem dX2_step_6 : decode cX2_step 6 = .ok (.getfield 34, 3) := by decide +kernel
theorem dX2_step_9 : decode cX2_step 9 = .ok (.if_icmp .ge 22, 3) := by decide +kernel
theorem dX2_step_12 : decode cX2_step 12 = .ok (.iload_n 1, 1) := by decide +kernel
theorem dX2_step_13 : decode cX2_step 13 = .ok (.bipush 11, 2) := by decide +kernel
theorem dX2_step_15 : decode cX2_step 15 = .ok (.if_icmp .ge 16, 3) := by decide +kernel
theorem dX2_step_18 : decode cX2_step 18 = .ok (.aload_n 0, 1) := by decide +kernel
theorem dX2_step_19 : decode cX2_step 19 = .ok (.getfield 22, 3) := by decide +kernel
theorem dX2_step_22 : decode cX2_step 22 = .ok (.iconst 0, 1) := by decide +kernel
theorem dX2_step_23 : decode cX2_step 23 = .ok (.aaload, 1) := by decide +kernel
theorem dX2_step_24 : decode cX2_step 24 = .ok (.iload_n 1, 1) := by decide +kernel
theorem dX2_step_25 : decode cX2_step 25 = .ok (.iaload, 1) := by decide +kernel
theorem dX2_step_26 : decode cX2_step 26 = .ok (.iconst 1, 1) := by decide +kernel
theorem dX2_step_27 : decode cX2_step 27 = .ok (.iadd, 1) := by decide +kernel
theorem dX2_step_28 : decode cX2_step 28 = .ok (.goto 4, 3) := by decide +kernel
theorem dX2_step_31 : decode cX2_step 31 = .ok (.iconst (-1), 1) := by decide +kernel
theorem dX2_step_32 : decode cX2_step 32 = .ok (.ireturn, 1) := by decide +kernel
theorem dX2_goalOf_0 : decode cX2_goalOf 0 = .ok (.iload_n 1, 1) := by decide +kernel
theorem dX2_goalOf_1 : decode cX2_goalOf 1 = .ok (.invokestatic 61, 3) := by decide +kernel
theorem dX2_goalOf_4 : decode cX2_goalOf 4 = .ok (.ifCond .eq 17, 3) := by decide +kernel
theorem dX2_goalOf_7 : decode cX2_goalOf 7 = .ok (.aload_n 0, 1) := by decide +kernel
theorem dX2_goalOf_8 : decode cX2_goalOf 8 = .ok (.getfield 25, 3) := by decide +kernel
theorem dX2_goalOf_11 : decode cX2_goalOf 11 = .ok (.iconst 4, 1) := by decide +kernel
theorem dX2_goalOf_12 : decode cX2_goalOf 12 = .ok (.iload_n 1, 1) := by decide +kernel
theorem dX2_goalOf_13 : decode cX2_goalOf 13 = .ok (.imul, 1) := by decide +kernel
theorem dX2_goalOf_14 : decode cX2_goalOf 14 = .ok (.ishr, 1) := by decide +kernel
theorem dX2_goalOf_15 : decode cX2_goalOf 15 = .ok (.bipush 15, 2) := by decide +kernel
theorem dX2_goalOf_17 : decode cX2_goalOf 17 = .ok (.iand, 1) := by decide +kernel
theorem dX2_goalOf_18 : decode cX2_goalOf 18 = .ok (.goto 4, 3) := by decide +kernel
theorem dX2_goalOf_21 : decode cX2_goalOf 21 = .ok (.iconst 0, 1) := by decide +kernel
theorem dX2_goalOf_22 : decode cX2_goalOf 22 = .ok (.ireturn, 1) := by decide +kernel
theorem dX2_isFree_0 : decode cX2_isFree 0 = .ok (.aload_n 0, 1) := by decide +kernel
theorem dX2_isFree_1 : decode cX2_isFree 1 = .ok (.iload_n 1, 1) := by decide +kernel
theorem dX2_isFree_2 : decode cX2_isFree 2 = .ok (.invokevirtual 64, 3) := by decide +kernel
theorem dX2_isFree_5 : decode cX2_isFree 5 = .ok (.ifCond .eq 7, 3) := by decide +kernel
theorem dX2_isFree_8 : decode cX2_isFree 8 = .ok (.iconst 1, 1) := by decide +kernel
theorem dX2_isFree_9 : decode cX2_isFree 9 = .ok (.goto 4, 3) := by decide +kernel
theorem dX2_isFree_12 : decode cX2_isFree 12 = .ok (.iconst 0, 1) := by decide +kernel
theorem dX2_isFree_13 : decode cX2_isFree 13 = .ok (.ireturn, 1) := by decide +kernel
theorem dX2_playOn_0 : decode cX2_playOn 0 = .ok (.iload_n 1, 1) := by decide +kernel
theorem dX2_playOn_1 : decode cX2_playOn 1 = .ok (.ifCond .lt 9, 3) := by decide +kernel
theorem dX2_playOn_4 : decode cX2_playOn 4 = .ok (.iload_n 1, 1) := by decide +kernel
theorem dX2_playOn_5 : decode cX2_playOn 5 = .ok (.bipush 11, 2) := by decide +kernel
theorem dX2_playOn_7 : decode cX2_playOn 7 = .ok (.if_icmp .lt 4, 3) := by decide +kernel
theorem dX2_playOn_10 : decode cX2_playOn 10 = .ok (.return_, 1) := by decide +kernel
theorem dX2_playOn_11 : decode cX2_playOn 11 = .ok (.aload_n 0, 1) := by decide +kernel
theorem dX2_playOn_12 : decode cX2_playOn 12 = .ok (.getfield 13, 3) := by decide +kernel
theorem dX2_playOn_15 : decode cX2_playOn 15 = .ok (.iload_n 1, 1) := by decide +kernel
theorem dX2_playOn_16 : decode cX2_playOn 16 = .ok (.aaload, 1) := by decide +kernel
theorem dX2_playOn_17 : decode cX2_playOn 17 = .ok (.astore_n 2, 1) := by decide +kernel
theorem dX2_playOn_18 : decode cX2_playOn 18 = .ok (.aload_n 2, 1) := by decide +kernel
theorem dX2_playOn_19 : decode cX2_playOn 19 = .ok (.getfield 37, 3) := by decide +kernel
theorem dX2_playOn_22 : decode cX2_playOn 22 = .ok (.istore_n 3, 1) := by decide +kernel
theorem dX2_playOn_23 : decode cX2_playOn 23 = .ok (.iload_n 3, 1) := by decide +kernel
theorem dX2_playOn_24 : decode cX2_playOn 24 = .ok (.aload_n 0, 1) := by decide +kernel
theorem dX2_playOn_25 : decode cX2_playOn 25 = .ok (.getfield 29, 3) := by decide +kernel
theorem dX2_playOn_28 : decode cX2_playOn 28 = .ok (.getfield 40, 3) := by decide +kernel
theorem dX2_playOn_31 : decode cX2_playOn 31 = .ok (.if_icmp .ge 40, 3) := by decide +kernel
theorem dX2_playOn_34 : decode cX2_playOn 34 = .ok (.aload_n 0, 1) := by decide +kernel
theorem dX2_playOn_35 : decode cX2_playOn 35 = .ok (.aload_n 0, 1) := by decide +kernel
theorem dX2_playOn_36 : decode cX2_playOn 36 = .ok (.getfield 29, 3) := by decide +kernel
theorem dX2_playOn_39 : decode cX2_playOn 39 = .ok (.iload_n 3, 1) := by decide +kernel
theorem dX2_playOn_40 : decode cX2_playOn 40 = .ok (.invokevirtual 45, 3) := by decide +kernel
theorem dX2_playOn_43 : decode cX2_playOn 43 = .ok (.invokevirtual 49, 3) := by decide +kernel
theorem dX2_playOn_46 : decode cX2_playOn 46 = .ok (.ifCond .ne 25, 3) := by decide +kernel
theorem dX2_playOn_49 : decode cX2_playOn 49 = .ok (.aload_n 0, 1) := by decide +kernel
theorem dX2_playOn_50 : decode cX2_playOn 50 = .ok (.getfield 29, 3) := by decide +kernel
theorem dX2_playOn_53 : decode cX2_playOn 53 = .ok (.aload_n 2, 1) := by decide +kernel
theorem dX2_playOn_54 : decode cX2_playOn 54 = .ok (.aload_n 0, 1) := by decide +kernel
theorem dX2_playOn_55 : decode cX2_playOn 55 = .ok (.getfield 29, 3) := by decide +kernel
theorem dX2_playOn_58 : decode cX2_playOn 58 = .ok (.aload_n 2, 1) := by decide +kernel
theorem dX2_playOn_59 : decode cX2_playOn 59 = .ok (.invokevirtual 67, 3) := by decide +kernel
theorem dX2_playOn_62 : decode cX2_playOn 62 = .ok (.invokevirtual 71, 3) := by decide +kernel
theorem dX2_playOn_65 : decode cX2_playOn 65 = .ok (.iinc 3 1, 3) := by decide +kernel
theorem dX2_playOn_68 : decode cX2_playOn 68 = .ok (.goto (-45), 3) := by decide +kernel
theorem dX2_playOn_71 : decode cX2_playOn 71 = .ok (.aload_n 2, 1) := by decide +kernel
theorem dX2_playOn_72 : decode cX2_playOn 72 = .ok (.getfield 37, 3) := by decide +kernel
theorem dX2_playOn_75 : decode cX2_playOn 75 = .ok (.aload_n 0, 1) := by decide +kernel
theorem dX2_playOn_76 : decode cX2_playOn 76 = .ok (.getfield 29, 3) := by decide +kernel
theorem dX2_playOn_79 : decode cX2_playOn 79 = .ok (.getfield 40, 3) := by decide +kernel
theorem dX2_playOn_82 : decode cX2_playOn 82 = .ok (.if_icmp .ge 11, 3) := by decide +kernel
theorem dX2_playOn_85 : decode cX2_playOn 85 = .ok (.iload_n 1, 1) := by decide +kernel
theorem dX2_playOn_86 : decode cX2_playOn 86 = .ok (.iconst 1, 1) := by decide +kernel
theorem dX2_playOn_87 : decode cX2_playOn 87 = .ok (.iadd, 1) := by decide +kernel
theorem dX2_playOn_88 : decode cX2_playOn 88 = .ok (.bipush 11, 2) := by decide +kernel
theorem dX2_playOn_90 : decode cX2_playOn 90 = .ok (.if_icmp .lt 9, 3) := by decide +kernel
theorem dX2_playOn_93 : decode cX2_playOn 93 = .ok (.aload_n 0, 1) := by decide +kernel
theorem dX2_playOn_94 : decode cX2_playOn 94 = .ok (.iload_n 1, 1) := by decide +kernel
theorem dX2_playOn_95 : decode cX2_playOn 95 = .ok (.invokevirtual 75, 3) := by decide +kernel
theorem dX2_playOn_98 : decode cX2_playOn 98 = .ok (.return_, 1) := by decide +kernel
theorem dX2_playOn_99 : decode cX2_playOn 99 = .ok (.aload_n 0, 1) := by decide +kernel
theorem dX2_playOn_100 : decode cX2_playOn 100 = .ok (.getfield 29, 3) := by decide +kernel
theorem dX2_playOn_103 : decode cX2_playOn 103 = .ok (.aload_n 2, 1) := by decide +kernel
theorem dX2_playOn_104 : decode cX2_playOn 104 = .ok (.getfield 37, 3) := by decide +kernel
theorem dX2_playOn_107 : decode cX2_playOn 107 = .ok (.invokevirtual 45, 3) := by decide +kernel
theorem dX2_playOn_110 : decode cX2_playOn 110 = .ok (.istore_n 3, 1) := by decide +kernel
theorem dX2_playOn_111 : decode cX2_playOn 111 = .ok (.aload_n 0, 1) := by decide +kernel
theorem dX2_playOn_112 : decode cX2_playOn 112 = .ok (.iload_n 3, 1) := by decide +kernel
theorem dX2_playOn_113 : decode cX2_playOn 113 = .ok (.aload_n 2, 1) := by decide +kernel
theorem dX2_playOn_114 : decode cX2_playOn 114 = .ok (.getfield 37, 3) := by decide +kernel
theorem dX2_playOn_117 : decode cX2_playOn 117 = .ok (.invokevirtual 79, 3) := by decide +kernel
theorem dX2_playOn_120 : decode cX2_playOn 120 = .ok (.ifCond .ne 7, 3) := by decide +kernel
theorem dX2_playOn_123 : decode cX2_playOn 123 = .ok (.iconst 1, 1) := by decide +kernel
theorem dX2_playOn_124 : decode cX2_playOn 124 = .ok (.goto 4, 3) := by decide +kernel
theorem dX2_playOn_127 : decode cX2_playOn 127 = .ok (.iconst 0, 1) := by decide +kernel
theorem dX2_playOn_128 : decode cX2_playOn 128 = .ok (.istore 4, 2) := by decide +kernel
theorem dX2_playOn_130 : decode cX2_playOn 130 = .ok (.iload 4, 2) := by decide +kernel
theorem dX2_playOn_132 : decode cX2_playOn 132 = .ok (.ifCond .eq 22, 3) := by decide +kernel
theorem dX2_playOn_135 : decode cX2_playOn 135 = .ok (.aload_n 0, 1) := by decide +kernel
theorem dX2_playOn_136 : decode cX2_playOn 136 = .ok (.getfield 29, 3) := by decide +kernel
theorem dX2_playOn_139 : decode cX2_playOn 139 = .ok (.getfield 83, 3) := by decide +kernel
theorem dX2_playOn_142 : decode cX2_playOn 142 = .ok (.aload_n 0, 1) := by decide +kernel
theorem dX2_playOn_143 : decode cX2_playOn 143 = .ok (.getfield 29, 3) := by decide +kernel
theorem dX2_playOn_146 : decode cX2_playOn 146 = .ok (.aload_n 2, 1) := by decide +kernel
theorem dX2_playOn_147 : decode cX2_playOn 147 = .ok (.iload_n 3, 1) := by decide +kernel
theorem dX2_playOn_148 : decode cX2_playOn 148 = .ok (.invokevirtual 87, 3) := by decide +kernel
theorem dX2_playOn_151 : decode cX2_playOn 151 = .ok (.goto 4, 3) := by decide +kernel
theorem dX2_playOn_154 : decode cX2_playOn 154 = .ok (.iconst (-1), 1) := by decide +kernel
theorem dX2_playOn_155 : decode cX2_playOn 155 = .ok (.istore 5, 2) := by decide +kernel
theorem dX2_playOn_157 : decode cX2_playOn 157 = .ok (.iconst (-1), 1) := by decide +kernel
theorem dX2_playOn_158 : decode cX2_playOn 158 = .ok (.istore 6, 2) := by decide +kernel
theorem dX2_playOn_160 : decode cX2_playOn 160 = .ok (.iconst (-1), 1) := by decide +kernel
theorem dX2_playOn_161 : decode cX2_playOn 161 = .ok (.istore 7, 2) := by decide +kernel
theorem dX2_playOn_163 : decode cX2_playOn 163 = .ok (.iload 7, 2) := by decide +kernel
theorem dX2_playOn_165 : decode cX2_playOn 165 = .ok (.aload_n 0, 1) := by decide +kernel
theorem dX2_playOn_166 : decode cX2_playOn 166 = .ok (.getfield 29, 3) := by decide +kernel
theorem dX2_playOn_169 : decode cX2_playOn 169 = .ok (.getfield 93, 3) := by decide +kernel
theorem dX2_playOn_172 : decode cX2_playOn 172 = .ok (.if_icmp .ge 107, 3) := by decide +kernel
theorem dX2_playOn_175 : decode cX2_playOn 175 = .ok (.iload 4, 2) := by decide +kernel
theorem dX2_playOn_177 : decode cX2_playOn 177 = .ok (.ifCond .eq 13, 3) := by decide +kernel
theorem dX2_playOn_180 : decode cX2_playOn 180 = .ok (.iload 7, 2) := by decide +kernel
theorem dX2_playOn_182 : decode cX2_playOn 182 = .ok (.iload 5, 2) := by decide +kernel
theorem dX2_playOn_184 : decode cX2_playOn 184 = .ok (.if_icmp .eq 25, 3) := by decide +kernel
theorem dX2_playOn_187 : decode cX2_playOn 187 = .ok (.goto 86, 3) := by decide +kernel
theorem dX2_playOn_190 : decode cX2_playOn 190 = .ok (.iload 7, 2) := by decide +kernel
theorem dX2_playOn_192 : decode cX2_playOn 192 = .ok (.iconst (-1), 1) := by decide +kernel
theorem dX2_playOn_193 : decode cX2_playOn 193 = .ok (.if_icmp .eq 16, 3) := by decide +kernel
theorem dX2_playOn_196 : decode cX2_playOn 196 = .ok (.aload_n 2, 1) := by decide +kernel
theorem dX2_playOn_197 : decode cX2_playOn 197 = .ok (.iload_n 3, 1) := by decide +kernel
theorem dX2_playOn_198 : decode cX2_playOn 198 = .ok (.iload 7, 2) := by decide +kernel
theorem dX2_playOn_200 : decode cX2_playOn 200 = .ok (.invokevirtual 96, 3) := by decide +kernel
theorem dX2_playOn_203 : decode cX2_playOn 203 = .ok (.ifCond .ne 6, 3) := by decide +kernel
theorem dX2_playOn_206 : decode cX2_playOn 206 = .ok (.goto 67, 3) := by decide +kernel
theorem dX2_playOn_209 : decode cX2_playOn 209 = .ok (.aload_n 0, 1) := by decide +kernel
theorem dX2_playOn_210 : decode cX2_playOn 210 = .ok (.getfield 13, 3) := by decide +kernel
theorem dX2_playOn_213 : decode cX2_playOn 213 = .ok (.iload_n 1, 1) := by decide +kernel
theorem dX2_playOn_214 : decode cX2_playOn 214 = .ok (.iconst 1, 1) := by decide +kernel
theorem dX2_playOn_215 : decode cX2_playOn 215 = .ok (.iadd, 1) := by decide +kernel
theorem dX2_playOn_216 : decode cX2_playOn 216 = .ok (.aaload, 1) := by decide +kernel
theorem dX2_playOn_217 : decode cX2_playOn 217 = .ok (.aload_n 2, 1) := by decide +kernel
theorem dX2_playOn_218 : decode cX2_playOn 218 = .ok (.invokevirtual 53, 3) := by decide +kernel
theorem dX2_playOn_221 : decode cX2_playOn 221 = .ok (.aload_n 0, 1) := by decide +kernel
theorem dX2_playOn_222 : decode cX2_playOn 222 = .ok (.getfield 29, 3) := by decide +kernel
theorem dX2_playOn_225 : decode cX2_playOn 225 = .ok (.aload_n 0, 1) := by decide +kernel
theorem dX2_playOn_226 : decode cX2_playOn 226 = .ok (.getfield 13, 3) := by decide +kernel
theorem dX2_playOn_229 : decode cX2_playOn 229 = .ok (.iload_n 1, 1) := by decide +kernel
theorem dX2_playOn_230 : decode cX2_playOn 230 = .ok (.iconst 1, 1) := by decide +kernel
theorem dX2_playOn_231 : decode cX2_playOn 231 = .ok (.iadd, 1) := by decide +kernel
theorem dX2_playOn_232 : decode cX2_playOn 232 = .ok (.aaload, 1) := by decide +kernel
theorem dX2_playOn_233 : decode cX2_playOn 233 = .ok (.iload 7, 2) := by decide +kernel
theorem dX2_playOn_235 : decode cX2_playOn 235 = .ok (.invokevirtual 71, 3) := by decide +kernel
theorem dX2_playOn_238 : decode cX2_playOn 238 = .ok (.aload_n 0, 1) := by decide +kernel
theorem dX2_playOn_239 : decode cX2_playOn 239 = .ok (.iload_n 1, 1) := by decide +kernel
theorem dX2_playOn_240 : decode cX2_playOn 240 = .ok (.iconst 1, 1) := by decide +kernel
theorem dX2_playOn_241 : decode cX2_playOn 241 = .ok (.iadd, 1) := by decide +kernel
theorem dX2_playOn_242 : decode cX2_playOn 242 = .ok (.invokestatic 57, 3) := by decide +kernel
theorem dX2_playOn_245 : decode cX2_playOn 245 = .ok (.aload_n 0, 1) := by decide +kernel
theorem dX2_playOn_246 : decode cX2_playOn 246 = .ok (.iload_n 1, 1) := by decide +kernel
theorem dX2_playOn_247 : decode cX2_playOn 247 = .ok (.iconst 1, 1) := by decide +kernel
theorem dX2_playOn_248 : decode cX2_playOn 248 = .ok (.iadd, 1) := by decide +kernel
theorem dX2_playOn_249 : decode cX2_playOn 249 = .ok (.iload_n 3, 1) := by decide +kernel
theorem dX2_playOn_250 : decode cX2_playOn 250 = .ok (.invokevirtual 100, 3) := by decide +kernel
theorem dX2_playOn_253 : decode cX2_playOn 253 = .ok (.istore 8, 2) := by decide +kernel
theorem dX2_playOn_255 : decode cX2_playOn 255 = .ok (.iload 8, 2) := by decide +kernel
theorem dX2_playOn_257 : decode cX2_playOn 257 = .ok (.iload 6, 2) := by decide +kernel
theorem dX2_playOn_259 : decode cX2_playOn 259 = .ok (.if_icmp .le 14, 3) := by decide +kernel
theorem dX2_playOn_262 : decode cX2_playOn 262 = .ok (.iload 8, 2) := by decide +kernel
theorem dX2_playOn_264 : decode cX2_playOn 264 = .ok (.istore 6, 2) := by decide +kernel
theorem dX2_playOn_266 : decode cX2_playOn 266 = .ok (.aload_n 0, 1) := by decide +kernel
theorem dX2_playOn_267 : decode cX2_playOn 267 = .ok (.iload_n 1, 1) := by decide +kernel
theorem dX2_playOn_268 : decode cX2_playOn 268 = .ok (.iload 7, 2) := by decide +kernel
theorem dX2_playOn_270 : decode cX2_playOn 270 = .ok (.invokevirtual 103, 3) := by decide +kernel
theorem dX2_playOn_273 : decode cX2_playOn 273 = .ok (.iinc 7 1, 3) := by decide +kernel
theorem dX2_playOn_276 : decode cX2_playOn 276 = .ok (.goto (-113), 3) := by decide +kernel
theorem dX2_playOn_279 : decode cX2_playOn 279 = .ok (.return_, 1) := by decide +kernel
theorem dX2_comesAgain_0 : decode cX2_comesAgain 0 = .ok (.iload_n 2, 1) := by decide +kernel
theorem dX2_comesAgain_1 : decode cX2_comesAgain 1 = .ok (.iconst 1, 1) := by decide +kernel
theorem dX2_comesAgain_2 : decode cX2_comesAgain 2 = .ok (.iadd, 1) := by decide +kernel
theorem dX2_comesAgain_3 : decode cX2_comesAgain 3 = .ok (.istore_n 3, 1) := by decide +kernel
theorem dX2_comesAgain_4 : decode cX2_comesAgain 4 = .ok (.iload_n 3, 1) := by decide +kernel
theorem dX2_comesAgain_5 : decode cX2_comesAgain 5 = .ok (.aload_n 0, 1) := by decide +kernel
theorem dX2_comesAgain_6 : decode cX2_comesAgain 6 = .ok (.getfield 29, 3) := by decide +kernel
theorem dX2_comesAgain_9 : decode cX2_comesAgain 9 = .ok (.getfield 40, 3) := by decide +kernel
theorem dX2_comesAgain_12 : decode cX2_comesAgain 12 = .ok (.if_icmp .ge 31, 3) := by decide +kernel
theorem dX2_comesAgain_15 : decode cX2_comesAgain 15 = .ok (.aload_n 0, 1) := by decide +kernel
theorem dX2_comesAgain_16 : decode cX2_comesAgain 16 = .ok (.aload_n 0, 1) := by decide +kernel
theorem dX2_comesAgain_17 : decode cX2_comesAgain 17 = .ok (.getfield 29, 3) := by decide +kernel
theorem dX2_comesAgain_20 : decode cX2_comesAgain 20 = .ok (.iload_n 3, 1) := by decide +kernel
theorem dX2_comesAgain_21 : decode cX2_comesAgain 21 = .ok (.invokevirtual 45, 3) := by decide +kernel
theorem dX2_comesAgain_24 : decode cX2_comesAgain 24 = .ok (.invokevirtual 64, 3) := by decide +kernel
theorem dX2_comesAgain_27 : decode cX2_comesAgain 27 = .ok (.aload_n 0, 1) := by decide +kernel
theorem dX2_comesAgain_28 : decode cX2_comesAgain 28 = .ok (.iload_n 1, 1) := by decide +kernel
theorem dX2_comesAgain_29 : decode cX2_comesAgain 29 = .ok (.invokevirtual 64, 3) := by decide +kernel
theorem dX2_comesAgain_32 : decode cX2_comesAgain 32 = .ok (.if_icmp .ne 5, 3) := by decide +kernel
theorem dX2_comesAgain_35 : decode cX2_comesAgain 35 = .ok (.iconst 1, 1) := by decide +kernel
theorem dX2_comesAgain_36 : decode cX2_comesAgain 36 = .ok (.ireturn, 1) := by decide +kernel
theorem dX2_comesAgain_37 : decode cX2_comesAgain 37 = .ok (.iinc 3 1, 3) := by decide +kernel
theorem dX2_comesAgain_40 : decode cX2_comesAgain 40 = .ok (.goto (-36), 3) := by decide +kernel
theorem dX2_comesAgain_43 : decode cX2_comesAgain 43 = .ok (.iconst 0, 1) := by decide +kernel
theorem dX2_comesAgain_44 : decode cX2_comesAgain 44 = .ok (.ireturn, 1) := by decide +kernel
theorem dX2_settle_0 : decode cX2_settle 0 = .ok (.iconst 0, 1) := by decide +kernel
theorem dX2_settle_1 : decode cX2_settle 1 = .ok (.istore_n 2, 1) := by decide +kernel
theorem dX2_settle_2 : decode cX2_settle 2 = .ok (.iload_n 2, 1) := by decide +kernel
theorem dX2_settle_3 : decode cX2_settle 3 = .ok (.iconst 4, 1) := by decide +kernel
theorem dX2_settle_4 : decode cX2_settle 4 = .ok (.if_icmp .ge 31, 3) := by decide +kernel
theorem dX2_settle_7 : decode cX2_settle 7 = .ok (.aload_n 0, 1) := by decide +kernel
theorem dX2_settle_8 : decode cX2_settle 8 = .ok (.getfield 19, 3) := by decide +kernel
theorem dX2_settle_11 : decode cX2_settle 11 = .ok (.iload_n 1, 1) := by decide +kernel
theorem dX2_settle_12 : decode cX2_settle 12 = .ok (.aaload, 1) := by decide +kernel
theorem dX2_settle_13 : decode cX2_settle 13 = .ok (.iload_n 2, 1) := by decide +kernel
theorem dX2_settle_14 : decode cX2_settle 14 = .ok (.aload_n 0, 1) := by decide +kernel
theorem dX2_settle_15 : decode cX2_settle 15 = .ok (.getfield 29, 3) := by decide +kernel
theorem dX2_settle_18 : decode cX2_settle 18 = .ok (.aload_n 0, 1) := by decide +kernel
theorem dX2_settle_19 : decode cX2_settle 19 = .ok (.getfield 13, 3) := by decide +kernel
theorem dX2_settle_22 : decode cX2_settle 22 = .ok (.iload_n 1, 1) := by decide +kernel
theorem dX2_settle_23 : decode cX2_settle 23 = .ok (.aaload, 1) := by decide +kernel
theorem dX2_settle_24 : decode cX2_settle 24 = .ok (.iload_n 2, 1) := by decide +kernel
theorem dX2_settle_25 : decode cX2_settle 25 = .ok (.invokevirtual 107, 3) := by decide +kernel
theorem dX2_settle_28 : decode cX2_settle 28 = .ok (.iastore, 1) := by decide +kernel
theorem dX2_settle_29 : decode cX2_settle 29 = .ok (.iinc 2 1, 3) := by decide +kernel
theorem dX2_settle_32 : decode cX2_settle 32 = .ok (.goto (-30), 3) := by decide +kernel
theorem dX2_settle_35 : decode cX2_settle 35 = .ok (.return_, 1) := by decide +kernel
theorem dX2_reached_0 : decode cX2_reached 0 = .ok (.iconst 0, 1) := by decide +kernel
theorem dX2_reached_1 : decode cX2_reached 1 = .ok (.istore_n 3, 1) := by decide +kernel
theorem dX2_reached_2 : decode cX2_reached 2 = .ok (.iconst 0, 1) := by decide +kernel
theorem dX2_reached_3 : decode cX2_reached 3 = .ok (.istore 4, 2) := by decide +kernel
theorem dX2_reached_5 : decode cX2_reached 5 = .ok (.iload 4, 2) := by decide +kernel
theorem dX2_reached_7 : decode cX2_reached 7 = .ok (.iconst 4, 1) := by decide +kernel
theorem dX2_reached_8 : decode cX2_reached 8 = .ok (.if_icmp .ge 32, 3) := by decide +kernel
theorem dX2_reached_11 : decode cX2_reached 11 = .ok (.iload_n 3, 1) := by decide +kernel
theorem dX2_reached_12 : decode cX2_reached 12 = .ok (.aload_n 0, 1) := by decide +kernel
theorem dX2_reached_13 : decode cX2_reached 13 = .ok (.iload_n 2, 1) := by decide +kernel
theorem dX2_reached_14 : decode cX2_reached 14 = .ok (.invokevirtual 64, 3) := by decide +kernel
theorem dX2_reached_17 : decode cX2_reached 17 = .ok (.iload 4, 2) := by decide +kernel
theorem dX2_reached_19 : decode cX2_reached 19 = .ok (.ishr, 1) := by decide +kernel
theorem dX2_reached_20 : decode cX2_reached 20 = .ok (.iconst 1, 1) := by decide +kernel
theorem dX2_reached_21 : decode cX2_reached 21 = .ok (.iand, 1) := by decide +kernel
theorem dX2_reached_22 : decode cX2_reached 22 = .ok (.aload_n 0, 1) := by decide +kernel
theorem dX2_reached_23 : decode cX2_reached 23 = .ok (.getfield 19, 3) := by decide +kernel
theorem dX2_reached_26 : decode cX2_reached 26 = .ok (.iload_n 1, 1) := by decide +kernel
theorem dX2_reached_27 : decode cX2_reached 27 = .ok (.aaload, 1) := by decide +kernel
theorem dX2_reached_28 : decode cX2_reached 28 = .ok (.iload 4, 2) := by decide +kernel
theorem dX2_reached_30 : decode cX2_reached 30 = .ok (.iaload, 1) := by decide +kernel
theorem dX2_reached_31 : decode cX2_reached 31 = .ok (.imul, 1) := by decide +kernel
theorem dX2_reached_32 : decode cX2_reached 32 = .ok (.iadd, 1) := by decide +kernel
theorem dX2_reached_33 : decode cX2_reached 33 = .ok (.istore_n 3, 1) := by decide +kernel
theorem dX2_reached_34 : decode cX2_reached 34 = .ok (.iinc 4 1, 3) := by decide +kernel
theorem dX2_reached_37 : decode cX2_reached 37 = .ok (.goto (-32), 3) := by decide +kernel
theorem dX2_reached_40 : decode cX2_reached 40 = .ok (.iload_n 3, 1) := by decide +kernel
theorem dX2_reached_41 : decode cX2_reached 41 = .ok (.ireturn, 1) := by decide +kernel
theorem dX2_takeOver_0 : decode cX2_takeOver 0 = .ok (.aload_n 0, 1) := by decide +kernel
theorem dX2_takeOver_1 : decode cX2_takeOver 1 = .ok (.getfield 19, 3) := by decide +kernel
theorem dX2_takeOver_4 : decode cX2_takeOver 4 = .ok (.iload_n 1, 1) := by decide +kernel
theorem dX2_takeOver_5 : decode cX2_takeOver 5 = .ok (.iconst 1, 1) := by decide +kernel
theorem dX2_takeOver_6 : decode cX2_takeOver 6 = .ok (.iadd, 1) := by decide +kernel
theorem dX2_takeOver_7 : decode cX2_takeOver 7 = .ok (.aaload, 1) := by decide +kernel
theorem dX2_takeOver_8 : decode cX2_takeOver 8 = .ok (.iconst 0, 1) := by decide +kernel
theorem dX2_takeOver_9 : decode cX2_takeOver 9 = .ok (.aload_n 0, 1) := by decide +kernel
theorem dX2_takeOver_10 : decode cX2_takeOver 10 = .ok (.getfield 19, 3) := by decide +kernel
theorem dX2_takeOver_13 : decode cX2_takeOver 13 = .ok (.iload_n 1, 1) := by decide +kernel
theorem dX2_takeOver_14 : decode cX2_takeOver 14 = .ok (.aaload, 1) := by decide +kernel
theorem dX2_takeOver_15 : decode cX2_takeOver 15 = .ok (.iconst 0, 1) := by decide +kernel
theorem dX2_takeOver_16 : decode cX2_takeOver 16 = .ok (.iconst 4, 1) := by decide +kernel
theorem dX2_takeOver_17 : decode cX2_takeOver 17 = .ok (.invokestatic 111, 3) := by decide +kernel
theorem dX2_takeOver_20 : decode cX2_takeOver 20 = .ok (.aload_n 0, 1) := by decide +kernel
theorem dX2_takeOver_21 : decode cX2_takeOver 21 = .ok (.getfield 22, 3) := by decide +kernel
theorem dX2_takeOver_24 : decode cX2_takeOver 24 = .ok (.iload_n 1, 1) := by decide +kernel
theorem dX2_takeOver_25 : decode cX2_takeOver 25 = .ok (.iconst 1, 1) := by decide +kernel
theorem dX2_takeOver_26 : decode cX2_takeOver 26 = .ok (.iadd, 1) := by decide +kernel
theorem dX2_takeOver_27 : decode cX2_takeOver 27 = .ok (.aaload, 1) := by decide +kernel
theorem dX2_takeOver_28 : decode cX2_takeOver 28 = .ok (.iconst 0, 1) := by decide +kernel
theorem dX2_takeOver_29 : decode cX2_takeOver 29 = .ok (.aload_n 0, 1) := by decide +kernel
theorem dX2_takeOver_30 : decode cX2_takeOver 30 = .ok (.getfield 22, 3) := by decide +kernel
theorem dX2_takeOver_33 : decode cX2_takeOver 33 = .ok (.iload_n 1, 1) := by decide +kernel
theorem dX2_takeOver_34 : decode cX2_takeOver 34 = .ok (.aaload, 1) := by decide +kernel
theorem dX2_takeOver_35 : decode cX2_takeOver 35 = .ok (.iconst 0, 1) := by decide +kernel
theorem dX2_takeOver_36 : decode cX2_takeOver 36 = .ok (.bipush 11, 2) := by decide +kernel
theorem dX2_takeOver_38 : decode cX2_takeOver 38 = .ok (.invokestatic 111, 3) := by decide +kernel
theorem dX2_takeOver_41 : decode cX2_takeOver 41 = .ok (.aload_n 0, 1) := by decide +kernel
theorem dX2_takeOver_42 : decode cX2_takeOver 42 = .ok (.getfield 22, 3) := by decide +kernel
theorem dX2_takeOver_45 : decode cX2_takeOver 45 = .ok (.iload_n 1, 1) := by decide +kernel
theorem dX2_takeOver_46 : decode cX2_takeOver 46 = .ok (.aaload, 1) := by decide +kernel
theorem dX2_takeOver_47 : decode cX2_takeOver 47 = .ok (.iload_n 1, 1) := by decide +kernel
theorem dX2_takeOver_48 : decode cX2_takeOver 48 = .ok (.iload_n 2, 1) := by decide +kernel
theorem dX2_takeOver_49 : decode cX2_takeOver 49 = .ok (.iastore, 1) := by decide +kernel
theorem dX2_takeOver_50 : decode cX2_takeOver 50 = .ok (.return_, 1) := by decide +kernel
theorem dX2_expected_0 : decode cX2_expected 0 = .ok (.aload_n 0, 1) := by decide +kernel
theorem dX2_expected_1 : decode cX2_expected 1 = .ok (.iload_n 2, 1) := by decide +kernel
theorem dX2_expected_2 : decode cX2_expected 2 = .ok (.putfield 117, 3) := by decide +kernel
theorem dX2_expected_5 : decode cX2_expected 5 = .ok (.aload_n 0, 1) := by decide +kernel
theorem dX2_expected_6 : decode cX2_expected 6 = .ok (.iload_n 3, 1) := by decide +kernel
theorem dX2_expected_7 : decode cX2_expected 7 = .ok (.putfield 120, 3) := by decide +kernel
theorem dX2_expected_10 : decode cX2_expected 10 = .ok (.aload_n 0, 1) := by decide +kernel
theorem dX2_expected_11 : decode cX2_expected 11 = .ok (.getfield 13, 3) := by decide +kernel
theorem dX2_expected_14 : decode cX2_expected 14 = .ok (.iconst 0, 1) := by decide +kernel
theorem dX2_expected_15 : decode cX2_expected 15 = .ok (.aaload, 1) := by decide +kernel
theorem dX2_expected_16 : decode cX2_expected 16 = .ok (.aload_n 1, 1) := by decide +kernel
theorem dX2_expected_17 : decode cX2_expected 17 = .ok (.invokevirtual 53, 3) := by decide +kernel
theorem dX2_expected_20 : decode cX2_expected 20 = .ok (.aload_n 0, 1) := by decide +kernel
theorem dX2_expected_21 : decode cX2_expected 21 = .ok (.getfield 29, 3) := by decide +kernel
theorem dX2_expected_24 : decode cX2_expected 24 = .ok (.aload_n 1, 1) := by decide +kernel
theorem dX2_expected_25 : decode cX2_expected 25 = .ok (.bipush 15, 2) := by decide +kernel
theorem dX2_expected_27 : decode cX2_expected 27 = .ok (.iconst 1, 1) := by decide +kernel
theorem dX2_expected_28 : decode cX2_expected 28 = .ok (.iload_n 2, 1) := by decide +kernel
theorem dX2_expected_29 : decode cX2_expected 29 = .ok (.ishl, 1) := by decide +kernel
theorem dX2_expected_30 : decode cX2_expected 30 = .ok (.iconst (-1), 1) := by decide +kernel
theorem dX2_expected_31 : decode cX2_expected 31 = .ok (.ixor, 1) := by decide +kernel
theorem dX2_expected_32 : decode cX2_expected 32 = .ok (.iand, 1) := by decide +kernel
theorem dX2_expected_33 : decode cX2_expected 33 = .ok (.invokevirtual 123, 3) := by decide +kernel
theorem dX2_expected_36 : decode cX2_expected 36 = .ok (.istore 5, 2) := by decide +kernel
theorem dX2_expected_38 : decode cX2_expected 38 = .ok (.aload_n 0, 1) := by decide +kernel
theorem dX2_expected_39 : decode cX2_expected 39 = .ok (.iconst 0, 1) := by decide +kernel
theorem dX2_expected_40 : decode cX2_expected 40 = .ok (.invokestatic 126, 3) := by decide +kernel
theorem dX2_expected_43 : decode cX2_expected 43 = .ok (.lstore 6, 2) := by decide +kernel
theorem dX2_expected_45 : decode cX2_expected 45 = .ok (.lconst 1, 1) := by decide +kernel
theorem dX2_expected_46 : decode cX2_expected 46 = .ok (.lstore 8, 2) := by decide +kernel
theorem dX2_expected_48 : decode cX2_expected 48 = .ok (.iconst 0, 1) := by decide +kernel
theorem dX2_expected_49 : decode cX2_expected 49 = .ok (.istore 10, 2) := by decide +kernel
theorem dX2_expected_51 : decode cX2_expected 51 = .ok (.iload 10, 2) := by decide +kernel
theorem dX2_expected_53 : decode cX2_expected 53 = .ok (.iload 5, 2) := by decide +kernel
theorem dX2_expected_55 : decode cX2_expected 55 = .ok (.if_icmp .ge 24, 3) := by decide +kernel
theorem dX2_expected_58 : decode cX2_expected 58 = .ok (.iload 10, 2) := by decide +kernel
theorem dX2_expected_60 : decode cX2_expected 60 = .ok (.bipush 10, 2) := by decide +kernel
theorem dX2_expected_62 : decode cX2_expected 62 = .ok (.if_icmp .ge 17, 3) := by decide +kernel
theorem dX2_expected_65 : decode cX2_expected 65 = .ok (.lload 8, 2) := by decide +kernel
theorem dX2_expected_67 : decode cX2_expected 67 = .ok (.ldc2_w 130, 3) := by decide +kernel
theorem dX2_expected_70 : decode cX2_expected 70 = .ok (.lmul, 1) := by decide +kernel
theorem dX2_expected_71 : decode cX2_expected 71 = .ok (.lstore 8, 2) := by decide +kernel
theorem dX2_expected_73 : decode cX2_expected 73 = .ok (.iinc 10 1, 3) := by decide +kernel
theorem dX2_expected_76 : decode cX2_expected 76 = .ok (.goto (-25), 3) := by decide +kernel
theorem dX2_expected_79 : decode cX2_expected 79 = .ok (.iconst 0, 1) := by decide +kernel
theorem dX2_expected_80 : decode cX2_expected 80 = .ok (.istore 10, 2) := by decide +kernel
theorem dX2_expected_82 : decode cX2_expected 82 = .ok (.iload 10, 2) := by decide +kernel
theorem dX2_expected_84 : decode cX2_expected 84 = .ok (.iload 5, 2) := by decide +kernel
theorem dX2_expected_86 : decode cX2_expected 86 = .ok (.if_icmp .ge 70, 3) := by decide +kernel
theorem dX2_expected_89 : decode cX2_expected 89 = .ok (.iload 10, 2) := by decide +kernel
theorem dX2_expected_91 : decode cX2_expected 91 = .ok (.bipush 10, 2) := by decide +kernel
theorem dX2_expected_93 : decode cX2_expected 93 = .ok (.if_icmp .ge 63, 3) := by decide +kernel
theorem dX2_expected_96 : decode cX2_expected 96 = .ok (.lload 6, 2) := by decide +kernel
theorem dX2_expected_98 : decode cX2_expected 98 = .ok (.ldc2_w 132, 3) := by decide +kernel
theorem dX2_expected_101 : decode cX2_expected 101 = .ok (.lrem, 1) := by decide +kernel
theorem dX2_expected_102 : decode cX2_expected 102 = .ok (.lconst 0, 1) := by decide +kernel
theorem dX2_expected_103 : decode cX2_expected 103 = .ok (.lcmp, 1) := by decide +kernel
theorem dX2_expected_104 : decode cX2_expected 104 = .ok (.ifCond .ne 19, 3) := by decide +kernel
theorem dX2_expected_107 : decode cX2_expected 107 = .ok (.lload 6, 2) := by decide +kernel
theorem dX2_expected_109 : decode cX2_expected 109 = .ok (.ldc2_w 132, 3) := by decide +kernel
theorem dX2_expected_112 : decode cX2_expected 112 = .ok (.ldiv, 1) := by decide +kernel
theorem dX2_expected_113 : decode cX2_expected 113 = .ok (.lstore 6, 2) := by decide +kernel
theorem dX2_expected_115 : decode cX2_expected 115 = .ok (.lload 8, 2) := by decide +kernel
theorem dX2_expected_117 : decode cX2_expected 117 = .ok (.ldc2_w 132, 3) := by decide +kernel
theorem dX2_expected_120 : decode cX2_expected 120 = .ok (.ldiv, 1) := by decide +kernel
theorem dX2_expected_121 : decode cX2_expected 121 = .ok (.lstore 8, 2) := by decide +kernel
theorem dX2_expected_123 : decode cX2_expected 123 = .ok (.lload 6, 2) := by decide +kernel
theorem dX2_expected_125 : decode cX2_expected 125 = .ok (.ldc2_w 134, 3) := by decide +kernel
theorem dX2_expected_128 : decode cX2_expected 128 = .ok (.lrem, 1) := by decide +kernel
theorem dX2_expected_129 : decode cX2_expected 129 = .ok (.lconst 0, 1) := by decide +kernel
theorem dX2_expected_130 : decode cX2_expected 130 = .ok (.lcmp, 1) := by decide +kernel
theorem dX2_expected_131 : decode cX2_expected 131 = .ok (.ifCond .ne 19, 3) := by decide +kernel
theorem dX2_expected_134 : decode cX2_expected 134 = .ok (.lload 6, 2) := by decide +kernel
theorem dX2_expected_136 : decode cX2_expected 136 = .ok (.ldc2_w 134, 3) := by decide +kernel
theorem dX2_expected_139 : decode cX2_expected 139 = .ok (.ldiv, 1) := by decide +kernel
theorem dX2_expected_140 : decode cX2_expected 140 = .ok (.lstore 6, 2) := by decide +kernel
theorem dX2_expected_142 : decode cX2_expected 142 = .ok (.lload 8, 2) := by decide +kernel
theorem dX2_expected_144 : decode cX2_expected 144 = .ok (.ldc2_w 134, 3) := by decide +kernel
theorem dX2_expected_147 : decode cX2_expected 147 = .ok (.ldiv, 1) := by decide +kernel
theorem dX2_expected_148 : decode cX2_expected 148 = .ok (.lstore 8, 2) := by decide +kernel
theorem dX2_expected_150 : decode cX2_expected 150 = .ok (.iinc 10 1, 3) := by decide +kernel
theorem dX2_expected_153 : decode cX2_expected 153 = .ok (.goto (-71), 3) := by decide +kernel
theorem dX2_expected_156 : decode cX2_expected 156 = .ok (.iload 4, 2) := by decide +kernel
theorem dX2_expected_158 : decode cX2_expected 158 = .ok (.ifCond .ne 8, 3) := by decide +kernel
theorem dX2_expected_161 : decode cX2_expected 161 = .ok (.lload 6, 2) := by decide +kernel
theorem dX2_expected_163 : decode cX2_expected 163 = .ok (.goto 5, 3) := by decide +kernel
theorem dX2_expected_166 : decode cX2_expected 166 = .ok (.lload 8, 2) := by decide +kernel
theorem dX2_expected_168 : decode cX2_expected 168 = .ok (.lreturn, 1) := by decide +kernel
theorem dX2_weigh_0 : decode cX2_weigh 0 = .ok (.iload_n 1, 1) := by decide +kernel
theorem dX2_weigh_1 : decode cX2_weigh 1 = .ok (.ifCond .lt 9, 3) := by decide +kernel
theorem dX2_weigh_4 : decode cX2_weigh 4 = .ok (.iload_n 1, 1) := by decide +kernel
theorem dX2_weigh_5 : decode cX2_weigh 5 = .ok (.bipush 11, 2) := by decide +kernel
theorem dX2_weigh_7 : decode cX2_weigh 7 = .ok (.if_icmp .lt 5, 3) := by decide +kernel
theorem dX2_weigh_10 : decode cX2_weigh 10 = .ok (.lconst 0, 1) := by decide +kernel
theorem dX2_weigh_11 : decode cX2_weigh 11 = .ok (.lreturn, 1) := by decide +kernel
theorem dX2_weigh_12 : decode cX2_weigh 12 = .ok (.aload_n 0, 1) := by decide +kernel
theorem dX2_weigh_13 : decode cX2_weigh 13 = .ok (.getfield 13, 3) := by decide +kernel
theorem dX2_weigh_16 : decode cX2_weigh 16 = .ok (.iload_n 1, 1) := by decide +kernel
theorem dX2_weigh_17 : decode cX2_weigh 17 = .ok (.aaload, 1) := by decide +kernel
theorem dX2_weigh_18 : decode cX2_weigh 18 = .ok (.astore_n 2, 1) := by decide +kernel
theorem dX2_weigh_19 : decode cX2_weigh 19 = .ok (.lconst 1, 1) := by decide +kernel
theorem dX2_weigh_20 : decode cX2_weigh 20 = .ok (.lstore_n 3, 1) := by decide +kernel
theorem dX2_weigh_21 : decode cX2_weigh 21 = .ok (.aload_n 2, 1) := by decide +kernel
theorem dX2_weigh_22 : decode cX2_weigh 22 = .ok (.getfield 37, 3) := by decide +kernel
theorem dX2_weigh_25 : decode cX2_weigh 25 = .ok (.istore 5, 2) := by decide +kernel
theorem dX2_weigh_27 : decode cX2_weigh 27 = .ok (.iload 5, 2) := by decide +kernel
theorem dX2_weigh_29 : decode cX2_weigh 29 = .ok (.aload_n 0, 1) := by decide +kernel
theorem dX2_weigh_30 : decode cX2_weigh 30 = .ok (.getfield 29, 3) := by decide +kernel
theorem dX2_weigh_33 : decode cX2_weigh 33 = .ok (.getfield 40, 3) := by decide +kernel
theorem dX2_weigh_36 : decode cX2_weigh 36 = .ok (.if_icmp .ge 118, 3) := by decide +kernel
theorem dX2_weigh_39 : decode cX2_weigh 39 = .ok (.aload_n 0, 1) := by decide +kernel
theorem dX2_weigh_40 : decode cX2_weigh 40 = .ok (.getfield 29, 3) := by decide +kernel
theorem dX2_weigh_43 : decode cX2_weigh 43 = .ok (.iload 5, 2) := by decide +kernel
theorem dX2_weigh_45 : decode cX2_weigh 45 = .ok (.invokevirtual 45, 3) := by decide +kernel
theorem dX2_weigh_48 : decode cX2_weigh 48 = .ok (.aload_n 0, 1) := by decide +kernel
theorem dX2_weigh_49 : decode cX2_weigh 49 = .ok (.getfield 117, 3) := by decide +kernel
theorem dX2_weigh_52 : decode cX2_weigh 52 = .ok (.if_icmp .ne 7, 3) := by decide +kernel
theorem dX2_weigh_55 : decode cX2_weigh 55 = .ok (.iconst 1, 1) := by decide +kernel
theorem dX2_weigh_56 : decode cX2_weigh 56 = .ok (.goto 4, 3) := by decide +kernel
theorem dX2_weigh_59 : decode cX2_weigh 59 = .ok (.iconst 0, 1) := by decide +kernel
theorem dX2_weigh_60 : decode cX2_weigh 60 = .ok (.istore 6, 2) := by decide +kernel
theorem dX2_weigh_62 : decode cX2_weigh 62 = .ok (.aload_n 0, 1) := by decide +kernel
theorem dX2_weigh_63 : decode cX2_weigh 63 = .ok (.getfield 29, 3) := by decide +kernel
theorem dX2_weigh_66 : decode cX2_weigh 66 = .ok (.aload_n 2, 1) := by decide +kernel
theorem dX2_weigh_67 : decode cX2_weigh 67 = .ok (.invokevirtual 67, 3) := by decide +kernel
theorem dX2_weigh_70 : decode cX2_weigh 70 = .ok (.istore 7, 2) := by decide +kernel
theorem dX2_weigh_72 : decode cX2_weigh 72 = .ok (.iload 6, 2) := by decide +kernel
theorem dX2_weigh_74 : decode cX2_weigh 74 = .ok (.ifCond .ne 49, 3) := by decide +kernel
theorem dX2_weigh_77 : decode cX2_weigh 77 = .ok (.iload 7, 2) := by decide +kernel
theorem dX2_weigh_79 : decode cX2_weigh 79 = .ok (.iconst (-1), 1) := by decide +kernel
theorem dX2_weigh_80 : decode cX2_weigh 80 = .ok (.if_icmp .eq 43, 3) := by decide +kernel
theorem dX2_weigh_83 : decode cX2_weigh 83 = .ok (.bipush 10, 2) := by decide +kernel
theorem dX2_weigh_85 : decode cX2_weigh 85 = .ok (.aload_n 0, 1) := by decide +kernel
theorem dX2_weigh_86 : decode cX2_weigh 86 = .ok (.getfield 120, 3) := by decide +kernel
theorem dX2_weigh_89 : decode cX2_weigh 89 = .ok (.isub, 1) := by decide +kernel
theorem dX2_weigh_90 : decode cX2_weigh 90 = .ok (.i2l, 1) := by decide +kernel
theorem dX2_weigh_91 : decode cX2_weigh 91 = .ok (.aload_n 0, 1) := by decide +kernel
theorem dX2_weigh_92 : decode cX2_weigh 92 = .ok (.iload_n 1, 1) := by decide +kernel
theorem dX2_weigh_93 : decode cX2_weigh 93 = .ok (.iconst (-1), 1) := by decide +kernel
theorem dX2_weigh_94 : decode cX2_weigh 94 = .ok (.invokestatic 136, 3) := by decide +kernel
theorem dX2_weigh_97 : decode cX2_weigh 97 = .ok (.lmul, 1) := by decide +kernel
theorem dX2_weigh_98 : decode cX2_weigh 98 = .ok (.lstore 8, 2) := by decide +kernel
theorem dX2_weigh_100 : decode cX2_weigh 100 = .ok (.aload_n 0, 1) := by decide +kernel
theorem dX2_weigh_101 : decode cX2_weigh 101 = .ok (.getfield 120, 3) := by decide +kernel
theorem dX2_weigh_104 : decode cX2_weigh 104 = .ok (.i2l, 1) := by decide +kernel
theorem dX2_weigh_105 : decode cX2_weigh 105 = .ok (.aload_n 0, 1) := by decide +kernel
theorem dX2_weigh_106 : decode cX2_weigh 106 = .ok (.iload_n 1, 1) := by decide +kernel
theorem dX2_weigh_107 : decode cX2_weigh 107 = .ok (.iload 7, 2) := by decide +kernel
theorem dX2_weigh_109 : decode cX2_weigh 109 = .ok (.invokestatic 136, 3) := by decide +kernel
theorem dX2_weigh_112 : decode cX2_weigh 112 = .ok (.lmul, 1) := by decide +kernel
theorem dX2_weigh_113 : decode cX2_weigh 113 = .ok (.lstore 10, 2) := by decide +kernel
theorem dX2_weigh_115 : decode cX2_weigh 115 = .ok (.lload_n 3, 1) := by decide +kernel
theorem dX2_weigh_116 : decode cX2_weigh 116 = .ok (.lload 8, 2) := by decide +kernel
theorem dX2_weigh_118 : decode cX2_weigh 118 = .ok (.lload 10, 2) := by decide +kernel
theorem dX2_weigh_120 : decode cX2_weigh 120 = .ok (.ladd, 1) := by decide +kernel
theorem dX2_weigh_121 : decode cX2_weigh 121 = .ok (.lmul, 1) := by decide +kernel
theorem dX2_weigh_122 : decode cX2_weigh 122 = .ok (.lreturn, 1) := by decide +kernel
theorem dX2_weigh_123 : decode cX2_weigh 123 = .ok (.aload_n 0, 1) := by decide +kernel
theorem dX2_weigh_124 : decode cX2_weigh 124 = .ok (.getfield 29, 3) := by decide +kernel
theorem dX2_weigh_127 : decode cX2_weigh 127 = .ok (.aload_n 2, 1) := by decide +kernel
theorem dX2_weigh_128 : decode cX2_weigh 128 = .ok (.iload 7, 2) := by decide +kernel
theorem dX2_weigh_130 : decode cX2_weigh 130 = .ok (.invokevirtual 71, 3) := by decide +kernel
theorem dX2_weigh_133 : decode cX2_weigh 133 = .ok (.lload_n 3, 1) := by decide +kernel
theorem dX2_weigh_134 : decode cX2_weigh 134 = .ok (.iload 6, 2) := by decide +kernel
theorem dX2_weigh_136 : decode cX2_weigh 136 = .ok (.ifCond .eq 7, 3) := by decide +kernel
theorem dX2_weigh_139 : decode cX2_weigh 139 = .ok (.lconst 1, 1) := by decide +kernel
theorem dX2_weigh_140 : decode cX2_weigh 140 = .ok (.goto 6, 3) := by decide +kernel
theorem dX2_weigh_143 : decode cX2_weigh 143 = .ok (.ldc2_w 130, 3) := by decide +kernel
theorem dX2_weigh_146 : decode cX2_weigh 146 = .ok (.lmul, 1) := by decide +kernel
theorem dX2_weigh_147 : decode cX2_weigh 147 = .ok (.lstore_n 3, 1) := by decide +kernel
theorem dX2_weigh_148 : decode cX2_weigh 148 = .ok (.iinc 5 1, 3) := by decide +kernel
theorem dX2_weigh_151 : decode cX2_weigh 151 = .ok (.goto (-124), 3) := by decide +kernel
theorem dX2_weigh_154 : decode cX2_weigh 154 = .ok (.lload_n 3, 1) := by decide +kernel
theorem dX2_weigh_155 : decode cX2_weigh 155 = .ok (.aload_n 0, 1) := by decide +kernel
theorem dX2_weigh_156 : decode cX2_weigh 156 = .ok (.getfield 29, 3) := by decide +kernel
theorem dX2_weigh_159 : decode cX2_weigh 159 = .ok (.aload_n 2, 1) := by decide +kernel
theorem dX2_weigh_160 : decode cX2_weigh 160 = .ok (.aload_n 0, 1) := by decide +kernel
theorem dX2_weigh_161 : decode cX2_weigh 161 = .ok (.getfield 117, 3) := by decide +kernel
theorem dX2_weigh_164 : decode cX2_weigh 164 = .ok (.invokevirtual 107, 3) := by decide +kernel
theorem dX2_weigh_167 : decode cX2_weigh 167 = .ok (.i2l, 1) := by decide +kernel
theorem dX2_weigh_168 : decode cX2_weigh 168 = .ok (.lmul, 1) := by decide +kernel
theorem dX2_weigh_169 : decode cX2_weigh 169 = .ok (.lreturn, 1) := by decide +kernel
theorem dX2_weighNext_0 : decode cX2_weighNext 0 = .ok (.iload_n 1, 1) := by decide +kernel
theorem dX2_weighNext_1 : decode cX2_weighNext 1 = .ok (.ifCond .lt 11, 3) := by decide +kernel
theorem dX2_weighNext_4 : decode cX2_weighNext 4 = .ok (.iload_n 1, 1) := by decide +kernel
theorem dX2_weighNext_5 : decode cX2_weighNext 5 = .ok (.iconst 1, 1) := by decide +kernel
theorem dX2_weighNext_6 : decode cX2_weighNext 6 = .ok (.iadd, 1) := by decide +kernel
theorem dX2_weighNext_7 : decode cX2_weighNext 7 = .ok (.bipush 11, 2) := by decide +kernel
theorem dX2_weighNext_9 : decode cX2_weighNext 9 = .ok (.if_icmp .lt 5, 3) := by decide +kernel
theorem dX2_weighNext_12 : decode cX2_weighNext 12 = .ok (.lconst 0, 1) := by decide +kernel
theorem dX2_weighNext_13 : decode cX2_weighNext 13 = .ok (.lreturn, 1) := by decide +kernel
theorem dX2_weighNext_14 : decode cX2_weighNext 14 = .ok (.aload_n 0, 1) := by decide +kernel
theorem dX2_weighNext_15 : decode cX2_weighNext 15 = .ok (.getfield 13, 3) := by decide +kernel
theorem dX2_weighNext_18 : decode cX2_weighNext 18 = .ok (.iload_n 1, 1) := by decide +kernel
theorem dX2_weighNext_19 : decode cX2_weighNext 19 = .ok (.iconst 1, 1) := by decide +kernel
theorem dX2_weighNext_20 : decode cX2_weighNext 20 = .ok (.iadd, 1) := by decide +kernel
theorem dX2_weighNext_21 : decode cX2_weighNext 21 = .ok (.aaload, 1) := by decide +kernel
theorem dX2_weighNext_22 : decode cX2_weighNext 22 = .ok (.aload_n 0, 1) := by decide +kernel
theorem dX2_weighNext_23 : decode cX2_weighNext 23 = .ok (.getfield 13, 3) := by decide +kernel
theorem dX2_weighNext_26 : decode cX2_weighNext 26 = .ok (.iload_n 1, 1) := by decide +kernel
theorem dX2_weighNext_27 : decode cX2_weighNext 27 = .ok (.aaload, 1) := by decide +kernel
theorem dX2_weighNext_28 : decode cX2_weighNext 28 = .ok (.invokevirtual 53, 3) := by decide +kernel
theorem dX2_weighNext_31 : decode cX2_weighNext 31 = .ok (.aload_n 0, 1) := by decide +kernel
theorem dX2_weighNext_32 : decode cX2_weighNext 32 = .ok (.getfield 29, 3) := by decide +kernel
theorem dX2_weighNext_35 : decode cX2_weighNext 35 = .ok (.aload_n 0, 1) := by decide +kernel
theorem dX2_weighNext_36 : decode cX2_weighNext 36 = .ok (.getfield 13, 3) := by decide +kernel
theorem dX2_weighNext_39 : decode cX2_weighNext 39 = .ok (.iload_n 1, 1) := by decide +kernel
theorem dX2_weighNext_40 : decode cX2_weighNext 40 = .ok (.iconst 1, 1) := by decide +kernel
theorem dX2_weighNext_41 : decode cX2_weighNext 41 = .ok (.iadd, 1) := by decide +kernel
theorem dX2_weighNext_42 : decode cX2_weighNext 42 = .ok (.aaload, 1) := by decide +kernel
theorem dX2_weighNext_43 : decode cX2_weighNext 43 = .ok (.iload_n 2, 1) := by decide +kernel
theorem dX2_weighNext_44 : decode cX2_weighNext 44 = .ok (.invokevirtual 71, 3) := by decide +kernel
theorem dX2_weighNext_47 : decode cX2_weighNext 47 = .ok (.aload_n 0, 1) := by decide +kernel
theorem dX2_weighNext_48 : decode cX2_weighNext 48 = .ok (.iload_n 1, 1) := by decide +kernel
theorem dX2_weighNext_49 : decode cX2_weighNext 49 = .ok (.iconst 1, 1) := by decide +kernel
theorem dX2_weighNext_50 : decode cX2_weighNext 50 = .ok (.iadd, 1) := by decide +kernel
theorem dX2_weighNext_51 : decode cX2_weighNext 51 = .ok (.invokestatic 126, 3) := by decide +kernel
theorem dX2_weighNext_54 : decode cX2_weighNext 54 = .ok (.lreturn, 1) := by decide +kernel
theorem dX2_tillDry_0 : decode cX2_tillDry 0 = .ok (.aload_n 0, 1) := by decide +kernel
theorem dX2_tillDry_1 : decode cX2_tillDry 1 = .ok (.getfield 13, 3) := by decide +kernel
theorem dX2_tillDry_4 : decode cX2_tillDry 4 = .ok (.iconst 0, 1) := by decide +kernel
theorem dX2_tillDry_5 : decode cX2_tillDry 5 = .ok (.aaload, 1) := by decide +kernel
theorem dX2_tillDry_6 : decode cX2_tillDry 6 = .ok (.astore_n 2, 1) := by decide +kernel
theorem dX2_tillDry_7 : decode cX2_tillDry 7 = .ok (.aload_n 2, 1) := by decide +kernel
theorem dX2_tillDry_8 : decode cX2_tillDry 8 = .ok (.aload_n 1, 1) := by decide +kernel
theorem dX2_tillDry_9 : decode cX2_tillDry 9 = .ok (.invokevirtual 53, 3) := by decide +kernel
theorem dX2_tillDry_12 : decode cX2_tillDry 12 = .ok (.iconst 0, 1) := by decide +kernel
theorem dX2_tillDry_13 : decode cX2_tillDry 13 = .ok (.istore_n 3, 1) := by decide +kernel
theorem dX2_tillDry_14 : decode cX2_tillDry 14 = .ok (.iconst 1, 1) := by decide +kernel
theorem dX2_tillDry_15 : decode cX2_tillDry 15 = .ok (.istore 4, 2) := by decide +kernel
theorem dX2_tillDry_17 : decode cX2_tillDry 17 = .ok (.iload 4, 2) := by decide +kernel
theorem dX2_tillDry_19 : decode cX2_tillDry 19 = .ok (.sipush 200, 3) := by decide +kernel
theorem dX2_tillDry_22 : decode cX2_tillDry 22 = .ok (.if_icmp .gt 86, 3) := by decide +kernel
theorem dX2_tillDry_25 : decode cX2_tillDry 25 = .ok (.aload_n 0, 1) := by decide +kernel
theorem dX2_tillDry_26 : decode cX2_tillDry 26 = .ok (.getfield 29, 3) := by decide +kernel
theorem dX2_tillDry_29 : decode cX2_tillDry 29 = .ok (.getfield 40, 3) := by decide +kernel
theorem dX2_tillDry_32 : decode cX2_tillDry 32 = .ok (.ifCond .le 76, 3) := by decide +kernel
theorem dX2_tillDry_35 : decode cX2_tillDry 35 = .ok (.aload_n 2, 1) := by decide +kernel
theorem dX2_tillDry_36 : decode cX2_tillDry 36 = .ok (.getfield 37, 3) := by decide +kernel
theorem dX2_tillDry_39 : decode cX2_tillDry 39 = .ok (.aload_n 0, 1) := by decide +kernel
theorem dX2_tillDry_40 : decode cX2_tillDry 40 = .ok (.getfield 29, 3) := by decide +kernel
theorem dX2_tillDry_43 : decode cX2_tillDry 43 = .ok (.getfield 40, 3) := by decide +kernel
theorem dX2_tillDry_46 : decode cX2_tillDry 46 = .ok (.if_icmp .lt 8, 3) := by decide +kernel
theorem dX2_tillDry_49 : decode cX2_tillDry 49 = .ok (.aload_n 2, 1) := by decide +kernel
theorem dX2_tillDry_50 : decode cX2_tillDry 50 = .ok (.iconst 0, 1) := by decide +kernel
theorem dX2_tillDry_51 : decode cX2_tillDry 51 = .ok (.putfield 37, 3) := by decide +kernel
theorem dX2_tillDry_54 : decode cX2_tillDry 54 = .ok (.aload_n 0, 1) := by decide +kernel
theorem dX2_tillDry_55 : decode cX2_tillDry 55 = .ok (.getfield 29, 3) := by decide +kernel
theorem dX2_tillDry_58 : decode cX2_tillDry 58 = .ok (.aload_n 2, 1) := by decide +kernel
theorem dX2_tillDry_59 : decode cX2_tillDry 59 = .ok (.invokevirtual 67, 3) := by decide +kernel
theorem dX2_tillDry_62 : decode cX2_tillDry 62 = .ok (.istore 5, 2) := by decide +kernel
theorem dX2_tillDry_64 : decode cX2_tillDry 64 = .ok (.aload_n 0, 1) := by decide +kernel
theorem dX2_tillDry_65 : decode cX2_tillDry 65 = .ok (.getfield 29, 3) := by decide +kernel
theorem dX2_tillDry_68 : decode cX2_tillDry 68 = .ok (.aload_n 2, 1) := by decide +kernel
theorem dX2_tillDry_69 : decode cX2_tillDry 69 = .ok (.iload 5, 2) := by decide +kernel
theorem dX2_tillDry_71 : decode cX2_tillDry 71 = .ok (.invokevirtual 71, 3) := by decide +kernel
theorem dX2_tillDry_74 : decode cX2_tillDry 74 = .ok (.iload 5, 2) := by decide +kernel
theorem dX2_tillDry_76 : decode cX2_tillDry 76 = .ok (.iconst (-1), 1) := by decide +kernel
theorem dX2_tillDry_77 : decode cX2_tillDry 77 = .ok (.if_icmp .ne 9, 3) := by decide +kernel
theorem dX2_tillDry_80 : decode cX2_tillDry 80 = .ok (.iload_n 3, 1) := by decide +kernel
theorem dX2_tillDry_81 : decode cX2_tillDry 81 = .ok (.iconst 1, 1) := by decide +kernel
theorem dX2_tillDry_82 : decode cX2_tillDry 82 = .ok (.iadd, 1) := by decide +kernel
theorem dX2_tillDry_83 : decode cX2_tillDry 83 = .ok (.goto 4, 3) := by decide +kernel
theorem dX2_tillDry_86 : decode cX2_tillDry 86 = .ok (.iconst 0, 1) := by decide +kernel
theorem dX2_tillDry_87 : decode cX2_tillDry 87 = .ok (.istore_n 3, 1) := by decide +kernel
theorem dX2_tillDry_88 : decode cX2_tillDry 88 = .ok (.iload_n 3, 1) := by decide +kernel
theorem dX2_tillDry_89 : decode cX2_tillDry 89 = .ok (.aload_n 0, 1) := by decide +kernel
theorem dX2_tillDry_90 : decode cX2_tillDry 90 = .ok (.getfield 29, 3) := by decide +kernel
theorem dX2_tillDry_93 : decode cX2_tillDry 93 = .ok (.getfield 40, 3) := by decide +kernel
theorem dX2_tillDry_96 : decode cX2_tillDry 96 = .ok (.if_icmp .ne 6, 3) := by decide +kernel
theorem dX2_tillDry_99 : decode cX2_tillDry 99 = .ok (.iload 4, 2) := by decide +kernel
theorem dX2_tillDry_101 : decode cX2_tillDry 101 = .ok (.ireturn, 1) := by decide +kernel
theorem dX2_tillDry_102 : decode cX2_tillDry 102 = .ok (.iinc 4 1, 3) := by decide +kernel
theorem dX2_tillDry_105 : decode cX2_tillDry 105 = .ok (.goto (-88), 3) := by decide +kernel
theorem dX2_tillDry_108 : decode cX2_tillDry 108 = .ok (.iconst (-1), 1) := by decide +kernel
theorem dX2_tillDry_109 : decode cX2_tillDry 109 = .ok (.ireturn, 1) := by decide +kernel
theorem dX2_leastBait_0 : decode cX2_leastBait 0 = .ok (.iconst (-1), 1) := by decide +kernel
theorem dX2_leastBait_1 : decode cX2_leastBait 1 = .ok (.istore_n 3, 1) := by decide +kernel
theorem dX2_leastBait_2 : decode cX2_leastBait 2 = .ok (.aload_n 0, 1) := by decide +kernel
theorem dX2_leastBait_3 : decode cX2_leastBait 3 = .ok (.getfield 13, 3) := by decide +kernel
theorem dX2_leastBait_6 : decode cX2_leastBait 6 = .ok (.iconst 0, 1) := by decide +kernel
theorem dX2_leastBait_7 : decode cX2_leastBait 7 = .ok (.aaload, 1) := by decide +kernel
theorem dX2_leastBait_8 : decode cX2_leastBait 8 = .ok (.aload_n 1, 1) := by decide +kernel
theorem dX2_leastBait_9 : decode cX2_leastBait 9 = .ok (.invokevirtual 53, 3) := by decide +kernel
theorem dX2_leastBait_12 : decode cX2_leastBait 12 = .ok (.iconst (-1), 1) := by decide +kernel
theorem dX2_leastBait_13 : decode cX2_leastBait 13 = .ok (.istore 4, 2) := by decide +kernel
theorem dX2_leastBait_15 : decode cX2_leastBait 15 = .ok (.iload 4, 2) := by decide +kernel
theorem dX2_leastBait_17 : decode cX2_leastBait 17 = .ok (.aload_n 0, 1) := by decide +kernel
theorem dX2_leastBait_18 : decode cX2_leastBait 18 = .ok (.getfield 29, 3) := by decide +kernel
theorem dX2_leastBait_21 : decode cX2_leastBait 21 = .ok (.getfield 93, 3) := by decide +kernel
theorem dX2_leastBait_24 : decode cX2_leastBait 24 = .ok (.if_icmp .ge 112, 3) := by decide +kernel
theorem dX2_leastBait_27 : decode cX2_leastBait 27 = .ok (.iload 4, 2) := by decide +kernel
theorem dX2_leastBait_29 : decode cX2_leastBait 29 = .ok (.istore 5, 2) := by decide +kernel
theorem dX2_leastBait_31 : decode cX2_leastBait 31 = .ok (.iload 5, 2) := by decide +kernel
theorem dX2_leastBait_33 : decode cX2_leastBait 33 = .ok (.aload_n 0, 1) := by decide +kernel
theorem dX2_leastBait_34 : decode cX2_leastBait 34 = .ok (.getfield 29, 3) := by decide +kernel
theorem dX2_leastBait_37 : decode cX2_leastBait 37 = .ok (.getfield 93, 3) := by decide +kernel
theorem dX2_leastBait_40 : decode cX2_leastBait 40 = .ok (.if_icmp .ge 90, 3) := by decide +kernel
theorem dX2_leastBait_43 : decode cX2_leastBait 43 = .ok (.iload 5, 2) := by decide +kernel
theorem dX2_leastBait_45 : decode cX2_leastBait 45 = .ok (.istore 6, 2) := by decide +kernel
theorem dX2_leastBait_47 : decode cX2_leastBait 47 = .ok (.iload 6, 2) := by decide +kernel
theorem dX2_leastBait_49 : decode cX2_leastBait 49 = .ok (.aload_n 0, 1) := by decide +kernel
theorem dX2_leastBait_50 : decode cX2_leastBait 50 = .ok (.getfield 29, 3) := by decide +kernel
theorem dX2_leastBait_53 : decode cX2_leastBait 53 = .ok (.getfield 93, 3) := by decide +kernel
theorem dX2_leastBait_56 : decode cX2_leastBait 56 = .ok (.if_icmp .ge 68, 3) := by decide +kernel
theorem dX2_leastBait_59 : decode cX2_leastBait 59 = .ok (.aload_n 0, 1) := by decide +kernel
theorem dX2_leastBait_60 : decode cX2_leastBait 60 = .ok (.getfield 29, 3) := by decide +kernel
theorem dX2_leastBait_63 : decode cX2_leastBait 63 = .ok (.iload 4, 2) := by decide +kernel
theorem dX2_leastBait_65 : decode cX2_leastBait 65 = .ok (.invokevirtual 140, 3) := by decide +kernel
theorem dX2_leastBait_68 : decode cX2_leastBait 68 = .ok (.aload_n 0, 1) := by decide +kernel
theorem dX2_leastBait_69 : decode cX2_leastBait 69 = .ok (.getfield 29, 3) := by decide +kernel
theorem dX2_leastBait_72 : decode cX2_leastBait 72 = .ok (.iload 5, 2) := by decide +kernel
theorem dX2_leastBait_74 : decode cX2_leastBait 74 = .ok (.invokevirtual 140, 3) := by decide +kernel
theorem dX2_leastBait_77 : decode cX2_leastBait 77 = .ok (.iadd, 1) := by decide +kernel
theorem dX2_leastBait_78 : decode cX2_leastBait 78 = .ok (.aload_n 0, 1) := by decide +kernel
theorem dX2_leastBait_79 : decode cX2_leastBait 79 = .ok (.getfield 29, 3) := by decide +kernel
theorem dX2_leastBait_82 : decode cX2_leastBait 82 = .ok (.iload 6, 2) := by decide +kernel
theorem dX2_leastBait_84 : decode cX2_leastBait 84 = .ok (.invokevirtual 140, 3) := by decide +kernel
theorem dX2_leastBait_87 : decode cX2_leastBait 87 = .ok (.iadd, 1) := by decide +kernel
theorem dX2_leastBait_88 : decode cX2_leastBait 88 = .ok (.istore 7, 2) := by decide +kernel
theorem dX2_leastBait_90 : decode cX2_leastBait 90 = .ok (.iload_n 3, 1) := by decide +kernel
theorem dX2_leastBait_91 : decode cX2_leastBait 91 = .ok (.iconst (-1), 1) := by decide +kernel
theorem dX2_leastBait_92 : decode cX2_leastBait 92 = .ok (.if_icmp .eq 9, 3) := by decide +kernel
theorem dX2_leastBait_95 : decode cX2_leastBait 95 = .ok (.iload 7, 2) := by decide +kernel
theorem dX2_leastBait_97 : decode cX2_leastBait 97 = .ok (.iload_n 3, 1) := by decide +kernel
theorem dX2_leastBait_98 : decode cX2_leastBait 98 = .ok (.if_icmp .ge 20, 3) := by decide +kernel
theorem dX2_leastBait_101 : decode cX2_leastBait 101 = .ok (.aload_n 0, 1) := by decide +kernel
theorem dX2_leastBait_102 : decode cX2_leastBait 102 = .ok (.iload_n 2, 1) := by decide +kernel
theorem dX2_leastBait_103 : decode cX2_leastBait 103 = .ok (.iload 4, 2) := by decide +kernel
theorem dX2_leastBait_105 : decode cX2_leastBait 105 = .ok (.iload 5, 2) := by decide +kernel
theorem dX2_leastBait_107 : decode cX2_leastBait 107 = .ok (.iload 6, 2) := by decide +kernel
theorem dX2_leastBait_109 : decode cX2_leastBait 109 = .ok (.invokevirtual 143, 3) := by decide +kernel
theorem dX2_leastBait_112 : decode cX2_leastBait 112 = .ok (.ifCond .eq 6, 3) := by decide +kernel
theorem dX2_leastBait_115 : decode cX2_leastBait 115 = .ok (.iload 7, 2) := by decide +kernel
theorem dX2_leastBait_117 : decode cX2_leastBait 117 = .ok (.istore_n 3, 1) := by decide +kernel
theorem dX2_leastBait_118 : decode cX2_leastBait 118 = .ok (.iinc 6 1, 3) := by decide +kernel
theorem dX2_leastBait_121 : decode cX2_leastBait 121 = .ok (.goto (-74), 3) := by decide +kernel
theorem dX2_leastBait_124 : decode cX2_leastBait 124 = .ok (.iinc 5 1, 3) := by decide +kernel
theorem dX2_leastBait_127 : decode cX2_leastBait 127 = .ok (.goto (-96), 3) := by decide +kernel
theorem dX2_leastBait_130 : decode cX2_leastBait 130 = .ok (.iinc 4 1, 3) := by decide +kernel
theorem dX2_leastBait_133 : decode cX2_leastBait 133 = .ok (.goto (-118), 3) := by decide +kernel
theorem dX2_leastBait_136 : decode cX2_leastBait 136 = .ok (.iload_n 3, 1) := by decide +kernel
theorem dX2_leastBait_137 : decode cX2_leastBait 137 = .ok (.ireturn, 1) := by decide +kernel
theorem dX2_tempts_0 : decode cX2_tempts 0 = .ok (.aload_n 0, 1) := by decide +kernel
theorem dX2_tempts_1 : decode cX2_tempts 1 = .ok (.iload_n 2, 1) := by decide +kernel
theorem dX2_tempts_2 : decode cX2_tempts 2 = .ok (.iload_n 3, 1) := by decide +kernel
theorem dX2_tempts_3 : decode cX2_tempts 3 = .ok (.iload 4, 2) := by decide +kernel
theorem dX2_tempts_5 : decode cX2_tempts 5 = .ok (.iconst 1, 1) := by decide +kernel
theorem dX2_tempts_6 : decode cX2_tempts 6 = .ok (.invokevirtual 147, 3) := by decide +kernel
theorem dX2_tempts_9 : decode cX2_tempts 9 = .ok (.aload_n 0, 1) := by decide +kernel
theorem dX2_tempts_10 : decode cX2_tempts 10 = .ok (.getfield 29, 3) := by decide +kernel
theorem dX2_tempts_13 : decode cX2_tempts 13 = .ok (.iload_n 1, 1) := by decide +kernel
theorem dX2_tempts_14 : decode cX2_tempts 14 = .ok (.invokevirtual 151, 3) := by decide +kernel
theorem dX2_tempts_17 : decode cX2_tempts 17 = .ok (.aload_n 0, 1) := by decide +kernel
theorem dX2_tempts_18 : decode cX2_tempts 18 = .ok (.getfield 29, 3) := by decide +kernel
theorem dX2_tempts_21 : decode cX2_tempts 21 = .ok (.aload_n 0, 1) := by decide +kernel
theorem dX2_tempts_22 : decode cX2_tempts 22 = .ok (.getfield 13, 3) := by decide +kernel
theorem dX2_tempts_25 : decode cX2_tempts 25 = .ok (.iconst 0, 1) := by decide +kernel
theorem dX2_tempts_26 : decode cX2_tempts 26 = .ok (.aaload, 1) := by decide +kernel
theorem dX2_tempts_27 : decode cX2_tempts 27 = .ok (.iload_n 1, 1) := by decide +kernel
theorem dX2_tempts_28 : decode cX2_tempts 28 = .ok (.invokevirtual 87, 3) := by decide +kernel
theorem dX2_tempts_31 : decode cX2_tempts 31 = .ok (.iconst (-1), 1) := by decide +kernel
theorem dX2_tempts_32 : decode cX2_tempts 32 = .ok (.if_icmp .eq 7, 3) := by decide +kernel
theorem dX2_tempts_35 : decode cX2_tempts 35 = .ok (.iconst 1, 1) := by decide +kernel
theorem dX2_tempts_36 : decode cX2_tempts 36 = .ok (.goto 4, 3) := by decide +kernel
theorem dX2_tempts_39 : decode cX2_tempts 39 = .ok (.iconst 0, 1) := by decide +kernel
theorem dX2_tempts_40 : decode cX2_tempts 40 = .ok (.istore 5, 2) := by decide +kernel
theorem dX2_tempts_42 : decode cX2_tempts 42 = .ok (.aload_n 0, 1) := by decide +kernel
theorem dX2_tempts_43 : decode cX2_tempts 43 = .ok (.iload_n 2, 1) := by decide +kernel
theorem dX2_tempts_44 : decode cX2_tempts 44 = .ok (.iload_n 3, 1) := by decide +kernel
theorem dX2_tempts_45 : decode cX2_tempts 45 = .ok (.iload 4, 2) := by decide +kernel
theorem dX2_tempts_47 : decode cX2_tempts 47 = .ok (.iconst (-1), 1) := by decide +kernel
theorem dX2_tempts_48 : decode cX2_tempts 48 = .ok (.invokevirtual 147, 3) := by decide +kernel
theorem dX2_tempts_51 : decode cX2_tempts 51 = .ok (.iload 5, 2) := by decide +kernel
theorem dX2_tempts_53 : decode cX2_tempts 53 = .ok (.ireturn, 1) := by decide +kernel
theorem dX2_putIn_0 : decode cX2_putIn 0 = .ok (.aload_n 0, 1) := by decide +kernel
theorem dX2_putIn_1 : decode cX2_putIn 1 = .ok (.getfield 13, 3) := by decide +kernel
theorem dX2_putIn_4 : decode cX2_putIn 4 = .ok (.iconst 0, 1) := by decide +kernel
theorem dX2_putIn_5 : decode cX2_putIn 5 = .ok (.aaload, 1) := by decide +kernel
theorem dX2_putIn_6 : decode cX2_putIn 6 = .ok (.iconst 4, 1) := by decide +kernel
theorem dX2_putIn_7 : decode cX2_putIn 7 = .ok (.iload_n 1, 1) := by decide +kernel
theorem dX2_putIn_8 : decode cX2_putIn 8 = .ok (.iload 4, 2) := by decide +kernel
theorem dX2_putIn_10 : decode cX2_putIn 10 = .ok (.invokevirtual 155, 3) := by decide +kernel
theorem dX2_putIn_13 : decode cX2_putIn 13 = .ok (.aload_n 0, 1) := by decide +kernel
theorem dX2_putIn_14 : decode cX2_putIn 14 = .ok (.getfield 13, 3) := by decide +kernel
theorem dX2_putIn_17 : decode cX2_putIn 17 = .ok (.iconst 0, 1) := by decide +kernel
theorem dX2_putIn_18 : decode cX2_putIn 18 = .ok (.aaload, 1) := by decide +kernel
theorem dX2_putIn_19 : decode cX2_putIn 19 = .ok (.iconst 4, 1) := by decide +kernel
theorem dX2_putIn_20 : decode cX2_putIn 20 = .ok (.iload_n 2, 1) := by decide +kernel
theorem dX2_putIn_21 : decode cX2_putIn 21 = .ok (.iload 4, 2) := by decide +kernel
theorem dX2_putIn_23 : decode cX2_putIn 23 = .ok (.invokevirtual 155, 3) := by decide +kernel
theorem dX2_putIn_26 : decode cX2_putIn 26 = .ok (.aload_n 0, 1) := by decide +kernel
theorem dX2_putIn_27 : decode cX2_putIn 27 = .ok (.getfield 13, 3) := by decide +kernel
theorem dX2_putIn_30 : decode cX2_putIn 30 = .ok (.iconst 0, 1) := by decide +kernel
theorem dX2_putIn_31 : decode cX2_putIn 31 = .ok (.aaload, 1) := by decide +kernel
theorem dX2_putIn_32 : decode cX2_putIn 32 = .ok (.iconst 4, 1) := by decide +kernel
theorem dX2_putIn_33 : decode cX2_putIn 33 = .ok (.iload_n 3, 1) := by decide +kernel
theorem dX2_putIn_34 : decode cX2_putIn 34 = .ok (.iload 4, 2) := by decide +kernel
theorem dX2_putIn_36 : decode cX2_putIn 36 = .ok (.invokevirtual 155, 3) := by decide +kernel
theorem dX2_putIn_39 : decode cX2_putIn 39 = .ok (.return_, 1) := by decide +kernel
theorem dX7_init_0 : decode cX7_init 0 = .ok (.aload_n 0, 1) := by decide +kernel
theorem dX7_init_1 : decode cX7_init 1 = .ok (.invokespecial 3, 3) := by decide +kernel
theorem dX7_init_4 : decode cX7_init 4 = .ok (.aload_n 0, 1) := by decide +kernel
theorem dX7_init_5 : decode cX7_init 5 = .ok (.sipush 200, 3) := by decide +kernel
theorem dX7_init_8 : decode cX7_init 8 = .ok (.newarray .int, 2) := by decide +kernel
theorem dX7_init_10 : decode cX7_init 10 = .ok (.putfield 9, 3) := by decide +kernel
theorem dX7_init_13 : decode cX7_init 13 = .ok (.aload_n 0, 1) := by decide +kernel
theorem dX7_init_14 : decode cX7_init 14 = .ok (.new 15, 3) := by decide +kernel
theorem dX7_init_17 : decode cX7_init 17 = .ok (.dup, 1) := by decide +kernel
theorem dX7_init_18 : decode cX7_init 18 = .ok (.invokespecial 17, 3) := by decide +kernel
theorem dX7_init_21 : decode cX7_init 21 = .ok (.putfield 18, 3) := by decide +kernel
theorem dX7_init_24 : decode cX7_init 24 = .ok (.return_, 1) := by decide +kernel
theorem dX7_append_0 : decode cX7_append 0 = .ok (.aload_n 0, 1) := by decide +kernel
theorem dX7_append_1 : decode cX7_append 1 = .ok (.getfield 22, 3) := by decide +kernel
theorem dX7_append_4 : decode cX7_append 4 = .ok (.ifCond .lt 33, 3) := by decide +kernel
theorem dX7_append_7 : decode cX7_append 7 = .ok (.aload_n 0, 1) := by decide +kernel
theorem dX7_append_8 : decode cX7_append 8 = .ok (.getfield 22, 3) := by decide +kernel
theorem dX7_append_11 : decode cX7_append 11 = .ok (.sipush 200, 3) := by decide +kernel
theorem dX7_append_14 : decode cX7_append 14 = .ok (.if_icmp .ge 23, 3) := by decide +kernel
theorem dX7_append_17 : decode cX7_append 17 = .ok (.aload_n 0, 1) := by decide +kernel
theorem dX7_append_18 : decode cX7_append 18 = .ok (.getfield 9, 3) := by decide +kernel
theorem dX7_append_21 : decode cX7_append 21 = .ok (.aload_n 0, 1) := by decide +kernel
theorem dX7_append_22 : decode cX7_append 22 = .ok (.getfield 22, 3) := by decide +kernel
theorem dX7_append_25 : decode cX7_append 25 = .ok (.iload_n 1, 1) := by decide +kernel
theorem dX7_append_26 : decode cX7_append 26 = .ok (.iastore, 1) := by decide +kernel
theorem dX7_append_27 : decode cX7_append 27 = .ok (.aload_n 0, 1) := by decide +kernel
theorem dX7_append_28 : decode cX7_append 28 = .ok (.dup, 1) := by decide +kernel
theorem dX7_append_29 : decode cX7_append 29 = .ok (.getfield 22, 3) := by decide +kernel
theorem dX7_append_32 : decode cX7_append 32 = .ok (.iconst 1, 1) := by decide +kernel
theorem dX7_append_33 : decode cX7_append 33 = .ok (.iadd, 1) := by decide +kernel
theorem dX7_append_34 : decode cX7_append 34 = .ok (.putfield 22, 3) := by decide +kernel
theorem dX7_append_37 : decode cX7_append 37 = .ok (.return_, 1) := by decide +kernel
theorem dX7_readOver_0 : decode cX7_readOver 0 = .ok (.aload_n 0, 1) := by decide +kernel
theorem dX7_readOver_1 : decode cX7_readOver 1 = .ok (.getfield 18, 3) := by decide +kernel
theorem dX7_readOver_4 : decode cX7_readOver 4 = .ok (.aload_n 1, 1) := by decide +kernel
theorem dX7_readOver_5 : decode cX7_readOver 5 = .ok (.invokevirtual 26, 3) := by decide +kernel
theorem dX7_readOver_8 : decode cX7_readOver 8 = .ok (.aload_n 0, 1) := by decide +kernel
theorem dX7_readOver_9 : decode cX7_readOver 9 = .ok (.iconst 0, 1) := by decide +kernel
theorem dX7_readOver_10 : decode cX7_readOver 10 = .ok (.putfield 30, 3) := by decide +kernel
theorem dX7_readOver_13 : decode cX7_readOver 13 = .ok (.aload_n 0, 1) := by decide +kernel
theorem dX7_readOver_14 : decode cX7_readOver 14 = .ok (.invokevirtual 33, 3) := by decide +kernel
theorem dX7_readOver_17 : decode cX7_readOver 17 = .ok (.aload_n 0, 1) := by decide +kernel
theorem dX7_readOver_18 : decode cX7_readOver 18 = .ok (.iconst 1, 1) := by decide +kernel
theorem dX7_readOver_19 : decode cX7_readOver 19 = .ok (.putfield 36, 3) := by decide +kernel
theorem dX7_readOver_22 : decode cX7_readOver 22 = .ok (.aload_n 0, 1) := by decide +kernel
theorem dX7_readOver_23 : decode cX7_readOver 23 = .ok (.getfield 36, 3) := by decide +kernel
theorem dX7_readOver_26 : decode cX7_readOver 26 = .ok (.bipush 10, 2) := by decide +kernel
theorem dX7_readOver_28 : decode cX7_readOver 28 = .ok (.if_icmp .gt 62, 3) := by decide +kernel
theorem dX7_readOver_31 : decode cX7_readOver 31 = .ok (.aload_n 0, 1) := by decide +kernel
theorem dX7_readOver_32 : decode cX7_readOver 32 = .ok (.invokevirtual 39, 3) := by decide +kernel
theorem dX7_readOver_35 : decode cX7_readOver 35 = .ok (.ifCond .ne 8, 3) := by decide +kernel
theorem dX7_readOver_38 : decode cX7_readOver 38 = .ok (.aload_n 0, 1) := by decide +kernel
theorem dX7_readOver_39 : decode cX7_readOver 39 = .ok (.getfield 43, 3) := by decide +kernel
theorem dX7_readOver_42 : decode cX7_readOver 42 = .ok (.ireturn, 1) := by decide +kernel
theorem dX7_readOver_43 : decode cX7_readOver 43 = .ok (.aload_n 0, 1) := by decide +kernel
theorem dX7_readOver_44 : decode cX7_readOver 44 = .ok (.getfield 46, 3) := by decide +kernel
theorem dX7_readOver_47 : decode cX7_readOver 47 = .ok (.ifCond .ne 5, 3) := by decide +kernel
theorem dX7_readOver_50 : decode cX7_readOver 50 = .ok (.iconst (-1), 1) := by decide +kernel
theorem dX7_readOver_51 : decode cX7_readOver 51 = .ok (.ireturn, 1) := by decide +kernel
theorem dX7_readOver_52 : decode cX7_readOver 52 = .ok (.aload_n 0, 1) := by decide +kernel
theorem dX7_readOver_53 : decode cX7_readOver 53 = .ok (.invokevirtual 49, 3) := by decide +kernel
theorem dX7_readOver_56 : decode cX7_readOver 56 = .ok (.ifCond .eq 12, 3) := by decide +kernel
theorem dX7_readOver_59 : decode cX7_readOver 59 = .ok (.aload_n 0, 1) := by decide +kernel
theorem dX7_readOver_60 : decode cX7_readOver 60 = .ok (.getfield 36, 3) := by decide +kernel
theorem dX7_readOver_63 : decode cX7_readOver 63 = .ok (.bipush 10, 2) := by decide +kernel
theorem dX7_readOver_65 : decode cX7_readOver 65 = .ok (.if_icmp .ne 8, 3) := by decide +kernel
theorem dX7_readOver_68 : decode cX7_readOver 68 = .ok (.aload_n 0, 1) := by decide +kernel
theorem dX7_readOver_69 : decode cX7_readOver 69 = .ok (.getfield 43, 3) := by decide +kernel
theorem dX7_readOver_72 : decode cX7_readOver 72 = .ok (.ireturn, 1) := by decide +kernel
theorem dX7_readOver_73 : decode cX7_readOver 73 = .ok (.aload_n 0, 1) := by decide +kernel
theorem dX7_readOver_74 : decode cX7_readOver 74 = .ok (.invokevirtual 33, 3) := by decide +kernel
theorem dX7_readOver_77 : decode cX7_readOver 77 = .ok (.aload_n 0, 1) := by decide +kernel
theorem dX7_readOver_78 : decode cX7_readOver 78 = .ok (.dup, 1) := by decide +kernel
theorem dX7_readOver_79 : decode cX7_readOver 79 = .ok (.getfield 36, 3) := by decide +kernel
theorem dX7_readOver_82 : decode cX7_readOver 82 = .ok (.iconst 1, 1) := by decide +kernel
theorem dX7_readOver_83 : decode cX7_readOver 83 = .ok (.iadd, 1) := by decide +kernel
theorem dX7_readOver_84 : decode cX7_readOver 84 = .ok (.putfield 36, 3) := by decide +kernel
theorem dX7_readOver_87 : decode cX7_readOver 87 = .ok (.goto (-65), 3) := by decide +kernel
theorem dX7_readOver_90 : decode cX7_readOver 90 = .ok (.aload_n 0, 1) := by decide +kernel
theorem dX7_readOver_91 : decode cX7_readOver 91 = .ok (.getfield 43, 3) := by decide +kernel
theorem dX7_readOver_94 : decode cX7_readOver 94 = .ok (.ireturn, 1) := by decide +kernel
theorem dX7_nextToken_0 : decode cX7_nextToken 0 = .ok (.aload_n 0, 1) := by decide +kernel
theorem dX7_nextToken_1 : decode cX7_nextToken 1 = .ok (.aload_n 0, 1) := by decide +kernel
theorem dX7_nextToken_2 : decode cX7_nextToken 2 = .ok (.getfield 30, 3) := by decide +kernel
theorem dX7_nextToken_5 : decode cX7_nextToken 5 = .ok (.putfield 43, 3) := by decide +kernel
theorem dX7_nextToken_8 : decode cX7_nextToken 8 = .ok (.aload_n 0, 1) := by decide +kernel
theorem dX7_nextToken_9 : decode cX7_nextToken 9 = .ok (.getfield 43, 3) := by decide +kernel
theorem dX7_nextToken_12 : decode cX7_nextToken 12 = .ok (.aload_n 0, 1) := by decide +kernel
theorem dX7_nextToken_13 : decode cX7_nextToken 13 = .ok (.getfield 22, 3) := by decide +kernel
theorem dX7_nextToken_16 : decode cX7_nextToken 16 = .ok (.if_icmp .ge 29, 3) := by decide +kernel
theorem dX7_nextToken_19 : decode cX7_nextToken 19 = .ok (.aload_n 0, 1) := by decide +kernel
theorem dX7_nextToken_20 : decode cX7_nextToken 20 = .ok (.aload_n 0, 1) := by decide +kernel
theorem dX7_nextToken_21 : decode cX7_nextToken 21 = .ok (.getfield 43, 3) := by decide +kernel
theorem dX7_nextToken_24 : decode cX7_nextToken 24 = .ok (.invokevirtual 52, 3) := by decide +kernel
theorem dX7_nextToken_27 : decode cX7_nextToken 27 = .ok (.bipush 32, 2) := by decide +kernel
theorem dX7_nextToken_29 : decode cX7_nextToken 29 = .ok (.if_icmp .ne 16, 3) := by decide +kernel
theorem dX7_nextToken_32 : decode cX7_nextToken 32 = .ok (.aload_n 0, 1) := by decide +kernel
theorem dX7_nextToken_33 : decode cX7_nextToken 33 = .ok (.dup, 1) := by decide +kernel
theorem dX7_nextToken_34 : decode cX7_nextToken 34 = .ok (.getfield 43, 3) := by decide +kernel
theorem dX7_nextToken_37 : decode cX7_nextToken 37 = .ok (.iconst 1, 1) := by decide +kernel
theorem dX7_nextToken_38 : decode cX7_nextToken 38 = .ok (.iadd, 1) := by decide +kernel
theorem dX7_nextToken_39 : decode cX7_nextToken 39 = .ok (.putfield 43, 3) := by decide +kernel
theorem dX7_nextToken_42 : decode cX7_nextToken 42 = .ok (.goto (-34), 3) := by decide +kernel
theorem dX7_nextToken_45 : decode cX7_nextToken 45 = .ok (.aload_n 0, 1) := by decide +kernel
theorem dX7_nextToken_46 : decode cX7_nextToken 46 = .ok (.aload_n 0, 1) := by decide +kernel
theorem dX7_nextToken_47 : decode cX7_nextToken 47 = .ok (.aload_n 0, 1) := by decide +kernel
theorem dX7_nextToken_48 : decode cX7_nextToken 48 = .ok (.getfield 43, 3) := by decide +kernel
theorem dX7_nextToken_51 : decode cX7_nextToken 51 = .ok (.invokevirtual 52, 3) := by decide +kernel
theorem dX7_nextToken_54 : decode cX7_nextToken 54 = .ok (.invokestatic 56, 3) := by decide +kernel
theorem dX7_nextToken_57 : decode cX7_nextToken 57 = .ok (.putfield 46, 3) := by decide +kernel
theorem dX7_nextToken_60 : decode cX7_nextToken 60 = .ok (.aload_n 0, 1) := by decide +kernel
theorem dX7_nextToken_61 : decode cX7_nextToken 61 = .ok (.aload_n 0, 1) := by decide +kernel
theorem dX7_nextToken_62 : decode cX7_nextToken 62 = .ok (.getfield 43, 3) := by decide +kernel
theorem dX7_nextToken_65 : decode cX7_nextToken 65 = .ok (.iconst 1, 1) := by decide +kernel
theorem dX7_nextToken_66 : decode cX7_nextToken 66 = .ok (.iadd, 1) := by decide +kernel
theorem dX7_nextToken_67 : decode cX7_nextToken 67 = .ok (.aload_n 0, 1) := by decide +kernel
theorem dX7_nextToken_68 : decode cX7_nextToken 68 = .ok (.getfield 22, 3) := by decide +kernel
theorem dX7_nextToken_71 : decode cX7_nextToken 71 = .ok (.invokestatic 59, 3) := by decide +kernel
theorem dX7_nextToken_74 : decode cX7_nextToken 74 = .ok (.putfield 30, 3) := by decide +kernel
theorem dX7_nextToken_77 : decode cX7_nextToken 77 = .ok (.aload_n 0, 1) := by decide +kernel
theorem dX7_nextToken_78 : decode cX7_nextToken 78 = .ok (.getfield 46, 3) := by decide +kernel
theorem dX7_nextToken_81 : decode cX7_nextToken 81 = .ok (.iconst 1, 1) := by decide +kernel
theorem dX7_nextToken_82 : decode cX7_nextToken 82 = .ok (.if_icmp .eq 11, 3) := by decide +kernel
theorem dX7_nextToken_85 : decode cX7_nextToken 85 = .ok (.aload_n 0, 1) := by decide +kernel
theorem dX7_nextToken_86 : decode cX7_nextToken 86 = .ok (.getfield 46, 3) := by decide +kernel
theorem dX7_nextToken_89 : decode cX7_nextToken 89 = .ok (.iconst 2, 1) := by decide +kernel
theorem dX7_nextToken_90 : decode cX7_nextToken 90 = .ok (.if_icmp .ne 7, 3) := by decide +kernel
theorem dX7_nextToken_93 : decode cX7_nextToken 93 = .ok (.iconst 1, 1) := by decide +kernel
theorem dX7_nextToken_94 : decode cX7_nextToken 94 = .ok (.goto 4, 3) := by decide +kernel
theorem dX7_nextToken_97 : decode cX7_nextToken 97 = .ok (.iconst 0, 1) := by decide +kernel
theorem dX7_nextToken_98 : decode cX7_nextToken 98 = .ok (.istore_n 1, 1) := by decide +kernel
theorem dX7_nextToken_99 : decode cX7_nextToken 99 = .ok (.iload_n 1, 1) := by decide +kernel
theorem dX7_nextToken_100 : decode cX7_nextToken 100 = .ok (.ifCond .eq 45, 3) := by decide +kernel
theorem dX7_nextToken_103 : decode cX7_nextToken 103 = .ok (.aload_n 0, 1) := by decide +kernel
theorem dX7_nextToken_104 : decode cX7_nextToken 104 = .ok (.getfield 30, 3) := by decide +kernel
theorem dX7_nextToken_107 : decode cX7_nextToken 107 = .ok (.aload_n 0, 1) := by decide +kernel
theorem dX7_nextToken_108 : decode cX7_nextToken 108 = .ok (.getfield 22, 3) := by decide +kernel
theorem dX7_nextToken_111 : decode cX7_nextToken 111 = .ok (.if_icmp .ge 34, 3) := by decide +kernel
theorem dX7_nextToken_114 : decode cX7_nextToken 114 = .ok (.aload_n 0, 1) := by decide +kernel
theorem dX7_nextToken_115 : decode cX7_nextToken 115 = .ok (.aload_n 0, 1) := by decide +kernel
theorem dX7_nextToken_116 : decode cX7_nextToken 116 = .ok (.getfield 30, 3) := by decide +kernel
theorem dX7_nextToken_119 : decode cX7_nextToken 119 = .ok (.invokevirtual 52, 3) := by decide +kernel
theorem dX7_nextToken_122 : decode cX7_nextToken 122 = .ok (.invokestatic 56, 3) := by decide +kernel
theorem dX7_nextToken_125 : decode cX7_nextToken 125 = .ok (.aload_n 0, 1) := by decide +kernel
theorem dX7_nextToken_126 : decode cX7_nextToken 126 = .ok (.getfield 46, 3) := by decide +kernel
theorem dX7_nextToken_129 : decode cX7_nextToken 129 = .ok (.if_icmp .ne 16, 3) := by decide +kernel
theorem dX7_nextToken_132 : decode cX7_nextToken 132 = .ok (.aload_n 0, 1) := by decide +kernel
theorem dX7_nextToken_133 : decode cX7_nextToken 133 = .ok (.dup, 1) := by decide +kernel
theorem dX7_nextToken_134 : decode cX7_nextToken 134 = .ok (.getfield 30, 3) := by decide +kernel
theorem dX7_nextToken_137 : decode cX7_nextToken 137 = .ok (.iconst 1, 1) := by decide +kernel
theorem dX7_nextToken_138 : decode cX7_nextToken 138 = .ok (.iadd, 1) := by decide +kernel
theorem dX7_nextToken_139 : decode cX7_nextToken 139 = .ok (.putfield 30, 3) := by decide +kernel
theorem dX7_nextToken_142 : decode cX7_nextToken 142 = .ok (.goto (-43), 3) := by decide +kernel
theorem dX7_nextToken_145 : decode cX7_nextToken 145 = .ok (.return_, 1) := by decide +kernel
theorem dX7_byteAt_0 : decode cX7_byteAt 0 = .ok (.iload_n 1, 1) := by decide +kernel
theorem dX7_byteAt_1 : decode cX7_byteAt 1 = .ok (.ifCond .lt 27, 3) := by decide +kernel
theorem dX7_byteAt_4 : decode cX7_byteAt 4 = .ok (.iload_n 1, 1) := by decide +kernel
theorem dX7_byteAt_5 : decode cX7_byteAt 5 = .ok (.aload_n 0, 1) := by decide +kernel
theorem dX7_byteAt_6 : decode cX7_byteAt 6 = .ok (.getfield 22, 3) := by decide +kernel
theorem dX7_byteAt_9 : decode cX7_byteAt 9 = .ok (.if_icmp .ge 19, 3) := by decide +kernel
theorem dX7_byteAt_12 : decode cX7_byteAt 12 = .ok (.iload_n 1, 1) := by decide +kernel
theorem dX7_byteAt_13 : decode cX7_byteAt 13 = .ok (.sipush 200, 3) := by decide +kernel
theorem dX7_byteAt_16 : decode cX7_byteAt 16 = .ok (.if_icmp .ge 12, 3) := by decide +kernel
theorem dX7_byteAt_19 : decode cX7_byteAt 19 = .ok (.aload_n 0, 1) := by decide +kernel
theorem dX7_byteAt_20 : decode cX7_byteAt 20 = .ok (.getfield 9, 3) := by decide +kernel
theorem dX7_byteAt_23 : decode cX7_byteAt 23 = .ok (.iload_n 1, 1) := by decide +kernel
theorem dX7_byteAt_24 : decode cX7_byteAt 24 = .ok (.iaload, 1) := by decide +kernel
theorem dX7_byteAt_25 : decode cX7_byteAt 25 = .ok (.goto 4, 3) := by decide +kernel
theorem dX7_byteAt_28 : decode cX7_byteAt 28 = .ok (.iconst (-1), 1) := by decide +kernel
theorem dX7_byteAt_29 : decode cX7_byteAt 29 = .ok (.ireturn, 1) := by decide +kernel
theorem dX7_tokenOf_0 : decode cX7_tokenOf 0 = .ok (.iload_n 0, 1) := by decide +kernel
theorem dX7_tokenOf_1 : decode cX7_tokenOf 1 = .ok (.iconst (-1), 1) := by decide +kernel
theorem dX7_tokenOf_2 : decode cX7_tokenOf 2 = .ok (.if_icmp .ne 5, 3) := by decide +kernel
theorem dX7_tokenOf_5 : decode cX7_tokenOf 5 = .ok (.iconst 0, 1) := by decide +kernel
theorem dX7_tokenOf_6 : decode cX7_tokenOf 6 = .ok (.ireturn, 1) := by decide +kernel
theorem dX7_tokenOf_7 : decode cX7_tokenOf 7 = .ok (.iload_n 0, 1) := by decide +kernel
theorem dX7_tokenOf_8 : decode cX7_tokenOf 8 = .ok (.bipush 97, 2) := by decide +kernel
theorem dX7_tokenOf_10 : decode cX7_tokenOf 10 = .ok (.if_icmp .lt 11, 3) := by decide +kernel
theorem dX7_tokenOf_13 : decode cX7_tokenOf 13 = .ok (.iload_n 0, 1) := by decide +kernel
theorem dX7_tokenOf_14 : decode cX7_tokenOf 14 = .ok (.bipush 122, 2) := by decide +kernel
theorem dX7_tokenOf_16 : decode cX7_tokenOf 16 = .ok (.if_icmp .gt 5, 3) := by decide +kernel
theorem dX7_tokenOf_19 : decode cX7_tokenOf 19 = .ok (.iconst 1, 1) := by decide +kernel
theorem dX7_tokenOf_20 : decode cX7_tokenOf 20 = .ok (.ireturn, 1) := by decide +kernel
theorem dX7_tokenOf_21 : decode cX7_tokenOf 21 = .ok (.iload_n 0, 1) := by decide +kernel
theorem dX7_tokenOf_22 : decode cX7_tokenOf 22 = .ok (.bipush 48, 2) := by decide +kernel
theorem dX7_tokenOf_24 : decode cX7_tokenOf 24 = .ok (.if_icmp .lt 13, 3) := by decide +kernel
theorem dX7_tokenOf_27 : decode cX7_tokenOf 27 = .ok (.iload_n 0, 1) := by decide +kernel
theorem dX7_tokenOf_28 : decode cX7_tokenOf 28 = .ok (.bipush 57, 2) := by decide +kernel
theorem dX7_tokenOf_30 : decode cX7_tokenOf 30 = .ok (.if_icmp .gt 7, 3) := by decide +kernel
theorem dX7_tokenOf_33 : decode cX7_tokenOf 33 = .ok (.iconst 2, 1) := by decide +kernel
theorem dX7_tokenOf_34 : decode cX7_tokenOf 34 = .ok (.goto 4, 3) := by decide +kernel
theorem dX7_tokenOf_37 : decode cX7_tokenOf 37 = .ok (.iconst 3, 1) := by decide +kernel
theorem dX7_tokenOf_38 : decode cX7_tokenOf 38 = .ok (.ireturn, 1) := by decide +kernel
theorem dX7_isSemicolon_0 : decode cX7_isSemicolon 0 = .ok (.aload_n 0, 1) := by decide +kernel
theorem dX7_isSemicolon_1 : decode cX7_isSemicolon 1 = .ok (.getfield 46, 3) := by decide +kernel
theorem dX7_isSemicolon_4 : decode cX7_isSemicolon 4 = .ok (.iconst 3, 1) := by decide +kernel
theorem dX7_isSemicolon_5 : decode cX7_isSemicolon 5 = .ok (.if_icmp .ne 20, 3) := by decide +kernel
theorem dX7_isSemicolon_8 : decode cX7_isSemicolon 8 = .ok (.aload_n 0, 1) := by decide +kernel
theorem dX7_isSemicolon_9 : decode cX7_isSemicolon 9 = .ok (.aload_n 0, 1) := by decide +kernel
theorem dX7_isSemicolon_10 : decode cX7_isSemicolon 10 = .ok (.getfield 43, 3) := by decide +kernel
theorem dX7_isSemicolon_13 : decode cX7_isSemicolon 13 = .ok (.invokevirtual 52, 3) := by decide +kernel
theorem dX7_isSemicolon_16 : decode cX7_isSemicolon 16 = .ok (.bipush 59, 2) := by decide +kernel
theorem dX7_isSemicolon_18 : decode cX7_isSemicolon 18 = .ok (.if_icmp .ne 7, 3) := by decide +kernel
theorem dX7_isSemicolon_21 : decode cX7_isSemicolon 21 = .ok (.iconst 1, 1) := by decide +kernel
theorem dX7_isSemicolon_22 : decode cX7_isSemicolon 22 = .ok (.goto 4, 3) := by decide +kernel
theorem dX7_isSemicolon_25 : decode cX7_isSemicolon 25 = .ok (.iconst 0, 1) := by decide +kernel
theorem dX7_isSemicolon_26 : decode cX7_isSemicolon 26 = .ok (.ireturn, 1) := by decide +kernel
theorem dX7_readLine_0 : decode cX7_readLine 0 = .ok (.aload_n 0, 1) := by decide +kernel
theorem dX7_readLine_1 : decode cX7_readLine 1 = .ok (.ldc 65, 2) := by decide +kernel
theorem dX7_readLine_3 : decode cX7_readLine 3 = .ok (.invokevirtual 67, 3) := by decide +kernel
theorem dX7_readLine_6 : decode cX7_readLine 6 = .ok (.ifCond .eq 8, 3) := by decide +kernel
theorem dX7_readLine_9 : decode cX7_readLine 9 = .ok (.aload_n 0, 1) := by decide +kernel
theorem dX7_readLine_10 : decode cX7_readLine 10 = .ok (.invokevirtual 71, 3) := by decide +kernel
theorem dX7_readLine_13 : decode cX7_readLine 13 = .ok (.ireturn, 1) := by decide +kernel
theorem dX7_readLine_14 : decode cX7_readLine 14 = .ok (.aload_n 0, 1) := by decide +kernel
theorem dX7_readLine_15 : decode cX7_readLine 15 = .ok (.ldc 74, 2) := by decide +kernel
theorem dX7_readLine_17 : decode cX7_readLine 17 = .ok (.invokevirtual 67, 3) := by decide +kernel
theorem dX7_readLine_20 : decode cX7_readLine 20 = .ok (.ifCond .eq 9, 3) := by decide +kernel
theorem dX7_readLine_23 : decode cX7_readLine 23 = .ok (.aload_n 0, 1) := by decide +kernel
theorem dX7_readLine_24 : decode cX7_readLine 24 = .ok (.iconst 4, 1) := by decide +kernel
theorem dX7_readLine_25 : decode cX7_readLine 25 = .ok (.invokevirtual 76, 3) := by decide +kernel
theorem dX7_readLine_28 : decode cX7_readLine 28 = .ok (.ireturn, 1) := by decide +kernel
theorem dX7_readLine_29 : decode cX7_readLine 29 = .ok (.aload_n 0, 1) := by decide +kernel
theorem dX7_readLine_30 : decode cX7_readLine 30 = .ok (.ldc 80, 2) := by decide +kernel
theorem dX7_readLine_32 : decode cX7_readLine 32 = .ok (.invokevirtual 67, 3) := by decide +kernel
theorem dX7_readLine_35 : decode cX7_readLine 35 = .ok (.ifCond .eq 29, 3) := by decide +kernel
theorem dX7_readLine_38 : decode cX7_readLine 38 = .ok (.aload_n 0, 1) := by decide +kernel
theorem dX7_readLine_39 : decode cX7_readLine 39 = .ok (.iconst 0, 1) := by decide +kernel
theorem dX7_readLine_40 : decode cX7_readLine 40 = .ok (.iconst 3, 1) := by decide +kernel
theorem dX7_readLine_41 : decode cX7_readLine 41 = .ok (.invokevirtual 82, 3) := by decide +kernel
theorem dX7_readLine_44 : decode cX7_readLine 44 = .ok (.ifCond .eq 18, 3) := by decide +kernel
theorem dX7_readLine_47 : decode cX7_readLine 47 = .ok (.aload_n 0, 1) := by decide +kernel
theorem dX7_readLine_48 : decode cX7_readLine 48 = .ok (.aload_n 0, 1) := by decide +kernel
theorem dX7_readLine_49 : decode cX7_readLine 49 = .ok (.getfield 86, 3) := by decide +kernel
theorem dX7_readLine_52 : decode cX7_readLine 52 = .ok (.invokevirtual 76, 3) := by decide +kernel
theorem dX7_readLine_55 : decode cX7_readLine 55 = .ok (.ifCond .eq 7, 3) := by decide +kernel
theorem dX7_readLine_58 : decode cX7_readLine 58 = .ok (.iconst 1, 1) := by decide +kernel
theorem dX7_readLine_59 : decode cX7_readLine 59 = .ok (.goto 4, 3) := by decide +kernel
theorem dX7_readLine_62 : decode cX7_readLine 62 = .ok (.iconst 0, 1) := by decide +kernel
theorem dX7_readLine_63 : decode cX7_readLine 63 = .ok (.ireturn, 1) := by decide +kernel
theorem dX7_readLine_64 : decode cX7_readLine 64 = .ok (.aload_n 0, 1) := by decide +kernel
theorem dX7_readLine_65 : decode cX7_readLine 65 = .ok (.ldc 89, 2) := by decide +kernel
theorem dX7_readLine_67 : decode cX7_readLine 67 = .ok (.invokevirtual 67, 3) := by decide +kernel
theorem dX7_readLine_70 : decode cX7_readLine 70 = .ok (.ifCond .eq 9, 3) := by decide +kernel
theorem dX7_readLine_73 : decode cX7_readLine 73 = .ok (.aload_n 0, 1) := by decide +kernel
theorem dX7_readLine_74 : decode cX7_readLine 74 = .ok (.iconst 0, 1) := by decide +kernel
theorem dX7_readLine_75 : decode cX7_readLine 75 = .ok (.invokevirtual 91, 3) := by decide +kernel
theorem dX7_readLine_78 : decode cX7_readLine 78 = .ok (.ireturn, 1) := by decide +kernel
theorem dX7_readLine_79 : decode cX7_readLine 79 = .ok (.aload_n 0, 1) := by decide +kernel
theorem dX7_readLine_80 : decode cX7_readLine 80 = .ok (.ldc 94, 2) := by decide +kernel
theorem dX7_readLine_82 : decode cX7_readLine 82 = .ok (.invokevirtual 67, 3) := by decide +kernel
theorem dX7_readLine_85 : decode cX7_readLine 85 = .ok (.ifCond .eq 9, 3) := by decide +kernel
theorem dX7_readLine_88 : decode cX7_readLine 88 = .ok (.aload_n 0, 1) := by decide +kernel
theorem dX7_readLine_89 : decode cX7_readLine 89 = .ok (.iconst 1, 1) := by decide +kernel
theorem dX7_readLine_90 : decode cX7_readLine 90 = .ok (.invokevirtual 91, 3) := by decide +kernel
theorem dX7_readLine_93 : decode cX7_readLine 93 = .ok (.ireturn, 1) := by decide +kernel
theorem dX7_readLine_94 : decode cX7_readLine 94 = .ok (.aload_n 0, 1) := by decide +kernel
theorem dX7_readLine_95 : decode cX7_readLine 95 = .ok (.ldc 96, 2) := by decide +kernel
theorem dX7_readLine_97 : decode cX7_readLine 97 = .ok (.invokevirtual 67, 3) := by decide +kernel
theorem dX7_readLine_100 : decode cX7_readLine 100 = .ok (.ifCond .eq 8, 3) := by decide +kernel
theorem dX7_readLine_103 : decode cX7_readLine 103 = .ok (.aload_n 0, 1) := by decide +kernel
theorem dX7_readLine_104 : decode cX7_readLine 104 = .ok (.invokevirtual 98, 3) := by decide +kernel
theorem dX7_readLine_107 : decode cX7_readLine 107 = .ok (.ireturn, 1) := by decide +kernel
theorem dX7_readLine_108 : decode cX7_readLine 108 = .ok (.aload_n 0, 1) := by decide +kernel
theorem dX7_readLine_109 : decode cX7_readLine 109 = .ok (.ldc 101, 2) := by decide +kernel
theorem dX7_readLine_111 : decode cX7_readLine 111 = .ok (.invokevirtual 67, 3) := by decide +kernel
theorem dX7_readLine_114 : decode cX7_readLine 114 = .ok (.ifCond .eq 9, 3) := by decide +kernel
theorem dX7_readLine_117 : decode cX7_readLine 117 = .ok (.aload_n 0, 1) := by decide +kernel
theorem dX7_readLine_118 : decode cX7_readLine 118 = .ok (.iconst 3, 1) := by decide +kernel
theorem dX7_readLine_119 : decode cX7_readLine 119 = .ok (.invokevirtual 91, 3) := by decide +kernel
theorem dX7_readLine_122 : decode cX7_readLine 122 = .ok (.ireturn, 1) := by decide +kernel
theorem dX7_readLine_123 : decode cX7_readLine 123 = .ok (.aload_n 0, 1) := by decide +kernel
theorem dX7_readLine_124 : decode cX7_readLine 124 = .ok (.ldc 103, 2) := by decide +kernel
theorem dX7_readLine_126 : decode cX7_readLine 126 = .ok (.invokevirtual 67, 3) := by decide +kernel
theorem dX7_readLine_129 : decode cX7_readLine 129 = .ok (.ifCond .eq 8, 3) := by decide +kernel
theorem dX7_readLine_132 : decode cX7_readLine 132 = .ok (.aload_n 0, 1) := by decide +kernel
theorem dX7_readLine_133 : decode cX7_readLine 133 = .ok (.invokevirtual 105, 3) := by decide +kernel
theorem dX7_readLine_136 : decode cX7_readLine 136 = .ok (.ireturn, 1) := by decide +kernel
theorem dX7_readLine_137 : decode cX7_readLine 137 = .ok (.aload_n 0, 1) := by decide +kernel
theorem dX7_readLine_138 : decode cX7_readLine 138 = .ok (.ldc 108, 2) := by decide +kernel
theorem dX7_readLine_140 : decode cX7_readLine 140 = .ok (.invokevirtual 67, 3) := by decide +kernel
theorem dX7_readLine_143 : decode cX7_readLine 143 = .ok (.ifCond .eq 8, 3) := by decide +kernel
theorem dX7_readLine_146 : decode cX7_readLine 146 = .ok (.aload_n 0, 1) := by decide +kernel
theorem dX7_readLine_147 : decode cX7_readLine 147 = .ok (.invokevirtual 110, 3) := by decide +kernel
theorem dX7_readLine_150 : decode cX7_readLine 150 = .ok (.ireturn, 1) := by decide +kernel
theorem dX7_readLine_151 : decode cX7_readLine 151 = .ok (.aload_n 0, 1) := by decide +kernel
theorem dX7_readLine_152 : decode cX7_readLine 152 = .ok (.ldc 113, 2) := by decide +kernel
theorem dX7_readLine_154 : decode cX7_readLine 154 = .ok (.invokevirtual 67, 3) := by decide +kernel
theorem dX7_readLine_157 : decode cX7_readLine 157 = .ok (.ifCond .eq 14, 3) := by decide +kernel
theorem dX7_readLine_160 : decode cX7_readLine 160 = .ok (.aload_n 0, 1) := by decide +kernel
theorem dX7_readLine_161 : decode cX7_readLine 161 = .ok (.invokevirtual 115, 3) := by decide +kernel
theorem dX7_readLine_164 : decode cX7_readLine 164 = .ok (.ifCond .eq 7, 3) := by decide +kernel
theorem dX7_readLine_167 : decode cX7_readLine 167 = .ok (.iconst 1, 1) := by decide +kernel
theorem dX7_readLine_168 : decode cX7_readLine 168 = .ok (.goto 4, 3) := by decide +kernel
theorem dX7_readLine_171 : decode cX7_readLine 171 = .ok (.iconst 0, 1) := by decide +kernel
theorem dX7_readLine_172 : decode cX7_readLine 172 = .ok (.ireturn, 1) := by decide +kernel
theorem dX7_readWord_0 : decode cX7_readWord 0 = .ok (.aload_n 0, 1) := by decide +kernel
theorem dX7_readWord_1 : decode cX7_readWord 1 = .ok (.getfield 46, 3) := by decide +kernel
theorem dX7_readWord_4 : decode cX7_readWord 4 = .ok (.iconst 1, 1) := by decide +kernel
theorem dX7_readWord_5 : decode cX7_readWord 5 = .ok (.if_icmp .ne 19, 3) := by decide +kernel
theorem dX7_readWord_8 : decode cX7_readWord 8 = .ok (.aload_n 0, 1) := by decide +kernel
theorem dX7_readWord_9 : decode cX7_readWord 9 = .ok (.getfield 30, 3) := by decide +kernel
theorem dX7_readWord_12 : decode cX7_readWord 12 = .ok (.aload_n 0, 1) := by decide +kernel
theorem dX7_readWord_13 : decode cX7_readWord 13 = .ok (.getfield 43, 3) := by decide +kernel
theorem dX7_readWord_16 : decode cX7_readWord 16 = .ok (.isub, 1) := by decide +kernel
theorem dX7_readWord_17 : decode cX7_readWord 17 = .ok (.aload_n 1, 1) := by decide +kernel
theorem dX7_readWord_18 : decode cX7_readWord 18 = .ok (.invokevirtual 118, 3) := by decide +kernel
theorem dX7_readWord_21 : decode cX7_readWord 21 = .ok (.if_icmp .eq 5, 3) := by decide +kernel
theorem dX7_readWord_24 : decode cX7_readWord 24 = .ok (.iconst 0, 1) := by decide +kernel
theorem dX7_readWord_25 : decode cX7_readWord 25 = .ok (.ireturn, 1) := by decide +kernel
theorem dX7_readWord_26 : decode cX7_readWord 26 = .ok (.iconst 0, 1) := by decide +kernel
theorem dX7_readWord_27 : decode cX7_readWord 27 = .ok (.istore_n 2, 1) := by decide +kernel
theorem dX7_readWord_28 : decode cX7_readWord 28 = .ok (.iload_n 2, 1) := by decide +kernel
theorem dX7_readWord_29 : decode cX7_readWord 29 = .ok (.aload_n 1, 1) := by decide +kernel
theorem dX7_readWord_30 : decode cX7_readWord 30 = .ok (.invokevirtual 118, 3) := by decide +kernel
theorem dX7_readWord_33 : decode cX7_readWord 33 = .ok (.if_icmp .ge 29, 3) := by decide +kernel
theorem dX7_readWord_36 : decode cX7_readWord 36 = .ok (.aload_n 0, 1) := by decide +kernel
theorem dX7_readWord_37 : decode cX7_readWord 37 = .ok (.aload_n 0, 1) := by decide +kernel
theorem dX7_readWord_38 : decode cX7_readWord 38 = .ok (.getfield 43, 3) := by decide +kernel
theorem dX7_readWord_41 : decode cX7_readWord 41 = .ok (.iload_n 2, 1) := by decide +kernel
theorem dX7_readWord_42 : decode cX7_readWord 42 = .ok (.iadd, 1) := by decide +kernel
theorem dX7_readWord_43 : decode cX7_readWord 43 = .ok (.invokevirtual 52, 3) := by decide +kernel
theorem dX7_readWord_46 : decode cX7_readWord 46 = .ok (.aload_n 1, 1) := by decide +kernel
theorem dX7_readWord_47 : decode cX7_readWord 47 = .ok (.iload_n 2, 1) := by decide +kernel
theorem dX7_readWord_48 : decode cX7_readWord 48 = .ok (.invokevirtual 123, 3) := by decide +kernel
theorem dX7_readWord_51 : decode cX7_readWord 51 = .ok (.if_icmp .eq 5, 3) := by decide +kernel
theorem dX7_readWord_54 : decode cX7_readWord 54 = .ok (.iconst 0, 1) := by decide +kernel
theorem dX7_readWord_55 : decode cX7_readWord 55 = .ok (.ireturn, 1) := by decide +kernel
theorem dX7_readWord_56 : decode cX7_readWord 56 = .ok (.iinc 2 1, 3) := by decide +kernel
theorem dX7_readWord_59 : decode cX7_readWord 59 = .ok (.goto (-31), 3) := by decide +kernel
theorem dX7_readWord_62 : decode cX7_readWord 62 = .ok (.aload_n 0, 1) := by decide +kernel
theorem dX7_readWord_63 : decode cX7_readWord 63 = .ok (.invokevirtual 33, 3) := by decide +kernel
theorem dX7_readWord_66 : decode cX7_readWord 66 = .ok (.iconst 1, 1) := by decide +kernel
theorem dX7_readWord_67 : decode cX7_readWord 67 = .ok (.ireturn, 1) := by decide +kernel
theorem dX7_readNumber_0 : decode cX7_readNumber 0 = .ok (.aload_n 0, 1) := by decide +kernel
theorem dX7_readNumber_1 : decode cX7_readNumber 1 = .ok (.getfield 46, 3) := by decide +kernel
theorem dX7_readNumber_4 : decode cX7_readNumber 4 = .ok (.iconst 2, 1) := by decide +kernel
theorem dX7_readNumber_5 : decode cX7_readNumber 5 = .ok (.if_icmp .ne 16, 3) := by decide +kernel
theorem dX7_readNumber_8 : decode cX7_readNumber 8 = .ok (.aload_n 0, 1) := by decide +kernel
theorem dX7_readNumber_9 : decode cX7_readNumber 9 = .ok (.getfield 30, 3) := by decide +kernel
theorem dX7_readNumber_12 : decode cX7_readNumber 12 = .ok (.aload_n 0, 1) := by decide +kernel
theorem dX7_readNumber_13 : decode cX7_readNumber 13 = .ok (.getfield 43, 3) := by decide +kernel
theorem dX7_readNumber_16 : decode cX7_readNumber 16 = .ok (.isub, 1) := by decide +kernel
theorem dX7_readNumber_17 : decode cX7_readNumber 17 = .ok (.iconst 3, 1) := by decide +kernel
theorem dX7_readNumber_18 : decode cX7_readNumber 18 = .ok (.if_icmp .le 5, 3) := by decide +kernel
theorem dX7_readNumber_21 : decode cX7_readNumber 21 = .ok (.iconst 0, 1) := by decide +kernel
theorem dX7_readNumber_22 : decode cX7_readNumber 22 = .ok (.ireturn, 1) := by decide +kernel
theorem dX7_readNumber_23 : decode cX7_readNumber 23 = .ok (.aload_n 0, 1) := by decide +kernel
theorem dX7_readNumber_24 : decode cX7_readNumber 24 = .ok (.iconst 0, 1) := by decide +kernel
theorem dX7_readNumber_25 : decode cX7_readNumber 25 = .ok (.putfield 86, 3) := by decide +kernel
theorem dX7_readNumber_28 : decode cX7_readNumber 28 = .ok (.aload_n 0, 1) := by decide +kernel
theorem dX7_readNumber_29 : decode cX7_readNumber 29 = .ok (.getfield 43, 3) := by decide +kernel
theorem dX7_readNumber_32 : decode cX7_readNumber 32 = .ok (.istore_n 3, 1) := by decide +kernel
theorem dX7_readNumber_33 : decode cX7_readNumber 33 = .ok (.iload_n 3, 1) := by decide +kernel
theorem dX7_readNumber_34 : decode cX7_readNumber 34 = .ok (.aload_n 0, 1) := by decide +kernel
theorem dX7_readNumber_35 : decode cX7_readNumber 35 = .ok (.getfield 30, 3) := by decide +kernel
theorem dX7_readNumber_38 : decode cX7_readNumber 38 = .ok (.if_icmp .ge 29, 3) := by decide +kernel
theorem dX7_readNumber_41 : decode cX7_readNumber 41 = .ok (.aload_n 0, 1) := by decide +kernel
theorem dX7_readNumber_42 : decode cX7_readNumber 42 = .ok (.bipush 10, 2) := by decide +kernel
theorem dX7_readNumber_44 : decode cX7_readNumber 44 = .ok (.aload_n 0, 1) := by decide +kernel
theorem dX7_readNumber_45 : decode cX7_readNumber 45 = .ok (.getfield 86, 3) := by decide +kernel
theorem dX7_readNumber_48 : decode cX7_readNumber 48 = .ok (.imul, 1) := by decide +kernel
theorem dX7_readNumber_49 : decode cX7_readNumber 49 = .ok (.aload_n 0, 1) := by decide +kernel
theorem dX7_readNumber_50 : decode cX7_readNumber 50 = .ok (.iload_n 3, 1) := by decide +kernel
theorem dX7_readNumber_51 : decode cX7_readNumber 51 = .ok (.invokevirtual 52, 3) := by decide +kernel
theorem dX7_readNumber_54 : decode cX7_readNumber 54 = .ok (.iadd, 1) := by decide +kernel
theorem dX7_readNumber_55 : decode cX7_readNumber 55 = .ok (.bipush 48, 2) := by decide +kernel
theorem dX7_readNumber_57 : decode cX7_readNumber 57 = .ok (.isub, 1) := by decide +kernel
theorem dX7_readNumber_58 : decode cX7_readNumber 58 = .ok (.putfield 86, 3) := by decide +kernel
theorem dX7_readNumber_61 : decode cX7_readNumber 61 = .ok (.iinc 3 1, 3) := by decide +kernel
theorem dX7_readNumber_64 : decode cX7_readNumber 64 = .ok (.goto (-31), 3) := by decide +kernel
theorem dX7_readNumber_67 : decode cX7_readNumber 67 = .ok (.aload_n 0, 1) := by decide +kernel
theorem dX7_readNumber_68 : decode cX7_readNumber 68 = .ok (.getfield 86, 3) := by decide +kernel
theorem dX7_readNumber_71 : decode cX7_readNumber 71 = .ok (.iload_n 1, 1) := by decide +kernel
theorem dX7_readNumber_72 : decode cX7_readNumber 72 = .ok (.if_icmp .lt 11, 3) := by decide +kernel
theorem dX7_readNumber_75 : decode cX7_readNumber 75 = .ok (.aload_n 0, 1) := by decide +kernel
theorem dX7_readNumber_76 : decode cX7_readNumber 76 = .ok (.getfield 86, 3) := by decide +kernel
theorem dX7_readNumber_79 : decode cX7_readNumber 79 = .ok (.iload_n 2, 1) := by decide +kernel
theorem dX7_readNumber_80 : decode cX7_readNumber 80 = .ok (.if_icmp .le 5, 3) := by decide +kernel
theorem dX7_readNumber_83 : decode cX7_readNumber 83 = .ok (.iconst 0, 1) := by decide +kernel
theorem dX7_readNumber_84 : decode cX7_readNumber 84 = .ok (.ireturn, 1) := by decide +kernel
theorem dX7_readNumber_85 : decode cX7_readNumber 85 = .ok (.aload_n 0, 1) := by decide +kernel
theorem dX7_readNumber_86 : decode cX7_readNumber 86 = .ok (.invokevirtual 33, 3) := by decide +kernel
theorem dX7_readNumber_89 : decode cX7_readNumber 89 = .ok (.iconst 1, 1) := by decide +kernel
theorem dX7_readNumber_90 : decode cX7_readNumber 90 = .ok (.ireturn, 1) := by decide +kernel
theorem dX7_readCoins_0 : decode cX7_readCoins 0 = .ok (.aload_n 0, 1) := by decide +kernel
theorem dX7_readCoins_1 : decode cX7_readCoins 1 = .ok (.getfield 18, 3) := by decide +kernel
theorem dX7_readCoins_4 : decode cX7_readCoins 4 = .ok (.getfield 127, 3) := by decide +kernel
theorem dX7_readCoins_7 : decode cX7_readCoins 7 = .ok (.invokevirtual 131, 3) := by decide +kernel
theorem dX7_readCoins_10 : decode cX7_readCoins 10 = .ok (.aload_n 0, 1) := by decide +kernel
theorem dX7_readCoins_11 : decode cX7_readCoins 11 = .ok (.getfield 18, 3) := by decide +kernel
theorem dX7_readCoins_14 : decode cX7_readCoins 14 = .ok (.iconst 0, 1) := by decide +kernel
theorem dX7_readCoins_15 : decode cX7_readCoins 15 = .ok (.putfield 136, 3) := by decide +kernel
theorem dX7_readCoins_18 : decode cX7_readCoins 18 = .ok (.iconst 0, 1) := by decide +kernel
theorem dX7_readCoins_19 : decode cX7_readCoins 19 = .ok (.istore_n 1, 1) := by decide +kernel
theorem dX7_readCoins_20 : decode cX7_readCoins 20 = .ok (.iconst 0, 1) := by decide +kernel
theorem dX7_readCoins_21 : decode cX7_readCoins 21 = .ok (.istore_n 2, 1) := by decide +kernel
theorem dX7_readCoins_22 : decode cX7_readCoins 22 = .ok (.iload_n 2, 1) := by decide +kernel
theorem dX7_readCoins_23 : decode cX7_readCoins 23 = .ok (.bipush 6, 2) := by decide +kernel
theorem dX7_readCoins_25 : decode cX7_readCoins 25 = .ok (.if_icmp .ge 54, 3) := by decide +kernel
theorem dX7_readCoins_28 : decode cX7_readCoins 28 = .ok (.iload_n 2, 1) := by decide +kernel
theorem dX7_readCoins_29 : decode cX7_readCoins 29 = .ok (.ifCond .le 13, 3) := by decide +kernel
theorem dX7_readCoins_32 : decode cX7_readCoins 32 = .ok (.aload_n 0, 1) := by decide +kernel
theorem dX7_readCoins_33 : decode cX7_readCoins 33 = .ok (.getfield 46, 3) := by decide +kernel
theorem dX7_readCoins_36 : decode cX7_readCoins 36 = .ok (.iconst 2, 1) := by decide +kernel
theorem dX7_readCoins_37 : decode cX7_readCoins 37 = .ok (.if_icmp .eq 5, 3) := by decide +kernel
theorem dX7_readCoins_40 : decode cX7_readCoins 40 = .ok (.iconst 1, 1) := by decide +kernel
theorem dX7_readCoins_41 : decode cX7_readCoins 41 = .ok (.ireturn, 1) := by decide +kernel
theorem dX7_readCoins_42 : decode cX7_readCoins 42 = .ok (.aload_n 0, 1) := by decide +kernel
theorem dX7_readCoins_43 : decode cX7_readCoins 43 = .ok (.iload_n 1, 1) := by decide +kernel
theorem dX7_readCoins_44 : decode cX7_readCoins 44 = .ok (.iconst 1, 1) := by decide +kernel
theorem dX7_readCoins_45 : decode cX7_readCoins 45 = .ok (.iadd, 1) := by decide +kernel
theorem dX7_readCoins_46 : decode cX7_readCoins 46 = .ok (.sipush 999, 3) := by decide +kernel
theorem dX7_readCoins_49 : decode cX7_readCoins 49 = .ok (.invokevirtual 82, 3) := by decide +kernel
theorem dX7_readCoins_52 : decode cX7_readCoins 52 = .ok (.ifCond .ne 5, 3) := by decide +kernel
theorem dX7_readCoins_55 : decode cX7_readCoins 55 = .ok (.iconst 0, 1) := by decide +kernel
theorem dX7_readCoins_56 : decode cX7_readCoins 56 = .ok (.ireturn, 1) := by decide +kernel
theorem dX7_readCoins_57 : decode cX7_readCoins 57 = .ok (.aload_n 0, 1) := by decide +kernel
theorem dX7_readCoins_58 : decode cX7_readCoins 58 = .ok (.getfield 86, 3) := by decide +kernel
theorem dX7_readCoins_61 : decode cX7_readCoins 61 = .ok (.istore_n 1, 1) := by decide +kernel
theorem dX7_readCoins_62 : decode cX7_readCoins 62 = .ok (.aload_n 0, 1) := by decide +kernel
theorem dX7_readCoins_63 : decode cX7_readCoins 63 = .ok (.getfield 18, 3) := by decide +kernel
theorem dX7_readCoins_66 : decode cX7_readCoins 66 = .ok (.aload_n 0, 1) := by decide +kernel
theorem dX7_readCoins_67 : decode cX7_readCoins 67 = .ok (.getfield 86, 3) := by decide +kernel
theorem dX7_readCoins_70 : decode cX7_readCoins 70 = .ok (.invokevirtual 139, 3) := by decide +kernel
theorem dX7_readCoins_73 : decode cX7_readCoins 73 = .ok (.iinc 2 1, 3) := by decide +kernel
theorem dX7_readCoins_76 : decode cX7_readCoins 76 = .ok (.goto (-54), 3) := by decide +kernel
theorem dX7_readCoins_79 : decode cX7_readCoins 79 = .ok (.iconst 1, 1) := by decide +kernel
theorem dX7_readCoins_80 : decode cX7_readCoins 80 = .ok (.ireturn, 1) := by decide +kernel
theorem dX7_readAmount_0 : decode cX7_readAmount 0 = .ok (.aload_n 0, 1) := by decide +kernel
theorem dX7_readAmount_1 : decode cX7_readAmount 1 = .ok (.iconst 0, 1) := by decide +kernel
theorem dX7_readAmount_2 : decode cX7_readAmount 2 = .ok (.aload_n 0, 1) := by decide +kernel
theorem dX7_readAmount_3 : decode cX7_readAmount 3 = .ok (.getfield 18, 3) := by decide +kernel
theorem dX7_readAmount_6 : decode cX7_readAmount 6 = .ok (.getfield 136, 3) := by decide +kernel
theorem dX7_readAmount_9 : decode cX7_readAmount 9 = .ok (.iconst 1, 1) := by decide +kernel
theorem dX7_readAmount_10 : decode cX7_readAmount 10 = .ok (.isub, 1) := by decide +kernel
theorem dX7_readAmount_11 : decode cX7_readAmount 11 = .ok (.invokevirtual 82, 3) := by decide +kernel
theorem dX7_readAmount_14 : decode cX7_readAmount 14 = .ok (.ifCond .ne 5, 3) := by decide +kernel
theorem dX7_readAmount_17 : decode cX7_readAmount 17 = .ok (.iconst 0, 1) := by decide +kernel
theorem dX7_readAmount_18 : decode cX7_readAmount 18 = .ok (.ireturn, 1) := by decide +kernel
theorem dX7_readAmount_19 : decode cX7_readAmount 19 = .ok (.aload_n 0, 1) := by decide +kernel
theorem dX7_readAmount_20 : decode cX7_readAmount 20 = .ok (.getfield 86, 3) := by decide +kernel
theorem dX7_readAmount_23 : decode cX7_readAmount 23 = .ok (.istore_n 2, 1) := by decide +kernel
theorem dX7_readAmount_24 : decode cX7_readAmount 24 = .ok (.aload_n 0, 1) := by decide +kernel
theorem dX7_readAmount_25 : decode cX7_readAmount 25 = .ok (.iconst 0, 1) := by decide +kernel
theorem dX7_readAmount_26 : decode cX7_readAmount 26 = .ok (.bipush 20, 2) := by decide +kernel
theorem dX7_readAmount_28 : decode cX7_readAmount 28 = .ok (.invokevirtual 82, 3) := by decide +kernel
theorem dX7_readAmount_31 : decode cX7_readAmount 31 = .ok (.ifCond .ne 5, 3) := by decide +kernel
theorem dX7_readAmount_34 : decode cX7_readAmount 34 = .ok (.iconst 0, 1) := by decide +kernel
theorem dX7_readAmount_35 : decode cX7_readAmount 35 = .ok (.ireturn, 1) := by decide +kernel
theorem dX7_readAmount_36 : decode cX7_readAmount 36 = .ok (.aload_n 0, 1) := by decide +kernel
theorem dX7_readAmount_37 : decode cX7_readAmount 37 = .ok (.getfield 18, 3) := by decide +kernel
theorem dX7_readAmount_40 : decode cX7_readAmount 40 = .ok (.getfield 127, 3) := by decide +kernel
theorem dX7_readAmount_43 : decode cX7_readAmount 43 = .ok (.iload_n 1, 1) := by decide +kernel
theorem dX7_readAmount_44 : decode cX7_readAmount 44 = .ok (.iload_n 2, 1) := by decide +kernel
theorem dX7_readAmount_45 : decode cX7_readAmount 45 = .ok (.aload_n 0, 1) := by decide +kernel
theorem dX7_readAmount_46 : decode cX7_readAmount 46 = .ok (.getfield 86, 3) := by decide +kernel
theorem dX7_readAmount_49 : decode cX7_readAmount 49 = .ok (.aload_n 0, 1) := by decide +kernel
theorem dX7_readAmount_50 : decode cX7_readAmount 50 = .ok (.getfield 18, 3) := by decide +kernel
theorem dX7_readAmount_53 : decode cX7_readAmount 53 = .ok (.getfield 127, 3) := by decide +kernel
theorem dX7_readAmount_56 : decode cX7_readAmount 56 = .ok (.iload_n 1, 1) := by decide +kernel
theorem dX7_readAmount_57 : decode cX7_readAmount 57 = .ok (.iload_n 2, 1) := by decide +kernel
theorem dX7_readAmount_58 : decode cX7_readAmount 58 = .ok (.invokevirtual 143, 3) := by decide +kernel
theorem dX7_readAmount_61 : decode cX7_readAmount 61 = .ok (.isub, 1) := by decide +kernel
theorem dX7_readAmount_62 : decode cX7_readAmount 62 = .ok (.invokevirtual 146, 3) := by decide +kernel
theorem dX7_readAmount_65 : decode cX7_readAmount 65 = .ok (.iconst 1, 1) := by decide +kernel
theorem dX7_readAmount_66 : decode cX7_readAmount 66 = .ok (.ireturn, 1) := by decide +kernel
theorem dX7_readHabit_0 : decode cX7_readHabit 0 = .ok (.aload_n 0, 1) := by decide +kernel
theorem dX7_readHabit_1 : decode cX7_readHabit 1 = .ok (.iconst 0, 1) := by decide +kernel
theorem dX7_readHabit_2 : decode cX7_readHabit 2 = .ok (.iconst 3, 1) := by decide +kernel
theorem dX7_readHabit_3 : decode cX7_readHabit 3 = .ok (.invokevirtual 82, 3) := by decide +kernel
theorem dX7_readHabit_6 : decode cX7_readHabit 6 = .ok (.ifCond .ne 5, 3) := by decide +kernel
theorem dX7_readHabit_9 : decode cX7_readHabit 9 = .ok (.iconst 0, 1) := by decide +kernel
theorem dX7_readHabit_10 : decode cX7_readHabit 10 = .ok (.ireturn, 1) := by decide +kernel
theorem dX7_readHabit_11 : decode cX7_readHabit 11 = .ok (.aload_n 0, 1) := by decide +kernel
theorem dX7_readHabit_12 : decode cX7_readHabit 12 = .ok (.getfield 18, 3) := by decide +kernel
theorem dX7_readHabit_15 : decode cX7_readHabit 15 = .ok (.aload_n 0, 1) := by decide +kernel
theorem dX7_readHabit_16 : decode cX7_readHabit 16 = .ok (.getfield 86, 3) := by decide +kernel
theorem dX7_readHabit_19 : decode cX7_readHabit 19 = .ok (.iload_n 1, 1) := by decide +kernel
theorem dX7_readHabit_20 : decode cX7_readHabit 20 = .ok (.iconst 0, 1) := by decide +kernel
theorem dX7_readHabit_21 : decode cX7_readHabit 21 = .ok (.invokevirtual 150, 3) := by decide +kernel
theorem dX7_readHabit_24 : decode cX7_readHabit 24 = .ok (.iconst 1, 1) := by decide +kernel
theorem dX7_readHabit_25 : decode cX7_readHabit 25 = .ok (.ireturn, 1) := by decide +kernel
theorem dX7_readWaiting_0 : decode cX7_readWaiting 0 = .ok (.aload_n 0, 1) := by decide +kernel
theorem dX7_readWaiting_1 : decode cX7_readWaiting 1 = .ok (.iconst 0, 1) := by decide +kernel
theorem dX7_readWaiting_2 : decode cX7_readWaiting 2 = .ok (.iconst 3, 1) := by decide +kernel
theorem dX7_readWaiting_3 : decode cX7_readWaiting 3 = .ok (.invokevirtual 82, 3) := by decide +kernel
theorem dX7_readWaiting_6 : decode cX7_readWaiting 6 = .ok (.ifCond .ne 5, 3) := by decide +kernel
theorem dX7_readWaiting_9 : decode cX7_readWaiting 9 = .ok (.iconst 0, 1) := by decide +kernel
theorem dX7_readWaiting_10 : decode cX7_readWaiting 10 = .ok (.ireturn, 1) := by decide +kernel
theorem dX7_readWaiting_11 : decode cX7_readWaiting 11 = .ok (.aload_n 0, 1) := by decide +kernel
theorem dX7_readWaiting_12 : decode cX7_readWaiting 12 = .ok (.getfield 86, 3) := by decide +kernel
theorem dX7_readWaiting_15 : decode cX7_readWaiting 15 = .ok (.istore_n 1, 1) := by decide +kernel
theorem dX7_readWaiting_16 : decode cX7_readWaiting 16 = .ok (.aload_n 0, 1) := by decide +kernel
theorem dX7_readWaiting_17 : decode cX7_readWaiting 17 = .ok (.iconst 0, 1) := by decide +kernel
theorem dX7_readWaiting_18 : decode cX7_readWaiting 18 = .ok (.bipush 99, 2) := by decide +kernel
theorem dX7_readWaiting_20 : decode cX7_readWaiting 20 = .ok (.invokevirtual 82, 3) := by decide +kernel
theorem dX7_readWaiting_23 : decode cX7_readWaiting 23 = .ok (.ifCond .ne 5, 3) := by decide +kernel
theorem dX7_readWaiting_26 : decode cX7_readWaiting 26 = .ok (.iconst 0, 1) := by decide +kernel
theorem dX7_readWaiting_27 : decode cX7_readWaiting 27 = .ok (.ireturn, 1) := by decide +kernel
theorem dX7_readWaiting_28 : decode cX7_readWaiting 28 = .ok (.aload_n 0, 1) := by decide +kernel
theorem dX7_readWaiting_29 : decode cX7_readWaiting 29 = .ok (.getfield 18, 3) := by decide +kernel
theorem dX7_readWaiting_32 : decode cX7_readWaiting 32 = .ok (.iload_n 1, 1) := by decide +kernel
theorem dX7_readWaiting_33 : decode cX7_readWaiting 33 = .ok (.iconst 2, 1) := by decide +kernel
theorem dX7_readWaiting_34 : decode cX7_readWaiting 34 = .ok (.aload_n 0, 1) := by decide +kernel
theorem dX7_readWaiting_35 : decode cX7_readWaiting 35 = .ok (.getfield 86, 3) := by decide +kernel
theorem dX7_readWaiting_38 : decode cX7_readWaiting 38 = .ok (.invokevirtual 150, 3) := by decide +kernel
theorem dX7_readWaiting_41 : decode cX7_readWaiting 41 = .ok (.iconst 1, 1) := by decide +kernel
theorem dX7_readWaiting_42 : decode cX7_readWaiting 42 = .ok (.ireturn, 1) := by decide +kernel
theorem dX7_readVisits_0 : decode cX7_readVisits 0 = .ok (.iconst 0, 1) := by decide +kernel
theorem dX7_readVisits_1 : decode cX7_readVisits 1 = .ok (.istore_n 1, 1) := by decide +kernel
theorem dX7_readVisits_2 : decode cX7_readVisits 2 = .ok (.iload_n 1, 1) := by decide +kernel
theorem dX7_readVisits_3 : decode cX7_readVisits 3 = .ok (.bipush 9, 2) := by decide +kernel
theorem dX7_readVisits_5 : decode cX7_readVisits 5 = .ok (.if_icmp .ge 57, 3) := by decide +kernel
theorem dX7_readVisits_8 : decode cX7_readVisits 8 = .ok (.iload_n 1, 1) := by decide +kernel
theorem dX7_readVisits_9 : decode cX7_readVisits 9 = .ok (.ifCond .le 13, 3) := by decide +kernel
theorem dX7_readVisits_12 : decode cX7_readVisits 12 = .ok (.aload_n 0, 1) := by decide +kernel
theorem dX7_readVisits_13 : decode cX7_readVisits 13 = .ok (.getfield 46, 3) := by decide +kernel
theorem dX7_readVisits_16 : decode cX7_readVisits 16 = .ok (.iconst 2, 1) := by decide +kernel
theorem dX7_readVisits_17 : decode cX7_readVisits 17 = .ok (.if_icmp .eq 5, 3) := by decide +kernel
theorem dX7_readVisits_20 : decode cX7_readVisits 20 = .ok (.iconst 1, 1) := by decide +kernel
theorem dX7_readVisits_21 : decode cX7_readVisits 21 = .ok (.ireturn, 1) := by decide +kernel
theorem dX7_readVisits_22 : decode cX7_readVisits 22 = .ok (.aload_n 0, 1) := by decide +kernel
theorem dX7_readVisits_23 : decode cX7_readVisits 23 = .ok (.getfield 18, 3) := by decide +kernel
theorem dX7_readVisits_26 : decode cX7_readVisits 26 = .ok (.getfield 153, 3) := by decide +kernel
theorem dX7_readVisits_29 : decode cX7_readVisits 29 = .ok (.bipush 24, 2) := by decide +kernel
theorem dX7_readVisits_31 : decode cX7_readVisits 31 = .ok (.if_icmp .ge 12, 3) := by decide +kernel
theorem dX7_readVisits_34 : decode cX7_readVisits 34 = .ok (.aload_n 0, 1) := by decide +kernel
theorem dX7_readVisits_35 : decode cX7_readVisits 35 = .ok (.iconst 0, 1) := by decide +kernel
theorem dX7_readVisits_36 : decode cX7_readVisits 36 = .ok (.iconst 3, 1) := by decide +kernel
theorem dX7_readVisits_37 : decode cX7_readVisits 37 = .ok (.invokevirtual 82, 3) := by decide +kernel
theorem dX7_readVisits_40 : decode cX7_readVisits 40 = .ok (.ifCond .ne 5, 3) := by decide +kernel
theorem dX7_readVisits_43 : decode cX7_readVisits 43 = .ok (.iconst 0, 1) := by decide +kernel
theorem dX7_readVisits_44 : decode cX7_readVisits 44 = .ok (.ireturn, 1) := by decide +kernel
theorem dX7_readVisits_45 : decode cX7_readVisits 45 = .ok (.aload_n 0, 1) := by decide +kernel
theorem dX7_readVisits_46 : decode cX7_readVisits 46 = .ok (.getfield 18, 3) := by decide +kernel
theorem dX7_readVisits_49 : decode cX7_readVisits 49 = .ok (.aload_n 0, 1) := by decide +kernel
theorem dX7_readVisits_50 : decode cX7_readVisits 50 = .ok (.getfield 86, 3) := by decide +kernel
theorem dX7_readVisits_53 : decode cX7_readVisits 53 = .ok (.invokevirtual 156, 3) := by decide +kernel
theorem dX7_readVisits_56 : decode cX7_readVisits 56 = .ok (.iinc 1 1, 3) := by decide +kernel
theorem dX7_readVisits_59 : decode cX7_readVisits 59 = .ok (.goto (-57), 3) := by decide +kernel
theorem dX7_readVisits_62 : decode cX7_readVisits 62 = .ok (.iconst 1, 1) := by decide +kernel
theorem dX7_readVisits_63 : decode cX7_readVisits 63 = .ok (.ireturn, 1) := by decide +kernel
theorem dX7_readLaw_0 : decode cX7_readLaw 0 = .ok (.aload_n 0, 1) := by decide +kernel
theorem dX7_readLaw_1 : decode cX7_readLaw 1 = .ok (.iconst 0, 1) := by decide +kernel
theorem dX7_readLaw_2 : decode cX7_readLaw 2 = .ok (.iconst 3, 1) := by decide +kernel
theorem dX7_readLaw_3 : decode cX7_readLaw 3 = .ok (.invokevirtual 82, 3) := by decide +kernel
theorem dX7_readLaw_6 : decode cX7_readLaw 6 = .ok (.ifCond .ne 5, 3) := by decide +kernel
theorem dX7_readLaw_9 : decode cX7_readLaw 9 = .ok (.iconst 0, 1) := by decide +kernel
theorem dX7_readLaw_10 : decode cX7_readLaw 10 = .ok (.ireturn, 1) := by decide +kernel
theorem dX7_readLaw_11 : decode cX7_readLaw 11 = .ok (.aload_n 0, 1) := by decide +kernel
theorem dX7_readLaw_12 : decode cX7_readLaw 12 = .ok (.getfield 18, 3) := by decide +kernel
theorem dX7_readLaw_15 : decode cX7_readLaw 15 = .ok (.aload_n 0, 1) := by decide +kernel
theorem dX7_readLaw_16 : decode cX7_readLaw 16 = .ok (.getfield 86, 3) := by decide +kernel
theorem dX7_readLaw_19 : decode cX7_readLaw 19 = .ok (.putfield 159, 3) := by decide +kernel
theorem dX7_readLaw_22 : decode cX7_readLaw 22 = .ok (.iconst 1, 1) := by decide +kernel
theorem dX7_readLaw_23 : decode cX7_readLaw 23 = .ok (.ireturn, 1) := by decide +kernel
theorem dX7_leaveAlone_0 : decode cX7_leaveAlone 0 = .ok (.aload_n 0, 1) := by decide +kernel
theorem dX7_leaveAlone_1 : decode cX7_leaveAlone 1 = .ok (.getfield 18, 3) := by decide +kernel
theorem dX7_leaveAlone_4 : decode cX7_leaveAlone 4 = .ok (.iconst 0, 1) := by decide +kernel
theorem dX7_leaveAlone_5 : decode cX7_leaveAlone 5 = .ok (.putfield 153, 3) := by decide +kernel
theorem dX7_leaveAlone_8 : decode cX7_leaveAlone 8 = .ok (.iconst 1, 1) := by decide +kernel
theorem dX7_leaveAlone_9 : decode cX7_leaveAlone 9 = .ok (.ireturn, 1) := by decide +kernel
theorem dX11_init_0 : decode cX11_init 0 = .ok (.aload_n 0, 1) := by decide +kernel
theorem dX11_init_1 : decode cX11_init 1 = .ok (.invokespecial 1, 3) := by decide +kernel
theorem dX11_init_4 : decode cX11_init 4 = .ok (.aload_n 0, 1) := by decide +kernel
theorem dX11_init_5 : decode cX11_init 5 = .ok (.new 7, 3) := by decide +kernel
theorem dX11_init_8 : decode cX11_init 8 = .ok (.dup, 1) := by decide +kernel
theorem dX11_init_9 : decode cX11_init 9 = .ok (.invokespecial 9, 3) := by decide +kernel
theorem dX11_init_12 : decode cX11_init 12 = .ok (.putfield 10, 3) := by decide +kernel
theorem dX11_init_15 : decode cX11_init 15 = .ok (.aload_n 0, 1) := by decide +kernel
theorem dX11_init_16 : decode cX11_init 16 = .ok (.new 16, 3) := by decide +kernel
theorem dX11_init_19 : decode cX11_init 19 = .ok (.dup, 1) := by decide +kernel
theorem dX11_init_20 : decode cX11_init 20 = .ok (.invokespecial 18, 3) := by decide +kernel
theorem dX11_init_23 : decode cX11_init 23 = .ok (.putfield 19, 3) := by decide +kernel
theorem dX11_init_26 : decode cX11_init 26 = .ok (.aload_n 0, 1) := by decide +kernel
theorem dX11_init_27 : decode cX11_init 27 = .ok (.iconst 2, 1) := by decide +kernel
theorem dX11_init_28 : decode cX11_init 28 = .ok (.anewarray 16, 3) := by decide +kernel
theorem dX11_init_31 : decode cX11_init 31 = .ok (.dup, 1) := by decide +kernel
theorem dX11_init_32 : decode cX11_init 32 = .ok (.iconst 0, 1) := by decide +kernel
theorem dX11_init_33 : decode cX11_init 33 = .ok (.new 16, 3) := by decide +kernel
theorem dX11_init_36 : decode cX11_init 36 = .ok (.dup, 1) := by decide +kernel
theorem dX11_init_37 : decode cX11_init 37 = .ok (.invokespecial 18, 3) := by decide +kernel
theorem dX11_init_40 : decode cX11_init 40 = .ok (.aastore, 1) := by decide +kernel
theorem dX11_init_41 : decode cX11_init 41 = .ok (.dup, 1) := by decide +kernel
theorem dX11_init_42 : decode cX11_init 42 = .ok (.iconst 1, 1) := by decide +kernel
theorem dX11_init_43 : decode cX11_init 43 = .ok (.new 16, 3) := by decide +kernel
theorem dX11_init_46 : decode cX11_init 46 = .ok (.dup, 1) := by decide +kernel
theorem dX11_init_47 : decode cX11_init 47 = .ok (.invokespecial 18, 3) := by decide +kernel
theorem dX11_init_50 : decode cX11_init 50 = .ok (.aastore, 1) := by decide +kernel
theorem dX11_init_51 : decode cX11_init 51 = .ok (.putfield 23, 3) := by decide +kernel
theorem dX11_init_54 : decode cX11_init 54 = .ok (.aload_n 0, 1) := by decide +kernel
theorem dX11_init_55 : decode cX11_init 55 = .ok (.new 27, 3) := by decide +kernel
theorem dX11_init_58 : decode cX11_init 58 = .ok (.dup, 1) := by decide +kernel
theorem dX11_init_59 : decode cX11_init 59 = .ok (.invokespecial 29, 3) := by decide +kernel
theorem dX11_init_62 : decode cX11_init 62 = .ok (.putfield 30, 3) := by decide +kernel
theorem dX11_init_65 : decode cX11_init 65 = .ok (.aload_n 0, 1) := by decide +kernel
theorem dX11_init_66 : decode cX11_init 66 = .ok (.new 34, 3) := by decide +kernel
theorem dX11_init_69 : decode cX11_init 69 = .ok (.dup, 1) := by decide +kernel
theorem dX11_init_70 : decode cX11_init 70 = .ok (.aload_n 0, 1) := by decide +kernel
theorem dX11_init_71 : decode cX11_init 71 = .ok (.getfield 10, 3) := by decide +kernel
theorem dX11_init_74 : decode cX11_init 74 = .ok (.invokespecial 36, 3) := by decide +kernel
theorem dX11_init_77 : decode cX11_init 77 = .ok (.putfield 39, 3) := by decide +kernel
theorem dX11_init_80 : decode cX11_init 80 = .ok (.aload_n 0, 1) := by decide +kernel
theorem dX11_init_81 : decode cX11_init 81 = .ok (.new 43, 3) := by decide +kernel
theorem dX11_init_84 : decode cX11_init 84 = .ok (.dup, 1) := by decide +kernel
theorem dX11_init_85 : decode cX11_init 85 = .ok (.aload_n 0, 1) := by decide +kernel
theorem dX11_init_86 : decode cX11_init 86 = .ok (.getfield 10, 3) := by decide +kernel
theorem dX11_init_89 : decode cX11_init 89 = .ok (.invokespecial 45, 3) := by decide +kernel
theorem dX11_init_92 : decode cX11_init 92 = .ok (.putfield 46, 3) := by decide +kernel
theorem dX11_init_95 : decode cX11_init 95 = .ok (.return_, 1) := by decide +kernel
theorem dX11_write_0 : decode cX11_write 0 = .ok (.iload_n 3, 1) := by decide +kernel
theorem dX11_write_1 : decode cX11_write 1 = .ok (.iconst 1, 1) := by decide +kernel
theorem dX11_write_2 : decode cX11_write 2 = .ok (.if_icmp .lt 9, 3) := by decide +kernel
theorem dX11_write_5 : decode cX11_write 5 = .ok (.iload_n 3, 1) := by decide +kernel
theorem dX11_write_6 : decode cX11_write 6 = .ok (.bipush 8, 2) := by decide +kernel
theorem dX11_write_8 : decode cX11_write 8 = .ok (.if_icmp .le 6, 3) := by decide +kernel
theorem dX11_write_11 : decode cX11_write 11 = .ok (.bipush (-3), 2) := by decide +kernel
theorem dX11_write_13 : decode cX11_write 13 = .ok (.ireturn, 1) := by decide +kernel
theorem dX11_write_14 : decode cX11_write 14 = .ok (.aload_n 0, 1) := by decide +kernel
theorem dX11_write_15 : decode cX11_write 15 = .ok (.getfield 30, 3) := by decide +kernel
theorem dX11_write_18 : decode cX11_write 18 = .ok (.getfield 50, 3) := by decide +kernel
theorem dX11_write_21 : decode cX11_write 21 = .ok (.iload_n 3, 1) := by decide +kernel
theorem dX11_write_22 : decode cX11_write 22 = .ok (.iadd, 1) := by decide +kernel
theorem dX11_write_23 : decode cX11_write 23 = .ok (.sipush 200, 3) := by decide +kernel
theorem dX11_write_26 : decode cX11_write 26 = .ok (.if_icmp .le 6, 3) := by decide +kernel
theorem dX11_write_29 : decode cX11_write 29 = .ok (.bipush (-5), 2) := by decide +kernel
theorem dX11_write_31 : decode cX11_write 31 = .ok (.ireturn, 1) := by decide +kernel
theorem dX11_write_32 : decode cX11_write 32 = .ok (.iconst 0, 1) := by decide +kernel
theorem dX11_write_33 : decode cX11_write 33 = .ok (.istore 4, 2) := by decide +kernel
theorem dX11_write_35 : decode cX11_write 35 = .ok (.iload 4, 2) := by decide +kernel
theorem dX11_write_37 : decode cX11_write 37 = .ok (.iload_n 3, 1) := by decide +kernel
theorem dX11_write_38 : decode cX11_write 38 = .ok (.if_icmp .ge 28, 3) := by decide +kernel
theorem dX11_write_41 : decode cX11_write 41 = .ok (.aload_n 0, 1) := by decide +kernel
theorem dX11_write_42 : decode cX11_write 42 = .ok (.getfield 30, 3) := by decide +kernel
theorem dX11_write_45 : decode cX11_write 45 = .ok (.lload_n 1, 1) := by decide +kernel
theorem dX11_write_46 : decode cX11_write 46 = .ok (.bipush 8, 2) := by decide +kernel
theorem dX11_write_48 : decode cX11_write 48 = .ok (.iload 4, 2) := by decide +kernel
theorem dX11_write_50 : decode cX11_write 50 = .ok (.imul, 1) := by decide +kernel
theorem dX11_write_51 : decode cX11_write 51 = .ok (.lshr, 1) := by decide +kernel
theorem dX11_write_52 : decode cX11_write 52 = .ok (.ldc2_w 54, 3) := by decide +kernel
theorem dX11_write_55 : decode cX11_write 55 = .ok (.land, 1) := by decide +kernel
theorem dX11_write_56 : decode cX11_write 56 = .ok (.l2i, 1) := by decide +kernel
theorem dX11_write_57 : decode cX11_write 57 = .ok (.invokevirtual 56, 3) := by decide +kernel
theorem dX11_write_60 : decode cX11_write 60 = .ok (.iinc 4 1, 3) := by decide +kernel
theorem dX11_write_63 : decode cX11_write 63 = .ok (.goto (-28), 3) := by decide +kernel
theorem dX11_write_66 : decode cX11_write 66 = .ok (.aload_n 0, 1) := by decide +kernel
theorem dX11_write_67 : decode cX11_write 67 = .ok (.getfield 30, 3) := by decide +kernel
theorem dX11_write_70 : decode cX11_write 70 = .ok (.getfield 50, 3) := by decide +kernel
theorem dX11_write_73 : decode cX11_write 73 = .ok (.ireturn, 1) := by decide +kernel
theorem dX11_erase_0 : decode cX11_erase 0 = .ok (.aload_n 0, 1) := by decide +kernel
theorem dX11_erase_1 : decode cX11_erase 1 = .ok (.getfield 30, 3) := by decide +kernel
theorem dX11_erase_4 : decode cX11_erase 4 = .ok (.getfield 50, 3) := by decide +kernel
theorem dX11_erase_7 : decode cX11_erase 7 = .ok (.istore_n 1, 1) := by decide +kernel
theorem dX11_erase_8 : decode cX11_erase 8 = .ok (.aload_n 0, 1) := by decide +kernel
theorem dX11_erase_9 : decode cX11_erase 9 = .ok (.getfield 30, 3) := by decide +kernel
theorem dX11_erase_12 : decode cX11_erase 12 = .ok (.iconst 0, 1) := by decide +kernel
theorem dX11_erase_13 : decode cX11_erase 13 = .ok (.putfield 50, 3) := by decide +kernel
theorem dX11_erase_16 : decode cX11_erase 16 = .ok (.iload_n 1, 1) := by decide +kernel
theorem dX11_erase_17 : decode cX11_erase 17 = .ok (.ireturn, 1) := by decide +kernel
theorem dX11_fault_0 : decode cX11_fault 0 = .ok (.aload_n 0, 1) := by decide +kernel
theorem dX11_fault_1 : decode cX11_fault 1 = .ok (.getfield 30, 3) := by decide +kernel
theorem dX11_fault_4 : decode cX11_fault 4 = .ok (.aload_n 0, 1) := by decide +kernel
theorem dX11_fault_5 : decode cX11_fault 5 = .ok (.getfield 10, 3) := by decide +kernel
theorem dX11_fault_8 : decode cX11_fault 8 = .ok (.invokevirtual 60, 3) := by decide +kernel
theorem dX11_fault_11 : decode cX11_fault 11 = .ok (.ireturn, 1) := by decide +kernel
theorem dX11_sunday_0 : decode cX11_sunday 0 = .ok (.aload_n 0, 1) := by decide +kernel
theorem dX11_sunday_1 : decode cX11_sunday 1 = .ok (.getfield 30, 3) := by decide +kernel
theorem dX11_sunday_4 : decode cX11_sunday 4 = .ok (.aload_n 0, 1) := by decide +kernel
theorem dX11_sunday_5 : decode cX11_sunday 5 = .ok (.getfield 10, 3) := by decide +kernel
theorem dX11_sunday_8 : decode cX11_sunday 8 = .ok (.invokevirtual 60, 3) := by decide +kernel
theorem dX11_sunday_11 : decode cX11_sunday 11 = .ok (.iconst (-1), 1) := by decide +kernel
theorem dX11_sunday_12 : decode cX11_sunday 12 = .ok (.if_icmp .eq 6, 3) := by decide +kernel
theorem dX11_sunday_15 : decode cX11_sunday 15 = .ok (.bipush (-4), 2) := by decide +kernel
theorem dX11_sunday_17 : decode cX11_sunday 17 = .ok (.ireturn, 1) := by decide +kernel
theorem dX11_sunday_18 : decode cX11_sunday 18 = .ok (.aload_n 0, 1) := by decide +kernel
theorem dX11_sunday_19 : decode cX11_sunday 19 = .ok (.getfield 10, 3) := by decide +kernel
theorem dX11_sunday_22 : decode cX11_sunday 22 = .ok (.aload_n 0, 1) := by decide +kernel
theorem dX11_sunday_23 : decode cX11_sunday 23 = .ok (.getfield 30, 3) := by decide +kernel
theorem dX11_sunday_26 : decode cX11_sunday 26 = .ok (.getfield 64, 3) := by decide +kernel
theorem dX11_sunday_29 : decode cX11_sunday 29 = .ok (.invokevirtual 67, 3) := by decide +kernel
theorem dX11_sunday_32 : decode cX11_sunday 32 = .ok (.aload_n 0, 1) := by decide +kernel
theorem dX11_sunday_33 : decode cX11_sunday 33 = .ok (.getfield 19, 3) := by decide +kernel
theorem dX11_sunday_36 : decode cX11_sunday 36 = .ok (.aload_n 0, 1) := by decide +kernel
theorem dX11_sunday_37 : decode cX11_sunday 37 = .ok (.getfield 10, 3) := by decide +kernel
theorem dX11_sunday_40 : decode cX11_sunday 40 = .ok (.getfield 70, 3) := by decide +kernel
theorem dX11_sunday_43 : decode cX11_sunday 43 = .ok (.invokevirtual 73, 3) := by decide +kernel
theorem dX11_sunday_46 : decode cX11_sunday 46 = .ok (.aload_n 0, 1) := by decide +kernel
theorem dX11_sunday_47 : decode cX11_sunday 47 = .ok (.getfield 30, 3) := by decide +kernel
theorem dX11_sunday_50 : decode cX11_sunday 50 = .ok (.iconst 0, 1) := by decide +kernel
theorem dX11_sunday_51 : decode cX11_sunday 51 = .ok (.putfield 50, 3) := by decide +kernel
theorem dX11_sunday_54 : decode cX11_sunday 54 = .ok (.aload_n 0, 1) := by decide +kernel
theorem dX11_sunday_55 : decode cX11_sunday 55 = .ok (.getfield 46, 3) := by decide +kernel
theorem dX11_sunday_58 : decode cX11_sunday 58 = .ok (.iconst 0, 1) := by decide +kernel
theorem dX11_sunday_59 : decode cX11_sunday 59 = .ok (.putfield 76, 3) := by decide +kernel
theorem dX11_sunday_62 : decode cX11_sunday 62 = .ok (.aload_n 0, 1) := by decide +kernel
theorem dX11_sunday_63 : decode cX11_sunday 63 = .ok (.iconst 0, 1) := by decide +kernel
theorem dX11_sunday_64 : decode cX11_sunday 64 = .ok (.putfield 79, 3) := by decide +kernel
theorem dX11_sunday_67 : decode cX11_sunday 67 = .ok (.aload_n 0, 1) := by decide +kernel
theorem dX11_sunday_68 : decode cX11_sunday 68 = .ok (.getfield 39, 3) := by decide +kernel
theorem dX11_sunday_71 : decode cX11_sunday 71 = .ok (.invokevirtual 82, 3) := by decide +kernel
theorem dX11_sunday_74 : decode cX11_sunday 74 = .ok (.aload_n 0, 1) := by decide +kernel
theorem dX11_sunday_75 : decode cX11_sunday 75 = .ok (.getfield 30, 3) := by decide +kernel
theorem dX11_sunday_78 : decode cX11_sunday 78 = .ok (.getfield 85, 3) := by decide +kernel
theorem dX11_sunday_81 : decode cX11_sunday 81 = .ok (.ireturn, 1) := by decide +kernel
theorem dX11_coin_0 : decode cX11_coin 0 = .ok (.aload_n 0, 1) := by decide +kernel
theorem dX11_coin_1 : decode cX11_coin 1 = .ok (.getfield 10, 3) := by decide +kernel
theorem dX11_coin_4 : decode cX11_coin 4 = .ok (.iload_n 1, 1) := by decide +kernel
theorem dX11_coin_5 : decode cX11_coin 5 = .ok (.invokevirtual 88, 3) := by decide +kernel
theorem dX11_coin_8 : decode cX11_coin 8 = .ok (.ifCond .ne 6, 3) := by decide +kernel
theorem dX11_coin_11 : decode cX11_coin 11 = .ok (.bipush (-2), 2) := by decide +kernel
theorem dX11_coin_13 : decode cX11_coin 13 = .ok (.ireturn, 1) := by decide +kernel
theorem dX11_coin_14 : decode cX11_coin 14 = .ok (.iload_n 2, 1) := by decide +kernel
theorem dX11_coin_15 : decode cX11_coin 15 = .ok (.ifCond .lt 8, 3) := by decide +kernel
theorem dX11_coin_18 : decode cX11_coin 18 = .ok (.iload_n 2, 1) := by decide +kernel
theorem dX11_coin_19 : decode cX11_coin 19 = .ok (.iconst 1, 1) := by decide +kernel
theorem dX11_coin_20 : decode cX11_coin 20 = .ok (.if_icmp .le 6, 3) := by decide +kernel
theorem dX11_coin_23 : decode cX11_coin 23 = .ok (.bipush (-3), 2) := by decide +kernel
theorem dX11_coin_25 : decode cX11_coin 25 = .ok (.ireturn, 1) := by decide +kernel
theorem dX11_coin_26 : decode cX11_coin 26 = .ok (.iload_n 2, 1) := by decide +kernel
theorem dX11_coin_27 : decode cX11_coin 27 = .ok (.ifCond .ne 14, 3) := by decide +kernel
theorem dX11_coin_30 : decode cX11_coin 30 = .ok (.aload_n 0, 1) := by decide +kernel
theorem dX11_coin_31 : decode cX11_coin 31 = .ok (.getfield 10, 3) := by decide +kernel
theorem dX11_coin_34 : decode cX11_coin 34 = .ok (.iload_n 1, 1) := by decide +kernel
theorem dX11_coin_35 : decode cX11_coin 35 = .ok (.invokevirtual 92, 3) := by decide +kernel
theorem dX11_coin_38 : decode cX11_coin 38 = .ok (.goto 12, 3) := by decide +kernel
theorem dX11_coin_41 : decode cX11_coin 41 = .ok (.aload_n 0, 1) := by decide +kernel
theorem dX11_coin_42 : decode cX11_coin 42 = .ok (.getfield 19, 3) := by decide +kernel
theorem dX11_coin_45 : decode cX11_coin 45 = .ok (.iconst 4, 1) := by decide +kernel
theorem dX11_coin_46 : decode cX11_coin 46 = .ok (.iload_n 1, 1) := by decide +kernel
theorem dX11_coin_47 : decode cX11_coin 47 = .ok (.invokevirtual 96, 3) := by decide +kernel
theorem dX11_coin_50 : decode cX11_coin 50 = .ok (.ireturn, 1) := by decide +kernel
theorem dX11_purse_0 : decode cX11_purse 0 = .ok (.iload_n 1, 1) := by decide +kernel
theorem dX11_purse_1 : decode cX11_purse 1 = .ok (.invokestatic 100, 3) := by decide +kernel
theorem dX11_purse_4 : decode cX11_purse 4 = .ok (.ifCond .eq 14, 3) := by decide +kernel
theorem dX11_purse_7 : decode cX11_purse 7 = .ok (.aload_n 0, 1) := by decide +kernel
theorem dX11_purse_8 : decode cX11_purse 8 = .ok (.getfield 10, 3) := by decide +kernel
theorem dX11_purse_11 : decode cX11_purse 11 = .ok (.iload_n 2, 1) := by decide +kernel
theorem dX11_purse_12 : decode cX11_purse 12 = .ok (.invokevirtual 88, 3) := by decide +kernel
theorem dX11_purse_15 : decode cX11_purse 15 = .ok (.ifCond .ne 6, 3) := by decide +kernel
theorem dX11_purse_18 : decode cX11_purse 18 = .ok (.bipush (-2), 2) := by decide +kernel
theorem dX11_purse_20 : decode cX11_purse 20 = .ok (.ireturn, 1) := by decide +kernel
theorem dX11_purse_21 : decode cX11_purse 21 = .ok (.aload_n 0, 1) := by decide +kernel
theorem dX11_purse_22 : decode cX11_purse 22 = .ok (.getfield 19, 3) := by decide +kernel
theorem dX11_purse_25 : decode cX11_purse 25 = .ok (.iload_n 1, 1) := by decide +kernel
theorem dX11_purse_26 : decode cX11_purse 26 = .ok (.iload_n 2, 1) := by decide +kernel
theorem dX11_purse_27 : decode cX11_purse 27 = .ok (.invokevirtual 96, 3) := by decide +kernel
theorem dX11_purse_30 : decode cX11_purse 30 = .ok (.ireturn, 1) := by decide +kernel
theorem dX11_person_0 : decode cX11_person 0 = .ok (.iload_n 1, 1) := by decide +kernel
theorem dX11_person_1 : decode cX11_person 1 = .ok (.invokestatic 100, 3) := by decide +kernel
theorem dX11_person_4 : decode cX11_person 4 = .ok (.ifCond .ne 6, 3) := by decide +kernel
theorem dX11_person_7 : decode cX11_person 7 = .ok (.bipush (-2), 2) := by decide +kernel
theorem dX11_person_9 : decode cX11_person 9 = .ok (.ireturn, 1) := by decide +kernel
theorem dX11_person_10 : decode cX11_person 10 = .ok (.iload_n 2, 1) := by decide +kernel
theorem dX11_person_11 : decode cX11_person 11 = .ok (.tableswitch 86 0 3 #[29, 42, 54, 71], 29) := by decide +kernel
theorem dX11_person_40 : decode cX11_person 40 = .ok (.aload_n 0, 1) := by decide +kernel
theorem dX11_person_41 : decode cX11_person 41 = .ok (.getfield 10, 3) := by decide +kernel
theorem dX11_person_44 : decode cX11_person 44 = .ok (.aload_n 0, 1) := by decide +kernel
theorem dX11_person_45 : decode cX11_person 45 = .ok (.getfield 19, 3) := by decide +kernel
theorem dX11_person_48 : decode cX11_person 48 = .ok (.iload_n 1, 1) := by decide +kernel
theorem dX11_person_49 : decode cX11_person 49 = .ok (.invokevirtual 103, 3) := by decide +kernel
theorem dX11_person_52 : decode cX11_person 52 = .ok (.ireturn, 1) := by decide +kernel
theorem dX11_person_53 : decode cX11_person 53 = .ok (.aload_n 0, 1) := by decide +kernel
theorem dX11_person_54 : decode cX11_person 54 = .ok (.getfield 10, 3) := by decide +kernel
theorem dX11_person_57 : decode cX11_person 57 = .ok (.iload_n 1, 1) := by decide +kernel
theorem dX11_person_58 : decode cX11_person 58 = .ok (.invokevirtual 107, 3) := by decide +kernel
theorem dX11_person_61 : decode cX11_person 61 = .ok (.invokevirtual 111, 3) := by decide +kernel
theorem dX11_person_64 : decode cX11_person 64 = .ok (.ireturn, 1) := by decide +kernel
theorem dX11_person_65 : decode cX11_person 65 = .ok (.aload_n 0, 1) := by decide +kernel
theorem dX11_person_66 : decode cX11_person 66 = .ok (.getfield 10, 3) := by decide +kernel
theorem dX11_person_69 : decode cX11_person 69 = .ok (.iload_n 1, 1) := by decide +kernel
theorem dX11_person_70 : decode cX11_person 70 = .ok (.invokevirtual 107, 3) := by decide +kernel
theorem dX11_person_73 : decode cX11_person 73 = .ok (.aload_n 0, 1) := by decide +kernel
theorem dX11_person_74 : decode cX11_person 74 = .ok (.getfield 10, 3) := by decide +kernel
theorem dX11_person_77 : decode cX11_person 77 = .ok (.iload_n 1, 1) := by decide +kernel
theorem dX11_person_78 : decode cX11_person 78 = .ok (.invokevirtual 117, 3) := by decide +kernel
theorem dX11_person_81 : decode cX11_person 81 = .ok (.ireturn, 1) := by decide +kernel
theorem dX11_person_82 : decode cX11_person 82 = .ok (.aload_n 0, 1) := by decide +kernel
theorem dX11_person_83 : decode cX11_person 83 = .ok (.getfield 10, 3) := by decide +kernel
theorem dX11_person_86 : decode cX11_person 86 = .ok (.aload_n 0, 1) := by decide +kernel
theorem dX11_person_87 : decode cX11_person 87 = .ok (.getfield 19, 3) := by decide +kernel
theorem dX11_person_90 : decode cX11_person 90 = .ok (.iconst 1, 1) := by decide +kernel
theorem dX11_person_91 : decode cX11_person 91 = .ok (.iload_n 1, 1) := by decide +kernel
theorem dX11_person_92 : decode cX11_person 92 = .ok (.ishl, 1) := by decide +kernel
theorem dX11_person_93 : decode cX11_person 93 = .ok (.invokevirtual 121, 3) := by decide +kernel
theorem dX11_person_96 : decode cX11_person 96 = .ok (.ireturn, 1) := by decide +kernel
theorem dX11_person_97 : decode cX11_person 97 = .ok (.bipush (-3), 2) := by decide +kernel
theorem dX11_person_99 : decode cX11_person 99 = .ok (.ireturn, 1) := by decide +kernel
theorem dX11_as_0 : decode cX11_as 0 = .ok (.iload_n 1, 1) := by decide +kernel
theorem dX11_as_1 : decode cX11_as 1 = .ok (.invokestatic 100, 3) := by decide +kernel
theorem dX11_as_4 : decode cX11_as 4 = .ok (.ifCond .ne 6, 3) := by decide +kernel
theorem dX11_as_7 : decode cX11_as 7 = .ok (.bipush (-2), 2) := by decide +kernel
theorem dX11_as_9 : decode cX11_as 9 = .ok (.ireturn, 1) := by decide +kernel
theorem dX11_as_10 : decode cX11_as 10 = .ok (.iload_n 2, 1) := by decide +kernel
theorem dX11_as_11 : decode cX11_as 11 = .ok (.ifCond .lt 8, 3) := by decide +kernel
theorem dX11_as_14 : decode cX11_as 14 = .ok (.iload_n 2, 1) := by decide +kernel
theorem dX11_as_15 : decode cX11_as 15 = .ok (.iconst 5, 1) := by decide +kernel
theorem dX11_as_16 : decode cX11_as 16 = .ok (.if_icmp .le 6, 3) := by decide +kernel
theorem dX11_as_19 : decode cX11_as 19 = .ok (.bipush (-3), 2) := by decide +kernel
theorem dX11_as_21 : decode cX11_as 21 = .ok (.ireturn, 1) := by decide +kernel
theorem dX11_as_22 : decode cX11_as 22 = .ok (.aload_n 0, 1) := by decide +kernel
theorem dX11_as_23 : decode cX11_as 23 = .ok (.getfield 10, 3) := by decide +kernel
theorem dX11_as_26 : decode cX11_as 26 = .ok (.iload_n 1, 1) := by decide +kernel
theorem dX11_as_27 : decode cX11_as 27 = .ok (.invokevirtual 107, 3) := by decide +kernel
theorem dX11_as_30 : decode cX11_as 30 = .ok (.astore_n 3, 1) := by decide +kernel
theorem dX11_as_31 : decode cX11_as 31 = .ok (.aload_n 3, 1) := by decide +kernel
theorem dX11_as_32 : decode cX11_as 32 = .ok (.iload_n 2, 1) := by decide +kernel
theorem dX11_as_33 : decode cX11_as 33 = .ok (.invokestatic 124, 3) := by decide +kernel
theorem dX11_as_36 : decode cX11_as 36 = .ok (.ifCond .eq 19, 3) := by decide +kernel
theorem dX11_as_39 : decode cX11_as 39 = .ok (.aload_n 3, 1) := by decide +kernel
theorem dX11_as_40 : decode cX11_as 40 = .ok (.aload_n 0, 1) := by decide +kernel
theorem dX11_as_41 : decode cX11_as 41 = .ok (.getfield 10, 3) := by decide +kernel
theorem dX11_as_44 : decode cX11_as 44 = .ok (.aload_n 0, 1) := by decide +kernel
theorem dX11_as_45 : decode cX11_as 45 = .ok (.getfield 19, 3) := by decide +kernel
theorem dX11_as_48 : decode cX11_as 48 = .ok (.iload_n 1, 1) := by decide +kernel
theorem dX11_as_49 : decode cX11_as 49 = .ok (.invokevirtual 128, 3) := by decide +kernel
theorem dX11_as_52 : decode cX11_as 52 = .ok (.goto 5, 3) := by decide +kernel
theorem dX11_as_55 : decode cX11_as 55 = .ok (.bipush (-4), 2) := by decide +kernel
theorem dX11_as_57 : decode cX11_as 57 = .ok (.ireturn, 1) := by decide +kernel
theorem dX11_come_0 : decode cX11_come 0 = .ok (.iload_n 1, 1) := by decide +kernel
theorem dX11_come_1 : decode cX11_come 1 = .ok (.ifCond .ge 8, 3) := by decide +kernel
theorem dX11_come_4 : decode cX11_come 4 = .ok (.bipush (-3), 2) := by decide +kernel
theorem dX11_come_6 : decode cX11_come 6 = .ok (.goto 11, 3) := by decide +kernel
theorem dX11_come_9 : decode cX11_come 9 = .ok (.aload_n 0, 1) := by decide +kernel
theorem dX11_come_10 : decode cX11_come 10 = .ok (.getfield 10, 3) := by decide +kernel
theorem dX11_come_13 : decode cX11_come 13 = .ok (.iload_n 1, 1) := by decide +kernel
theorem dX11_come_14 : decode cX11_come 14 = .ok (.invokevirtual 132, 3) := by decide +kernel
theorem dX11_come_17 : decode cX11_come 17 = .ok (.ireturn, 1) := by decide +kernel
theorem dX11_gain_0 : decode cX11_gain 0 = .ok (.iload_n 1, 1) := by decide +kernel
theorem dX11_gain_1 : decode cX11_gain 1 = .ok (.invokestatic 100, 3) := by decide +kernel
theorem dX11_gain_4 : decode cX11_gain 4 = .ok (.ifCond .eq 14, 3) := by decide +kernel
theorem dX11_gain_7 : decode cX11_gain 7 = .ok (.aload_n 0, 1) := by decide +kernel
theorem dX11_gain_8 : decode cX11_gain 8 = .ok (.getfield 10, 3) := by decide +kernel
theorem dX11_gain_11 : decode cX11_gain 11 = .ok (.iload_n 2, 1) := by decide +kernel
theorem dX11_gain_12 : decode cX11_gain 12 = .ok (.invokevirtual 88, 3) := by decide +kernel
theorem dX11_gain_15 : decode cX11_gain 15 = .ok (.ifCond .ne 6, 3) := by decide +kernel
theorem dX11_gain_18 : decode cX11_gain 18 = .ok (.bipush (-2), 2) := by decide +kernel
theorem dX11_gain_20 : decode cX11_gain 20 = .ok (.ireturn, 1) := by decide +kernel
theorem dX11_gain_21 : decode cX11_gain 21 = .ok (.aload_n 0, 1) := by decide +kernel
theorem dX11_gain_22 : decode cX11_gain 22 = .ok (.getfield 19, 3) := by decide +kernel
theorem dX11_gain_25 : decode cX11_gain 25 = .ok (.iload_n 1, 1) := by decide +kernel
theorem dX11_gain_26 : decode cX11_gain 26 = .ok (.iload_n 2, 1) := by decide +kernel
theorem dX11_gain_27 : decode cX11_gain 27 = .ok (.invokevirtual 96, 3) := by decide +kernel
theorem dX11_gain_30 : decode cX11_gain 30 = .ok (.ifCond .ne 6, 3) := by decide +kernel
theorem dX11_gain_33 : decode cX11_gain 33 = .ok (.bipush (-4), 2) := by decide +kernel
theorem dX11_gain_35 : decode cX11_gain 35 = .ok (.ireturn, 1) := by decide +kernel
theorem dX11_gain_36 : decode cX11_gain 36 = .ok (.aload_n 0, 1) := by decide +kernel
theorem dX11_gain_37 : decode cX11_gain 37 = .ok (.getfield 10, 3) := by decide +kernel
theorem dX11_gain_40 : decode cX11_gain 40 = .ok (.aload_n 0, 1) := by decide +kernel
theorem dX11_gain_41 : decode cX11_gain 41 = .ok (.getfield 19, 3) := by decide +kernel
theorem dX11_gain_44 : decode cX11_gain 44 = .ok (.iload_n 2, 1) := by decide +kernel
theorem dX11_gain_45 : decode cX11_gain 45 = .ok (.invokevirtual 135, 3) := by decide +kernel
theorem dX11_gain_48 : decode cX11_gain 48 = .ok (.ldc 138, 2) := by decide +kernel
theorem dX11_gain_50 : decode cX11_gain 50 = .ok (.iadd, 1) := by decide +kernel
theorem dX11_gain_51 : decode cX11_gain 51 = .ok (.ireturn, 1) := by decide +kernel
theorem dX11_visit_0 : decode cX11_visit 0 = .ok (.iload_n 1, 1) := by decide +kernel
theorem dX11_visit_1 : decode cX11_visit 1 = .ok (.iconst (-1), 1) := by decide +kernel
theorem dX11_visit_2 : decode cX11_visit 2 = .ok (.if_icmp .eq 17, 3) := by decide +kernel
theorem dX11_visit_5 : decode cX11_visit 5 = .ok (.aload_n 0, 1) := by decide +kernel
theorem dX11_visit_6 : decode cX11_visit 6 = .ok (.getfield 10, 3) := by decide +kernel
theorem dX11_visit_9 : decode cX11_visit 9 = .ok (.iload_n 1, 1) := by decide +kernel
theorem dX11_visit_10 : decode cX11_visit 10 = .ok (.invokevirtual 88, 3) := by decide +kernel
theorem dX11_visit_13 : decode cX11_visit 13 = .ok (.ifCond .ne 6, 3) := by decide +kernel
theorem dX11_visit_16 : decode cX11_visit 16 = .ok (.bipush (-2), 2) := by decide +kernel
theorem dX11_visit_18 : decode cX11_visit 18 = .ok (.ireturn, 1) := by decide +kernel
theorem dX11_visit_19 : decode cX11_visit 19 = .ok (.aload_n 0, 1) := by decide +kernel
theorem dX11_visit_20 : decode cX11_visit 20 = .ok (.getfield 10, 3) := by decide +kernel
theorem dX11_visit_23 : decode cX11_visit 23 = .ok (.aload_n 0, 1) := by decide +kernel
theorem dX11_visit_24 : decode cX11_visit 24 = .ok (.getfield 19, 3) := by decide +kernel
theorem dX11_visit_27 : decode cX11_visit 27 = .ok (.getfield 139, 3) := by decide +kernel
theorem dX11_visit_30 : decode cX11_visit 30 = .ok (.invokevirtual 132, 3) := by decide +kernel
theorem dX11_visit_33 : decode cX11_visit 33 = .ok (.istore_n 2, 1) := by decide +kernel
theorem dX11_visit_34 : decode cX11_visit 34 = .ok (.iload_n 2, 1) := by decide +kernel
theorem dX11_visit_35 : decode cX11_visit 35 = .ok (.iconst (-1), 1) := by decide +kernel
theorem dX11_visit_36 : decode cX11_visit 36 = .ok (.if_icmp .eq 20, 3) := by decide +kernel
theorem dX11_visit_39 : decode cX11_visit 39 = .ok (.iload_n 1, 1) := by decide +kernel
theorem dX11_visit_40 : decode cX11_visit 40 = .ok (.iconst (-1), 1) := by decide +kernel
theorem dX11_visit_41 : decode cX11_visit 41 = .ok (.if_icmp .eq 18, 3) := by decide +kernel
theorem dX11_visit_44 : decode cX11_visit 44 = .ok (.aload_n 0, 1) := by decide +kernel
theorem dX11_visit_45 : decode cX11_visit 45 = .ok (.getfield 19, 3) := by decide +kernel
theorem dX11_visit_48 : decode cX11_visit 48 = .ok (.iload_n 2, 1) := by decide +kernel
theorem dX11_visit_49 : decode cX11_visit 49 = .ok (.iload_n 1, 1) := by decide +kernel
theorem dX11_visit_50 : decode cX11_visit 50 = .ok (.invokevirtual 96, 3) := by decide +kernel
theorem dX11_visit_53 : decode cX11_visit 53 = .ok (.ifCond .ne 6, 3) := by decide +kernel
theorem dX11_visit_56 : decode cX11_visit 56 = .ok (.bipush (-4), 2) := by decide +kernel
theorem dX11_visit_58 : decode cX11_visit 58 = .ok (.ireturn, 1) := by decide +kernel
theorem dX11_visit_59 : decode cX11_visit 59 = .ok (.iload_n 1, 1) := by decide +kernel
theorem dX11_visit_60 : decode cX11_visit 60 = .ok (.iconst (-1), 1) := by decide +kernel
theorem dX11_visit_61 : decode cX11_visit 61 = .ok (.if_icmp .ne 7, 3) := by decide +kernel
theorem dX11_visit_64 : decode cX11_visit 64 = .ok (.iconst 0, 1) := by decide +kernel
theorem dX11_visit_65 : decode cX11_visit 65 = .ok (.goto 15, 3) := by decide +kernel
theorem dX11_visit_68 : decode cX11_visit 68 = .ok (.aload_n 0, 1) := by decide +kernel
theorem dX11_visit_69 : decode cX11_visit 69 = .ok (.getfield 10, 3) := by decide +kernel
theorem dX11_visit_72 : decode cX11_visit 72 = .ok (.aload_n 0, 1) := by decide +kernel
theorem dX11_visit_73 : decode cX11_visit 73 = .ok (.getfield 19, 3) := by decide +kernel
theorem dX11_visit_76 : decode cX11_visit 76 = .ok (.iload_n 1, 1) := by decide +kernel
theorem dX11_visit_77 : decode cX11_visit 77 = .ok (.invokevirtual 135, 3) := by decide +kernel
theorem dX11_visit_80 : decode cX11_visit 80 = .ok (.istore_n 3, 1) := by decide +kernel
theorem dX11_visit_81 : decode cX11_visit 81 = .ok (.aload_n 0, 1) := by decide +kernel
theorem dX11_visit_82 : decode cX11_visit 82 = .ok (.getfield 10, 3) := by decide +kernel
theorem dX11_visit_85 : decode cX11_visit 85 = .ok (.aload_n 0, 1) := by decide +kernel
theorem dX11_visit_86 : decode cX11_visit 86 = .ok (.getfield 19, 3) := by decide +kernel
theorem dX11_visit_89 : decode cX11_visit 89 = .ok (.iload_n 1, 1) := by decide +kernel
theorem dX11_visit_90 : decode cX11_visit 90 = .ok (.invokevirtual 142, 3) := by decide +kernel
theorem dX11_visit_93 : decode cX11_visit 93 = .ok (.aload_n 0, 1) := by decide +kernel
theorem dX11_visit_94 : decode cX11_visit 94 = .ok (.getfield 39, 3) := by decide +kernel
theorem dX11_visit_97 : decode cX11_visit 97 = .ok (.invokevirtual 82, 3) := by decide +kernel
theorem dX11_visit_100 : decode cX11_visit 100 = .ok (.iload_n 3, 1) := by decide +kernel
theorem dX11_visit_101 : decode cX11_visit 101 = .ok (.ldc 138, 2) := by decide +kernel
theorem dX11_visit_103 : decode cX11_visit 103 = .ok (.iadd, 1) := by decide +kernel
theorem dX11_visit_104 : decode cX11_visit 104 = .ok (.ireturn, 1) := by decide +kernel
theorem dX11_go_0 : decode cX11_go 0 = .ok (.iload_n 1, 1) := by decide +kernel
theorem dX11_go_1 : decode cX11_go 1 = .ok (.iconst 1, 1) := by decide +kernel
theorem dX11_go_2 : decode cX11_go 2 = .ok (.if_icmp .lt 9, 3) := by decide +kernel
theorem dX11_go_5 : decode cX11_go 5 = .ok (.iload_n 1, 1) := by decide +kernel
theorem dX11_go_6 : decode cX11_go 6 = .ok (.bipush 24, 2) := by decide +kernel
theorem dX11_go_8 : decode cX11_go 8 = .ok (.if_icmp .le 6, 3) := by decide +kernel
theorem dX11_go_11 : decode cX11_go 11 = .ok (.bipush (-3), 2) := by decide +kernel
theorem dX11_go_13 : decode cX11_go 13 = .ok (.ireturn, 1) := by decide +kernel
theorem dX11_go_14 : decode cX11_go 14 = .ok (.iconst 0, 1) := by decide +kernel
theorem dX11_go_15 : decode cX11_go 15 = .ok (.istore_n 2, 1) := by decide +kernel
theorem dX11_go_16 : decode cX11_go 16 = .ok (.iload_n 2, 1) := by decide +kernel
theorem dX11_go_17 : decode cX11_go 17 = .ok (.iload_n 1, 1) := by decide +kernel
theorem dX11_go_18 : decode cX11_go 18 = .ok (.if_icmp .ge 48, 3) := by decide +kernel
theorem dX11_go_21 : decode cX11_go 21 = .ok (.aload_n 0, 1) := by decide +kernel
theorem dX11_go_22 : decode cX11_go 22 = .ok (.getfield 19, 3) := by decide +kernel
theorem dX11_go_25 : decode cX11_go 25 = .ok (.getfield 139, 3) := by decide +kernel
theorem dX11_go_28 : decode cX11_go 28 = .ok (.aload_n 0, 1) := by decide +kernel
theorem dX11_go_29 : decode cX11_go 29 = .ok (.getfield 10, 3) := by decide +kernel
theorem dX11_go_32 : decode cX11_go 32 = .ok (.getfield 146, 3) := by decide +kernel
theorem dX11_go_35 : decode cX11_go 35 = .ok (.if_icmp .ge 31, 3) := by decide +kernel
theorem dX11_go_38 : decode cX11_go 38 = .ok (.aload_n 0, 1) := by decide +kernel
theorem dX11_go_39 : decode cX11_go 39 = .ok (.getfield 10, 3) := by decide +kernel
theorem dX11_go_42 : decode cX11_go 42 = .ok (.aload_n 0, 1) := by decide +kernel
theorem dX11_go_43 : decode cX11_go 43 = .ok (.getfield 19, 3) := by decide +kernel
theorem dX11_go_46 : decode cX11_go 46 = .ok (.aload_n 0, 1) := by decide +kernel
theorem dX11_go_47 : decode cX11_go 47 = .ok (.getfield 10, 3) := by decide +kernel
theorem dX11_go_50 : decode cX11_go 50 = .ok (.aload_n 0, 1) := by decide +kernel
theorem dX11_go_51 : decode cX11_go 51 = .ok (.getfield 19, 3) := by decide +kernel
theorem dX11_go_54 : decode cX11_go 54 = .ok (.invokevirtual 149, 3) := by decide +kernel
theorem dX11_go_57 : decode cX11_go 57 = .ok (.invokevirtual 142, 3) := by decide +kernel
theorem dX11_go_60 : decode cX11_go 60 = .ok (.iinc 2 1, 3) := by decide +kernel
theorem dX11_go_63 : decode cX11_go 63 = .ok (.goto (-47), 3) := by decide +kernel
theorem dX11_go_66 : decode cX11_go 66 = .ok (.aload_n 0, 1) := by decide +kernel
theorem dX11_go_67 : decode cX11_go 67 = .ok (.getfield 39, 3) := by decide +kernel
theorem dX11_go_70 : decode cX11_go 70 = .ok (.invokevirtual 82, 3) := by decide +kernel
theorem dX11_go_73 : decode cX11_go 73 = .ok (.aload_n 0, 1) := by decide +kernel
theorem dX11_go_74 : decode cX11_go 74 = .ok (.getfield 19, 3) := by decide +kernel
theorem dX11_go_77 : decode cX11_go 77 = .ok (.getfield 139, 3) := by decide +kernel
theorem dX11_go_80 : decode cX11_go 80 = .ok (.ireturn, 1) := by decide +kernel
theorem dX11_plan_0 : decode cX11_plan 0 = .ok (.iload_n 1, 1) := by decide +kernel
theorem dX11_plan_1 : decode cX11_plan 1 = .ok (.invokestatic 100, 3) := by decide +kernel
theorem dX11_plan_4 : decode cX11_plan 4 = .ok (.ifCond .ne 6, 3) := by decide +kernel
theorem dX11_plan_7 : decode cX11_plan 7 = .ok (.bipush (-2), 2) := by decide +kernel
theorem dX11_plan_9 : decode cX11_plan 9 = .ok (.ireturn, 1) := by decide +kernel
theorem dX11_plan_10 : decode cX11_plan 10 = .ok (.iload_n 2, 1) := by decide +kernel
theorem dX11_plan_11 : decode cX11_plan 11 = .ok (.iconst (-1), 1) := by decide +kernel
theorem dX11_plan_12 : decode cX11_plan 12 = .ok (.if_icmp .ge 6, 3) := by decide +kernel
theorem dX11_plan_15 : decode cX11_plan 15 = .ok (.bipush (-3), 2) := by decide +kernel
theorem dX11_plan_17 : decode cX11_plan 17 = .ok (.ireturn, 1) := by decide +kernel
theorem dX11_plan_18 : decode cX11_plan 18 = .ok (.iconst 1, 1) := by decide +kernel
theorem dX11_plan_19 : decode cX11_plan 19 = .ok (.iload_n 1, 1) := by decide +kernel
theorem dX11_plan_20 : decode cX11_plan 20 = .ok (.ishl, 1) := by decide +kernel
theorem dX11_plan_21 : decode cX11_plan 21 = .ok (.istore_n 3, 1) := by decide +kernel
theorem dX11_plan_22 : decode cX11_plan 22 = .ok (.aload_n 0, 1) := by decide +kernel
theorem dX11_plan_23 : decode cX11_plan 23 = .ok (.getfield 10, 3) := by decide +kernel
theorem dX11_plan_26 : decode cX11_plan 26 = .ok (.aload_n 0, 1) := by decide +kernel
theorem dX11_plan_27 : decode cX11_plan 27 = .ok (.getfield 19, 3) := by decide +kernel
theorem dX11_plan_30 : decode cX11_plan 30 = .ok (.iload_n 3, 1) := by decide +kernel
theorem dX11_plan_31 : decode cX11_plan 31 = .ok (.invokevirtual 121, 3) := by decide +kernel
theorem dX11_plan_34 : decode cX11_plan 34 = .ok (.iconst 5, 1) := by decide +kernel
theorem dX11_plan_35 : decode cX11_plan 35 = .ok (.if_icmp .le 6, 3) := by decide +kernel
theorem dX11_plan_38 : decode cX11_plan 38 = .ok (.bipush (-4), 2) := by decide +kernel
theorem dX11_plan_40 : decode cX11_plan 40 = .ok (.ireturn, 1) := by decide +kernel
theorem dX11_plan_41 : decode cX11_plan 41 = .ok (.aload_n 0, 1) := by decide +kernel
theorem dX11_plan_42 : decode cX11_plan 42 = .ok (.getfield 39, 3) := by decide +kernel
theorem dX11_plan_45 : decode cX11_plan 45 = .ok (.aload_n 0, 1) := by decide +kernel
theorem dX11_plan_46 : decode cX11_plan 46 = .ok (.getfield 19, 3) := by decide +kernel
theorem dX11_plan_49 : decode cX11_plan 49 = .ok (.iload_n 1, 1) := by decide +kernel
theorem dX11_plan_50 : decode cX11_plan 50 = .ok (.iload_n 3, 1) := by decide +kernel
theorem dX11_plan_51 : decode cX11_plan 51 = .ok (.invokestatic 153, 3) := by decide +kernel
theorem dX11_plan_54 : decode cX11_plan 54 = .ok (.invokevirtual 156, 3) := by decide +kernel
theorem dX11_plan_57 : decode cX11_plan 57 = .ok (.iload_n 2, 1) := by decide +kernel
theorem dX11_plan_58 : decode cX11_plan 58 = .ok (.iconst (-1), 1) := by decide +kernel
theorem dX11_plan_59 : decode cX11_plan 59 = .ok (.if_icmp .ne 14, 3) := by decide +kernel
theorem dX11_plan_62 : decode cX11_plan 62 = .ok (.aload_n 0, 1) := by decide +kernel
theorem dX11_plan_63 : decode cX11_plan 63 = .ok (.getfield 39, 3) := by decide +kernel
theorem dX11_plan_66 : decode cX11_plan 66 = .ok (.iload_n 1, 1) := by decide +kernel
theorem dX11_plan_67 : decode cX11_plan 67 = .ok (.invokevirtual 159, 3) := by decide +kernel
theorem dX11_plan_70 : decode cX11_plan 70 = .ok (.goto 11, 3) := by decide +kernel
theorem dX11_plan_73 : decode cX11_plan 73 = .ok (.aload_n 0, 1) := by decide +kernel
theorem dX11_plan_74 : decode cX11_plan 74 = .ok (.getfield 39, 3) := by decide +kernel
theorem dX11_plan_77 : decode cX11_plan 77 = .ok (.iload_n 2, 1) := by decide +kernel
theorem dX11_plan_78 : decode cX11_plan 78 = .ok (.invokevirtual 162, 3) := by decide +kernel
theorem dX11_plan_81 : decode cX11_plan 81 = .ok (.ireturn, 1) := by decide +kernel
theorem dX11_game_0 : decode cX11_game 0 = .ok (.iload_n 1, 1) := by decide +kernel
theorem dX11_game_1 : decode cX11_game 1 = .ok (.invokestatic 100, 3) := by decide +kernel
theorem dX11_game_4 : decode cX11_game 4 = .ok (.ifCond .ne 6, 3) := by decide +kernel
theorem dX11_game_7 : decode cX11_game 7 = .ok (.bipush (-2), 2) := by decide +kernel
theorem dX11_game_9 : decode cX11_game 9 = .ok (.ireturn, 1) := by decide +kernel
theorem dX11_game_10 : decode cX11_game 10 = .ok (.aload_n 0, 1) := by decide +kernel
theorem dX11_game_11 : decode cX11_game 11 = .ok (.invokevirtual 165, 3) := by decide +kernel
theorem dX11_game_14 : decode cX11_game 14 = .ok (.ifCond .eq 6, 3) := by decide +kernel
theorem dX11_game_17 : decode cX11_game 17 = .ok (.bipush (-4), 2) := by decide +kernel
theorem dX11_game_19 : decode cX11_game 19 = .ok (.ireturn, 1) := by decide +kernel
theorem dX11_game_20 : decode cX11_game 20 = .ok (.aload_n 0, 1) := by decide +kernel
theorem dX11_game_21 : decode cX11_game 21 = .ok (.getfield 39, 3) := by decide +kernel
theorem dX11_game_24 : decode cX11_game 24 = .ok (.aload_n 0, 1) := by decide +kernel
theorem dX11_game_25 : decode cX11_game 25 = .ok (.getfield 19, 3) := by decide +kernel
theorem dX11_game_28 : decode cX11_game 28 = .ok (.ldc 169, 2) := by decide +kernel
theorem dX11_game_30 : decode cX11_game 30 = .ok (.invokevirtual 156, 3) := by decide +kernel
theorem dX11_game_33 : decode cX11_game 33 = .ok (.aload_n 0, 1) := by decide +kernel
theorem dX11_game_34 : decode cX11_game 34 = .ok (.getfield 39, 3) := by decide +kernel
theorem dX11_game_37 : decode cX11_game 37 = .ok (.iload_n 1, 1) := by decide +kernel
theorem dX11_game_38 : decode cX11_game 38 = .ok (.invokevirtual 159, 3) := by decide +kernel
theorem dX11_game_41 : decode cX11_game 41 = .ok (.ireturn, 1) := by decide +kernel
theorem dX11_choice_0 : decode cX11_choice 0 = .ok (.iload_n 1, 1) := by decide +kernel
theorem dX11_choice_1 : decode cX11_choice 1 = .ok (.ifCond .ge 6, 3) := by decide +kernel
theorem dX11_choice_4 : decode cX11_choice 4 = .ok (.bipush (-3), 2) := by decide +kernel
theorem dX11_choice_6 : decode cX11_choice 6 = .ok (.ireturn, 1) := by decide +kernel
theorem dX11_choice_7 : decode cX11_choice 7 = .ok (.aload_n 0, 1) := by decide +kernel
theorem dX11_choice_8 : decode cX11_choice 8 = .ok (.invokevirtual 165, 3) := by decide +kernel
theorem dX11_choice_11 : decode cX11_choice 11 = .ok (.ifCond .eq 6, 3) := by decide +kernel
theorem dX11_choice_14 : decode cX11_choice 14 = .ok (.bipush (-4), 2) := by decide +kernel
theorem dX11_choice_16 : decode cX11_choice 16 = .ok (.ireturn, 1) := by decide +kernel
theorem dX11_choice_17 : decode cX11_choice 17 = .ok (.aload_n 0, 1) := by decide +kernel
theorem dX11_choice_18 : decode cX11_choice 18 = .ok (.getfield 39, 3) := by decide +kernel
theorem dX11_choice_21 : decode cX11_choice 21 = .ok (.aload_n 0, 1) := by decide +kernel
theorem dX11_choice_22 : decode cX11_choice 22 = .ok (.getfield 19, 3) := by decide +kernel
theorem dX11_choice_25 : decode cX11_choice 25 = .ok (.ldc 169, 2) := by decide +kernel
theorem dX11_choice_27 : decode cX11_choice 27 = .ok (.invokevirtual 156, 3) := by decide +kernel
theorem dX11_choice_30 : decode cX11_choice 30 = .ok (.aload_n 0, 1) := by decide +kernel
theorem dX11_choice_31 : decode cX11_choice 31 = .ok (.getfield 39, 3) := by decide +kernel
theorem dX11_choice_34 : decode cX11_choice 34 = .ok (.iload_n 1, 1) := by decide +kernel
theorem dX11_choice_35 : decode cX11_choice 35 = .ok (.invokevirtual 162, 3) := by decide +kernel
theorem dX11_choice_38 : decode cX11_choice 38 = .ok (.ireturn, 1) := by decide +kernel
theorem dX11_league_0 : decode cX11_league 0 = .ok (.iload_n 1, 1) := by decide +kernel
theorem dX11_league_1 : decode cX11_league 1 = .ok (.invokestatic 100, 3) := by decide +kernel
theorem dX11_league_4 : decode cX11_league 4 = .ok (.ifCond .eq 10, 3) := by decide +kernel
theorem dX11_league_7 : decode cX11_league 7 = .ok (.iload_n 2, 1) := by decide +kernel
theorem dX11_league_8 : decode cX11_league 8 = .ok (.invokestatic 100, 3) := by decide +kernel
theorem dX11_league_11 : decode cX11_league 11 = .ok (.ifCond .ne 6, 3) := by decide +kernel
theorem dX11_league_14 : decode cX11_league 14 = .ok (.bipush (-2), 2) := by decide +kernel
theorem dX11_league_16 : decode cX11_league 16 = .ok (.ireturn, 1) := by decide +kernel
theorem dX11_league_17 : decode cX11_league 17 = .ok (.iload_n 1, 1) := by decide +kernel
theorem dX11_league_18 : decode cX11_league 18 = .ok (.iload_n 2, 1) := by decide +kernel
theorem dX11_league_19 : decode cX11_league 19 = .ok (.if_icmp .ne 6, 3) := by decide +kernel
theorem dX11_league_22 : decode cX11_league 22 = .ok (.bipush (-3), 2) := by decide +kernel
theorem dX11_league_24 : decode cX11_league 24 = .ok (.ireturn, 1) := by decide +kernel
theorem dX11_league_25 : decode cX11_league 25 = .ok (.iconst 1, 1) := by decide +kernel
theorem dX11_league_26 : decode cX11_league 26 = .ok (.iload_n 1, 1) := by decide +kernel
theorem dX11_league_27 : decode cX11_league 27 = .ok (.ishl, 1) := by decide +kernel
theorem dX11_league_28 : decode cX11_league 28 = .ok (.iconst 1, 1) := by decide +kernel
theorem dX11_league_29 : decode cX11_league 29 = .ok (.iload_n 2, 1) := by decide +kernel
theorem dX11_league_30 : decode cX11_league 30 = .ok (.ishl, 1) := by decide +kernel
theorem dX11_league_31 : decode cX11_league 31 = .ok (.ior, 1) := by decide +kernel
theorem dX11_league_32 : decode cX11_league 32 = .ok (.istore_n 3, 1) := by decide +kernel
theorem dX11_league_33 : decode cX11_league 33 = .ok (.aload_n 0, 1) := by decide +kernel
theorem dX11_league_34 : decode cX11_league 34 = .ok (.getfield 10, 3) := by decide +kernel
theorem dX11_league_37 : decode cX11_league 37 = .ok (.aload_n 0, 1) := by decide +kernel
theorem dX11_league_38 : decode cX11_league 38 = .ok (.getfield 19, 3) := by decide +kernel
theorem dX11_league_41 : decode cX11_league 41 = .ok (.iload_n 3, 1) := by decide +kernel
theorem dX11_league_42 : decode cX11_league 42 = .ok (.invokevirtual 121, 3) := by decide +kernel
theorem dX11_league_45 : decode cX11_league 45 = .ok (.iconst 5, 1) := by decide +kernel
theorem dX11_league_46 : decode cX11_league 46 = .ok (.if_icmp .le 6, 3) := by decide +kernel
theorem dX11_league_49 : decode cX11_league 49 = .ok (.bipush (-4), 2) := by decide +kernel
theorem dX11_league_51 : decode cX11_league 51 = .ok (.ireturn, 1) := by decide +kernel
theorem dX11_league_52 : decode cX11_league 52 = .ok (.aload_n 0, 1) := by decide +kernel
theorem dX11_league_53 : decode cX11_league 53 = .ok (.getfield 39, 3) := by decide +kernel
theorem dX11_league_56 : decode cX11_league 56 = .ok (.aload_n 0, 1) := by decide +kernel
theorem dX11_league_57 : decode cX11_league 57 = .ok (.getfield 19, 3) := by decide +kernel
theorem dX11_league_60 : decode cX11_league 60 = .ok (.iload_n 1, 1) := by decide +kernel
theorem dX11_league_61 : decode cX11_league 61 = .ok (.iload_n 3, 1) := by decide +kernel
theorem dX11_league_62 : decode cX11_league 62 = .ok (.invokestatic 153, 3) := by decide +kernel
theorem dX11_league_65 : decode cX11_league 65 = .ok (.iload_n 2, 1) := by decide +kernel
theorem dX11_league_66 : decode cX11_league 66 = .ok (.iload_n 3, 1) := by decide +kernel
theorem dX11_league_67 : decode cX11_league 67 = .ok (.invokestatic 153, 3) := by decide +kernel
theorem dX11_league_70 : decode cX11_league 70 = .ok (.ior, 1) := by decide +kernel
theorem dX11_league_71 : decode cX11_league 71 = .ok (.invokevirtual 156, 3) := by decide +kernel
theorem dX11_league_74 : decode cX11_league 74 = .ok (.aload_n 0, 1) := by decide +kernel
theorem dX11_league_75 : decode cX11_league 75 = .ok (.getfield 39, 3) := by decide +kernel
theorem dX11_league_78 : decode cX11_league 78 = .ok (.iload_n 1, 1) := by decide +kernel
theorem dX11_league_79 : decode cX11_league 79 = .ok (.invokevirtual 159, 3) := by decide +kernel
theorem dX11_league_82 : decode cX11_league 82 = .ok (.aload_n 0, 1) := by decide +kernel
theorem dX11_league_83 : decode cX11_league 83 = .ok (.getfield 39, 3) := by decide +kernel
theorem dX11_league_86 : decode cX11_league 86 = .ok (.iload_n 2, 1) := by decide +kernel
theorem dX11_league_87 : decode cX11_league 87 = .ok (.invokevirtual 159, 3) := by decide +kernel
theorem dX11_league_90 : decode cX11_league 90 = .ok (.iadd, 1) := by decide +kernel
theorem dX11_league_91 : decode cX11_league 91 = .ok (.ireturn, 1) := by decide +kernel
theorem dX11_mean_0 : decode cX11_mean 0 = .ok (.iload_n 1, 1) := by decide +kernel
theorem dX11_mean_1 : decode cX11_mean 1 = .ok (.invokestatic 100, 3) := by decide +kernel
theorem dX11_mean_4 : decode cX11_mean 4 = .ok (.ifCond .ne 7, 3) := by decide +kernel
theorem dX11_mean_7 : decode cX11_mean 7 = .ok (.ldc2_w 170, 3) := by decide +kernel
theorem dX11_mean_10 : decode cX11_mean 10 = .ok (.lreturn, 1) := by decide +kernel
theorem dX11_mean_11 : decode cX11_mean 11 = .ok (.iload_n 2, 1) := by decide +kernel
theorem dX11_mean_12 : decode cX11_mean 12 = .ok (.ifCond .lt 18, 3) := by decide +kernel
theorem dX11_mean_15 : decode cX11_mean 15 = .ok (.iload_n 2, 1) := by decide +kernel
theorem dX11_mean_16 : decode cX11_mean 16 = .ok (.bipush 10, 2) := by decide +kernel
theorem dX11_mean_18 : decode cX11_mean 18 = .ok (.if_icmp .gt 12, 3) := by decide +kernel
theorem dX11_mean_21 : decode cX11_mean 21 = .ok (.iload_n 3, 1) := by decide +kernel
theorem dX11_mean_22 : decode cX11_mean 22 = .ok (.ifCond .lt 8, 3) := by decide +kernel
theorem dX11_mean_25 : decode cX11_mean 25 = .ok (.iload_n 3, 1) := by decide +kernel
theorem dX11_mean_26 : decode cX11_mean 26 = .ok (.iconst 1, 1) := by decide +kernel
theorem dX11_mean_27 : decode cX11_mean 27 = .ok (.if_icmp .le 7, 3) := by decide +kernel
theorem dX11_mean_30 : decode cX11_mean 30 = .ok (.ldc2_w 172, 3) := by decide +kernel
theorem dX11_mean_33 : decode cX11_mean 33 = .ok (.lreturn, 1) := by decide +kernel
theorem dX11_mean_34 : decode cX11_mean 34 = .ok (.aload_n 0, 1) := by decide +kernel
theorem dX11_mean_35 : decode cX11_mean 35 = .ok (.getfield 10, 3) := by decide +kernel
theorem dX11_mean_38 : decode cX11_mean 38 = .ok (.getfield 146, 3) := by decide +kernel
theorem dX11_mean_41 : decode cX11_mean 41 = .ok (.aload_n 0, 1) := by decide +kernel
theorem dX11_mean_42 : decode cX11_mean 42 = .ok (.getfield 19, 3) := by decide +kernel
theorem dX11_mean_45 : decode cX11_mean 45 = .ok (.getfield 139, 3) := by decide +kernel
theorem dX11_mean_48 : decode cX11_mean 48 = .ok (.isub, 1) := by decide +kernel
theorem dX11_mean_49 : decode cX11_mean 49 = .ok (.bipush 10, 2) := by decide +kernel
theorem dX11_mean_51 : decode cX11_mean 51 = .ok (.if_icmp .le 7, 3) := by decide +kernel
theorem dX11_mean_54 : decode cX11_mean 54 = .ok (.ldc2_w 174, 3) := by decide +kernel
theorem dX11_mean_57 : decode cX11_mean 57 = .ok (.lreturn, 1) := by decide +kernel
theorem dX11_mean_58 : decode cX11_mean 58 = .ok (.aload_n 0, 1) := by decide +kernel
theorem dX11_mean_59 : decode cX11_mean 59 = .ok (.getfield 39, 3) := by decide +kernel
theorem dX11_mean_62 : decode cX11_mean 62 = .ok (.aload_n 0, 1) := by decide +kernel
theorem dX11_mean_63 : decode cX11_mean 63 = .ok (.getfield 19, 3) := by decide +kernel
theorem dX11_mean_66 : decode cX11_mean 66 = .ok (.iload_n 1, 1) := by decide +kernel
theorem dX11_mean_67 : decode cX11_mean 67 = .ok (.iload_n 2, 1) := by decide +kernel
theorem dX11_mean_68 : decode cX11_mean 68 = .ok (.iload_n 3, 1) := by decide +kernel
theorem dX11_mean_69 : decode cX11_mean 69 = .ok (.invokevirtual 176, 3) := by decide +kernel
theorem dX11_mean_72 : decode cX11_mean 72 = .ok (.lreturn, 1) := by decide +kernel
theorem dX11_dry_0 : decode cX11_dry 0 = .ok (.aload_n 0, 1) := by decide +kernel
theorem dX11_dry_1 : decode cX11_dry 1 = .ok (.getfield 39, 3) := by decide +kernel
theorem dX11_dry_4 : decode cX11_dry 4 = .ok (.aload_n 0, 1) := by decide +kernel
theorem dX11_dry_5 : decode cX11_dry 5 = .ok (.getfield 19, 3) := by decide +kernel
theorem dX11_dry_8 : decode cX11_dry 8 = .ok (.invokevirtual 180, 3) := by decide +kernel
theorem dX11_dry_11 : decode cX11_dry 11 = .ok (.ireturn, 1) := by decide +kernel
theorem dX11_bait_0 : decode cX11_bait 0 = .ok (.iload_n 1, 1) := by decide +kernel
theorem dX11_bait_1 : decode cX11_bait 1 = .ok (.invokestatic 100, 3) := by decide +kernel
theorem dX11_bait_4 : decode cX11_bait 4 = .ok (.ifCond .eq 18, 3) := by decide +kernel
theorem dX11_bait_7 : decode cX11_bait 7 = .ok (.aload_n 0, 1) := by decide +kernel
theorem dX11_bait_8 : decode cX11_bait 8 = .ok (.getfield 39, 3) := by decide +kernel
theorem dX11_bait_11 : decode cX11_bait 11 = .ok (.aload_n 0, 1) := by decide +kernel
theorem dX11_bait_12 : decode cX11_bait 12 = .ok (.getfield 19, 3) := by decide +kernel
theorem dX11_bait_15 : decode cX11_bait 15 = .ok (.iload_n 1, 1) := by decide +kernel
theorem dX11_bait_16 : decode cX11_bait 16 = .ok (.invokevirtual 183, 3) := by decide +kernel
theorem dX11_bait_19 : decode cX11_bait 19 = .ok (.goto 5, 3) := by decide +kernel
theorem dX11_bait_22 : decode cX11_bait 22 = .ok (.bipush (-2), 2) := by decide +kernel
theorem dX11_bait_24 : decode cX11_bait 24 = .ok (.ireturn, 1) := by decide +kernel
theorem dX11_note_0 : decode cX11_note 0 = .ok (.aload_n 0, 1) := by decide +kernel
theorem dX11_note_1 : decode cX11_note 1 = .ok (.getfield 10, 3) := by decide +kernel
theorem dX11_note_4 : decode cX11_note 4 = .ok (.iload_n 1, 1) := by decide +kernel
theorem dX11_note_5 : decode cX11_note 5 = .ok (.invokevirtual 88, 3) := by decide +kernel
theorem dX11_note_8 : decode cX11_note 8 = .ok (.ifCond .ne 6, 3) := by decide +kernel
theorem dX11_note_11 : decode cX11_note 11 = .ok (.bipush (-2), 2) := by decide +kernel
theorem dX11_note_13 : decode cX11_note 13 = .ok (.ireturn, 1) := by decide +kernel
theorem dX11_note_14 : decode cX11_note 14 = .ok (.iload_n 2, 1) := by decide +kernel
theorem dX11_note_15 : decode cX11_note 15 = .ok (.ifCond .lt 10, 3) := by decide +kernel
theorem dX11_note_18 : decode cX11_note 18 = .ok (.iload_n 2, 1) := by decide +kernel
theorem dX11_note_19 : decode cX11_note 19 = .ok (.sipush 9999, 3) := by decide +kernel
theorem dX11_note_22 : decode cX11_note 22 = .ok (.if_icmp .le 6, 3) := by decide +kernel
theorem dX11_note_25 : decode cX11_note 25 = .ok (.bipush (-3), 2) := by decide +kernel
theorem dX11_note_27 : decode cX11_note 27 = .ok (.ireturn, 1) := by decide +kernel
theorem dX11_note_28 : decode cX11_note 28 = .ok (.aload_n 0, 1) := by decide +kernel
theorem dX11_note_29 : decode cX11_note 29 = .ok (.getfield 46, 3) := by decide +kernel
theorem dX11_note_32 : decode cX11_note 32 = .ok (.iload_n 1, 1) := by decide +kernel
theorem dX11_note_33 : decode cX11_note 33 = .ok (.iload_n 2, 1) := by decide +kernel
theorem dX11_note_34 : decode cX11_note 34 = .ok (.invokevirtual 186, 3) := by decide +kernel
theorem dX11_note_37 : decode cX11_note 37 = .ok (.ifCond .eq 13, 3) := by decide +kernel
theorem dX11_note_40 : decode cX11_note 40 = .ok (.aload_n 0, 1) := by decide +kernel
theorem dX11_note_41 : decode cX11_note 41 = .ok (.getfield 46, 3) := by decide +kernel
theorem dX11_note_44 : decode cX11_note 44 = .ok (.getfield 76, 3) := by decide +kernel
theorem dX11_note_47 : decode cX11_note 47 = .ok (.goto 5, 3) := by decide +kernel
theorem dX11_note_50 : decode cX11_note 50 = .ok (.bipush (-5), 2) := by decide +kernel
theorem dX11_note_52 : decode cX11_note 52 = .ok (.ireturn, 1) := by decide +kernel
theorem dX11_forget_0 : decode cX11_forget 0 = .ok (.aload_n 0, 1) := by decide +kernel
theorem dX11_forget_1 : decode cX11_forget 1 = .ok (.getfield 46, 3) := by decide +kernel
theorem dX11_forget_4 : decode cX11_forget 4 = .ok (.getfield 76, 3) := by decide +kernel
theorem dX11_forget_7 : decode cX11_forget 7 = .ok (.istore_n 1, 1) := by decide +kernel
theorem dX11_forget_8 : decode cX11_forget 8 = .ok (.aload_n 0, 1) := by decide +kernel
theorem dX11_forget_9 : decode cX11_forget 9 = .ok (.getfield 46, 3) := by decide +kernel
theorem dX11_forget_12 : decode cX11_forget 12 = .ok (.iconst 0, 1) := by decide +kernel
theorem dX11_forget_13 : decode cX11_forget 13 = .ok (.putfield 76, 3) := by decide +kernel
theorem dX11_forget_16 : decode cX11_forget 16 = .ok (.iload_n 1, 1) := by decide +kernel
theorem dX11_forget_17 : decode cX11_forget 17 = .ok (.ireturn, 1) := by decide +kernel
theorem dX11_lay_0 : decode cX11_lay 0 = .ok (.iload_n 1, 1) := by decide +kernel
theorem dX11_lay_1 : decode cX11_lay 1 = .ok (.bipush 10, 2) := by decide +kernel
theorem dX11_lay_3 : decode cX11_lay 3 = .ok (.if_icmp .lt 16, 3) := by decide +kernel
theorem dX11_lay_6 : decode cX11_lay 6 = .ok (.iload_n 1, 1) := by decide +kernel
theorem dX11_lay_7 : decode cX11_lay 7 = .ok (.bipush 20, 2) := by decide +kernel
theorem dX11_lay_9 : decode cX11_lay 9 = .ok (.if_icmp .ge 10, 3) := by decide +kernel
theorem dX11_lay_12 : decode cX11_lay 12 = .ok (.iload_n 1, 1) := by decide +kernel
theorem dX11_lay_13 : decode cX11_lay 13 = .ok (.bipush 10, 2) := by decide +kernel
theorem dX11_lay_15 : decode cX11_lay 15 = .ok (.isub, 1) := by decide +kernel
theorem dX11_lay_16 : decode cX11_lay 16 = .ok (.goto 4, 3) := by decide +kernel
theorem dX11_lay_19 : decode cX11_lay 19 = .ok (.iconst (-1), 1) := by decide +kernel
theorem dX11_lay_20 : decode cX11_lay 20 = .ok (.istore_n 2, 1) := by decide +kernel
theorem dX11_lay_21 : decode cX11_lay 21 = .ok (.iload_n 1, 1) := by decide +kernel
theorem dX11_lay_22 : decode cX11_lay 22 = .ok (.bipush 20, 2) := by decide +kernel
theorem dX11_lay_24 : decode cX11_lay 24 = .ok (.if_icmp .lt 16, 3) := by decide +kernel
theorem dX11_lay_27 : decode cX11_lay 27 = .ok (.iload_n 1, 1) := by decide +kernel
theorem dX11_lay_28 : decode cX11_lay 28 = .ok (.bipush 30, 2) := by decide +kernel
theorem dX11_lay_30 : decode cX11_lay 30 = .ok (.if_icmp .ge 10, 3) := by decide +kernel
theorem dX11_lay_33 : decode cX11_lay 33 = .ok (.iload_n 1, 1) := by decide +kernel
theorem dX11_lay_34 : decode cX11_lay 34 = .ok (.bipush 20, 2) := by decide +kernel
theorem dX11_lay_36 : decode cX11_lay 36 = .ok (.isub, 1) := by decide +kernel
theorem dX11_lay_37 : decode cX11_lay 37 = .ok (.goto 4, 3) := by decide +kernel
theorem dX11_lay_40 : decode cX11_lay 40 = .ok (.iconst (-1), 1) := by decide +kernel
theorem dX11_lay_41 : decode cX11_lay 41 = .ok (.istore_n 3, 1) := by decide +kernel
theorem dX11_lay_42 : decode cX11_lay 42 = .ok (.iload_n 1, 1) := by decide +kernel
theorem dX11_lay_43 : decode cX11_lay 43 = .ok (.ifCond .eq 33, 3) := by decide +kernel
theorem dX11_lay_46 : decode cX11_lay 46 = .ok (.iload_n 1, 1) := by decide +kernel
theorem dX11_lay_47 : decode cX11_lay 47 = .ok (.iconst 1, 1) := by decide +kernel
theorem dX11_lay_48 : decode cX11_lay 48 = .ok (.if_icmp .eq 28, 3) := by decide +kernel
theorem dX11_lay_51 : decode cX11_lay 51 = .ok (.aload_n 0, 1) := by decide +kernel
theorem dX11_lay_52 : decode cX11_lay 52 = .ok (.getfield 10, 3) := by decide +kernel
theorem dX11_lay_55 : decode cX11_lay 55 = .ok (.iload_n 2, 1) := by decide +kernel
theorem dX11_lay_56 : decode cX11_lay 56 = .ok (.invokevirtual 88, 3) := by decide +kernel
theorem dX11_lay_59 : decode cX11_lay 59 = .ok (.ifCond .ne 17, 3) := by decide +kernel
theorem dX11_lay_62 : decode cX11_lay 62 = .ok (.aload_n 0, 1) := by decide +kernel
theorem dX11_lay_63 : decode cX11_lay 63 = .ok (.getfield 10, 3) := by decide +kernel
theorem dX11_lay_66 : decode cX11_lay 66 = .ok (.iload_n 3, 1) := by decide +kernel
theorem dX11_lay_67 : decode cX11_lay 67 = .ok (.invokevirtual 88, 3) := by decide +kernel
theorem dX11_lay_70 : decode cX11_lay 70 = .ok (.ifCond .ne 6, 3) := by decide +kernel
theorem dX11_lay_73 : decode cX11_lay 73 = .ok (.bipush (-3), 2) := by decide +kernel
theorem dX11_lay_75 : decode cX11_lay 75 = .ok (.ireturn, 1) := by decide +kernel
theorem dX11_lay_76 : decode cX11_lay 76 = .ok (.aload_n 0, 1) := by decide +kernel
theorem dX11_lay_77 : decode cX11_lay 77 = .ok (.getfield 10, 3) := by decide +kernel
theorem dX11_lay_80 : decode cX11_lay 80 = .ok (.getfield 190, 3) := by decide +kernel
theorem dX11_lay_83 : decode cX11_lay 83 = .ok (.iconst 4, 1) := by decide +kernel
theorem dX11_lay_84 : decode cX11_lay 84 = .ok (.if_icmp .le 6, 3) := by decide +kernel
theorem dX11_lay_87 : decode cX11_lay 87 = .ok (.bipush (-4), 2) := by decide +kernel
theorem dX11_lay_89 : decode cX11_lay 89 = .ok (.ireturn, 1) := by decide +kernel
theorem dX11_lay_90 : decode cX11_lay 90 = .ok (.aload_n 0, 1) := by decide +kernel
theorem dX11_lay_91 : decode cX11_lay 91 = .ok (.getfield 46, 3) := by decide +kernel
theorem dX11_lay_94 : decode cX11_lay 94 = .ok (.invokevirtual 193, 3) := by decide +kernel
theorem dX11_lay_97 : decode cX11_lay 97 = .ok (.iload_n 1, 1) := by decide +kernel
theorem dX11_lay_98 : decode cX11_lay 98 = .ok (.ifCond .ne 11, 3) := by decide +kernel
theorem dX11_lay_101 : decode cX11_lay 101 = .ok (.aload_n 0, 1) := by decide +kernel
theorem dX11_lay_102 : decode cX11_lay 102 = .ok (.getfield 46, 3) := by decide +kernel
theorem dX11_lay_105 : decode cX11_lay 105 = .ok (.getfield 196, 3) := by decide +kernel
theorem dX11_lay_108 : decode cX11_lay 108 = .ok (.ireturn, 1) := by decide +kernel
theorem dX11_lay_109 : decode cX11_lay 109 = .ok (.iload_n 1, 1) := by decide +kernel
theorem dX11_lay_110 : decode cX11_lay 110 = .ok (.iconst 1, 1) := by decide +kernel
theorem dX11_lay_111 : decode cX11_lay 111 = .ok (.if_icmp .ne 11, 3) := by decide +kernel
theorem dX11_lay_114 : decode cX11_lay 114 = .ok (.aload_n 0, 1) := by decide +kernel
theorem dX11_lay_115 : decode cX11_lay 115 = .ok (.getfield 46, 3) := by decide +kernel
theorem dX11_lay_118 : decode cX11_lay 118 = .ok (.getfield 199, 3) := by decide +kernel
theorem dX11_lay_121 : decode cX11_lay 121 = .ok (.ireturn, 1) := by decide +kernel
theorem dX11_lay_122 : decode cX11_lay 122 = .ok (.iload_n 2, 1) := by decide +kernel
theorem dX11_lay_123 : decode cX11_lay 123 = .ok (.iconst (-1), 1) := by decide +kernel
theorem dX11_lay_124 : decode cX11_lay 124 = .ok (.if_icmp .eq 14, 3) := by decide +kernel
theorem dX11_lay_127 : decode cX11_lay 127 = .ok (.aload_n 0, 1) := by decide +kernel
theorem dX11_lay_128 : decode cX11_lay 128 = .ok (.getfield 46, 3) := by decide +kernel
theorem dX11_lay_131 : decode cX11_lay 131 = .ok (.iload_n 2, 1) := by decide +kernel
theorem dX11_lay_132 : decode cX11_lay 132 = .ok (.invokevirtual 202, 3) := by decide +kernel
theorem dX11_lay_135 : decode cX11_lay 135 = .ok (.goto 11, 3) := by decide +kernel
theorem dX11_lay_138 : decode cX11_lay 138 = .ok (.aload_n 0, 1) := by decide +kernel
theorem dX11_lay_139 : decode cX11_lay 139 = .ok (.getfield 46, 3) := by decide +kernel
theorem dX11_lay_142 : decode cX11_lay 142 = .ok (.iload_n 3, 1) := by decide +kernel
theorem dX11_lay_143 : decode cX11_lay 143 = .ok (.invokevirtual 205, 3) := by decide +kernel
theorem dX11_lay_146 : decode cX11_lay 146 = .ok (.ireturn, 1) := by decide +kernel
theorem dX11_keep_0 : decode cX11_keep 0 = .ok (.iload_n 1, 1) := by decide +kernel
theorem dX11_keep_1 : decode cX11_keep 1 = .ok (.ifCond .lt 8, 3) := by decide +kernel
theorem dX11_keep_4 : decode cX11_keep 4 = .ok (.iload_n 1, 1) := by decide +kernel
theorem dX11_keep_5 : decode cX11_keep 5 = .ok (.iconst 2, 1) := by decide +kernel
theorem dX11_keep_6 : decode cX11_keep 6 = .ok (.if_icmp .lt 6, 3) := by decide +kernel
theorem dX11_keep_9 : decode cX11_keep 9 = .ok (.bipush (-2), 2) := by decide +kernel
theorem dX11_keep_11 : decode cX11_keep 11 = .ok (.ireturn, 1) := by decide +kernel
theorem dX11_keep_12 : decode cX11_keep 12 = .ok (.aload_n 0, 1) := by decide +kernel
theorem dX11_keep_13 : decode cX11_keep 13 = .ok (.getfield 23, 3) := by decide +kernel
theorem dX11_keep_16 : decode cX11_keep 16 = .ok (.iload_n 1, 1) := by decide +kernel
theorem dX11_keep_17 : decode cX11_keep 17 = .ok (.aaload, 1) := by decide +kernel
theorem dX11_keep_18 : decode cX11_keep 18 = .ok (.aload_n 0, 1) := by decide +kernel
theorem dX11_keep_19 : decode cX11_keep 19 = .ok (.getfield 19, 3) := by decide +kernel
theorem dX11_keep_22 : decode cX11_keep 22 = .ok (.invokevirtual 73, 3) := by decide +kernel
theorem dX11_keep_25 : decode cX11_keep 25 = .ok (.aload_n 0, 1) := by decide +kernel
theorem dX11_keep_26 : decode cX11_keep 26 = .ok (.dup, 1) := by decide +kernel
theorem dX11_keep_27 : decode cX11_keep 27 = .ok (.getfield 79, 3) := by decide +kernel
theorem dX11_keep_30 : decode cX11_keep 30 = .ok (.iconst 1, 1) := by decide +kernel
theorem dX11_keep_31 : decode cX11_keep 31 = .ok (.iload_n 1, 1) := by decide +kernel
theorem dX11_keep_32 : decode cX11_keep 32 = .ok (.ishl, 1) := by decide +kernel
theorem dX11_keep_33 : decode cX11_keep 33 = .ok (.ior, 1) := by decide +kernel
theorem dX11_keep_34 : decode cX11_keep 34 = .ok (.putfield 79, 3) := by decide +kernel
theorem dX11_keep_37 : decode cX11_keep 37 = .ok (.aload_n 0, 1) := by decide +kernel
theorem dX11_keep_38 : decode cX11_keep 38 = .ok (.getfield 19, 3) := by decide +kernel
theorem dX11_keep_41 : decode cX11_keep 41 = .ok (.getfield 139, 3) := by decide +kernel
theorem dX11_keep_44 : decode cX11_keep 44 = .ok (.ireturn, 1) := by decide +kernel
theorem dX11_back_0 : decode cX11_back 0 = .ok (.iload_n 1, 1) := by decide +kernel
theorem dX11_back_1 : decode cX11_back 1 = .ok (.ifCond .lt 8, 3) := by decide +kernel
theorem dX11_back_4 : decode cX11_back 4 = .ok (.iload_n 1, 1) := by decide +kernel
theorem dX11_back_5 : decode cX11_back 5 = .ok (.iconst 2, 1) := by decide +kernel
theorem dX11_back_6 : decode cX11_back 6 = .ok (.if_icmp .lt 6, 3) := by decide +kernel
theorem dX11_back_9 : decode cX11_back 9 = .ok (.bipush (-2), 2) := by decide +kernel
theorem dX11_back_11 : decode cX11_back 11 = .ok (.ireturn, 1) := by decide +kernel
theorem dX11_back_12 : decode cX11_back 12 = .ok (.aload_n 0, 1) := by decide +kernel
theorem dX11_back_13 : decode cX11_back 13 = .ok (.getfield 79, 3) := by decide +kernel
theorem dX11_back_16 : decode cX11_back 16 = .ok (.iload_n 1, 1) := by decide +kernel
theorem dX11_back_17 : decode cX11_back 17 = .ok (.ishr, 1) := by decide +kernel
theorem dX11_back_18 : decode cX11_back 18 = .ok (.iconst 1, 1) := by decide +kernel
theorem dX11_back_19 : decode cX11_back 19 = .ok (.iand, 1) := by decide +kernel
theorem dX11_back_20 : decode cX11_back 20 = .ok (.ifCond .ne 6, 3) := by decide +kernel
theorem dX11_back_23 : decode cX11_back 23 = .ok (.bipush (-4), 2) := by decide +kernel
theorem dX11_back_25 : decode cX11_back 25 = .ok (.ireturn, 1) := by decide +kernel
theorem dX11_back_26 : decode cX11_back 26 = .ok (.aload_n 0, 1) := by decide +kernel
theorem dX11_back_27 : decode cX11_back 27 = .ok (.getfield 19, 3) := by decide +kernel
theorem dX11_back_30 : decode cX11_back 30 = .ok (.aload_n 0, 1) := by decide +kernel
theorem dX11_back_31 : decode cX11_back 31 = .ok (.getfield 23, 3) := by decide +kernel
theorem dX11_back_34 : decode cX11_back 34 = .ok (.iload_n 1, 1) := by decide +kernel
theorem dX11_back_35 : decode cX11_back 35 = .ok (.aaload, 1) := by decide +kernel
theorem dX11_back_36 : decode cX11_back 36 = .ok (.invokevirtual 73, 3) := by decide +kernel
theorem dX11_back_39 : decode cX11_back 39 = .ok (.aload_n 0, 1) := by decide +kernel
theorem dX11_back_40 : decode cX11_back 40 = .ok (.getfield 39, 3) := by decide +kernel
theorem dX11_back_43 : decode cX11_back 43 = .ok (.invokevirtual 82, 3) := by decide +kernel
theorem dX11_back_46 : decode cX11_back 46 = .ok (.aload_n 0, 1) := by decide +kernel
theorem dX11_back_47 : decode cX11_back 47 = .ok (.getfield 19, 3) := by decide +kernel
theorem dX11_back_50 : decode cX11_back 50 = .ok (.getfield 139, 3) := by decide +kernel
theorem dX11_back_53 : decode cX11_back 53 = .ok (.ireturn, 1) := by decide +kernel
theorem dX11_count_0 : decode cX11_count 0 = .ok (.iload_n 1, 1) := by decide +kernel
theorem dX11_count_1 : decode cX11_count 1 = .ok (.tableswitch 113 0 7 #[47, 55, 68, 76, 84, 92, 100, 108], 47) := by decide +kernel
theorem dX11_count_48 : decode cX11_count 48 = .ok (.aload_n 0, 1) := by decide +kernel
theorem dX11_count_49 : decode cX11_count 49 = .ok (.getfield 10, 3) := by decide +kernel
theorem dX11_count_52 : decode cX11_count 52 = .ok (.getfield 190, 3) := by decide +kernel
theorem dX11_count_55 : decode cX11_count 55 = .ok (.ireturn, 1) := by decide +kernel
theorem dX11_count_56 : decode cX11_count 56 = .ok (.aload_n 0, 1) := by decide +kernel
theorem dX11_count_57 : decode cX11_count 57 = .ok (.getfield 10, 3) := by decide +kernel
theorem dX11_count_60 : decode cX11_count 60 = .ok (.aload_n 0, 1) := by decide +kernel
theorem dX11_count_61 : decode cX11_count 61 = .ok (.getfield 19, 3) := by decide +kernel
theorem dX11_count_64 : decode cX11_count 64 = .ok (.iconst 4, 1) := by decide +kernel
theorem dX11_count_65 : decode cX11_count 65 = .ok (.invokevirtual 103, 3) := by decide +kernel
theorem dX11_count_68 : decode cX11_count 68 = .ok (.ireturn, 1) := by decide +kernel
theorem dX11_count_69 : decode cX11_count 69 = .ok (.aload_n 0, 1) := by decide +kernel
theorem dX11_count_70 : decode cX11_count 70 = .ok (.getfield 10, 3) := by decide +kernel
theorem dX11_count_73 : decode cX11_count 73 = .ok (.getfield 208, 3) := by decide +kernel
theorem dX11_count_76 : decode cX11_count 76 = .ok (.ireturn, 1) := by decide +kernel
theorem dX11_count_77 : decode cX11_count 77 = .ok (.aload_n 0, 1) := by decide +kernel
theorem dX11_count_78 : decode cX11_count 78 = .ok (.getfield 10, 3) := by decide +kernel
theorem dX11_count_81 : decode cX11_count 81 = .ok (.getfield 146, 3) := by decide +kernel
theorem dX11_count_84 : decode cX11_count 84 = .ok (.ireturn, 1) := by decide +kernel
theorem dX11_count_85 : decode cX11_count 85 = .ok (.aload_n 0, 1) := by decide +kernel
theorem dX11_count_86 : decode cX11_count 86 = .ok (.getfield 19, 3) := by decide +kernel
theorem dX11_count_89 : decode cX11_count 89 = .ok (.getfield 139, 3) := by decide +kernel
theorem dX11_count_92 : decode cX11_count 92 = .ok (.ireturn, 1) := by decide +kernel
theorem dX11_count_93 : decode cX11_count 93 = .ok (.aload_n 0, 1) := by decide +kernel
theorem dX11_count_94 : decode cX11_count 94 = .ok (.getfield 46, 3) := by decide +kernel
theorem dX11_count_97 : decode cX11_count 97 = .ok (.getfield 76, 3) := by decide +kernel
theorem dX11_count_100 : decode cX11_count 100 = .ok (.ireturn, 1) := by decide +kernel
theorem dX11_count_101 : decode cX11_count 101 = .ok (.aload_n 0, 1) := by decide +kernel
theorem dX11_count_102 : decode cX11_count 102 = .ok (.getfield 30, 3) := by decide +kernel
theorem dX11_count_105 : decode cX11_count 105 = .ok (.getfield 50, 3) := by decide +kernel
theorem dX11_count_108 : decode cX11_count 108 = .ok (.ireturn, 1) := by decide +kernel
theorem dX11_count_109 : decode cX11_count 109 = .ok (.aload_n 0, 1) := by decide +kernel
theorem dX11_count_110 : decode cX11_count 110 = .ok (.invokevirtual 211, 3) := by decide +kernel
theorem dX11_count_113 : decode cX11_count 113 = .ok (.ireturn, 1) := by decide +kernel
theorem dX11_count_114 : decode cX11_count 114 = .ok (.bipush (-3), 2) := by decide +kernel
theorem dX11_count_116 : decode cX11_count 116 = .ok (.ireturn, 1) := by decide +kernel
theorem dX11_wealthOfAll_0 : decode cX11_wealthOfAll 0 = .ok (.iconst 0, 1) := by decide +kernel
theorem dX11_wealthOfAll_1 : decode cX11_wealthOfAll 1 = .ok (.istore_n 1, 1) := by decide +kernel
theorem dX11_wealthOfAll_2 : decode cX11_wealthOfAll 2 = .ok (.iconst 0, 1) := by decide +kernel
theorem dX11_wealthOfAll_3 : decode cX11_wealthOfAll 3 = .ok (.istore_n 2, 1) := by decide +kernel
theorem dX11_wealthOfAll_4 : decode cX11_wealthOfAll 4 = .ok (.iload_n 2, 1) := by decide +kernel
theorem dX11_wealthOfAll_5 : decode cX11_wealthOfAll 5 = .ok (.iconst 5, 1) := by decide +kernel
theorem dX11_wealthOfAll_6 : decode cX11_wealthOfAll 6 = .ok (.if_icmp .ge 24, 3) := by decide +kernel
theorem dX11_wealthOfAll_9 : decode cX11_wealthOfAll 9 = .ok (.iload_n 1, 1) := by decide +kernel
theorem dX11_wealthOfAll_10 : decode cX11_wealthOfAll 10 = .ok (.aload_n 0, 1) := by decide +kernel
theorem dX11_wealthOfAll_11 : decode cX11_wealthOfAll 11 = .ok (.getfield 10, 3) := by decide +kernel
theorem dX11_wealthOfAll_14 : decode cX11_wealthOfAll 14 = .ok (.aload_n 0, 1) := by decide +kernel
theorem dX11_wealthOfAll_15 : decode cX11_wealthOfAll 15 = .ok (.getfield 19, 3) := by decide +kernel
theorem dX11_wealthOfAll_18 : decode cX11_wealthOfAll 18 = .ok (.iload_n 2, 1) := by decide +kernel
theorem dX11_wealthOfAll_19 : decode cX11_wealthOfAll 19 = .ok (.invokevirtual 103, 3) := by decide +kernel
theorem dX11_wealthOfAll_22 : decode cX11_wealthOfAll 22 = .ok (.iadd, 1) := by decide +kernel
theorem dX11_wealthOfAll_23 : decode cX11_wealthOfAll 23 = .ok (.istore_n 1, 1) := by decide +kernel
theorem dX11_wealthOfAll_24 : decode cX11_wealthOfAll 24 = .ok (.iinc 2 1, 3) := by decide +kernel
theorem dX11_wealthOfAll_27 : decode cX11_wealthOfAll 27 = .ok (.goto (-23), 3) := by decide +kernel
theorem dX11_wealthOfAll_30 : decode cX11_wealthOfAll 30 = .ok (.iload_n 1, 1) := by decide +kernel
theorem dX11_wealthOfAll_31 : decode cX11_wealthOfAll 31 = .ok (.ireturn, 1) := by decide +kernel
theorem dX11_tooLongForGame_0 : decode cX11_tooLongForGame 0 = .ok (.aload_n 0, 1) := by decide +kernel
theorem dX11_tooLongForGame_1 : decode cX11_tooLongForGame 1 = .ok (.getfield 10, 3) := by decide +kernel
theorem dX11_tooLongForGame_4 : decode cX11_tooLongForGame 4 = .ok (.getfield 146, 3) := by decide +kernel
theorem dX11_tooLongForGame_7 : decode cX11_tooLongForGame 7 = .ok (.aload_n 0, 1) := by decide +kernel
theorem dX11_tooLongForGame_8 : decode cX11_tooLongForGame 8 = .ok (.getfield 19, 3) := by decide +kernel
theorem dX11_tooLongForGame_11 : decode cX11_tooLongForGame 11 = .ok (.getfield 139, 3) := by decide +kernel
theorem dX11_tooLongForGame_14 : decode cX11_tooLongForGame 14 = .ok (.isub, 1) := by decide +kernel
theorem dX11_tooLongForGame_15 : decode cX11_tooLongForGame 15 = .ok (.bipush 6, 2) := by decide +kernel
theorem dX11_tooLongForGame_17 : decode cX11_tooLongForGame 17 = .ok (.if_icmp .le 7, 3) := by decide +kernel
theorem dX11_tooLongForGame_20 : decode cX11_tooLongForGame 20 = .ok (.iconst 1, 1) := by decide +kernel
theorem dX11_tooLongForGame_21 : decode cX11_tooLongForGame 21 = .ok (.goto 4, 3) := by decide +kernel
theorem dX11_tooLongForGame_24 : decode cX11_tooLongForGame 24 = .ok (.iconst 0, 1) := by decide +kernel
theorem dX11_tooLongForGame_25 : decode cX11_tooLongForGame 25 = .ok (.ireturn, 1) := by decide +kernel
theorem dX11_isPerson_0 : decode cX11_isPerson 0 = .ok (.iload_n 0, 1) := by decide +kernel
theorem dX11_isPerson_1 : decode cX11_isPerson 1 = .ok (.ifCond .lt 12, 3) := by decide +kernel
theorem dX11_isPerson_4 : decode cX11_isPerson 4 = .ok (.iload_n 0, 1) := by decide +kernel
theorem dX11_isPerson_5 : decode cX11_isPerson 5 = .ok (.iconst 4, 1) := by decide +kernel
theorem dX11_isPerson_6 : decode cX11_isPerson 6 = .ok (.if_icmp .ge 7, 3) := by decide +kernel
theorem dX11_isPerson_9 : decode cX11_isPerson 9 = .ok (.iconst 1, 1) := by decide +kernel
theorem dX11_isPerson_10 : decode cX11_isPerson 10 = .ok (.goto 4, 3) := by decide +kernel
theorem dX11_isPerson_13 : decode cX11_isPerson 13 = .ok (.iconst 0, 1) := by decide +kernel
theorem dX11_isPerson_14 : decode cX11_isPerson 14 = .ok (.ireturn, 1) := by decide +kernel
theorem dX11_goalFor_0 : decode cX11_goalFor 0 = .ok (.iload_n 1, 1) := by decide +kernel
theorem dX11_goalFor_1 : decode cX11_goalFor 1 = .ok (.iconst 4, 1) := by decide +kernel
theorem dX11_goalFor_2 : decode cX11_goalFor 2 = .ok (.iload_n 0, 1) := by decide +kernel
theorem dX11_goalFor_3 : decode cX11_goalFor 3 = .ok (.imul, 1) := by decide +kernel
theorem dX11_goalFor_4 : decode cX11_goalFor 4 = .ok (.ishl, 1) := by decide +kernel
theorem dX11_goalFor_5 : decode cX11_goalFor 5 = .ok (.ireturn, 1) := by decide +kernel
theorem dX11_isA_0 : decode cX11_isA 0 = .ok (.iload_n 1, 1) := by decide +kernel
theorem dX11_isA_1 : decode cX11_isA 1 = .ok (.tableswitch 57 0 4 #[35, 37, 42, 47, 52], 35) := by decide +kernel
theorem dX11_isA_36 : decode cX11_isA 36 = .ok (.iconst 1, 1) := by decide +kernel
theorem dX11_isA_37 : decode cX11_isA 37 = .ok (.ireturn, 1) := by decide +kernel
theorem dX11_isA_38 : decode cX11_isA 38 = .ok (.aload_n 0, 1) := by decide +kernel
theorem dX11_isA_39 : decode cX11_isA 39 = .ok (.instanceof 214, 3) := by decide +kernel
theorem dX11_isA_42 : decode cX11_isA 42 = .ok (.ireturn, 1) := by decide +kernel
theorem dX11_isA_43 : decode cX11_isA 43 = .ok (.aload_n 0, 1) := by decide +kernel
theorem dX11_isA_44 : decode cX11_isA 44 = .ok (.instanceof 216, 3) := by decide +kernel
theorem dX11_isA_47 : decode cX11_isA 47 = .ok (.ireturn, 1) := by decide +kernel
theorem dX11_isA_48 : decode cX11_isA 48 = .ok (.aload_n 0, 1) := by decide +kernel
theorem dX11_isA_49 : decode cX11_isA 49 = .ok (.instanceof 218, 3) := by decide +kernel
theorem dX11_isA_52 : decode cX11_isA 52 = .ok (.ireturn, 1) := by decide +kernel
theorem dX11_isA_53 : decode cX11_isA 53 = .ok (.aload_n 0, 1) := by decide +kernel
theorem dX11_isA_54 : decode cX11_isA 54 = .ok (.instanceof 220, 3) := by decide +kernel
theorem dX11_isA_57 : decode cX11_isA 57 = .ok (.ireturn, 1) := by decide +kernel
theorem dX11_isA_58 : decode cX11_isA 58 = .ok (.aload_n 0, 1) := by decide +kernel
theorem dX11_isA_59 : decode cX11_isA 59 = .ok (.instanceof 222, 3) := by decide +kernel
theorem dX11_isA_62 : decode cX11_isA 62 = .ok (.ireturn, 1) := by decide +kernel
