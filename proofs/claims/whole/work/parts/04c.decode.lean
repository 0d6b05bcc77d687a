theorem dX12_init_0 : decode cX12_init 0 = .ok (.aload_n 0, 1) := by decide +kernel
theorem dX12_init_1 : decode cX12_init 1 = .ok (.invokespecial 1, 3) := by decide +kernel
theorem dX12_init_4 : decode cX12_init 4 = .ok (.aload_n 0, 1) := by decide +kernel
theorem dX12_init_5 : decode cX12_init 5 = .ok (.sipush 341, 3) := by decide +kernel
theorem dX12_init_8 : decode cX12_init 8 = .ok (.newarray .int, 2) := by decide +kernel
theorem dX12_init_10 : decode cX12_init 10 = .ok (.putfield 7, 3) := by decide +kernel
theorem dX12_init_13 : decode cX12_init 13 = .ok (.aload_n 0, 1) := by decide +kernel
theorem dX12_init_14 : decode cX12_init 14 = .ok (.iconst 2, 1) := by decide +kernel
theorem dX12_init_15 : decode cX12_init 15 = .ok (.newarray .boolean, 2) := by decide +kernel
theorem dX12_init_17 : decode cX12_init 17 = .ok (.putfield 13, 3) := by decide +kernel
theorem dX12_init_20 : decode cX12_init 20 = .ok (.aload_n 0, 1) := by decide +kernel
theorem dX12_init_21 : decode cX12_init 21 = .ok (.sipush 200, 3) := by decide +kernel
theorem dX12_init_24 : decode cX12_init 24 = .ok (.newarray .int, 2) := by decide +kernel
theorem dX12_init_26 : decode cX12_init 26 = .ok (.putfield 17, 3) := by decide +kernel
theorem dX12_init_29 : decode cX12_init 29 = .ok (.aload_n 0, 1) := by decide +kernel
theorem dX12_init_30 : decode cX12_init 30 = .ok (.bipush 120, 2) := by decide +kernel
theorem dX12_init_32 : decode cX12_init 32 = .ok (.newarray .int, 2) := by decide +kernel
theorem dX12_init_34 : decode cX12_init 34 = .ok (.putfield 20, 3) := by decide +kernel
theorem dX12_init_37 : decode cX12_init 37 = .ok (.aload_n 0, 1) := by decide +kernel
theorem dX12_init_38 : decode cX12_init 38 = .ok (.iconst 1, 1) := by decide +kernel
theorem dX12_init_39 : decode cX12_init 39 = .ok (.putfield 23, 3) := by decide +kernel
theorem dX12_init_42 : decode cX12_init 42 = .ok (.aload_n 0, 1) := by decide +kernel
theorem dX12_init_43 : decode cX12_init 43 = .ok (.bipush 6, 2) := by decide +kernel
theorem dX12_init_45 : decode cX12_init 45 = .ok (.newarray .int, 2) := by decide +kernel
theorem dX12_init_47 : decode cX12_init 47 = .ok (.dup, 1) := by decide +kernel
theorem dX12_init_48 : decode cX12_init 48 = .ok (.iconst 0, 1) := by decide +kernel
theorem dX12_init_49 : decode cX12_init 49 = .ok (.iconst 1, 1) := by decide +kernel
theorem dX12_init_50 : decode cX12_init 50 = .ok (.iastore, 1) := by decide +kernel
theorem dX12_init_51 : decode cX12_init 51 = .ok (.dup, 1) := by decide +kernel
theorem dX12_init_52 : decode cX12_init 52 = .ok (.iconst 1, 1) := by decide +kernel
theorem dX12_init_53 : decode cX12_init 53 = .ok (.iconst 0, 1) := by decide +kernel
theorem dX12_init_54 : decode cX12_init 54 = .ok (.iastore, 1) := by decide +kernel
theorem dX12_init_55 : decode cX12_init 55 = .ok (.dup, 1) := by decide +kernel
theorem dX12_init_56 : decode cX12_init 56 = .ok (.iconst 2, 1) := by decide +kernel
theorem dX12_init_57 : decode cX12_init 57 = .ok (.iconst 0, 1) := by decide +kernel
theorem dX12_init_58 : decode cX12_init 58 = .ok (.iastore, 1) := by decide +kernel
theorem dX12_init_59 : decode cX12_init 59 = .ok (.dup, 1) := by decide +kernel
theorem dX12_init_60 : decode cX12_init 60 = .ok (.iconst 3, 1) := by decide +kernel
theorem dX12_init_61 : decode cX12_init 61 = .ok (.iconst 0, 1) := by decide +kernel
theorem dX12_init_62 : decode cX12_init 62 = .ok (.iastore, 1) := by decide +kernel
theorem dX12_init_63 : decode cX12_init 63 = .ok (.dup, 1) := by decide +kernel
theorem dX12_init_64 : decode cX12_init 64 = .ok (.iconst 4, 1) := by decide +kernel
theorem dX12_init_65 : decode cX12_init 65 = .ok (.iconst 0, 1) := by decide +kernel
theorem dX12_init_66 : decode cX12_init 66 = .ok (.iastore, 1) := by decide +kernel
theorem dX12_init_67 : decode cX12_init 67 = .ok (.dup, 1) := by decide +kernel
theorem dX12_init_68 : decode cX12_init 68 = .ok (.iconst 5, 1) := by decide +kernel
theorem dX12_init_69 : decode cX12_init 69 = .ok (.iconst 0, 1) := by decide +kernel
theorem dX12_init_70 : decode cX12_init 70 = .ok (.iastore, 1) := by decide +kernel
theorem dX12_init_71 : decode cX12_init 71 = .ok (.putfield 27, 3) := by decide +kernel
theorem dX12_init_74 : decode cX12_init 74 = .ok (.aload_n 0, 1) := by decide +kernel
theorem dX12_init_75 : decode cX12_init 75 = .ok (.bipush 30, 2) := by decide +kernel
theorem dX12_init_77 : decode cX12_init 77 = .ok (.newarray .int, 2) := by decide +kernel
theorem dX12_init_79 : decode cX12_init 79 = .ok (.putfield 30, 3) := by decide +kernel
theorem dX12_init_82 : decode cX12_init 82 = .ok (.aload_n 0, 1) := by decide +kernel
theorem dX12_init_83 : decode cX12_init 83 = .ok (.iconst 4, 1) := by decide +kernel
theorem dX12_init_84 : decode cX12_init 84 = .ok (.newarray .int, 2) := by decide +kernel
theorem dX12_init_86 : decode cX12_init 86 = .ok (.putfield 33, 3) := by decide +kernel
theorem dX12_init_89 : decode cX12_init 89 = .ok (.aload_n 0, 1) := by decide +kernel
theorem dX12_init_90 : decode cX12_init 90 = .ok (.iconst 4, 1) := by decide +kernel
theorem dX12_init_91 : decode cX12_init 91 = .ok (.newarray .int, 2) := by decide +kernel
theorem dX12_init_93 : decode cX12_init 93 = .ok (.putfield 36, 3) := by decide +kernel
theorem dX12_init_96 : decode cX12_init 96 = .ok (.aload_n 0, 1) := by decide +kernel
theorem dX12_init_97 : decode cX12_init 97 = .ok (.bipush 24, 2) := by decide +kernel
theorem dX12_init_99 : decode cX12_init 99 = .ok (.newarray .int, 2) := by decide +kernel
theorem dX12_init_101 : decode cX12_init 101 = .ok (.putfield 39, 3) := by decide +kernel
theorem dX12_init_104 : decode cX12_init 104 = .ok (.aload_n 0, 1) := by decide +kernel
theorem dX12_init_105 : decode cX12_init 105 = .ok (.bipush 6, 2) := by decide +kernel
theorem dX12_init_107 : decode cX12_init 107 = .ok (.newarray .int, 2) := by decide +kernel
theorem dX12_init_109 : decode cX12_init 109 = .ok (.putfield 42, 3) := by decide +kernel
theorem dX12_init_112 : decode cX12_init 112 = .ok (.aload_n 0, 1) := by decide +kernel
theorem dX12_init_113 : decode cX12_init 113 = .ok (.bipush 8, 2) := by decide +kernel
theorem dX12_init_115 : decode cX12_init 115 = .ok (.newarray .int, 2) := by decide +kernel
theorem dX12_init_117 : decode cX12_init 117 = .ok (.putfield 45, 3) := by decide +kernel
theorem dX12_init_120 : decode cX12_init 120 = .ok (.aload_n 0, 1) := by decide +kernel
theorem dX12_init_121 : decode cX12_init 121 = .ok (.bipush 32, 2) := by decide +kernel
theorem dX12_init_123 : decode cX12_init 123 = .ok (.newarray .int, 2) := by decide +kernel
theorem dX12_init_125 : decode cX12_init 125 = .ok (.putfield 48, 3) := by decide +kernel
theorem dX12_init_128 : decode cX12_init 128 = .ok (.aload_n 0, 1) := by decide +kernel
theorem dX12_init_129 : decode cX12_init 129 = .ok (.bipush 56, 2) := by decide +kernel
theorem dX12_init_131 : decode cX12_init 131 = .ok (.newarray .int, 2) := by decide +kernel
theorem dX12_init_133 : decode cX12_init 133 = .ok (.putfield 51, 3) := by decide +kernel
theorem dX12_init_136 : decode cX12_init 136 = .ok (.aload_n 0, 1) := by decide +kernel
theorem dX12_init_137 : decode cX12_init 137 = .ok (.bipush 6, 2) := by decide +kernel
theorem dX12_init_139 : decode cX12_init 139 = .ok (.newarray .int, 2) := by decide +kernel
theorem dX12_init_141 : decode cX12_init 141 = .ok (.putfield 54, 3) := by decide +kernel
theorem dX12_init_144 : decode cX12_init 144 = .ok (.aload_n 0, 1) := by decide +kernel
theorem dX12_init_145 : decode cX12_init 145 = .ok (.bipush 6, 2) := by decide +kernel
theorem dX12_init_147 : decode cX12_init 147 = .ok (.newarray .int, 2) := by decide +kernel
theorem dX12_init_149 : decode cX12_init 149 = .ok (.putfield 57, 3) := by decide +kernel
theorem dX12_init_152 : decode cX12_init 152 = .ok (.return_, 1) := by decide +kernel
theorem dX12_in_0 : decode cX12_in 0 = .ok (.lload_n 0, 1) := by decide +kernel
theorem dX12_in_1 : decode cX12_in 1 = .ok (.lload_n 2, 1) := by decide +kernel
theorem dX12_in_2 : decode cX12_in 2 = .ok (.lcmp, 1) := by decide +kernel
theorem dX12_in_3 : decode cX12_in 3 = .ok (.ifCond .lt 14, 3) := by decide +kernel
theorem dX12_in_6 : decode cX12_in 6 = .ok (.lload_n 0, 1) := by decide +kernel
theorem dX12_in_7 : decode cX12_in 7 = .ok (.lload 4, 2) := by decide +kernel
theorem dX12_in_9 : decode cX12_in 9 = .ok (.lcmp, 1) := by decide +kernel
theorem dX12_in_10 : decode cX12_in 10 = .ok (.ifCond .gt 7, 3) := by decide +kernel
theorem dX12_in_13 : decode cX12_in 13 = .ok (.iconst 1, 1) := by decide +kernel
theorem dX12_in_14 : decode cX12_in 14 = .ok (.goto 4, 3) := by decide +kernel
theorem dX12_in_17 : decode cX12_in 17 = .ok (.iconst 0, 1) := by decide +kernel
theorem dX12_in_18 : decode cX12_in 18 = .ok (.ireturn, 1) := by decide +kernel
theorem dX12_has_0 : decode cX12_has 0 = .ok (.iload_n 0, 1) := by decide +kernel
theorem dX12_has_1 : decode cX12_has 1 = .ok (.iload_n 1, 1) := by decide +kernel
theorem dX12_has_2 : decode cX12_has 2 = .ok (.ishr, 1) := by decide +kernel
theorem dX12_has_3 : decode cX12_has 3 = .ok (.iconst 1, 1) := by decide +kernel
theorem dX12_has_4 : decode cX12_has 4 = .ok (.iand, 1) := by decide +kernel
theorem dX12_has_5 : decode cX12_has 5 = .ok (.iconst 1, 1) := by decide +kernel
theorem dX12_has_6 : decode cX12_has 6 = .ok (.if_icmp .ne 7, 3) := by decide +kernel
theorem dX12_has_9 : decode cX12_has 9 = .ok (.iconst 1, 1) := by decide +kernel
theorem dX12_has_10 : decode cX12_has 10 = .ok (.goto 4, 3) := by decide +kernel
theorem dX12_has_13 : decode cX12_has 13 = .ok (.iconst 0, 1) := by decide +kernel
theorem dX12_has_14 : decode cX12_has 14 = .ok (.ireturn, 1) := by decide +kernel
theorem dX12_begin_0 : decode cX12_begin 0 = .ok (.iconst 0, 1) := by decide +kernel
theorem dX12_begin_1 : decode cX12_begin 1 = .ok (.istore_n 1, 1) := by decide +kernel
theorem dX12_begin_2 : decode cX12_begin 2 = .ok (.iload_n 1, 1) := by decide +kernel
theorem dX12_begin_3 : decode cX12_begin 3 = .ok (.bipush 30, 2) := by decide +kernel
theorem dX12_begin_5 : decode cX12_begin 5 = .ok (.if_icmp .ge 21, 3) := by decide +kernel
theorem dX12_begin_8 : decode cX12_begin 8 = .ok (.aload_n 0, 1) := by decide +kernel
theorem dX12_begin_9 : decode cX12_begin 9 = .ok (.getfield 7, 3) := by decide +kernel
theorem dX12_begin_12 : decode cX12_begin 12 = .ok (.iload_n 1, 1) := by decide +kernel
theorem dX12_begin_13 : decode cX12_begin 13 = .ok (.aload_n 0, 1) := by decide +kernel
theorem dX12_begin_14 : decode cX12_begin 14 = .ok (.getfield 30, 3) := by decide +kernel
theorem dX12_begin_17 : decode cX12_begin 17 = .ok (.iload_n 1, 1) := by decide +kernel
theorem dX12_begin_18 : decode cX12_begin 18 = .ok (.iaload, 1) := by decide +kernel
theorem dX12_begin_19 : decode cX12_begin 19 = .ok (.iastore, 1) := by decide +kernel
theorem dX12_begin_20 : decode cX12_begin 20 = .ok (.iinc 1 1, 3) := by decide +kernel
theorem dX12_begin_23 : decode cX12_begin 23 = .ok (.goto (-21), 3) := by decide +kernel
theorem dX12_begin_26 : decode cX12_begin 26 = .ok (.aload_n 0, 1) := by decide +kernel
theorem dX12_begin_27 : decode cX12_begin 27 = .ok (.getfield 7, 3) := by decide +kernel
theorem dX12_begin_30 : decode cX12_begin 30 = .ok (.bipush 30, 2) := by decide +kernel
theorem dX12_begin_32 : decode cX12_begin 32 = .ok (.iconst 0, 1) := by decide +kernel
theorem dX12_begin_33 : decode cX12_begin 33 = .ok (.iastore, 1) := by decide +kernel
theorem dX12_begin_34 : decode cX12_begin 34 = .ok (.return_, 1) := by decide +kernel
theorem dX12_write_0 : decode cX12_write 0 = .ok (.iload_n 3, 1) := by decide +kernel
theorem dX12_write_1 : decode cX12_write 1 = .ok (.i2l, 1) := by decide +kernel
theorem dX12_write_2 : decode cX12_write 2 = .ok (.lconst 1, 1) := by decide +kernel
theorem dX12_write_3 : decode cX12_write 3 = .ok (.ldc2_w 60, 3) := by decide +kernel
theorem dX12_write_6 : decode cX12_write 6 = .ok (.invokestatic 62, 3) := by decide +kernel
theorem dX12_write_9 : decode cX12_write 9 = .ok (.ifCond .ne 6, 3) := by decide +kernel
theorem dX12_write_12 : decode cX12_write 12 = .ok (.bipush (-3), 2) := by decide +kernel
theorem dX12_write_14 : decode cX12_write 14 = .ok (.ireturn, 1) := by decide +kernel
theorem dX12_write_15 : decode cX12_write 15 = .ok (.aload_n 0, 1) := by decide +kernel
theorem dX12_write_16 : decode cX12_write 16 = .ok (.getfield 66, 3) := by decide +kernel
theorem dX12_write_19 : decode cX12_write 19 = .ok (.iload_n 3, 1) := by decide +kernel
theorem dX12_write_20 : decode cX12_write 20 = .ok (.iadd, 1) := by decide +kernel
theorem dX12_write_21 : decode cX12_write 21 = .ok (.sipush 200, 3) := by decide +kernel
theorem dX12_write_24 : decode cX12_write 24 = .ok (.if_icmp .le 6, 3) := by decide +kernel
theorem dX12_write_27 : decode cX12_write 27 = .ok (.bipush (-5), 2) := by decide +kernel
theorem dX12_write_29 : decode cX12_write 29 = .ok (.ireturn, 1) := by decide +kernel
theorem dX12_write_30 : decode cX12_write 30 = .ok (.iconst 0, 1) := by decide +kernel
theorem dX12_write_31 : decode cX12_write 31 = .ok (.istore 4, 2) := by decide +kernel
theorem dX12_write_33 : decode cX12_write 33 = .ok (.iload 4, 2) := by decide +kernel
theorem dX12_write_35 : decode cX12_write 35 = .ok (.iload_n 3, 1) := by decide +kernel
theorem dX12_write_36 : decode cX12_write 36 = .ok (.if_icmp .ge 40, 3) := by decide +kernel
theorem dX12_write_39 : decode cX12_write 39 = .ok (.aload_n 0, 1) := by decide +kernel
theorem dX12_write_40 : decode cX12_write 40 = .ok (.getfield 17, 3) := by decide +kernel
theorem dX12_write_43 : decode cX12_write 43 = .ok (.aload_n 0, 1) := by decide +kernel
theorem dX12_write_44 : decode cX12_write 44 = .ok (.getfield 66, 3) := by decide +kernel
theorem dX12_write_47 : decode cX12_write 47 = .ok (.lload_n 1, 1) := by decide +kernel
theorem dX12_write_48 : decode cX12_write 48 = .ok (.bipush 8, 2) := by decide +kernel
theorem dX12_write_50 : decode cX12_write 50 = .ok (.iload 4, 2) := by decide +kernel
theorem dX12_write_52 : decode cX12_write 52 = .ok (.imul, 1) := by decide +kernel
theorem dX12_write_53 : decode cX12_write 53 = .ok (.lshr, 1) := by decide +kernel
theorem dX12_write_54 : decode cX12_write 54 = .ok (.ldc2_w 69, 3) := by decide +kernel
theorem dX12_write_57 : decode cX12_write 57 = .ok (.land, 1) := by decide +kernel
theorem dX12_write_58 : decode cX12_write 58 = .ok (.l2i, 1) := by decide +kernel
theorem dX12_write_59 : decode cX12_write 59 = .ok (.iastore, 1) := by decide +kernel
theorem dX12_write_60 : decode cX12_write 60 = .ok (.aload_n 0, 1) := by decide +kernel
theorem dX12_write_61 : decode cX12_write 61 = .ok (.dup, 1) := by decide +kernel
theorem dX12_write_62 : decode cX12_write 62 = .ok (.getfield 66, 3) := by decide +kernel
theorem dX12_write_65 : decode cX12_write 65 = .ok (.iconst 1, 1) := by decide +kernel
theorem dX12_write_66 : decode cX12_write 66 = .ok (.iadd, 1) := by decide +kernel
theorem dX12_write_67 : decode cX12_write 67 = .ok (.putfield 66, 3) := by decide +kernel
theorem dX12_write_70 : decode cX12_write 70 = .ok (.iinc 4 1, 3) := by decide +kernel
theorem dX12_write_73 : decode cX12_write 73 = .ok (.goto (-40), 3) := by decide +kernel
theorem dX12_write_76 : decode cX12_write 76 = .ok (.aload_n 0, 1) := by decide +kernel
theorem dX12_write_77 : decode cX12_write 77 = .ok (.getfield 66, 3) := by decide +kernel
theorem dX12_write_80 : decode cX12_write 80 = .ok (.ireturn, 1) := by decide +kernel
theorem dX12_erase_0 : decode cX12_erase 0 = .ok (.aload_n 0, 1) := by decide +kernel
theorem dX12_erase_1 : decode cX12_erase 1 = .ok (.getfield 66, 3) := by decide +kernel
theorem dX12_erase_4 : decode cX12_erase 4 = .ok (.istore_n 1, 1) := by decide +kernel
theorem dX12_erase_5 : decode cX12_erase 5 = .ok (.aload_n 0, 1) := by decide +kernel
theorem dX12_erase_6 : decode cX12_erase 6 = .ok (.iconst 0, 1) := by decide +kernel
theorem dX12_erase_7 : decode cX12_erase 7 = .ok (.putfield 66, 3) := by decide +kernel
theorem dX12_erase_10 : decode cX12_erase 10 = .ok (.iload_n 1, 1) := by decide +kernel
theorem dX12_erase_11 : decode cX12_erase 11 = .ok (.ireturn, 1) := by decide +kernel
theorem dX12_sort_0 : decode cX12_sort 0 = .ok (.iload_n 0, 1) := by decide +kernel
theorem dX12_sort_1 : decode cX12_sort 1 = .ok (.bipush 97, 2) := by decide +kernel
theorem dX12_sort_3 : decode cX12_sort 3 = .ok (.if_icmp .lt 13, 3) := by decide +kernel
theorem dX12_sort_6 : decode cX12_sort 6 = .ok (.iload_n 0, 1) := by decide +kernel
theorem dX12_sort_7 : decode cX12_sort 7 = .ok (.bipush 122, 2) := by decide +kernel
theorem dX12_sort_9 : decode cX12_sort 9 = .ok (.if_icmp .gt 7, 3) := by decide +kernel
theorem dX12_sort_12 : decode cX12_sort 12 = .ok (.iconst 1, 1) := by decide +kernel
theorem dX12_sort_13 : decode cX12_sort 13 = .ok (.goto 20, 3) := by decide +kernel
theorem dX12_sort_16 : decode cX12_sort 16 = .ok (.iload_n 0, 1) := by decide +kernel
theorem dX12_sort_17 : decode cX12_sort 17 = .ok (.bipush 48, 2) := by decide +kernel
theorem dX12_sort_19 : decode cX12_sort 19 = .ok (.if_icmp .lt 13, 3) := by decide +kernel
theorem dX12_sort_22 : decode cX12_sort 22 = .ok (.iload_n 0, 1) := by decide +kernel
theorem dX12_sort_23 : decode cX12_sort 23 = .ok (.bipush 57, 2) := by decide +kernel
theorem dX12_sort_25 : decode cX12_sort 25 = .ok (.if_icmp .gt 7, 3) := by decide +kernel
theorem dX12_sort_28 : decode cX12_sort 28 = .ok (.iconst 2, 1) := by decide +kernel
theorem dX12_sort_29 : decode cX12_sort 29 = .ok (.goto 4, 3) := by decide +kernel
theorem dX12_sort_32 : decode cX12_sort 32 = .ok (.iconst 0, 1) := by decide +kernel
theorem dX12_sort_33 : decode cX12_sort 33 = .ok (.ireturn, 1) := by decide +kernel
theorem dX12_token_0 : decode cX12_token 0 = .ok (.aload_n 0, 1) := by decide +kernel
theorem dX12_token_1 : decode cX12_token 1 = .ok (.getfield 71, 3) := by decide +kernel
theorem dX12_token_4 : decode cX12_token 4 = .ok (.aload_n 0, 1) := by decide +kernel
theorem dX12_token_5 : decode cX12_token 5 = .ok (.getfield 66, 3) := by decide +kernel
theorem dX12_token_8 : decode cX12_token 8 = .ok (.if_icmp .ge 30, 3) := by decide +kernel
theorem dX12_token_11 : decode cX12_token 11 = .ok (.aload_n 0, 1) := by decide +kernel
theorem dX12_token_12 : decode cX12_token 12 = .ok (.getfield 17, 3) := by decide +kernel
theorem dX12_token_15 : decode cX12_token 15 = .ok (.aload_n 0, 1) := by decide +kernel
theorem dX12_token_16 : decode cX12_token 16 = .ok (.getfield 71, 3) := by decide +kernel
theorem dX12_token_19 : decode cX12_token 19 = .ok (.iaload, 1) := by decide +kernel
theorem dX12_token_20 : decode cX12_token 20 = .ok (.bipush 32, 2) := by decide +kernel
theorem dX12_token_22 : decode cX12_token 22 = .ok (.if_icmp .ne 16, 3) := by decide +kernel
theorem dX12_token_25 : decode cX12_token 25 = .ok (.aload_n 0, 1) := by decide +kernel
theorem dX12_token_26 : decode cX12_token 26 = .ok (.dup, 1) := by decide +kernel
theorem dX12_token_27 : decode cX12_token 27 = .ok (.getfield 71, 3) := by decide +kernel
theorem dX12_token_30 : decode cX12_token 30 = .ok (.iconst 1, 1) := by decide +kernel
theorem dX12_token_31 : decode cX12_token 31 = .ok (.iadd, 1) := by decide +kernel
theorem dX12_token_32 : decode cX12_token 32 = .ok (.putfield 71, 3) := by decide +kernel
theorem dX12_token_35 : decode cX12_token 35 = .ok (.goto (-35), 3) := by decide +kernel
theorem dX12_token_38 : decode cX12_token 38 = .ok (.aload_n 0, 1) := by decide +kernel
theorem dX12_token_39 : decode cX12_token 39 = .ok (.aload_n 0, 1) := by decide +kernel
theorem dX12_token_40 : decode cX12_token 40 = .ok (.getfield 71, 3) := by decide +kernel
theorem dX12_token_43 : decode cX12_token 43 = .ok (.putfield 74, 3) := by decide +kernel
theorem dX12_token_46 : decode cX12_token 46 = .ok (.aload_n 0, 1) := by decide +kernel
theorem dX12_token_47 : decode cX12_token 47 = .ok (.dup, 1) := by decide +kernel
theorem dX12_token_48 : decode cX12_token 48 = .ok (.getfield 71, 3) := by decide +kernel
theorem dX12_token_51 : decode cX12_token 51 = .ok (.aload_n 0, 1) := by decide +kernel
theorem dX12_token_52 : decode cX12_token 52 = .ok (.getfield 71, 3) := by decide +kernel
theorem dX12_token_55 : decode cX12_token 55 = .ok (.aload_n 0, 1) := by decide +kernel
theorem dX12_token_56 : decode cX12_token 56 = .ok (.getfield 66, 3) := by decide +kernel
theorem dX12_token_59 : decode cX12_token 59 = .ok (.if_icmp .ge 7, 3) := by decide +kernel
theorem dX12_token_62 : decode cX12_token 62 = .ok (.iconst 1, 1) := by decide +kernel
theorem dX12_token_63 : decode cX12_token 63 = .ok (.goto 4, 3) := by decide +kernel
theorem dX12_token_66 : decode cX12_token 66 = .ok (.iconst 0, 1) := by decide +kernel
theorem dX12_token_67 : decode cX12_token 67 = .ok (.iadd, 1) := by decide +kernel
theorem dX12_token_68 : decode cX12_token 68 = .ok (.putfield 71, 3) := by decide +kernel
theorem dX12_token_71 : decode cX12_token 71 = .ok (.aload_n 0, 1) := by decide +kernel
theorem dX12_token_72 : decode cX12_token 72 = .ok (.getfield 71, 3) := by decide +kernel
theorem dX12_token_75 : decode cX12_token 75 = .ok (.aload_n 0, 1) := by decide +kernel
theorem dX12_token_76 : decode cX12_token 76 = .ok (.getfield 66, 3) := by decide +kernel
theorem dX12_token_79 : decode cX12_token 79 = .ok (.if_icmp .ge 58, 3) := by decide +kernel
theorem dX12_token_82 : decode cX12_token 82 = .ok (.aload_n 0, 1) := by decide +kernel
theorem dX12_token_83 : decode cX12_token 83 = .ok (.getfield 17, 3) := by decide +kernel
theorem dX12_token_86 : decode cX12_token 86 = .ok (.aload_n 0, 1) := by decide +kernel
theorem dX12_token_87 : decode cX12_token 87 = .ok (.getfield 74, 3) := by decide +kernel
theorem dX12_token_90 : decode cX12_token 90 = .ok (.iaload, 1) := by decide +kernel
theorem dX12_token_91 : decode cX12_token 91 = .ok (.invokestatic 77, 3) := by decide +kernel
theorem dX12_token_94 : decode cX12_token 94 = .ok (.ifCond .le 43, 3) := by decide +kernel
theorem dX12_token_97 : decode cX12_token 97 = .ok (.aload_n 0, 1) := by decide +kernel
theorem dX12_token_98 : decode cX12_token 98 = .ok (.getfield 17, 3) := by decide +kernel
theorem dX12_token_101 : decode cX12_token 101 = .ok (.aload_n 0, 1) := by decide +kernel
theorem dX12_token_102 : decode cX12_token 102 = .ok (.getfield 71, 3) := by decide +kernel
theorem dX12_token_105 : decode cX12_token 105 = .ok (.iaload, 1) := by decide +kernel
theorem dX12_token_106 : decode cX12_token 106 = .ok (.invokestatic 77, 3) := by decide +kernel
theorem dX12_token_109 : decode cX12_token 109 = .ok (.aload_n 0, 1) := by decide +kernel
theorem dX12_token_110 : decode cX12_token 110 = .ok (.getfield 17, 3) := by decide +kernel
theorem dX12_token_113 : decode cX12_token 113 = .ok (.aload_n 0, 1) := by decide +kernel
theorem dX12_token_114 : decode cX12_token 114 = .ok (.getfield 74, 3) := by decide +kernel
theorem dX12_token_117 : decode cX12_token 117 = .ok (.iaload, 1) := by decide +kernel
theorem dX12_token_118 : decode cX12_token 118 = .ok (.invokestatic 77, 3) := by decide +kernel
theorem dX12_token_121 : decode cX12_token 121 = .ok (.if_icmp .ne 16, 3) := by decide +kernel
theorem dX12_token_124 : decode cX12_token 124 = .ok (.aload_n 0, 1) := by decide +kernel
theorem dX12_token_125 : decode cX12_token 125 = .ok (.dup, 1) := by decide +kernel
theorem dX12_token_126 : decode cX12_token 126 = .ok (.getfield 71, 3) := by decide +kernel
theorem dX12_token_129 : decode cX12_token 129 = .ok (.iconst 1, 1) := by decide +kernel
theorem dX12_token_130 : decode cX12_token 130 = .ok (.iadd, 1) := by decide +kernel
theorem dX12_token_131 : decode cX12_token 131 = .ok (.putfield 71, 3) := by decide +kernel
theorem dX12_token_134 : decode cX12_token 134 = .ok (.goto (-63), 3) := by decide +kernel
theorem dX12_token_137 : decode cX12_token 137 = .ok (.aload_n 0, 1) := by decide +kernel
theorem dX12_token_138 : decode cX12_token 138 = .ok (.aload_n 0, 1) := by decide +kernel
theorem dX12_token_139 : decode cX12_token 139 = .ok (.getfield 71, 3) := by decide +kernel
theorem dX12_token_142 : decode cX12_token 142 = .ok (.putfield 81, 3) := by decide +kernel
theorem dX12_token_145 : decode cX12_token 145 = .ok (.return_, 1) := by decide +kernel
theorem dX12_isWord_0 : decode cX12_isWord 0 = .ok (.aload_n 0, 1) := by decide +kernel
theorem dX12_isWord_1 : decode cX12_isWord 1 = .ok (.getfield 81, 3) := by decide +kernel
theorem dX12_isWord_4 : decode cX12_isWord 4 = .ok (.aload_n 0, 1) := by decide +kernel
theorem dX12_isWord_5 : decode cX12_isWord 5 = .ok (.getfield 74, 3) := by decide +kernel
theorem dX12_isWord_8 : decode cX12_isWord 8 = .ok (.isub, 1) := by decide +kernel
theorem dX12_isWord_9 : decode cX12_isWord 9 = .ok (.iload_n 3, 1) := by decide +kernel
theorem dX12_isWord_10 : decode cX12_isWord 10 = .ok (.if_icmp .ne 7, 3) := by decide +kernel
theorem dX12_isWord_13 : decode cX12_isWord 13 = .ok (.iconst 1, 1) := by decide +kernel
theorem dX12_isWord_14 : decode cX12_isWord 14 = .ok (.goto 4, 3) := by decide +kernel
theorem dX12_isWord_17 : decode cX12_isWord 17 = .ok (.iconst 0, 1) := by decide +kernel
theorem dX12_isWord_18 : decode cX12_isWord 18 = .ok (.istore 4, 2) := by decide +kernel
theorem dX12_isWord_20 : decode cX12_isWord 20 = .ok (.iconst 0, 1) := by decide +kernel
theorem dX12_isWord_21 : decode cX12_isWord 21 = .ok (.istore 5, 2) := by decide +kernel
theorem dX12_isWord_23 : decode cX12_isWord 23 = .ok (.iload 4, 2) := by decide +kernel
theorem dX12_isWord_25 : decode cX12_isWord 25 = .ok (.ifCond .eq 51, 3) := by decide +kernel
theorem dX12_isWord_28 : decode cX12_isWord 28 = .ok (.iload 5, 2) := by decide +kernel
theorem dX12_isWord_30 : decode cX12_isWord 30 = .ok (.iload_n 3, 1) := by decide +kernel
theorem dX12_isWord_31 : decode cX12_isWord 31 = .ok (.if_icmp .ge 45, 3) := by decide +kernel
theorem dX12_isWord_34 : decode cX12_isWord 34 = .ok (.aload_n 0, 1) := by decide +kernel
theorem dX12_isWord_35 : decode cX12_isWord 35 = .ok (.getfield 17, 3) := by decide +kernel
theorem dX12_isWord_38 : decode cX12_isWord 38 = .ok (.aload_n 0, 1) := by decide +kernel
theorem dX12_isWord_39 : decode cX12_isWord 39 = .ok (.getfield 74, 3) := by decide +kernel
theorem dX12_isWord_42 : decode cX12_isWord 42 = .ok (.iload 5, 2) := by decide +kernel
theorem dX12_isWord_44 : decode cX12_isWord 44 = .ok (.iadd, 1) := by decide +kernel
theorem dX12_isWord_45 : decode cX12_isWord 45 = .ok (.iaload, 1) := by decide +kernel
theorem dX12_isWord_46 : decode cX12_isWord 46 = .ok (.bipush 96, 2) := by decide +kernel
theorem dX12_isWord_48 : decode cX12_isWord 48 = .ok (.lload_n 1, 1) := by decide +kernel
theorem dX12_isWord_49 : decode cX12_isWord 49 = .ok (.iconst 5, 1) := by decide +kernel
theorem dX12_isWord_50 : decode cX12_isWord 50 = .ok (.iload 5, 2) := by decide +kernel
theorem dX12_isWord_52 : decode cX12_isWord 52 = .ok (.imul, 1) := by decide +kernel
theorem dX12_isWord_53 : decode cX12_isWord 53 = .ok (.lshr, 1) := by decide +kernel
theorem dX12_isWord_54 : decode cX12_isWord 54 = .ok (.ldc2_w 84, 3) := by decide +kernel
theorem dX12_isWord_57 : decode cX12_isWord 57 = .ok (.land, 1) := by decide +kernel
theorem dX12_isWord_58 : decode cX12_isWord 58 = .ok (.l2i, 1) := by decide +kernel
theorem dX12_isWord_59 : decode cX12_isWord 59 = .ok (.iadd, 1) := by decide +kernel
theorem dX12_isWord_60 : decode cX12_isWord 60 = .ok (.if_icmp .ne 7, 3) := by decide +kernel
theorem dX12_isWord_63 : decode cX12_isWord 63 = .ok (.iconst 1, 1) := by decide +kernel
theorem dX12_isWord_64 : decode cX12_isWord 64 = .ok (.goto 4, 3) := by decide +kernel
theorem dX12_isWord_67 : decode cX12_isWord 67 = .ok (.iconst 0, 1) := by decide +kernel
theorem dX12_isWord_68 : decode cX12_isWord 68 = .ok (.istore 4, 2) := by decide +kernel
theorem dX12_isWord_70 : decode cX12_isWord 70 = .ok (.iinc 5 1, 3) := by decide +kernel
theorem dX12_isWord_73 : decode cX12_isWord 73 = .ok (.goto (-50), 3) := by decide +kernel
theorem dX12_isWord_76 : decode cX12_isWord 76 = .ok (.iload 4, 2) := by decide +kernel
theorem dX12_isWord_78 : decode cX12_isWord 78 = .ok (.ireturn, 1) := by decide +kernel
theorem dX12_habitWord_0 : decode cX12_habitWord 0 = .ok (.aload_n 0, 1) := by decide +kernel
theorem dX12_habitWord_1 : decode cX12_habitWord 1 = .ok (.ldc2_w 86, 3) := by decide +kernel
theorem dX12_habitWord_4 : decode cX12_habitWord 4 = .ok (.iconst 5, 1) := by decide +kernel
theorem dX12_habitWord_5 : decode cX12_habitWord 5 = .ok (.invokevirtual 88, 3) := by decide +kernel
theorem dX12_habitWord_8 : decode cX12_habitWord 8 = .ok (.ifCond .eq 7, 3) := by decide +kernel
theorem dX12_habitWord_11 : decode cX12_habitWord 11 = .ok (.iconst 3, 1) := by decide +kernel
theorem dX12_habitWord_12 : decode cX12_habitWord 12 = .ok (.goto 52, 3) := by decide +kernel
theorem dX12_habitWord_15 : decode cX12_habitWord 15 = .ok (.aload_n 0, 1) := by decide +kernel
theorem dX12_habitWord_16 : decode cX12_habitWord 16 = .ok (.ldc2_w 92, 3) := by decide +kernel
theorem dX12_habitWord_19 : decode cX12_habitWord 19 = .ok (.bipush 6, 2) := by decide +kernel
theorem dX12_habitWord_21 : decode cX12_habitWord 21 = .ok (.invokevirtual 88, 3) := by decide +kernel
theorem dX12_habitWord_24 : decode cX12_habitWord 24 = .ok (.ifCond .eq 7, 3) := by decide +kernel
theorem dX12_habitWord_27 : decode cX12_habitWord 27 = .ok (.iconst 4, 1) := by decide +kernel
theorem dX12_habitWord_28 : decode cX12_habitWord 28 = .ok (.goto 36, 3) := by decide +kernel
theorem dX12_habitWord_31 : decode cX12_habitWord 31 = .ok (.aload_n 0, 1) := by decide +kernel
theorem dX12_habitWord_32 : decode cX12_habitWord 32 = .ok (.ldc2_w 94, 3) := by decide +kernel
theorem dX12_habitWord_35 : decode cX12_habitWord 35 = .ok (.bipush 7, 2) := by decide +kernel
theorem dX12_habitWord_37 : decode cX12_habitWord 37 = .ok (.invokevirtual 88, 3) := by decide +kernel
theorem dX12_habitWord_40 : decode cX12_habitWord 40 = .ok (.ifCond .eq 7, 3) := by decide +kernel
theorem dX12_habitWord_43 : decode cX12_habitWord 43 = .ok (.iconst 5, 1) := by decide +kernel
theorem dX12_habitWord_44 : decode cX12_habitWord 44 = .ok (.goto 20, 3) := by decide +kernel
theorem dX12_habitWord_47 : decode cX12_habitWord 47 = .ok (.aload_n 0, 1) := by decide +kernel
theorem dX12_habitWord_48 : decode cX12_habitWord 48 = .ok (.ldc2_w 96, 3) := by decide +kernel
theorem dX12_habitWord_51 : decode cX12_habitWord 51 = .ok (.iconst 5, 1) := by decide +kernel
theorem dX12_habitWord_52 : decode cX12_habitWord 52 = .ok (.invokevirtual 88, 3) := by decide +kernel
theorem dX12_habitWord_55 : decode cX12_habitWord 55 = .ok (.ifCond .eq 8, 3) := by decide +kernel
theorem dX12_habitWord_58 : decode cX12_habitWord 58 = .ok (.bipush 6, 2) := by decide +kernel
theorem dX12_habitWord_60 : decode cX12_habitWord 60 = .ok (.goto 4, 3) := by decide +kernel
theorem dX12_habitWord_63 : decode cX12_habitWord 63 = .ok (.iconst (-1), 1) := by decide +kernel
theorem dX12_habitWord_64 : decode cX12_habitWord 64 = .ok (.ireturn, 1) := by decide +kernel
theorem dX12_wordOf_0 : decode cX12_wordOf 0 = .ok (.aload_n 0, 1) := by decide +kernel
theorem dX12_wordOf_1 : decode cX12_wordOf 1 = .ok (.invokevirtual 98, 3) := by decide +kernel
theorem dX12_wordOf_4 : decode cX12_wordOf 4 = .ok (.istore_n 1, 1) := by decide +kernel
theorem dX12_wordOf_5 : decode cX12_wordOf 5 = .ok (.iload_n 1, 1) := by decide +kernel
theorem dX12_wordOf_6 : decode cX12_wordOf 6 = .ok (.iconst (-1), 1) := by decide +kernel
theorem dX12_wordOf_7 : decode cX12_wordOf 7 = .ok (.if_icmp .eq 7, 3) := by decide +kernel
theorem dX12_wordOf_10 : decode cX12_wordOf 10 = .ok (.iload_n 1, 1) := by decide +kernel
theorem dX12_wordOf_11 : decode cX12_wordOf 11 = .ok (.goto 97, 3) := by decide +kernel
theorem dX12_wordOf_14 : decode cX12_wordOf 14 = .ok (.aload_n 0, 1) := by decide +kernel
theorem dX12_wordOf_15 : decode cX12_wordOf 15 = .ok (.ldc2_w 102, 3) := by decide +kernel
theorem dX12_wordOf_18 : decode cX12_wordOf 18 = .ok (.iconst 5, 1) := by decide +kernel
theorem dX12_wordOf_19 : decode cX12_wordOf 19 = .ok (.invokevirtual 88, 3) := by decide +kernel
theorem dX12_wordOf_22 : decode cX12_wordOf 22 = .ok (.ifCond .eq 7, 3) := by decide +kernel
theorem dX12_wordOf_25 : decode cX12_wordOf 25 = .ok (.iconst 0, 1) := by decide +kernel
theorem dX12_wordOf_26 : decode cX12_wordOf 26 = .ok (.goto 82, 3) := by decide +kernel
theorem dX12_wordOf_29 : decode cX12_wordOf 29 = .ok (.aload_n 0, 1) := by decide +kernel
theorem dX12_wordOf_30 : decode cX12_wordOf 30 = .ok (.ldc2_w 104, 3) := by decide +kernel
theorem dX12_wordOf_33 : decode cX12_wordOf 33 = .ok (.iconst 4, 1) := by decide +kernel
theorem dX12_wordOf_34 : decode cX12_wordOf 34 = .ok (.invokevirtual 88, 3) := by decide +kernel
theorem dX12_wordOf_37 : decode cX12_wordOf 37 = .ok (.ifCond .eq 7, 3) := by decide +kernel
theorem dX12_wordOf_40 : decode cX12_wordOf 40 = .ok (.iconst 1, 1) := by decide +kernel
theorem dX12_wordOf_41 : decode cX12_wordOf 41 = .ok (.goto 67, 3) := by decide +kernel
theorem dX12_wordOf_44 : decode cX12_wordOf 44 = .ok (.aload_n 0, 1) := by decide +kernel
theorem dX12_wordOf_45 : decode cX12_wordOf 45 = .ok (.ldc2_w 106, 3) := by decide +kernel
theorem dX12_wordOf_48 : decode cX12_wordOf 48 = .ok (.iconst 5, 1) := by decide +kernel
theorem dX12_wordOf_49 : decode cX12_wordOf 49 = .ok (.invokevirtual 88, 3) := by decide +kernel
theorem dX12_wordOf_52 : decode cX12_wordOf 52 = .ok (.ifCond .eq 7, 3) := by decide +kernel
theorem dX12_wordOf_55 : decode cX12_wordOf 55 = .ok (.iconst 2, 1) := by decide +kernel
theorem dX12_wordOf_56 : decode cX12_wordOf 56 = .ok (.goto 52, 3) := by decide +kernel
theorem dX12_wordOf_59 : decode cX12_wordOf 59 = .ok (.aload_n 0, 1) := by decide +kernel
theorem dX12_wordOf_60 : decode cX12_wordOf 60 = .ok (.ldc2_w 108, 3) := by decide +kernel
theorem dX12_wordOf_63 : decode cX12_wordOf 63 = .ok (.iconst 4, 1) := by decide +kernel
theorem dX12_wordOf_64 : decode cX12_wordOf 64 = .ok (.invokevirtual 88, 3) := by decide +kernel
theorem dX12_wordOf_67 : decode cX12_wordOf 67 = .ok (.ifCond .eq 8, 3) := by decide +kernel
theorem dX12_wordOf_70 : decode cX12_wordOf 70 = .ok (.bipush 7, 2) := by decide +kernel
theorem dX12_wordOf_72 : decode cX12_wordOf 72 = .ok (.goto 36, 3) := by decide +kernel
theorem dX12_wordOf_75 : decode cX12_wordOf 75 = .ok (.aload_n 0, 1) := by decide +kernel
theorem dX12_wordOf_76 : decode cX12_wordOf 76 = .ok (.ldc2_w 110, 3) := by decide +kernel
theorem dX12_wordOf_79 : decode cX12_wordOf 79 = .ok (.iconst 3, 1) := by decide +kernel
theorem dX12_wordOf_80 : decode cX12_wordOf 80 = .ok (.invokevirtual 88, 3) := by decide +kernel
theorem dX12_wordOf_83 : decode cX12_wordOf 83 = .ok (.ifCond .eq 8, 3) := by decide +kernel
theorem dX12_wordOf_86 : decode cX12_wordOf 86 = .ok (.bipush 8, 2) := by decide +kernel
theorem dX12_wordOf_88 : decode cX12_wordOf 88 = .ok (.goto 20, 3) := by decide +kernel
theorem dX12_wordOf_91 : decode cX12_wordOf 91 = .ok (.aload_n 0, 1) := by decide +kernel
theorem dX12_wordOf_92 : decode cX12_wordOf 92 = .ok (.ldc2_w 112, 3) := by decide +kernel
theorem dX12_wordOf_95 : decode cX12_wordOf 95 = .ok (.iconst 5, 1) := by decide +kernel
theorem dX12_wordOf_96 : decode cX12_wordOf 96 = .ok (.invokevirtual 88, 3) := by decide +kernel
theorem dX12_wordOf_99 : decode cX12_wordOf 99 = .ok (.ifCond .eq 8, 3) := by decide +kernel
theorem dX12_wordOf_102 : decode cX12_wordOf 102 = .ok (.bipush 9, 2) := by decide +kernel
theorem dX12_wordOf_104 : decode cX12_wordOf 104 = .ok (.goto 4, 3) := by decide +kernel
theorem dX12_wordOf_107 : decode cX12_wordOf 107 = .ok (.iconst (-1), 1) := by decide +kernel
theorem dX12_wordOf_108 : decode cX12_wordOf 108 = .ok (.ireturn, 1) := by decide +kernel
theorem dX12_isNumber_0 : decode cX12_isNumber 0 = .ok (.aload_n 0, 1) := by decide +kernel
theorem dX12_isNumber_1 : decode cX12_isNumber 1 = .ok (.getfield 74, 3) := by decide +kernel
theorem dX12_isNumber_4 : decode cX12_isNumber 4 = .ok (.aload_n 0, 1) := by decide +kernel
theorem dX12_isNumber_5 : decode cX12_isNumber 5 = .ok (.getfield 66, 3) := by decide +kernel
theorem dX12_isNumber_8 : decode cX12_isNumber 8 = .ok (.if_icmp .ge 23, 3) := by decide +kernel
theorem dX12_isNumber_11 : decode cX12_isNumber 11 = .ok (.aload_n 0, 1) := by decide +kernel
theorem dX12_isNumber_12 : decode cX12_isNumber 12 = .ok (.getfield 17, 3) := by decide +kernel
theorem dX12_isNumber_15 : decode cX12_isNumber 15 = .ok (.aload_n 0, 1) := by decide +kernel
theorem dX12_isNumber_16 : decode cX12_isNumber 16 = .ok (.getfield 74, 3) := by decide +kernel
theorem dX12_isNumber_19 : decode cX12_isNumber 19 = .ok (.iaload, 1) := by decide +kernel
theorem dX12_isNumber_20 : decode cX12_isNumber 20 = .ok (.invokestatic 77, 3) := by decide +kernel
theorem dX12_isNumber_23 : decode cX12_isNumber 23 = .ok (.iconst 2, 1) := by decide +kernel
theorem dX12_isNumber_24 : decode cX12_isNumber 24 = .ok (.if_icmp .ne 7, 3) := by decide +kernel
theorem dX12_isNumber_27 : decode cX12_isNumber 27 = .ok (.iconst 1, 1) := by decide +kernel
theorem dX12_isNumber_28 : decode cX12_isNumber 28 = .ok (.goto 4, 3) := by decide +kernel
theorem dX12_isNumber_31 : decode cX12_isNumber 31 = .ok (.iconst 0, 1) := by decide +kernel
theorem dX12_isNumber_32 : decode cX12_isNumber 32 = .ok (.ireturn, 1) := by decide +kernel
theorem dX12_reads_0 : decode cX12_reads 0 = .ok (.aload_n 0, 1) := by decide +kernel
theorem dX12_reads_1 : decode cX12_reads 1 = .ok (.invokevirtual 114, 3) := by decide +kernel
theorem dX12_reads_4 : decode cX12_reads 4 = .ok (.ifCond .eq 16, 3) := by decide +kernel
theorem dX12_reads_7 : decode cX12_reads 7 = .ok (.aload_n 0, 1) := by decide +kernel
theorem dX12_reads_8 : decode cX12_reads 8 = .ok (.getfield 81, 3) := by decide +kernel
theorem dX12_reads_11 : decode cX12_reads 11 = .ok (.aload_n 0, 1) := by decide +kernel
theorem dX12_reads_12 : decode cX12_reads 12 = .ok (.getfield 74, 3) := by decide +kernel
theorem dX12_reads_15 : decode cX12_reads 15 = .ok (.isub, 1) := by decide +kernel
theorem dX12_reads_16 : decode cX12_reads 16 = .ok (.iconst 3, 1) := by decide +kernel
theorem dX12_reads_17 : decode cX12_reads 17 = .ok (.if_icmp .le 5, 3) := by decide +kernel
theorem dX12_reads_20 : decode cX12_reads 20 = .ok (.iconst 0, 1) := by decide +kernel
theorem dX12_reads_21 : decode cX12_reads 21 = .ok (.ireturn, 1) := by decide +kernel
theorem dX12_reads_22 : decode cX12_reads 22 = .ok (.iconst 0, 1) := by decide +kernel
theorem dX12_reads_23 : decode cX12_reads 23 = .ok (.istore_n 3, 1) := by decide +kernel
theorem dX12_reads_24 : decode cX12_reads 24 = .ok (.aload_n 0, 1) := by decide +kernel
theorem dX12_reads_25 : decode cX12_reads 25 = .ok (.getfield 74, 3) := by decide +kernel
theorem dX12_reads_28 : decode cX12_reads 28 = .ok (.istore 4, 2) := by decide +kernel
theorem dX12_reads_30 : decode cX12_reads 30 = .ok (.iload 4, 2) := by decide +kernel
theorem dX12_reads_32 : decode cX12_reads 32 = .ok (.aload_n 0, 1) := by decide +kernel
theorem dX12_reads_33 : decode cX12_reads 33 = .ok (.getfield 81, 3) := by decide +kernel
theorem dX12_reads_36 : decode cX12_reads 36 = .ok (.if_icmp .ge 25, 3) := by decide +kernel
theorem dX12_reads_39 : decode cX12_reads 39 = .ok (.bipush 10, 2) := by decide +kernel
theorem dX12_reads_41 : decode cX12_reads 41 = .ok (.iload_n 3, 1) := by decide +kernel
theorem dX12_reads_42 : decode cX12_reads 42 = .ok (.imul, 1) := by decide +kernel
theorem dX12_reads_43 : decode cX12_reads 43 = .ok (.aload_n 0, 1) := by decide +kernel
theorem dX12_reads_44 : decode cX12_reads 44 = .ok (.getfield 17, 3) := by decide +kernel
theorem dX12_reads_47 : decode cX12_reads 47 = .ok (.iload 4, 2) := by decide +kernel
theorem dX12_reads_49 : decode cX12_reads 49 = .ok (.iaload, 1) := by decide +kernel
theorem dX12_reads_50 : decode cX12_reads 50 = .ok (.iadd, 1) := by decide +kernel
theorem dX12_reads_51 : decode cX12_reads 51 = .ok (.bipush 48, 2) := by decide +kernel
theorem dX12_reads_53 : decode cX12_reads 53 = .ok (.isub, 1) := by decide +kernel
theorem dX12_reads_54 : decode cX12_reads 54 = .ok (.istore_n 3, 1) := by decide +kernel
theorem dX12_reads_55 : decode cX12_reads 55 = .ok (.iinc 4 1, 3) := by decide +kernel
theorem dX12_reads_58 : decode cX12_reads 58 = .ok (.goto (-28), 3) := by decide +kernel
theorem dX12_reads_61 : decode cX12_reads 61 = .ok (.iload_n 3, 1) := by decide +kernel
theorem dX12_reads_62 : decode cX12_reads 62 = .ok (.i2l, 1) := by decide +kernel
theorem dX12_reads_63 : decode cX12_reads 63 = .ok (.iload_n 1, 1) := by decide +kernel
theorem dX12_reads_64 : decode cX12_reads 64 = .ok (.i2l, 1) := by decide +kernel
theorem dX12_reads_65 : decode cX12_reads 65 = .ok (.iload_n 2, 1) := by decide +kernel
theorem dX12_reads_66 : decode cX12_reads 66 = .ok (.i2l, 1) := by decide +kernel
theorem dX12_reads_67 : decode cX12_reads 67 = .ok (.invokestatic 62, 3) := by decide +kernel
theorem dX12_reads_70 : decode cX12_reads 70 = .ok (.ifCond .ne 5, 3) := by decide +kernel
theorem dX12_reads_73 : decode cX12_reads 73 = .ok (.iconst 0, 1) := by decide +kernel
theorem dX12_reads_74 : decode cX12_reads 74 = .ok (.ireturn, 1) := by decide +kernel
theorem dX12_reads_75 : decode cX12_reads 75 = .ok (.bipush 12, 2) := by decide +kernel
theorem dX12_reads_77 : decode cX12_reads 77 = .ok (.aload_n 0, 1) := by decide +kernel
theorem dX12_reads_78 : decode cX12_reads 78 = .ok (.getfield 118, 3) := by decide +kernel
theorem dX12_reads_81 : decode cX12_reads 81 = .ok (.imul, 1) := by decide +kernel
theorem dX12_reads_82 : decode cX12_reads 82 = .ok (.istore 4, 2) := by decide +kernel
theorem dX12_reads_84 : decode cX12_reads 84 = .ok (.aload_n 0, 1) := by decide +kernel
theorem dX12_reads_85 : decode cX12_reads 85 = .ok (.getfield 20, 3) := by decide +kernel
theorem dX12_reads_88 : decode cX12_reads 88 = .ok (.iload 4, 2) := by decide +kernel
theorem dX12_reads_90 : decode cX12_reads 90 = .ok (.iconst 2, 1) := by decide +kernel
theorem dX12_reads_91 : decode cX12_reads 91 = .ok (.iadd, 1) := by decide +kernel
theorem dX12_reads_92 : decode cX12_reads 92 = .ok (.aload_n 0, 1) := by decide +kernel
theorem dX12_reads_93 : decode cX12_reads 93 = .ok (.getfield 20, 3) := by decide +kernel
theorem dX12_reads_96 : decode cX12_reads 96 = .ok (.iload 4, 2) := by decide +kernel
theorem dX12_reads_98 : decode cX12_reads 98 = .ok (.iconst 1, 1) := by decide +kernel
theorem dX12_reads_99 : decode cX12_reads 99 = .ok (.iadd, 1) := by decide +kernel
theorem dX12_reads_100 : decode cX12_reads 100 = .ok (.iaload, 1) := by decide +kernel
theorem dX12_reads_101 : decode cX12_reads 101 = .ok (.iadd, 1) := by decide +kernel
theorem dX12_reads_102 : decode cX12_reads 102 = .ok (.iload_n 3, 1) := by decide +kernel
theorem dX12_reads_103 : decode cX12_reads 103 = .ok (.iastore, 1) := by decide +kernel
theorem dX12_reads_104 : decode cX12_reads 104 = .ok (.aload_n 0, 1) := by decide +kernel
theorem dX12_reads_105 : decode cX12_reads 105 = .ok (.getfield 20, 3) := by decide +kernel
theorem dX12_reads_108 : decode cX12_reads 108 = .ok (.iload 4, 2) := by decide +kernel
theorem dX12_reads_110 : decode cX12_reads 110 = .ok (.iconst 1, 1) := by decide +kernel
theorem dX12_reads_111 : decode cX12_reads 111 = .ok (.iadd, 1) := by decide +kernel
theorem dX12_reads_112 : decode cX12_reads 112 = .ok (.dup2, 1) := by decide +kernel
theorem dX12_reads_113 : decode cX12_reads 113 = .ok (.iaload, 1) := by decide +kernel
theorem dX12_reads_114 : decode cX12_reads 114 = .ok (.iconst 1, 1) := by decide +kernel
theorem dX12_reads_115 : decode cX12_reads 115 = .ok (.iadd, 1) := by decide +kernel
theorem dX12_reads_116 : decode cX12_reads 116 = .ok (.iastore, 1) := by decide +kernel
theorem dX12_reads_117 : decode cX12_reads 117 = .ok (.aload_n 0, 1) := by decide +kernel
theorem dX12_reads_118 : decode cX12_reads 118 = .ok (.invokevirtual 121, 3) := by decide +kernel
theorem dX12_reads_121 : decode cX12_reads 121 = .ok (.iconst 1, 1) := by decide +kernel
theorem dX12_reads_122 : decode cX12_reads 122 = .ok (.ireturn, 1) := by decide +kernel
theorem dX12_readsCoins_0 : decode cX12_readsCoins 0 = .ok (.bipush 12, 2) := by decide +kernel
theorem dX12_readsCoins_2 : decode cX12_readsCoins 2 = .ok (.aload_n 0, 1) := by decide +kernel
theorem dX12_readsCoins_3 : decode cX12_readsCoins 3 = .ok (.getfield 118, 3) := by decide +kernel
theorem dX12_readsCoins_6 : decode cX12_readsCoins 6 = .ok (.imul, 1) := by decide +kernel
theorem dX12_readsCoins_7 : decode cX12_readsCoins 7 = .ok (.istore_n 1, 1) := by decide +kernel
theorem dX12_readsCoins_8 : decode cX12_readsCoins 8 = .ok (.iconst 1, 1) := by decide +kernel
theorem dX12_readsCoins_9 : decode cX12_readsCoins 9 = .ok (.istore_n 2, 1) := by decide +kernel
theorem dX12_readsCoins_10 : decode cX12_readsCoins 10 = .ok (.aload_n 0, 1) := by decide +kernel
theorem dX12_readsCoins_11 : decode cX12_readsCoins 11 = .ok (.getfield 20, 3) := by decide +kernel
theorem dX12_readsCoins_14 : decode cX12_readsCoins 14 = .ok (.iload_n 1, 1) := by decide +kernel
theorem dX12_readsCoins_15 : decode cX12_readsCoins 15 = .ok (.iconst 1, 1) := by decide +kernel
theorem dX12_readsCoins_16 : decode cX12_readsCoins 16 = .ok (.iadd, 1) := by decide +kernel
theorem dX12_readsCoins_17 : decode cX12_readsCoins 17 = .ok (.iaload, 1) := by decide +kernel
theorem dX12_readsCoins_18 : decode cX12_readsCoins 18 = .ok (.ifCond .eq 23, 3) := by decide +kernel
theorem dX12_readsCoins_21 : decode cX12_readsCoins 21 = .ok (.aload_n 0, 1) := by decide +kernel
theorem dX12_readsCoins_22 : decode cX12_readsCoins 22 = .ok (.invokevirtual 114, 3) := by decide +kernel
theorem dX12_readsCoins_25 : decode cX12_readsCoins 25 = .ok (.ifCond .eq 52, 3) := by decide +kernel
theorem dX12_readsCoins_28 : decode cX12_readsCoins 28 = .ok (.aload_n 0, 1) := by decide +kernel
theorem dX12_readsCoins_29 : decode cX12_readsCoins 29 = .ok (.getfield 20, 3) := by decide +kernel
theorem dX12_readsCoins_32 : decode cX12_readsCoins 32 = .ok (.iload_n 1, 1) := by decide +kernel
theorem dX12_readsCoins_33 : decode cX12_readsCoins 33 = .ok (.iconst 1, 1) := by decide +kernel
theorem dX12_readsCoins_34 : decode cX12_readsCoins 34 = .ok (.iadd, 1) := by decide +kernel
theorem dX12_readsCoins_35 : decode cX12_readsCoins 35 = .ok (.iaload, 1) := by decide +kernel
theorem dX12_readsCoins_36 : decode cX12_readsCoins 36 = .ok (.bipush 6, 2) := by decide +kernel
theorem dX12_readsCoins_38 : decode cX12_readsCoins 38 = .ok (.if_icmp .ge 39, 3) := by decide +kernel
theorem dX12_readsCoins_41 : decode cX12_readsCoins 41 = .ok (.aload_n 0, 1) := by decide +kernel
theorem dX12_readsCoins_42 : decode cX12_readsCoins 42 = .ok (.iload_n 2, 1) := by decide +kernel
theorem dX12_readsCoins_43 : decode cX12_readsCoins 43 = .ok (.sipush 999, 3) := by decide +kernel
theorem dX12_readsCoins_46 : decode cX12_readsCoins 46 = .ok (.invokevirtual 124, 3) := by decide +kernel
theorem dX12_readsCoins_49 : decode cX12_readsCoins 49 = .ok (.ifCond .ne 5, 3) := by decide +kernel
theorem dX12_readsCoins_52 : decode cX12_readsCoins 52 = .ok (.iconst 0, 1) := by decide +kernel
theorem dX12_readsCoins_53 : decode cX12_readsCoins 53 = .ok (.ireturn, 1) := by decide +kernel
theorem dX12_readsCoins_54 : decode cX12_readsCoins 54 = .ok (.aload_n 0, 1) := by decide +kernel
theorem dX12_readsCoins_55 : decode cX12_readsCoins 55 = .ok (.getfield 20, 3) := by decide +kernel
theorem dX12_readsCoins_58 : decode cX12_readsCoins 58 = .ok (.iload_n 1, 1) := by decide +kernel
theorem dX12_readsCoins_59 : decode cX12_readsCoins 59 = .ok (.iconst 1, 1) := by decide +kernel
theorem dX12_readsCoins_60 : decode cX12_readsCoins 60 = .ok (.iadd, 1) := by decide +kernel
theorem dX12_readsCoins_61 : decode cX12_readsCoins 61 = .ok (.aload_n 0, 1) := by decide +kernel
theorem dX12_readsCoins_62 : decode cX12_readsCoins 62 = .ok (.getfield 20, 3) := by decide +kernel
theorem dX12_readsCoins_65 : decode cX12_readsCoins 65 = .ok (.iload_n 1, 1) := by decide +kernel
theorem dX12_readsCoins_66 : decode cX12_readsCoins 66 = .ok (.iconst 1, 1) := by decide +kernel
theorem dX12_readsCoins_67 : decode cX12_readsCoins 67 = .ok (.iadd, 1) := by decide +kernel
theorem dX12_readsCoins_68 : decode cX12_readsCoins 68 = .ok (.iaload, 1) := by decide +kernel
theorem dX12_readsCoins_69 : decode cX12_readsCoins 69 = .ok (.iadd, 1) := by decide +kernel
theorem dX12_readsCoins_70 : decode cX12_readsCoins 70 = .ok (.iaload, 1) := by decide +kernel
theorem dX12_readsCoins_71 : decode cX12_readsCoins 71 = .ok (.iconst 1, 1) := by decide +kernel
theorem dX12_readsCoins_72 : decode cX12_readsCoins 72 = .ok (.iadd, 1) := by decide +kernel
theorem dX12_readsCoins_73 : decode cX12_readsCoins 73 = .ok (.istore_n 2, 1) := by decide +kernel
theorem dX12_readsCoins_74 : decode cX12_readsCoins 74 = .ok (.goto (-64), 3) := by decide +kernel
theorem dX12_readsCoins_77 : decode cX12_readsCoins 77 = .ok (.iconst 1, 1) := by decide +kernel
theorem dX12_readsCoins_78 : decode cX12_readsCoins 78 = .ok (.ireturn, 1) := by decide +kernel
theorem dX12_readsCome_0 : decode cX12_readsCome 0 = .ok (.bipush 12, 2) := by decide +kernel
theorem dX12_readsCome_2 : decode cX12_readsCome 2 = .ok (.aload_n 0, 1) := by decide +kernel
theorem dX12_readsCome_3 : decode cX12_readsCome 3 = .ok (.getfield 118, 3) := by decide +kernel
theorem dX12_readsCome_6 : decode cX12_readsCome 6 = .ok (.imul, 1) := by decide +kernel
theorem dX12_readsCome_7 : decode cX12_readsCome 7 = .ok (.istore_n 1, 1) := by decide +kernel
theorem dX12_readsCome_8 : decode cX12_readsCome 8 = .ok (.aload_n 0, 1) := by decide +kernel
theorem dX12_readsCome_9 : decode cX12_readsCome 9 = .ok (.getfield 20, 3) := by decide +kernel
theorem dX12_readsCome_12 : decode cX12_readsCome 12 = .ok (.iload_n 1, 1) := by decide +kernel
theorem dX12_readsCome_13 : decode cX12_readsCome 13 = .ok (.iconst 1, 1) := by decide +kernel
theorem dX12_readsCome_14 : decode cX12_readsCome 14 = .ok (.iadd, 1) := by decide +kernel
theorem dX12_readsCome_15 : decode cX12_readsCome 15 = .ok (.iaload, 1) := by decide +kernel
theorem dX12_readsCome_16 : decode cX12_readsCome 16 = .ok (.ifCond .eq 23, 3) := by decide +kernel
theorem dX12_readsCome_19 : decode cX12_readsCome 19 = .ok (.aload_n 0, 1) := by decide +kernel
theorem dX12_readsCome_20 : decode cX12_readsCome 20 = .ok (.invokevirtual 114, 3) := by decide +kernel
theorem dX12_readsCome_23 : decode cX12_readsCome 23 = .ok (.ifCond .eq 45, 3) := by decide +kernel
theorem dX12_readsCome_26 : decode cX12_readsCome 26 = .ok (.aload_n 0, 1) := by decide +kernel
theorem dX12_readsCome_27 : decode cX12_readsCome 27 = .ok (.getfield 20, 3) := by decide +kernel
theorem dX12_readsCome_30 : decode cX12_readsCome 30 = .ok (.iload_n 1, 1) := by decide +kernel
theorem dX12_readsCome_31 : decode cX12_readsCome 31 = .ok (.iconst 1, 1) := by decide +kernel
theorem dX12_readsCome_32 : decode cX12_readsCome 32 = .ok (.iadd, 1) := by decide +kernel
theorem dX12_readsCome_33 : decode cX12_readsCome 33 = .ok (.iaload, 1) := by decide +kernel
theorem dX12_readsCome_34 : decode cX12_readsCome 34 = .ok (.bipush 9, 2) := by decide +kernel
theorem dX12_readsCome_36 : decode cX12_readsCome 36 = .ok (.if_icmp .ge 32, 3) := by decide +kernel
theorem dX12_readsCome_39 : decode cX12_readsCome 39 = .ok (.aload_n 0, 1) := by decide +kernel
theorem dX12_readsCome_40 : decode cX12_readsCome 40 = .ok (.getfield 128, 3) := by decide +kernel
theorem dX12_readsCome_43 : decode cX12_readsCome 43 = .ok (.aload_n 0, 1) := by decide +kernel
theorem dX12_readsCome_44 : decode cX12_readsCome 44 = .ok (.getfield 20, 3) := by decide +kernel
theorem dX12_readsCome_47 : decode cX12_readsCome 47 = .ok (.iload_n 1, 1) := by decide +kernel
theorem dX12_readsCome_48 : decode cX12_readsCome 48 = .ok (.iconst 1, 1) := by decide +kernel
theorem dX12_readsCome_49 : decode cX12_readsCome 49 = .ok (.iadd, 1) := by decide +kernel
theorem dX12_readsCome_50 : decode cX12_readsCome 50 = .ok (.iaload, 1) := by decide +kernel
theorem dX12_readsCome_51 : decode cX12_readsCome 51 = .ok (.iadd, 1) := by decide +kernel
theorem dX12_readsCome_52 : decode cX12_readsCome 52 = .ok (.bipush 24, 2) := by decide +kernel
theorem dX12_readsCome_54 : decode cX12_readsCome 54 = .ok (.if_icmp .eq 12, 3) := by decide +kernel
theorem dX12_readsCome_57 : decode cX12_readsCome 57 = .ok (.aload_n 0, 1) := by decide +kernel
theorem dX12_readsCome_58 : decode cX12_readsCome 58 = .ok (.iconst 0, 1) := by decide +kernel
theorem dX12_readsCome_59 : decode cX12_readsCome 59 = .ok (.iconst 3, 1) := by decide +kernel
theorem dX12_readsCome_60 : decode cX12_readsCome 60 = .ok (.invokevirtual 124, 3) := by decide +kernel
theorem dX12_readsCome_63 : decode cX12_readsCome 63 = .ok (.ifCond .ne (-55), 3) := by decide +kernel
theorem dX12_readsCome_66 : decode cX12_readsCome 66 = .ok (.iconst 0, 1) := by decide +kernel
theorem dX12_readsCome_67 : decode cX12_readsCome 67 = .ok (.ireturn, 1) := by decide +kernel
theorem dX12_readsCome_68 : decode cX12_readsCome 68 = .ok (.iconst 1, 1) := by decide +kernel
theorem dX12_readsCome_69 : decode cX12_readsCome 69 = .ok (.ireturn, 1) := by decide +kernel
theorem dX12_readsRest_0 : decode cX12_readsRest 0 = .ok (.iload_n 1, 1) := by decide +kernel
theorem dX12_readsRest_1 : decode cX12_readsRest 1 = .ok (.tableswitch 161 0 9 #[55, 60, 90, 161, 161, 129, 161, 154, 161, 159], 55) := by decide +kernel
theorem dX12_readsRest_56 : decode cX12_readsRest 56 = .ok (.aload_n 0, 1) := by decide +kernel
theorem dX12_readsRest_57 : decode cX12_readsRest 57 = .ok (.invokevirtual 131, 3) := by decide +kernel
theorem dX12_readsRest_60 : decode cX12_readsRest 60 = .ok (.ireturn, 1) := by decide +kernel
theorem dX12_readsRest_61 : decode cX12_readsRest 61 = .ok (.aload_n 0, 1) := by decide +kernel
theorem dX12_readsRest_62 : decode cX12_readsRest 62 = .ok (.iconst 0, 1) := by decide +kernel
theorem dX12_readsRest_63 : decode cX12_readsRest 63 = .ok (.aload_n 0, 1) := by decide +kernel
theorem dX12_readsRest_64 : decode cX12_readsRest 64 = .ok (.getfield 134, 3) := by decide +kernel
theorem dX12_readsRest_67 : decode cX12_readsRest 67 = .ok (.iconst 1, 1) := by decide +kernel
theorem dX12_readsRest_68 : decode cX12_readsRest 68 = .ok (.isub, 1) := by decide +kernel
theorem dX12_readsRest_69 : decode cX12_readsRest 69 = .ok (.invokevirtual 124, 3) := by decide +kernel
theorem dX12_readsRest_72 : decode cX12_readsRest 72 = .ok (.ifCond .eq 17, 3) := by decide +kernel
theorem dX12_readsRest_75 : decode cX12_readsRest 75 = .ok (.aload_n 0, 1) := by decide +kernel
theorem dX12_readsRest_76 : decode cX12_readsRest 76 = .ok (.iconst 0, 1) := by decide +kernel
theorem dX12_readsRest_77 : decode cX12_readsRest 77 = .ok (.bipush 20, 2) := by decide +kernel
theorem dX12_readsRest_79 : decode cX12_readsRest 79 = .ok (.invokevirtual 124, 3) := by decide +kernel
theorem dX12_readsRest_82 : decode cX12_readsRest 82 = .ok (.ifCond .eq 7, 3) := by decide +kernel
theorem dX12_readsRest_85 : decode cX12_readsRest 85 = .ok (.iconst 1, 1) := by decide +kernel
theorem dX12_readsRest_86 : decode cX12_readsRest 86 = .ok (.goto 4, 3) := by decide +kernel
theorem dX12_readsRest_89 : decode cX12_readsRest 89 = .ok (.iconst 0, 1) := by decide +kernel
theorem dX12_readsRest_90 : decode cX12_readsRest 90 = .ok (.ireturn, 1) := by decide +kernel
theorem dX12_readsRest_91 : decode cX12_readsRest 91 = .ok (.aload_n 0, 1) := by decide +kernel
theorem dX12_readsRest_92 : decode cX12_readsRest 92 = .ok (.iconst 0, 1) := by decide +kernel
theorem dX12_readsRest_93 : decode cX12_readsRest 93 = .ok (.iconst 3, 1) := by decide +kernel
theorem dX12_readsRest_94 : decode cX12_readsRest 94 = .ok (.invokevirtual 124, 3) := by decide +kernel
theorem dX12_readsRest_97 : decode cX12_readsRest 97 = .ok (.ifCond .eq 31, 3) := by decide +kernel
theorem dX12_readsRest_100 : decode cX12_readsRest 100 = .ok (.aload_n 0, 1) := by decide +kernel
theorem dX12_readsRest_101 : decode cX12_readsRest 101 = .ok (.iconst 0, 1) := by decide +kernel
theorem dX12_readsRest_102 : decode cX12_readsRest 102 = .ok (.aload_n 0, 1) := by decide +kernel
theorem dX12_readsRest_103 : decode cX12_readsRest 103 = .ok (.getfield 134, 3) := by decide +kernel
theorem dX12_readsRest_106 : decode cX12_readsRest 106 = .ok (.iconst 1, 1) := by decide +kernel
theorem dX12_readsRest_107 : decode cX12_readsRest 107 = .ok (.isub, 1) := by decide +kernel
theorem dX12_readsRest_108 : decode cX12_readsRest 108 = .ok (.invokevirtual 124, 3) := by decide +kernel
theorem dX12_readsRest_111 : decode cX12_readsRest 111 = .ok (.ifCond .eq 17, 3) := by decide +kernel
theorem dX12_readsRest_114 : decode cX12_readsRest 114 = .ok (.aload_n 0, 1) := by decide +kernel
theorem dX12_readsRest_115 : decode cX12_readsRest 115 = .ok (.iconst 0, 1) := by decide +kernel
theorem dX12_readsRest_116 : decode cX12_readsRest 116 = .ok (.bipush 20, 2) := by decide +kernel
theorem dX12_readsRest_118 : decode cX12_readsRest 118 = .ok (.invokevirtual 124, 3) := by decide +kernel
theorem dX12_readsRest_121 : decode cX12_readsRest 121 = .ok (.ifCond .eq 7, 3) := by decide +kernel
theorem dX12_readsRest_124 : decode cX12_readsRest 124 = .ok (.iconst 1, 1) := by decide +kernel
theorem dX12_readsRest_125 : decode cX12_readsRest 125 = .ok (.goto 4, 3) := by decide +kernel
theorem dX12_readsRest_128 : decode cX12_readsRest 128 = .ok (.iconst 0, 1) := by decide +kernel
theorem dX12_readsRest_129 : decode cX12_readsRest 129 = .ok (.ireturn, 1) := by decide +kernel
theorem dX12_readsRest_130 : decode cX12_readsRest 130 = .ok (.aload_n 0, 1) := by decide +kernel
theorem dX12_readsRest_131 : decode cX12_readsRest 131 = .ok (.iconst 0, 1) := by decide +kernel
theorem dX12_readsRest_132 : decode cX12_readsRest 132 = .ok (.iconst 3, 1) := by decide +kernel
theorem dX12_readsRest_133 : decode cX12_readsRest 133 = .ok (.invokevirtual 124, 3) := by decide +kernel
theorem dX12_readsRest_136 : decode cX12_readsRest 136 = .ok (.ifCond .eq 17, 3) := by decide +kernel
theorem dX12_readsRest_139 : decode cX12_readsRest 139 = .ok (.aload_n 0, 1) := by decide +kernel
theorem dX12_readsRest_140 : decode cX12_readsRest 140 = .ok (.iconst 0, 1) := by decide +kernel
theorem dX12_readsRest_141 : decode cX12_readsRest 141 = .ok (.bipush 99, 2) := by decide +kernel
theorem dX12_readsRest_143 : decode cX12_readsRest 143 = .ok (.invokevirtual 124, 3) := by decide +kernel
theorem dX12_readsRest_146 : decode cX12_readsRest 146 = .ok (.ifCond .eq 7, 3) := by decide +kernel
theorem dX12_readsRest_149 : decode cX12_readsRest 149 = .ok (.iconst 1, 1) := by decide +kernel
theorem dX12_readsRest_150 : decode cX12_readsRest 150 = .ok (.goto 4, 3) := by decide +kernel
theorem dX12_readsRest_153 : decode cX12_readsRest 153 = .ok (.iconst 0, 1) := by decide +kernel
theorem dX12_readsRest_154 : decode cX12_readsRest 154 = .ok (.ireturn, 1) := by decide +kernel
theorem dX12_readsRest_155 : decode cX12_readsRest 155 = .ok (.aload_n 0, 1) := by decide +kernel
theorem dX12_readsRest_156 : decode cX12_readsRest 156 = .ok (.invokevirtual 137, 3) := by decide +kernel
theorem dX12_readsRest_159 : decode cX12_readsRest 159 = .ok (.ireturn, 1) := by decide +kernel
theorem dX12_readsRest_160 : decode cX12_readsRest 160 = .ok (.iconst 1, 1) := by decide +kernel
theorem dX12_readsRest_161 : decode cX12_readsRest 161 = .ok (.ireturn, 1) := by decide +kernel
theorem dX12_readsRest_162 : decode cX12_readsRest 162 = .ok (.aload_n 0, 1) := by decide +kernel
theorem dX12_readsRest_163 : decode cX12_readsRest 163 = .ok (.iconst 0, 1) := by decide +kernel
theorem dX12_readsRest_164 : decode cX12_readsRest 164 = .ok (.iconst 3, 1) := by decide +kernel
theorem dX12_readsRest_165 : decode cX12_readsRest 165 = .ok (.invokevirtual 124, 3) := by decide +kernel
theorem dX12_readsRest_168 : decode cX12_readsRest 168 = .ok (.ireturn, 1) := by decide +kernel
theorem dX12_readsLine_0 : decode cX12_readsLine 0 = .ok (.aload_n 0, 1) := by decide +kernel
theorem dX12_readsLine_1 : decode cX12_readsLine 1 = .ok (.invokevirtual 140, 3) := by decide +kernel
theorem dX12_readsLine_4 : decode cX12_readsLine 4 = .ok (.istore_n 1, 1) := by decide +kernel
theorem dX12_readsLine_5 : decode cX12_readsLine 5 = .ok (.iload_n 1, 1) := by decide +kernel
theorem dX12_readsLine_6 : decode cX12_readsLine 6 = .ok (.iconst (-1), 1) := by decide +kernel
theorem dX12_readsLine_7 : decode cX12_readsLine 7 = .ok (.if_icmp .ne 5, 3) := by decide +kernel
theorem dX12_readsLine_10 : decode cX12_readsLine 10 = .ok (.iconst 0, 1) := by decide +kernel
theorem dX12_readsLine_11 : decode cX12_readsLine 11 = .ok (.ireturn, 1) := by decide +kernel
theorem dX12_readsLine_12 : decode cX12_readsLine 12 = .ok (.bipush 12, 2) := by decide +kernel
theorem dX12_readsLine_14 : decode cX12_readsLine 14 = .ok (.aload_n 0, 1) := by decide +kernel
theorem dX12_readsLine_15 : decode cX12_readsLine 15 = .ok (.getfield 118, 3) := by decide +kernel
theorem dX12_readsLine_18 : decode cX12_readsLine 18 = .ok (.imul, 1) := by decide +kernel
theorem dX12_readsLine_19 : decode cX12_readsLine 19 = .ok (.istore_n 2, 1) := by decide +kernel
theorem dX12_readsLine_20 : decode cX12_readsLine 20 = .ok (.aload_n 0, 1) := by decide +kernel
theorem dX12_readsLine_21 : decode cX12_readsLine 21 = .ok (.getfield 20, 3) := by decide +kernel
theorem dX12_readsLine_24 : decode cX12_readsLine 24 = .ok (.iload_n 2, 1) := by decide +kernel
theorem dX12_readsLine_25 : decode cX12_readsLine 25 = .ok (.iload_n 1, 1) := by decide +kernel
theorem dX12_readsLine_26 : decode cX12_readsLine 26 = .ok (.iastore, 1) := by decide +kernel
theorem dX12_readsLine_27 : decode cX12_readsLine 27 = .ok (.aload_n 0, 1) := by decide +kernel
theorem dX12_readsLine_28 : decode cX12_readsLine 28 = .ok (.getfield 20, 3) := by decide +kernel
theorem dX12_readsLine_31 : decode cX12_readsLine 31 = .ok (.iload_n 2, 1) := by decide +kernel
theorem dX12_readsLine_32 : decode cX12_readsLine 32 = .ok (.iconst 1, 1) := by decide +kernel
theorem dX12_readsLine_33 : decode cX12_readsLine 33 = .ok (.iadd, 1) := by decide +kernel
theorem dX12_readsLine_34 : decode cX12_readsLine 34 = .ok (.iconst 0, 1) := by decide +kernel
theorem dX12_readsLine_35 : decode cX12_readsLine 35 = .ok (.iastore, 1) := by decide +kernel
theorem dX12_readsLine_36 : decode cX12_readsLine 36 = .ok (.aload_n 0, 1) := by decide +kernel
theorem dX12_readsLine_37 : decode cX12_readsLine 37 = .ok (.invokevirtual 121, 3) := by decide +kernel
theorem dX12_readsLine_40 : decode cX12_readsLine 40 = .ok (.aload_n 0, 1) := by decide +kernel
theorem dX12_readsLine_41 : decode cX12_readsLine 41 = .ok (.iload_n 1, 1) := by decide +kernel
theorem dX12_readsLine_42 : decode cX12_readsLine 42 = .ok (.invokevirtual 143, 3) := by decide +kernel
theorem dX12_readsLine_45 : decode cX12_readsLine 45 = .ok (.ifCond .ne 5, 3) := by decide +kernel
theorem dX12_readsLine_48 : decode cX12_readsLine 48 = .ok (.iconst 0, 1) := by decide +kernel
theorem dX12_readsLine_49 : decode cX12_readsLine 49 = .ok (.ireturn, 1) := by decide +kernel
theorem dX12_readsLine_50 : decode cX12_readsLine 50 = .ok (.aload_n 0, 1) := by decide +kernel
theorem dX12_readsLine_51 : decode cX12_readsLine 51 = .ok (.iload_n 1, 1) := by decide +kernel
theorem dX12_readsLine_52 : decode cX12_readsLine 52 = .ok (.ifCond .ne 14, 3) := by decide +kernel
theorem dX12_readsLine_55 : decode cX12_readsLine 55 = .ok (.aload_n 0, 1) := by decide +kernel
theorem dX12_readsLine_56 : decode cX12_readsLine 56 = .ok (.getfield 20, 3) := by decide +kernel
theorem dX12_readsLine_59 : decode cX12_readsLine 59 = .ok (.iload_n 2, 1) := by decide +kernel
theorem dX12_readsLine_60 : decode cX12_readsLine 60 = .ok (.iconst 1, 1) := by decide +kernel
theorem dX12_readsLine_61 : decode cX12_readsLine 61 = .ok (.iadd, 1) := by decide +kernel
theorem dX12_readsLine_62 : decode cX12_readsLine 62 = .ok (.iaload, 1) := by decide +kernel
theorem dX12_readsLine_63 : decode cX12_readsLine 63 = .ok (.goto 7, 3) := by decide +kernel
theorem dX12_readsLine_66 : decode cX12_readsLine 66 = .ok (.aload_n 0, 1) := by decide +kernel
theorem dX12_readsLine_67 : decode cX12_readsLine 67 = .ok (.getfield 134, 3) := by decide +kernel
theorem dX12_readsLine_70 : decode cX12_readsLine 70 = .ok (.putfield 134, 3) := by decide +kernel
theorem dX12_readsLine_73 : decode cX12_readsLine 73 = .ok (.aload_n 0, 1) := by decide +kernel
theorem dX12_readsLine_74 : decode cX12_readsLine 74 = .ok (.iload_n 1, 1) := by decide +kernel
theorem dX12_readsLine_75 : decode cX12_readsLine 75 = .ok (.bipush 7, 2) := by decide +kernel
theorem dX12_readsLine_77 : decode cX12_readsLine 77 = .ok (.if_icmp .ne 19, 3) := by decide +kernel
theorem dX12_readsLine_80 : decode cX12_readsLine 80 = .ok (.aload_n 0, 1) := by decide +kernel
theorem dX12_readsLine_81 : decode cX12_readsLine 81 = .ok (.getfield 128, 3) := by decide +kernel
theorem dX12_readsLine_84 : decode cX12_readsLine 84 = .ok (.aload_n 0, 1) := by decide +kernel
theorem dX12_readsLine_85 : decode cX12_readsLine 85 = .ok (.getfield 20, 3) := by decide +kernel
theorem dX12_readsLine_88 : decode cX12_readsLine 88 = .ok (.iload_n 2, 1) := by decide +kernel
theorem dX12_readsLine_89 : decode cX12_readsLine 89 = .ok (.iconst 1, 1) := by decide +kernel
theorem dX12_readsLine_90 : decode cX12_readsLine 90 = .ok (.iadd, 1) := by decide +kernel
theorem dX12_readsLine_91 : decode cX12_readsLine 91 = .ok (.iaload, 1) := by decide +kernel
theorem dX12_readsLine_92 : decode cX12_readsLine 92 = .ok (.iadd, 1) := by decide +kernel
theorem dX12_readsLine_93 : decode cX12_readsLine 93 = .ok (.goto 17, 3) := by decide +kernel
theorem dX12_readsLine_96 : decode cX12_readsLine 96 = .ok (.iload_n 1, 1) := by decide +kernel
theorem dX12_readsLine_97 : decode cX12_readsLine 97 = .ok (.bipush 9, 2) := by decide +kernel
theorem dX12_readsLine_99 : decode cX12_readsLine 99 = .ok (.if_icmp .ne 7, 3) := by decide +kernel
theorem dX12_readsLine_102 : decode cX12_readsLine 102 = .ok (.iconst 0, 1) := by decide +kernel
theorem dX12_readsLine_103 : decode cX12_readsLine 103 = .ok (.goto 7, 3) := by decide +kernel
theorem dX12_readsLine_106 : decode cX12_readsLine 106 = .ok (.aload_n 0, 1) := by decide +kernel
theorem dX12_readsLine_107 : decode cX12_readsLine 107 = .ok (.getfield 128, 3) := by decide +kernel
theorem dX12_readsLine_110 : decode cX12_readsLine 110 = .ok (.putfield 128, 3) := by decide +kernel
theorem dX12_readsLine_113 : decode cX12_readsLine 113 = .ok (.aload_n 0, 1) := by decide +kernel
theorem dX12_readsLine_114 : decode cX12_readsLine 114 = .ok (.dup, 1) := by decide +kernel
theorem dX12_readsLine_115 : decode cX12_readsLine 115 = .ok (.getfield 118, 3) := by decide +kernel
theorem dX12_readsLine_118 : decode cX12_readsLine 118 = .ok (.iconst 1, 1) := by decide +kernel
theorem dX12_readsLine_119 : decode cX12_readsLine 119 = .ok (.iadd, 1) := by decide +kernel
theorem dX12_readsLine_120 : decode cX12_readsLine 120 = .ok (.putfield 118, 3) := by decide +kernel
theorem dX12_readsLine_123 : decode cX12_readsLine 123 = .ok (.iconst 1, 1) := by decide +kernel
theorem dX12_readsLine_124 : decode cX12_readsLine 124 = .ok (.ireturn, 1) := by decide +kernel
theorem dX12_fault_0 : decode cX12_fault 0 = .ok (.aload_n 0, 1) := by decide +kernel
theorem dX12_fault_1 : decode cX12_fault 1 = .ok (.iconst 0, 1) := by decide +kernel
theorem dX12_fault_2 : decode cX12_fault 2 = .ok (.putfield 71, 3) := by decide +kernel
theorem dX12_fault_5 : decode cX12_fault 5 = .ok (.aload_n 0, 1) := by decide +kernel
theorem dX12_fault_6 : decode cX12_fault 6 = .ok (.iconst 0, 1) := by decide +kernel
theorem dX12_fault_7 : decode cX12_fault 7 = .ok (.putfield 118, 3) := by decide +kernel
theorem dX12_fault_10 : decode cX12_fault 10 = .ok (.aload_n 0, 1) := by decide +kernel
theorem dX12_fault_11 : decode cX12_fault 11 = .ok (.aload_n 0, 1) := by decide +kernel
theorem dX12_fault_12 : decode cX12_fault 12 = .ok (.getfield 23, 3) := by decide +kernel
theorem dX12_fault_15 : decode cX12_fault 15 = .ok (.putfield 134, 3) := by decide +kernel
theorem dX12_fault_18 : decode cX12_fault 18 = .ok (.aload_n 0, 1) := by decide +kernel
theorem dX12_fault_19 : decode cX12_fault 19 = .ok (.aload_n 0, 1) := by decide +kernel
theorem dX12_fault_20 : decode cX12_fault 20 = .ok (.getfield 147, 3) := by decide +kernel
theorem dX12_fault_23 : decode cX12_fault 23 = .ok (.putfield 128, 3) := by decide +kernel
theorem dX12_fault_26 : decode cX12_fault 26 = .ok (.aload_n 0, 1) := by decide +kernel
theorem dX12_fault_27 : decode cX12_fault 27 = .ok (.invokevirtual 121, 3) := by decide +kernel
theorem dX12_fault_30 : decode cX12_fault 30 = .ok (.aload_n 0, 1) := by decide +kernel
theorem dX12_fault_31 : decode cX12_fault 31 = .ok (.invokevirtual 150, 3) := by decide +kernel
theorem dX12_fault_34 : decode cX12_fault 34 = .ok (.ifCond .ne 8, 3) := by decide +kernel
theorem dX12_fault_37 : decode cX12_fault 37 = .ok (.aload_n 0, 1) := by decide +kernel
theorem dX12_fault_38 : decode cX12_fault 38 = .ok (.getfield 74, 3) := by decide +kernel
theorem dX12_fault_41 : decode cX12_fault 41 = .ok (.ireturn, 1) := by decide +kernel
theorem dX12_fault_42 : decode cX12_fault 42 = .ok (.aload_n 0, 1) := by decide +kernel
theorem dX12_fault_43 : decode cX12_fault 43 = .ok (.getfield 74, 3) := by decide +kernel
theorem dX12_fault_46 : decode cX12_fault 46 = .ok (.aload_n 0, 1) := by decide +kernel
theorem dX12_fault_47 : decode cX12_fault 47 = .ok (.getfield 66, 3) := by decide +kernel
theorem dX12_fault_50 : decode cX12_fault 50 = .ok (.if_icmp .ge 70, 3) := by decide +kernel
theorem dX12_fault_53 : decode cX12_fault 53 = .ok (.aload_n 0, 1) := by decide +kernel
theorem dX12_fault_54 : decode cX12_fault 54 = .ok (.getfield 81, 3) := by decide +kernel
theorem dX12_fault_57 : decode cX12_fault 57 = .ok (.aload_n 0, 1) := by decide +kernel
theorem dX12_fault_58 : decode cX12_fault 58 = .ok (.getfield 74, 3) := by decide +kernel
theorem dX12_fault_61 : decode cX12_fault 61 = .ok (.isub, 1) := by decide +kernel
theorem dX12_fault_62 : decode cX12_fault 62 = .ok (.iconst 1, 1) := by decide +kernel
theorem dX12_fault_63 : decode cX12_fault 63 = .ok (.if_icmp .ne 30, 3) := by decide +kernel
theorem dX12_fault_66 : decode cX12_fault 66 = .ok (.aload_n 0, 1) := by decide +kernel
theorem dX12_fault_67 : decode cX12_fault 67 = .ok (.getfield 17, 3) := by decide +kernel
theorem dX12_fault_70 : decode cX12_fault 70 = .ok (.aload_n 0, 1) := by decide +kernel
theorem dX12_fault_71 : decode cX12_fault 71 = .ok (.getfield 74, 3) := by decide +kernel
theorem dX12_fault_74 : decode cX12_fault 74 = .ok (.iaload, 1) := by decide +kernel
theorem dX12_fault_75 : decode cX12_fault 75 = .ok (.bipush 59, 2) := by decide +kernel
theorem dX12_fault_77 : decode cX12_fault 77 = .ok (.if_icmp .ne 16, 3) := by decide +kernel
theorem dX12_fault_80 : decode cX12_fault 80 = .ok (.aload_n 0, 1) := by decide +kernel
theorem dX12_fault_81 : decode cX12_fault 81 = .ok (.getfield 118, 3) := by decide +kernel
theorem dX12_fault_84 : decode cX12_fault 84 = .ok (.bipush 10, 2) := by decide +kernel
theorem dX12_fault_86 : decode cX12_fault 86 = .ok (.if_icmp .ge 7, 3) := by decide +kernel
theorem dX12_fault_89 : decode cX12_fault 89 = .ok (.iconst 1, 1) := by decide +kernel
theorem dX12_fault_90 : decode cX12_fault 90 = .ok (.goto 4, 3) := by decide +kernel
theorem dX12_fault_93 : decode cX12_fault 93 = .ok (.iconst 0, 1) := by decide +kernel
theorem dX12_fault_94 : decode cX12_fault 94 = .ok (.istore_n 1, 1) := by decide +kernel
theorem dX12_fault_95 : decode cX12_fault 95 = .ok (.iload_n 1, 1) := by decide +kernel
theorem dX12_fault_96 : decode cX12_fault 96 = .ok (.ifCond .eq 12, 3) := by decide +kernel
theorem dX12_fault_99 : decode cX12_fault 99 = .ok (.aload_n 0, 1) := by decide +kernel
theorem dX12_fault_100 : decode cX12_fault 100 = .ok (.invokevirtual 121, 3) := by decide +kernel
theorem dX12_fault_103 : decode cX12_fault 103 = .ok (.aload_n 0, 1) := by decide +kernel
theorem dX12_fault_104 : decode cX12_fault 104 = .ok (.invokevirtual 150, 3) := by decide +kernel
theorem dX12_fault_107 : decode cX12_fault 107 = .ok (.istore_n 1, 1) := by decide +kernel
theorem dX12_fault_108 : decode cX12_fault 108 = .ok (.iload_n 1, 1) := by decide +kernel
theorem dX12_fault_109 : decode cX12_fault 109 = .ok (.ifCond .ne 8, 3) := by decide +kernel
theorem dX12_fault_112 : decode cX12_fault 112 = .ok (.aload_n 0, 1) := by decide +kernel
theorem dX12_fault_113 : decode cX12_fault 113 = .ok (.getfield 74, 3) := by decide +kernel
theorem dX12_fault_116 : decode cX12_fault 116 = .ok (.ireturn, 1) := by decide +kernel
theorem dX12_fault_117 : decode cX12_fault 117 = .ok (.goto (-75), 3) := by decide +kernel
theorem dX12_fault_120 : decode cX12_fault 120 = .ok (.iconst (-1), 1) := by decide +kernel
theorem dX12_fault_121 : decode cX12_fault 121 = .ok (.ireturn, 1) := by decide +kernel
theorem dX12_tellCoins_0 : decode cX12_tellCoins 0 = .ok (.aload_n 0, 1) := by decide +kernel
theorem dX12_tellCoins_1 : decode cX12_tellCoins 1 = .ok (.aload_n 0, 1) := by decide +kernel
theorem dX12_tellCoins_2 : decode cX12_tellCoins 2 = .ok (.getfield 20, 3) := by decide +kernel
theorem dX12_tellCoins_5 : decode cX12_tellCoins 5 = .ok (.iload_n 1, 1) := by decide +kernel
theorem dX12_tellCoins_6 : decode cX12_tellCoins 6 = .ok (.iconst 1, 1) := by decide +kernel
theorem dX12_tellCoins_7 : decode cX12_tellCoins 7 = .ok (.iadd, 1) := by decide +kernel
theorem dX12_tellCoins_8 : decode cX12_tellCoins 8 = .ok (.iaload, 1) := by decide +kernel
theorem dX12_tellCoins_9 : decode cX12_tellCoins 9 = .ok (.putfield 23, 3) := by decide +kernel
theorem dX12_tellCoins_12 : decode cX12_tellCoins 12 = .ok (.iconst 0, 1) := by decide +kernel
theorem dX12_tellCoins_13 : decode cX12_tellCoins 13 = .ok (.istore_n 2, 1) := by decide +kernel
theorem dX12_tellCoins_14 : decode cX12_tellCoins 14 = .ok (.iload_n 2, 1) := by decide +kernel
theorem dX12_tellCoins_15 : decode cX12_tellCoins 15 = .ok (.aload_n 0, 1) := by decide +kernel
theorem dX12_tellCoins_16 : decode cX12_tellCoins 16 = .ok (.getfield 23, 3) := by decide +kernel
theorem dX12_tellCoins_19 : decode cX12_tellCoins 19 = .ok (.if_icmp .ge 25, 3) := by decide +kernel
theorem dX12_tellCoins_22 : decode cX12_tellCoins 22 = .ok (.aload_n 0, 1) := by decide +kernel
theorem dX12_tellCoins_23 : decode cX12_tellCoins 23 = .ok (.getfield 27, 3) := by decide +kernel
theorem dX12_tellCoins_26 : decode cX12_tellCoins 26 = .ok (.iload_n 2, 1) := by decide +kernel
theorem dX12_tellCoins_27 : decode cX12_tellCoins 27 = .ok (.aload_n 0, 1) := by decide +kernel
theorem dX12_tellCoins_28 : decode cX12_tellCoins 28 = .ok (.getfield 20, 3) := by decide +kernel
theorem dX12_tellCoins_31 : decode cX12_tellCoins 31 = .ok (.iload_n 1, 1) := by decide +kernel
theorem dX12_tellCoins_32 : decode cX12_tellCoins 32 = .ok (.iconst 2, 1) := by decide +kernel
theorem dX12_tellCoins_33 : decode cX12_tellCoins 33 = .ok (.iadd, 1) := by decide +kernel
theorem dX12_tellCoins_34 : decode cX12_tellCoins 34 = .ok (.iload_n 2, 1) := by decide +kernel
theorem dX12_tellCoins_35 : decode cX12_tellCoins 35 = .ok (.iadd, 1) := by decide +kernel
theorem dX12_tellCoins_36 : decode cX12_tellCoins 36 = .ok (.iaload, 1) := by decide +kernel
theorem dX12_tellCoins_37 : decode cX12_tellCoins 37 = .ok (.iastore, 1) := by decide +kernel
theorem dX12_tellCoins_38 : decode cX12_tellCoins 38 = .ok (.iinc 2 1, 3) := by decide +kernel
theorem dX12_tellCoins_41 : decode cX12_tellCoins 41 = .ok (.goto (-27), 3) := by decide +kernel
theorem dX12_tellCoins_44 : decode cX12_tellCoins 44 = .ok (.iconst 0, 1) := by decide +kernel
theorem dX12_tellCoins_45 : decode cX12_tellCoins 45 = .ok (.istore_n 2, 1) := by decide +kernel
theorem dX12_tellCoins_46 : decode cX12_tellCoins 46 = .ok (.iload_n 2, 1) := by decide +kernel
theorem dX12_tellCoins_47 : decode cX12_tellCoins 47 = .ok (.bipush 30, 2) := by decide +kernel
theorem dX12_tellCoins_49 : decode cX12_tellCoins 49 = .ok (.if_icmp .ge 16, 3) := by decide +kernel
theorem dX12_tellCoins_52 : decode cX12_tellCoins 52 = .ok (.aload_n 0, 1) := by decide +kernel
theorem dX12_tellCoins_53 : decode cX12_tellCoins 53 = .ok (.getfield 30, 3) := by decide +kernel
theorem dX12_tellCoins_56 : decode cX12_tellCoins 56 = .ok (.iload_n 2, 1) := by decide +kernel
theorem dX12_tellCoins_57 : decode cX12_tellCoins 57 = .ok (.iconst 0, 1) := by decide +kernel
theorem dX12_tellCoins_58 : decode cX12_tellCoins 58 = .ok (.iastore, 1) := by decide +kernel
theorem dX12_tellCoins_59 : decode cX12_tellCoins 59 = .ok (.iinc 2 1, 3) := by decide +kernel
theorem dX12_tellCoins_62 : decode cX12_tellCoins 62 = .ok (.goto (-16), 3) := by decide +kernel
theorem dX12_tellCoins_65 : decode cX12_tellCoins 65 = .ok (.return_, 1) := by decide +kernel
theorem dX12_tellCome_0 : decode cX12_tellCome 0 = .ok (.iconst 0, 1) := by decide +kernel
theorem dX12_tellCome_1 : decode cX12_tellCome 1 = .ok (.istore_n 2, 1) := by decide +kernel
theorem dX12_tellCome_2 : decode cX12_tellCome 2 = .ok (.iload_n 2, 1) := by decide +kernel
theorem dX12_tellCome_3 : decode cX12_tellCome 3 = .ok (.aload_n 0, 1) := by decide +kernel
theorem dX12_tellCome_4 : decode cX12_tellCome 4 = .ok (.getfield 20, 3) := by decide +kernel
theorem dX12_tellCome_7 : decode cX12_tellCome 7 = .ok (.iload_n 1, 1) := by decide +kernel
theorem dX12_tellCome_8 : decode cX12_tellCome 8 = .ok (.iconst 1, 1) := by decide +kernel
theorem dX12_tellCome_9 : decode cX12_tellCome 9 = .ok (.iadd, 1) := by decide +kernel
theorem dX12_tellCome_10 : decode cX12_tellCome 10 = .ok (.iaload, 1) := by decide +kernel
theorem dX12_tellCome_11 : decode cX12_tellCome 11 = .ok (.if_icmp .ge 38, 3) := by decide +kernel
theorem dX12_tellCome_14 : decode cX12_tellCome 14 = .ok (.aload_n 0, 1) := by decide +kernel
theorem dX12_tellCome_15 : decode cX12_tellCome 15 = .ok (.getfield 39, 3) := by decide +kernel
theorem dX12_tellCome_18 : decode cX12_tellCome 18 = .ok (.aload_n 0, 1) := by decide +kernel
theorem dX12_tellCome_19 : decode cX12_tellCome 19 = .ok (.getfield 147, 3) := by decide +kernel
theorem dX12_tellCome_22 : decode cX12_tellCome 22 = .ok (.aload_n 0, 1) := by decide +kernel
theorem dX12_tellCome_23 : decode cX12_tellCome 23 = .ok (.getfield 20, 3) := by decide +kernel
theorem dX12_tellCome_26 : decode cX12_tellCome 26 = .ok (.iload_n 1, 1) := by decide +kernel
theorem dX12_tellCome_27 : decode cX12_tellCome 27 = .ok (.iconst 2, 1) := by decide +kernel
theorem dX12_tellCome_28 : decode cX12_tellCome 28 = .ok (.iadd, 1) := by decide +kernel
theorem dX12_tellCome_29 : decode cX12_tellCome 29 = .ok (.iload_n 2, 1) := by decide +kernel
theorem dX12_tellCome_30 : decode cX12_tellCome 30 = .ok (.iadd, 1) := by decide +kernel
theorem dX12_tellCome_31 : decode cX12_tellCome 31 = .ok (.iaload, 1) := by decide +kernel
theorem dX12_tellCome_32 : decode cX12_tellCome 32 = .ok (.iastore, 1) := by decide +kernel
theorem dX12_tellCome_33 : decode cX12_tellCome 33 = .ok (.aload_n 0, 1) := by decide +kernel
theorem dX12_tellCome_34 : decode cX12_tellCome 34 = .ok (.dup, 1) := by decide +kernel
theorem dX12_tellCome_35 : decode cX12_tellCome 35 = .ok (.getfield 147, 3) := by decide +kernel
theorem dX12_tellCome_38 : decode cX12_tellCome 38 = .ok (.iconst 1, 1) := by decide +kernel
theorem dX12_tellCome_39 : decode cX12_tellCome 39 = .ok (.iadd, 1) := by decide +kernel
theorem dX12_tellCome_40 : decode cX12_tellCome 40 = .ok (.putfield 147, 3) := by decide +kernel
theorem dX12_tellCome_43 : decode cX12_tellCome 43 = .ok (.iinc 2 1, 3) := by decide +kernel
theorem dX12_tellCome_46 : decode cX12_tellCome 46 = .ok (.goto (-44), 3) := by decide +kernel
theorem dX12_tellCome_49 : decode cX12_tellCome 49 = .ok (.return_, 1) := by decide +kernel
theorem dX12_tell_0 : decode cX12_tell 0 = .ok (.aload_n 0, 1) := by decide +kernel
theorem dX12_tell_1 : decode cX12_tell 1 = .ok (.getfield 20, 3) := by decide +kernel
theorem dX12_tell_4 : decode cX12_tell 4 = .ok (.iload_n 1, 1) := by decide +kernel
theorem dX12_tell_5 : decode cX12_tell 5 = .ok (.iconst 2, 1) := by decide +kernel
theorem dX12_tell_6 : decode cX12_tell 6 = .ok (.iadd, 1) := by decide +kernel
theorem dX12_tell_7 : decode cX12_tell 7 = .ok (.iaload, 1) := by decide +kernel
theorem dX12_tell_8 : decode cX12_tell 8 = .ok (.istore_n 2, 1) := by decide +kernel
theorem dX12_tell_9 : decode cX12_tell 9 = .ok (.aload_n 0, 1) := by decide +kernel
theorem dX12_tell_10 : decode cX12_tell 10 = .ok (.getfield 20, 3) := by decide +kernel
theorem dX12_tell_13 : decode cX12_tell 13 = .ok (.iload_n 1, 1) := by decide +kernel
theorem dX12_tell_14 : decode cX12_tell 14 = .ok (.iaload, 1) := by decide +kernel
theorem dX12_tell_15 : decode cX12_tell 15 = .ok (.tableswitch 124 0 9 #[53, 59, 76, 124, 124, 124, 124, 106, 112, 118], 53) := by decide +kernel
theorem dX12_tell_68 : decode cX12_tell 68 = .ok (.aload_n 0, 1) := by decide +kernel
theorem dX12_tell_69 : decode cX12_tell 69 = .ok (.iload_n 1, 1) := by decide +kernel
theorem dX12_tell_70 : decode cX12_tell 70 = .ok (.invokevirtual 153, 3) := by decide +kernel
theorem dX12_tell_73 : decode cX12_tell 73 = .ok (.return_, 1) := by decide +kernel
theorem dX12_tell_74 : decode cX12_tell 74 = .ok (.aload_n 0, 1) := by decide +kernel
theorem dX12_tell_75 : decode cX12_tell 75 = .ok (.getfield 30, 3) := by decide +kernel
theorem dX12_tell_78 : decode cX12_tell 78 = .ok (.iconst 0, 1) := by decide +kernel
theorem dX12_tell_79 : decode cX12_tell 79 = .ok (.iload_n 2, 1) := by decide +kernel
theorem dX12_tell_80 : decode cX12_tell 80 = .ok (.iadd, 1) := by decide +kernel
theorem dX12_tell_81 : decode cX12_tell 81 = .ok (.aload_n 0, 1) := by decide +kernel
theorem dX12_tell_82 : decode cX12_tell 82 = .ok (.getfield 20, 3) := by decide +kernel
theorem dX12_tell_85 : decode cX12_tell 85 = .ok (.iload_n 1, 1) := by decide +kernel
theorem dX12_tell_86 : decode cX12_tell 86 = .ok (.iconst 3, 1) := by decide +kernel
theorem dX12_tell_87 : decode cX12_tell 87 = .ok (.iadd, 1) := by decide +kernel
theorem dX12_tell_88 : decode cX12_tell 88 = .ok (.iaload, 1) := by decide +kernel
theorem dX12_tell_89 : decode cX12_tell 89 = .ok (.iastore, 1) := by decide +kernel
theorem dX12_tell_90 : decode cX12_tell 90 = .ok (.return_, 1) := by decide +kernel
theorem dX12_tell_91 : decode cX12_tell 91 = .ok (.aload_n 0, 1) := by decide +kernel
theorem dX12_tell_92 : decode cX12_tell 92 = .ok (.getfield 30, 3) := by decide +kernel
theorem dX12_tell_95 : decode cX12_tell 95 = .ok (.bipush 6, 2) := by decide +kernel
theorem dX12_tell_97 : decode cX12_tell 97 = .ok (.bipush 6, 2) := by decide +kernel
theorem dX12_tell_99 : decode cX12_tell 99 = .ok (.iload_n 2, 1) := by decide +kernel
theorem dX12_tell_100 : decode cX12_tell 100 = .ok (.imul, 1) := by decide +kernel
theorem dX12_tell_101 : decode cX12_tell 101 = .ok (.iadd, 1) := by decide +kernel
theorem dX12_tell_102 : decode cX12_tell 102 = .ok (.aload_n 0, 1) := by decide +kernel
theorem dX12_tell_103 : decode cX12_tell 103 = .ok (.getfield 20, 3) := by decide +kernel
theorem dX12_tell_106 : decode cX12_tell 106 = .ok (.iload_n 1, 1) := by decide +kernel
theorem dX12_tell_107 : decode cX12_tell 107 = .ok (.iconst 3, 1) := by decide +kernel
theorem dX12_tell_108 : decode cX12_tell 108 = .ok (.iadd, 1) := by decide +kernel
theorem dX12_tell_109 : decode cX12_tell 109 = .ok (.iaload, 1) := by decide +kernel
theorem dX12_tell_110 : decode cX12_tell 110 = .ok (.iadd, 1) := by decide +kernel
theorem dX12_tell_111 : decode cX12_tell 111 = .ok (.aload_n 0, 1) := by decide +kernel
theorem dX12_tell_112 : decode cX12_tell 112 = .ok (.getfield 20, 3) := by decide +kernel
theorem dX12_tell_115 : decode cX12_tell 115 = .ok (.iload_n 1, 1) := by decide +kernel
theorem dX12_tell_116 : decode cX12_tell 116 = .ok (.iconst 4, 1) := by decide +kernel
theorem dX12_tell_117 : decode cX12_tell 117 = .ok (.iadd, 1) := by decide +kernel
theorem dX12_tell_118 : decode cX12_tell 118 = .ok (.iaload, 1) := by decide +kernel
theorem dX12_tell_119 : decode cX12_tell 119 = .ok (.iastore, 1) := by decide +kernel
theorem dX12_tell_120 : decode cX12_tell 120 = .ok (.return_, 1) := by decide +kernel
theorem dX12_tell_121 : decode cX12_tell 121 = .ok (.aload_n 0, 1) := by decide +kernel
theorem dX12_tell_122 : decode cX12_tell 122 = .ok (.iload_n 1, 1) := by decide +kernel
theorem dX12_tell_123 : decode cX12_tell 123 = .ok (.invokevirtual 157, 3) := by decide +kernel
theorem dX12_tell_126 : decode cX12_tell 126 = .ok (.return_, 1) := by decide +kernel
theorem dX12_tell_127 : decode cX12_tell 127 = .ok (.aload_n 0, 1) := by decide +kernel
theorem dX12_tell_128 : decode cX12_tell 128 = .ok (.iload_n 2, 1) := by decide +kernel
theorem dX12_tell_129 : decode cX12_tell 129 = .ok (.putfield 160, 3) := by decide +kernel
theorem dX12_tell_132 : decode cX12_tell 132 = .ok (.return_, 1) := by decide +kernel
theorem dX12_tell_133 : decode cX12_tell 133 = .ok (.aload_n 0, 1) := by decide +kernel
theorem dX12_tell_134 : decode cX12_tell 134 = .ok (.iconst 0, 1) := by decide +kernel
theorem dX12_tell_135 : decode cX12_tell 135 = .ok (.putfield 147, 3) := by decide +kernel
theorem dX12_tell_138 : decode cX12_tell 138 = .ok (.return_, 1) := by decide +kernel
theorem dX12_tell_139 : decode cX12_tell 139 = .ok (.aload_n 0, 1) := by decide +kernel
theorem dX12_tell_140 : decode cX12_tell 140 = .ok (.getfield 33, 3) := by decide +kernel
theorem dX12_tell_143 : decode cX12_tell 143 = .ok (.iload_n 2, 1) := by decide +kernel
theorem dX12_tell_144 : decode cX12_tell 144 = .ok (.aload_n 0, 1) := by decide +kernel
theorem dX12_tell_145 : decode cX12_tell 145 = .ok (.getfield 20, 3) := by decide +kernel
theorem dX12_tell_148 : decode cX12_tell 148 = .ok (.iload_n 1, 1) := by decide +kernel
theorem dX12_tell_149 : decode cX12_tell 149 = .ok (.iaload, 1) := by decide +kernel
theorem dX12_tell_150 : decode cX12_tell 150 = .ok (.iconst 3, 1) := by decide +kernel
theorem dX12_tell_151 : decode cX12_tell 151 = .ok (.isub, 1) := by decide +kernel
theorem dX12_tell_152 : decode cX12_tell 152 = .ok (.iastore, 1) := by decide +kernel
theorem dX12_tell_153 : decode cX12_tell 153 = .ok (.aload_n 0, 1) := by decide +kernel
theorem dX12_tell_154 : decode cX12_tell 154 = .ok (.getfield 36, 3) := by decide +kernel
theorem dX12_tell_157 : decode cX12_tell 157 = .ok (.iload_n 2, 1) := by decide +kernel
theorem dX12_tell_158 : decode cX12_tell 158 = .ok (.aload_n 0, 1) := by decide +kernel
theorem dX12_tell_159 : decode cX12_tell 159 = .ok (.getfield 20, 3) := by decide +kernel
theorem dX12_tell_162 : decode cX12_tell 162 = .ok (.iload_n 1, 1) := by decide +kernel
theorem dX12_tell_163 : decode cX12_tell 163 = .ok (.iconst 3, 1) := by decide +kernel
theorem dX12_tell_164 : decode cX12_tell 164 = .ok (.iadd, 1) := by decide +kernel
theorem dX12_tell_165 : decode cX12_tell 165 = .ok (.iaload, 1) := by decide +kernel
theorem dX12_tell_166 : decode cX12_tell 166 = .ok (.iastore, 1) := by decide +kernel
theorem dX12_tell_167 : decode cX12_tell 167 = .ok (.return_, 1) := by decide +kernel
theorem dX12_sunday_0 : decode cX12_sunday 0 = .ok (.aload_n 0, 1) := by decide +kernel
theorem dX12_sunday_1 : decode cX12_sunday 1 = .ok (.invokevirtual 163, 3) := by decide +kernel
theorem dX12_sunday_4 : decode cX12_sunday 4 = .ok (.iconst (-1), 1) := by decide +kernel
theorem dX12_sunday_5 : decode cX12_sunday 5 = .ok (.if_icmp .eq 6, 3) := by decide +kernel
theorem dX12_sunday_8 : decode cX12_sunday 8 = .ok (.bipush (-4), 2) := by decide +kernel
theorem dX12_sunday_10 : decode cX12_sunday 10 = .ok (.ireturn, 1) := by decide +kernel
theorem dX12_sunday_11 : decode cX12_sunday 11 = .ok (.iconst 0, 1) := by decide +kernel
theorem dX12_sunday_12 : decode cX12_sunday 12 = .ok (.istore_n 1, 1) := by decide +kernel
theorem dX12_sunday_13 : decode cX12_sunday 13 = .ok (.iload_n 1, 1) := by decide +kernel
theorem dX12_sunday_14 : decode cX12_sunday 14 = .ok (.aload_n 0, 1) := by decide +kernel
theorem dX12_sunday_15 : decode cX12_sunday 15 = .ok (.getfield 118, 3) := by decide +kernel
theorem dX12_sunday_18 : decode cX12_sunday 18 = .ok (.if_icmp .ge 17, 3) := by decide +kernel
theorem dX12_sunday_21 : decode cX12_sunday 21 = .ok (.aload_n 0, 1) := by decide +kernel
theorem dX12_sunday_22 : decode cX12_sunday 22 = .ok (.bipush 12, 2) := by decide +kernel
theorem dX12_sunday_24 : decode cX12_sunday 24 = .ok (.iload_n 1, 1) := by decide +kernel
theorem dX12_sunday_25 : decode cX12_sunday 25 = .ok (.imul, 1) := by decide +kernel
theorem dX12_sunday_26 : decode cX12_sunday 26 = .ok (.invokevirtual 166, 3) := by decide +kernel
theorem dX12_sunday_29 : decode cX12_sunday 29 = .ok (.iinc 1 1, 3) := by decide +kernel
theorem dX12_sunday_32 : decode cX12_sunday 32 = .ok (.goto (-19), 3) := by decide +kernel
theorem dX12_sunday_35 : decode cX12_sunday 35 = .ok (.aload_n 0, 1) := by decide +kernel
theorem dX12_sunday_36 : decode cX12_sunday 36 = .ok (.invokevirtual 169, 3) := by decide +kernel
theorem dX12_sunday_39 : decode cX12_sunday 39 = .ok (.aload_n 0, 1) := by decide +kernel
theorem dX12_sunday_40 : decode cX12_sunday 40 = .ok (.iconst 0, 1) := by decide +kernel
theorem dX12_sunday_41 : decode cX12_sunday 41 = .ok (.putfield 172, 3) := by decide +kernel
theorem dX12_sunday_44 : decode cX12_sunday 44 = .ok (.aload_n 0, 1) := by decide +kernel
theorem dX12_sunday_45 : decode cX12_sunday 45 = .ok (.getfield 13, 3) := by decide +kernel
theorem dX12_sunday_48 : decode cX12_sunday 48 = .ok (.iconst 0, 1) := by decide +kernel
theorem dX12_sunday_49 : decode cX12_sunday 49 = .ok (.iconst 0, 1) := by decide +kernel
theorem dX12_sunday_50 : decode cX12_sunday 50 = .ok (.bastore, 1) := by decide +kernel
theorem dX12_sunday_51 : decode cX12_sunday 51 = .ok (.aload_n 0, 1) := by decide +kernel
theorem dX12_sunday_52 : decode cX12_sunday 52 = .ok (.getfield 13, 3) := by decide +kernel
theorem dX12_sunday_55 : decode cX12_sunday 55 = .ok (.iconst 1, 1) := by decide +kernel
theorem dX12_sunday_56 : decode cX12_sunday 56 = .ok (.iconst 0, 1) := by decide +kernel
theorem dX12_sunday_57 : decode cX12_sunday 57 = .ok (.bastore, 1) := by decide +kernel
theorem dX12_sunday_58 : decode cX12_sunday 58 = .ok (.aload_n 0, 1) := by decide +kernel
theorem dX12_sunday_59 : decode cX12_sunday 59 = .ok (.iconst 0, 1) := by decide +kernel
theorem dX12_sunday_60 : decode cX12_sunday 60 = .ok (.putfield 66, 3) := by decide +kernel
theorem dX12_sunday_63 : decode cX12_sunday 63 = .ok (.aload_n 0, 1) := by decide +kernel
theorem dX12_sunday_64 : decode cX12_sunday 64 = .ok (.getfield 118, 3) := by decide +kernel
theorem dX12_sunday_67 : decode cX12_sunday 67 = .ok (.ireturn, 1) := by decide +kernel
theorem dX12_isKind_0 : decode cX12_isKind 0 = .ok (.iload_n 1, 1) := by decide +kernel
theorem dX12_isKind_1 : decode cX12_isKind 1 = .ok (.i2l, 1) := by decide +kernel
theorem dX12_isKind_2 : decode cX12_isKind 2 = .ok (.lconst 0, 1) := by decide +kernel
theorem dX12_isKind_3 : decode cX12_isKind 3 = .ok (.aload_n 0, 1) := by decide +kernel
theorem dX12_isKind_4 : decode cX12_isKind 4 = .ok (.getfield 23, 3) := by decide +kernel
theorem dX12_isKind_7 : decode cX12_isKind 7 = .ok (.iconst 1, 1) := by decide +kernel
theorem dX12_isKind_8 : decode cX12_isKind 8 = .ok (.isub, 1) := by decide +kernel
theorem dX12_isKind_9 : decode cX12_isKind 9 = .ok (.i2l, 1) := by decide +kernel
theorem dX12_isKind_10 : decode cX12_isKind 10 = .ok (.invokestatic 62, 3) := by decide +kernel
theorem dX12_isKind_13 : decode cX12_isKind 13 = .ok (.ireturn, 1) := by decide +kernel
theorem dX12_isPerson_0 : decode cX12_isPerson 0 = .ok (.iload_n 0, 1) := by decide +kernel
theorem dX12_isPerson_1 : decode cX12_isPerson 1 = .ok (.i2l, 1) := by decide +kernel
theorem dX12_isPerson_2 : decode cX12_isPerson 2 = .ok (.lconst 0, 1) := by decide +kernel
theorem dX12_isPerson_3 : decode cX12_isPerson 3 = .ok (.ldc2_w 175, 3) := by decide +kernel
theorem dX12_isPerson_6 : decode cX12_isPerson 6 = .ok (.invokestatic 62, 3) := by decide +kernel
theorem dX12_isPerson_9 : decode cX12_isPerson 9 = .ok (.ireturn, 1) := by decide +kernel
theorem dX12_coin_0 : decode cX12_coin 0 = .ok (.aload_n 0, 1) := by decide +kernel
theorem dX12_coin_1 : decode cX12_coin 1 = .ok (.iload_n 1, 1) := by decide +kernel
theorem dX12_coin_2 : decode cX12_coin 2 = .ok (.invokevirtual 177, 3) := by decide +kernel
theorem dX12_coin_5 : decode cX12_coin 5 = .ok (.ifCond .ne 6, 3) := by decide +kernel
theorem dX12_coin_8 : decode cX12_coin 8 = .ok (.bipush (-2), 2) := by decide +kernel
theorem dX12_coin_10 : decode cX12_coin 10 = .ok (.ireturn, 1) := by decide +kernel
theorem dX12_coin_11 : decode cX12_coin 11 = .ok (.iload_n 2, 1) := by decide +kernel
theorem dX12_coin_12 : decode cX12_coin 12 = .ok (.ifCond .ne 12, 3) := by decide +kernel
theorem dX12_coin_15 : decode cX12_coin 15 = .ok (.aload_n 0, 1) := by decide +kernel
theorem dX12_coin_16 : decode cX12_coin 16 = .ok (.getfield 27, 3) := by decide +kernel
theorem dX12_coin_19 : decode cX12_coin 19 = .ok (.iload_n 1, 1) := by decide +kernel
theorem dX12_coin_20 : decode cX12_coin 20 = .ok (.iaload, 1) := by decide +kernel
theorem dX12_coin_21 : decode cX12_coin 21 = .ok (.goto 21, 3) := by decide +kernel
theorem dX12_coin_24 : decode cX12_coin 24 = .ok (.iload_n 2, 1) := by decide +kernel
theorem dX12_coin_25 : decode cX12_coin 25 = .ok (.iconst 1, 1) := by decide +kernel
theorem dX12_coin_26 : decode cX12_coin 26 = .ok (.if_icmp .ne 14, 3) := by decide +kernel
theorem dX12_coin_29 : decode cX12_coin 29 = .ok (.aload_n 0, 1) := by decide +kernel
theorem dX12_coin_30 : decode cX12_coin 30 = .ok (.getfield 7, 3) := by decide +kernel
theorem dX12_coin_33 : decode cX12_coin 33 = .ok (.iconst 0, 1) := by decide +kernel
theorem dX12_coin_34 : decode cX12_coin 34 = .ok (.iload_n 1, 1) := by decide +kernel
theorem dX12_coin_35 : decode cX12_coin 35 = .ok (.iadd, 1) := by decide +kernel
theorem dX12_coin_36 : decode cX12_coin 36 = .ok (.iaload, 1) := by decide +kernel
theorem dX12_coin_37 : decode cX12_coin 37 = .ok (.goto 5, 3) := by decide +kernel
theorem dX12_coin_40 : decode cX12_coin 40 = .ok (.bipush (-3), 2) := by decide +kernel
theorem dX12_coin_42 : decode cX12_coin 42 = .ok (.ireturn, 1) := by decide +kernel
theorem dX12_purse_0 : decode cX12_purse 0 = .ok (.iload_n 1, 1) := by decide +kernel
theorem dX12_purse_1 : decode cX12_purse 1 = .ok (.invokestatic 180, 3) := by decide +kernel
theorem dX12_purse_4 : decode cX12_purse 4 = .ok (.ifCond .eq 28, 3) := by decide +kernel
theorem dX12_purse_7 : decode cX12_purse 7 = .ok (.aload_n 0, 1) := by decide +kernel
theorem dX12_purse_8 : decode cX12_purse 8 = .ok (.iload_n 2, 1) := by decide +kernel
theorem dX12_purse_9 : decode cX12_purse 9 = .ok (.invokevirtual 177, 3) := by decide +kernel
theorem dX12_purse_12 : decode cX12_purse 12 = .ok (.ifCond .eq 20, 3) := by decide +kernel
theorem dX12_purse_15 : decode cX12_purse 15 = .ok (.aload_n 0, 1) := by decide +kernel
theorem dX12_purse_16 : decode cX12_purse 16 = .ok (.getfield 7, 3) := by decide +kernel
theorem dX12_purse_19 : decode cX12_purse 19 = .ok (.bipush 6, 2) := by decide +kernel
theorem dX12_purse_21 : decode cX12_purse 21 = .ok (.bipush 6, 2) := by decide +kernel
theorem dX12_purse_23 : decode cX12_purse 23 = .ok (.iload_n 1, 1) := by decide +kernel
theorem dX12_purse_24 : decode cX12_purse 24 = .ok (.imul, 1) := by decide +kernel
theorem dX12_purse_25 : decode cX12_purse 25 = .ok (.iadd, 1) := by decide +kernel
theorem dX12_purse_26 : decode cX12_purse 26 = .ok (.iload_n 2, 1) := by decide +kernel
theorem dX12_purse_27 : decode cX12_purse 27 = .ok (.iadd, 1) := by decide +kernel
theorem dX12_purse_28 : decode cX12_purse 28 = .ok (.iaload, 1) := by decide +kernel
theorem dX12_purse_29 : decode cX12_purse 29 = .ok (.goto 5, 3) := by decide +kernel
theorem dX12_purse_32 : decode cX12_purse 32 = .ok (.bipush (-2), 2) := by decide +kernel
theorem dX12_purse_34 : decode cX12_purse 34 = .ok (.ireturn, 1) := by decide +kernel
theorem dX12_worthOf_0 : decode cX12_worthOf 0 = .ok (.iconst 0, 1) := by decide +kernel
theorem dX12_worthOf_1 : decode cX12_worthOf 1 = .ok (.istore_n 3, 1) := by decide +kernel
theorem dX12_worthOf_2 : decode cX12_worthOf 2 = .ok (.iconst 0, 1) := by decide +kernel
theorem dX12_worthOf_3 : decode cX12_worthOf 3 = .ok (.istore 4, 2) := by decide +kernel
theorem dX12_worthOf_5 : decode cX12_worthOf 5 = .ok (.iload 4, 2) := by decide +kernel
theorem dX12_worthOf_7 : decode cX12_worthOf 7 = .ok (.aload_n 0, 1) := by decide +kernel
theorem dX12_worthOf_8 : decode cX12_worthOf 8 = .ok (.getfield 23, 3) := by decide +kernel
theorem dX12_worthOf_11 : decode cX12_worthOf 11 = .ok (.if_icmp .ge 37, 3) := by decide +kernel
theorem dX12_worthOf_14 : decode cX12_worthOf 14 = .ok (.iload_n 3, 1) := by decide +kernel
theorem dX12_worthOf_15 : decode cX12_worthOf 15 = .ok (.aload_n 0, 1) := by decide +kernel
theorem dX12_worthOf_16 : decode cX12_worthOf 16 = .ok (.getfield 7, 3) := by decide +kernel
theorem dX12_worthOf_19 : decode cX12_worthOf 19 = .ok (.iload_n 1, 1) := by decide +kernel
theorem dX12_worthOf_20 : decode cX12_worthOf 20 = .ok (.bipush 6, 2) := by decide +kernel
theorem dX12_worthOf_22 : decode cX12_worthOf 22 = .ok (.iadd, 1) := by decide +kernel
theorem dX12_worthOf_23 : decode cX12_worthOf 23 = .ok (.bipush 6, 2) := by decide +kernel
theorem dX12_worthOf_25 : decode cX12_worthOf 25 = .ok (.iload_n 2, 1) := by decide +kernel
theorem dX12_worthOf_26 : decode cX12_worthOf 26 = .ok (.imul, 1) := by decide +kernel
theorem dX12_worthOf_27 : decode cX12_worthOf 27 = .ok (.iadd, 1) := by decide +kernel
theorem dX12_worthOf_28 : decode cX12_worthOf 28 = .ok (.iload 4, 2) := by decide +kernel
theorem dX12_worthOf_30 : decode cX12_worthOf 30 = .ok (.iadd, 1) := by decide +kernel
theorem dX12_worthOf_31 : decode cX12_worthOf 31 = .ok (.iaload, 1) := by decide +kernel
theorem dX12_worthOf_32 : decode cX12_worthOf 32 = .ok (.aload_n 0, 1) := by decide +kernel
theorem dX12_worthOf_33 : decode cX12_worthOf 33 = .ok (.getfield 27, 3) := by decide +kernel
theorem dX12_worthOf_36 : decode cX12_worthOf 36 = .ok (.iload 4, 2) := by decide +kernel
theorem dX12_worthOf_38 : decode cX12_worthOf 38 = .ok (.iaload, 1) := by decide +kernel
theorem dX12_worthOf_39 : decode cX12_worthOf 39 = .ok (.imul, 1) := by decide +kernel
theorem dX12_worthOf_40 : decode cX12_worthOf 40 = .ok (.iadd, 1) := by decide +kernel
theorem dX12_worthOf_41 : decode cX12_worthOf 41 = .ok (.istore_n 3, 1) := by decide +kernel
theorem dX12_worthOf_42 : decode cX12_worthOf 42 = .ok (.iinc 4 1, 3) := by decide +kernel
theorem dX12_worthOf_45 : decode cX12_worthOf 45 = .ok (.goto (-40), 3) := by decide +kernel
theorem dX12_worthOf_48 : decode cX12_worthOf 48 = .ok (.iload_n 3, 1) := by decide +kernel
theorem dX12_worthOf_49 : decode cX12_worthOf 49 = .ok (.ireturn, 1) := by decide +kernel
theorem dX12_visitsLeft_0 : decode cX12_visitsLeft 0 = .ok (.aload_n 0, 1) := by decide +kernel
theorem dX12_visitsLeft_1 : decode cX12_visitsLeft 1 = .ok (.getfield 147, 3) := by decide +kernel
theorem dX12_visitsLeft_4 : decode cX12_visitsLeft 4 = .ok (.aload_n 0, 1) := by decide +kernel
theorem dX12_visitsLeft_5 : decode cX12_visitsLeft 5 = .ok (.getfield 7, 3) := by decide +kernel
theorem dX12_visitsLeft_8 : decode cX12_visitsLeft 8 = .ok (.bipush 30, 2) := by decide +kernel
theorem dX12_visitsLeft_10 : decode cX12_visitsLeft 10 = .ok (.iaload, 1) := by decide +kernel
theorem dX12_visitsLeft_11 : decode cX12_visitsLeft 11 = .ok (.isub, 1) := by decide +kernel
theorem dX12_visitsLeft_12 : decode cX12_visitsLeft 12 = .ok (.ireturn, 1) := by decide +kernel
theorem dX12_leftOf_0 : decode cX12_leftOf 0 = .ok (.iconst 0, 1) := by decide +kernel
theorem dX12_leftOf_1 : decode cX12_leftOf 1 = .ok (.istore_n 2, 1) := by decide +kernel
theorem dX12_leftOf_2 : decode cX12_leftOf 2 = .ok (.aload_n 0, 1) := by decide +kernel
theorem dX12_leftOf_3 : decode cX12_leftOf 3 = .ok (.getfield 7, 3) := by decide +kernel
theorem dX12_leftOf_6 : decode cX12_leftOf 6 = .ok (.bipush 30, 2) := by decide +kernel
theorem dX12_leftOf_8 : decode cX12_leftOf 8 = .ok (.iaload, 1) := by decide +kernel
theorem dX12_leftOf_9 : decode cX12_leftOf 9 = .ok (.istore_n 3, 1) := by decide +kernel
theorem dX12_leftOf_10 : decode cX12_leftOf 10 = .ok (.iload_n 3, 1) := by decide +kernel
theorem dX12_leftOf_11 : decode cX12_leftOf 11 = .ok (.aload_n 0, 1) := by decide +kernel
theorem dX12_leftOf_12 : decode cX12_leftOf 12 = .ok (.getfield 147, 3) := by decide +kernel
theorem dX12_leftOf_15 : decode cX12_leftOf 15 = .ok (.if_icmp .ge 30, 3) := by decide +kernel
theorem dX12_leftOf_18 : decode cX12_leftOf 18 = .ok (.iload_n 2, 1) := by decide +kernel
theorem dX12_leftOf_19 : decode cX12_leftOf 19 = .ok (.iload_n 1, 1) := by decide +kernel
theorem dX12_leftOf_20 : decode cX12_leftOf 20 = .ok (.aload_n 0, 1) := by decide +kernel
theorem dX12_leftOf_21 : decode cX12_leftOf 21 = .ok (.getfield 39, 3) := by decide +kernel
theorem dX12_leftOf_24 : decode cX12_leftOf 24 = .ok (.iload_n 3, 1) := by decide +kernel
theorem dX12_leftOf_25 : decode cX12_leftOf 25 = .ok (.iaload, 1) := by decide +kernel
theorem dX12_leftOf_26 : decode cX12_leftOf 26 = .ok (.invokestatic 183, 3) := by decide +kernel
theorem dX12_leftOf_29 : decode cX12_leftOf 29 = .ok (.ifCond .eq 7, 3) := by decide +kernel
theorem dX12_leftOf_32 : decode cX12_leftOf 32 = .ok (.iconst 1, 1) := by decide +kernel
theorem dX12_leftOf_33 : decode cX12_leftOf 33 = .ok (.goto 4, 3) := by decide +kernel
theorem dX12_leftOf_36 : decode cX12_leftOf 36 = .ok (.iconst 0, 1) := by decide +kernel
theorem dX12_leftOf_37 : decode cX12_leftOf 37 = .ok (.iadd, 1) := by decide +kernel
theorem dX12_leftOf_38 : decode cX12_leftOf 38 = .ok (.istore_n 2, 1) := by decide +kernel
theorem dX12_leftOf_39 : decode cX12_leftOf 39 = .ok (.iinc 3 1, 3) := by decide +kernel
theorem dX12_leftOf_42 : decode cX12_leftOf 42 = .ok (.goto (-32), 3) := by decide +kernel
theorem dX12_leftOf_45 : decode cX12_leftOf 45 = .ok (.iload_n 2, 1) := by decide +kernel
theorem dX12_leftOf_46 : decode cX12_leftOf 46 = .ok (.ireturn, 1) := by decide +kernel
theorem dX12_person_0 : decode cX12_person 0 = .ok (.iload_n 1, 1) := by decide +kernel
theorem dX12_person_1 : decode cX12_person 1 = .ok (.invokestatic 180, 3) := by decide +kernel
theorem dX12_person_4 : decode cX12_person 4 = .ok (.ifCond .ne 6, 3) := by decide +kernel
theorem dX12_person_7 : decode cX12_person 7 = .ok (.bipush (-2), 2) := by decide +kernel
theorem dX12_person_9 : decode cX12_person 9 = .ok (.ireturn, 1) := by decide +kernel
theorem dX12_person_10 : decode cX12_person 10 = .ok (.iload_n 2, 1) := by decide +kernel
theorem dX12_person_11 : decode cX12_person 11 = .ok (.tableswitch 72 0 3 #[29, 36, 43, 64], 29) := by decide +kernel
theorem dX12_person_40 : decode cX12_person 40 = .ok (.aload_n 0, 1) := by decide +kernel
theorem dX12_person_41 : decode cX12_person 41 = .ok (.iconst 0, 1) := by decide +kernel
theorem dX12_person_42 : decode cX12_person 42 = .ok (.iload_n 1, 1) := by decide +kernel
theorem dX12_person_43 : decode cX12_person 43 = .ok (.invokevirtual 186, 3) := by decide +kernel
theorem dX12_person_46 : decode cX12_person 46 = .ok (.ireturn, 1) := by decide +kernel
theorem dX12_person_47 : decode cX12_person 47 = .ok (.aload_n 0, 1) := by decide +kernel
theorem dX12_person_48 : decode cX12_person 48 = .ok (.getfield 33, 3) := by decide +kernel
theorem dX12_person_51 : decode cX12_person 51 = .ok (.iload_n 1, 1) := by decide +kernel
theorem dX12_person_52 : decode cX12_person 52 = .ok (.iaload, 1) := by decide +kernel
theorem dX12_person_53 : decode cX12_person 53 = .ok (.ireturn, 1) := by decide +kernel
theorem dX12_person_54 : decode cX12_person 54 = .ok (.aload_n 0, 1) := by decide +kernel
theorem dX12_person_55 : decode cX12_person 55 = .ok (.getfield 33, 3) := by decide +kernel
theorem dX12_person_58 : decode cX12_person 58 = .ok (.iload_n 1, 1) := by decide +kernel
theorem dX12_person_59 : decode cX12_person 59 = .ok (.iaload, 1) := by decide +kernel
theorem dX12_person_60 : decode cX12_person 60 = .ok (.iconst 2, 1) := by decide +kernel
theorem dX12_person_61 : decode cX12_person 61 = .ok (.if_icmp .ne 12, 3) := by decide +kernel
theorem dX12_person_64 : decode cX12_person 64 = .ok (.aload_n 0, 1) := by decide +kernel
theorem dX12_person_65 : decode cX12_person 65 = .ok (.getfield 36, 3) := by decide +kernel
theorem dX12_person_68 : decode cX12_person 68 = .ok (.iload_n 1, 1) := by decide +kernel
theorem dX12_person_69 : decode cX12_person 69 = .ok (.iaload, 1) := by decide +kernel
theorem dX12_person_70 : decode cX12_person 70 = .ok (.goto 4, 3) := by decide +kernel
theorem dX12_person_73 : decode cX12_person 73 = .ok (.iconst (-1), 1) := by decide +kernel
theorem dX12_person_74 : decode cX12_person 74 = .ok (.ireturn, 1) := by decide +kernel
theorem dX12_person_75 : decode cX12_person 75 = .ok (.aload_n 0, 1) := by decide +kernel
theorem dX12_person_76 : decode cX12_person 76 = .ok (.iconst 1, 1) := by decide +kernel
theorem dX12_person_77 : decode cX12_person 77 = .ok (.iload_n 1, 1) := by decide +kernel
theorem dX12_person_78 : decode cX12_person 78 = .ok (.ishl, 1) := by decide +kernel
theorem dX12_person_79 : decode cX12_person 79 = .ok (.invokevirtual 190, 3) := by decide +kernel
theorem dX12_person_82 : decode cX12_person 82 = .ok (.ireturn, 1) := by decide +kernel
theorem dX12_person_83 : decode cX12_person 83 = .ok (.bipush (-3), 2) := by decide +kernel
theorem dX12_person_85 : decode cX12_person 85 = .ok (.ireturn, 1) := by decide +kernel
theorem dX12_layTakes_0 : decode cX12_layTakes 0 = .ok (.iconst 0, 1) := by decide +kernel
theorem dX12_layTakes_1 : decode cX12_layTakes 1 = .ok (.istore_n 3, 1) := by decide +kernel
theorem dX12_layTakes_2 : decode cX12_layTakes 2 = .ok (.iconst (-1), 1) := by decide +kernel
theorem dX12_layTakes_3 : decode cX12_layTakes 3 = .ok (.istore 4, 2) := by decide +kernel
theorem dX12_layTakes_5 : decode cX12_layTakes 5 = .ok (.iconst 0, 1) := by decide +kernel
theorem dX12_layTakes_6 : decode cX12_layTakes 6 = .ok (.istore 5, 2) := by decide +kernel
theorem dX12_layTakes_8 : decode cX12_layTakes 8 = .ok (.iload 5, 2) := by decide +kernel
theorem dX12_layTakes_10 : decode cX12_layTakes 10 = .ok (.aload_n 0, 1) := by decide +kernel
theorem dX12_layTakes_11 : decode cX12_layTakes 11 = .ok (.getfield 23, 3) := by decide +kernel
theorem dX12_layTakes_14 : decode cX12_layTakes 14 = .ok (.if_icmp .ge 38, 3) := by decide +kernel
theorem dX12_layTakes_17 : decode cX12_layTakes 17 = .ok (.iload 5, 2) := by decide +kernel
theorem dX12_layTakes_19 : decode cX12_layTakes 19 = .ok (.iload_n 2, 1) := by decide +kernel
theorem dX12_layTakes_20 : decode cX12_layTakes 20 = .ok (.if_icmp .ge 22, 3) := by decide +kernel
theorem dX12_layTakes_23 : decode cX12_layTakes 23 = .ok (.aload_n 0, 1) := by decide +kernel
theorem dX12_layTakes_24 : decode cX12_layTakes 24 = .ok (.getfield 7, 3) := by decide +kernel
theorem dX12_layTakes_27 : decode cX12_layTakes 27 = .ok (.iload_n 1, 1) := by decide +kernel
theorem dX12_layTakes_28 : decode cX12_layTakes 28 = .ok (.iconst 0, 1) := by decide +kernel
theorem dX12_layTakes_29 : decode cX12_layTakes 29 = .ok (.iadd, 1) := by decide +kernel
theorem dX12_layTakes_30 : decode cX12_layTakes 30 = .ok (.iload 5, 2) := by decide +kernel
theorem dX12_layTakes_32 : decode cX12_layTakes 32 = .ok (.iadd, 1) := by decide +kernel
theorem dX12_layTakes_33 : decode cX12_layTakes 33 = .ok (.iaload, 1) := by decide +kernel
theorem dX12_layTakes_34 : decode cX12_layTakes 34 = .ok (.ifCond .le 8, 3) := by decide +kernel
theorem dX12_layTakes_37 : decode cX12_layTakes 37 = .ok (.iload 5, 2) := by decide +kernel
theorem dX12_layTakes_39 : decode cX12_layTakes 39 = .ok (.goto 5, 3) := by decide +kernel
theorem dX12_layTakes_42 : decode cX12_layTakes 42 = .ok (.iload 4, 2) := by decide +kernel
theorem dX12_layTakes_44 : decode cX12_layTakes 44 = .ok (.istore 4, 2) := by decide +kernel
theorem dX12_layTakes_46 : decode cX12_layTakes 46 = .ok (.iinc 5 1, 3) := by decide +kernel
theorem dX12_layTakes_49 : decode cX12_layTakes 49 = .ok (.goto (-41), 3) := by decide +kernel
theorem dX12_layTakes_52 : decode cX12_layTakes 52 = .ok (.iconst 0, 1) := by decide +kernel
theorem dX12_layTakes_53 : decode cX12_layTakes 53 = .ok (.istore 5, 2) := by decide +kernel
theorem dX12_layTakes_55 : decode cX12_layTakes 55 = .ok (.iload 5, 2) := by decide +kernel
theorem dX12_layTakes_57 : decode cX12_layTakes 57 = .ok (.aload_n 0, 1) := by decide +kernel
theorem dX12_layTakes_58 : decode cX12_layTakes 58 = .ok (.getfield 23, 3) := by decide +kernel
theorem dX12_layTakes_61 : decode cX12_layTakes 61 = .ok (.if_icmp .ge 117, 3) := by decide +kernel
theorem dX12_layTakes_64 : decode cX12_layTakes 64 = .ok (.aload_n 0, 1) := by decide +kernel
theorem dX12_layTakes_65 : decode cX12_layTakes 65 = .ok (.getfield 7, 3) := by decide +kernel
theorem dX12_layTakes_68 : decode cX12_layTakes 68 = .ok (.iload_n 1, 1) := by decide +kernel
theorem dX12_layTakes_69 : decode cX12_layTakes 69 = .ok (.iconst 0, 1) := by decide +kernel
theorem dX12_layTakes_70 : decode cX12_layTakes 70 = .ok (.iadd, 1) := by decide +kernel
theorem dX12_layTakes_71 : decode cX12_layTakes 71 = .ok (.iload 5, 2) := by decide +kernel
theorem dX12_layTakes_73 : decode cX12_layTakes 73 = .ok (.iadd, 1) := by decide +kernel
theorem dX12_layTakes_74 : decode cX12_layTakes 74 = .ok (.iaload, 1) := by decide +kernel
theorem dX12_layTakes_75 : decode cX12_layTakes 75 = .ok (.istore 6, 2) := by decide +kernel
theorem dX12_layTakes_77 : decode cX12_layTakes 77 = .ok (.aload_n 0, 1) := by decide +kernel
theorem dX12_layTakes_78 : decode cX12_layTakes 78 = .ok (.getfield 42, 3) := by decide +kernel
theorem dX12_layTakes_81 : decode cX12_layTakes 81 = .ok (.iload 5, 2) := by decide +kernel
theorem dX12_layTakes_83 : decode cX12_layTakes 83 = .ok (.aload_n 0, 1) := by decide +kernel
theorem dX12_layTakes_84 : decode cX12_layTakes 84 = .ok (.getfield 160, 3) := by decide +kernel
theorem dX12_layTakes_87 : decode cX12_layTakes 87 = .ok (.ifCond .ne 18, 3) := by decide +kernel
theorem dX12_layTakes_90 : decode cX12_layTakes 90 = .ok (.iload 5, 2) := by decide +kernel
theorem dX12_layTakes_92 : decode cX12_layTakes 92 = .ok (.iload_n 2, 1) := by decide +kernel
theorem dX12_layTakes_93 : decode cX12_layTakes 93 = .ok (.if_icmp .ge 8, 3) := by decide +kernel
theorem dX12_layTakes_96 : decode cX12_layTakes 96 = .ok (.iload 6, 2) := by decide +kernel
theorem dX12_layTakes_98 : decode cX12_layTakes 98 = .ok (.goto 55, 3) := by decide +kernel
theorem dX12_layTakes_101 : decode cX12_layTakes 101 = .ok (.iconst 0, 1) := by decide +kernel
theorem dX12_layTakes_102 : decode cX12_layTakes 102 = .ok (.goto 51, 3) := by decide +kernel
theorem dX12_layTakes_105 : decode cX12_layTakes 105 = .ok (.aload_n 0, 1) := by decide +kernel
theorem dX12_layTakes_106 : decode cX12_layTakes 106 = .ok (.getfield 160, 3) := by decide +kernel
theorem dX12_layTakes_109 : decode cX12_layTakes 109 = .ok (.iconst 1, 1) := by decide +kernel
theorem dX12_layTakes_110 : decode cX12_layTakes 110 = .ok (.if_icmp .ne 18, 3) := by decide +kernel
theorem dX12_layTakes_113 : decode cX12_layTakes 113 = .ok (.iload 5, 2) := by decide +kernel
theorem dX12_layTakes_115 : decode cX12_layTakes 115 = .ok (.iload_n 2, 1) := by decide +kernel
theorem dX12_layTakes_116 : decode cX12_layTakes 116 = .ok (.if_icmp .gt 8, 3) := by decide +kernel
theorem dX12_layTakes_119 : decode cX12_layTakes 119 = .ok (.iload 6, 2) := by decide +kernel
theorem dX12_layTakes_121 : decode cX12_layTakes 121 = .ok (.goto 32, 3) := by decide +kernel
theorem dX12_layTakes_124 : decode cX12_layTakes 124 = .ok (.iconst 0, 1) := by decide +kernel
theorem dX12_layTakes_125 : decode cX12_layTakes 125 = .ok (.goto 28, 3) := by decide +kernel
theorem dX12_layTakes_128 : decode cX12_layTakes 128 = .ok (.iload 5, 2) := by decide +kernel
theorem dX12_layTakes_130 : decode cX12_layTakes 130 = .ok (.iload 4, 2) := by decide +kernel
theorem dX12_layTakes_132 : decode cX12_layTakes 132 = .ok (.if_icmp .eq 7, 3) := by decide +kernel
theorem dX12_layTakes_135 : decode cX12_layTakes 135 = .ok (.iconst 0, 1) := by decide +kernel
theorem dX12_layTakes_136 : decode cX12_layTakes 136 = .ok (.goto 17, 3) := by decide +kernel
theorem dX12_layTakes_139 : decode cX12_layTakes 139 = .ok (.aload_n 0, 1) := by decide +kernel
theorem dX12_layTakes_140 : decode cX12_layTakes 140 = .ok (.getfield 160, 3) := by decide +kernel
theorem dX12_layTakes_143 : decode cX12_layTakes 143 = .ok (.iconst 2, 1) := by decide +kernel
theorem dX12_layTakes_144 : decode cX12_layTakes 144 = .ok (.if_icmp .ne 7, 3) := by decide +kernel
theorem dX12_layTakes_147 : decode cX12_layTakes 147 = .ok (.iconst 1, 1) := by decide +kernel
theorem dX12_layTakes_148 : decode cX12_layTakes 148 = .ok (.goto 5, 3) := by decide +kernel
theorem dX12_layTakes_151 : decode cX12_layTakes 151 = .ok (.iload 6, 2) := by decide +kernel
theorem dX12_layTakes_153 : decode cX12_layTakes 153 = .ok (.iastore, 1) := by decide +kernel
theorem dX12_layTakes_154 : decode cX12_layTakes 154 = .ok (.iload_n 3, 1) := by decide +kernel
theorem dX12_layTakes_155 : decode cX12_layTakes 155 = .ok (.aload_n 0, 1) := by decide +kernel
theorem dX12_layTakes_156 : decode cX12_layTakes 156 = .ok (.getfield 42, 3) := by decide +kernel
theorem dX12_layTakes_159 : decode cX12_layTakes 159 = .ok (.iload 5, 2) := by decide +kernel
theorem dX12_layTakes_161 : decode cX12_layTakes 161 = .ok (.iaload, 1) := by decide +kernel
theorem dX12_layTakes_162 : decode cX12_layTakes 162 = .ok (.aload_n 0, 1) := by decide +kernel
theorem dX12_layTakes_163 : decode cX12_layTakes 163 = .ok (.getfield 27, 3) := by decide +kernel
theorem dX12_layTakes_166 : decode cX12_layTakes 166 = .ok (.iload 5, 2) := by decide +kernel
theorem dX12_layTakes_168 : decode cX12_layTakes 168 = .ok (.iaload, 1) := by decide +kernel
theorem dX12_layTakes_169 : decode cX12_layTakes 169 = .ok (.imul, 1) := by decide +kernel
theorem dX12_layTakes_170 : decode cX12_layTakes 170 = .ok (.iadd, 1) := by decide +kernel
theorem dX12_layTakes_171 : decode cX12_layTakes 171 = .ok (.istore_n 3, 1) := by decide +kernel
theorem dX12_layTakes_172 : decode cX12_layTakes 172 = .ok (.iinc 5 1, 3) := by decide +kernel
theorem dX12_layTakes_175 : decode cX12_layTakes 175 = .ok (.goto (-120), 3) := by decide +kernel
theorem dX12_layTakes_178 : decode cX12_layTakes 178 = .ok (.iload_n 3, 1) := by decide +kernel
theorem dX12_layTakes_179 : decode cX12_layTakes 179 = .ok (.ireturn, 1) := by decide +kernel
theorem dX12_gainOf_0 : decode cX12_gainOf 0 = .ok (.aload_n 0, 1) := by decide +kernel
theorem dX12_gainOf_1 : decode cX12_gainOf 1 = .ok (.iload_n 1, 1) := by decide +kernel
theorem dX12_gainOf_2 : decode cX12_gainOf 2 = .ok (.iload_n 2, 1) := by decide +kernel
theorem dX12_gainOf_3 : decode cX12_gainOf 3 = .ok (.invokevirtual 193, 3) := by decide +kernel
theorem dX12_gainOf_6 : decode cX12_gainOf 6 = .ok (.aload_n 0, 1) := by decide +kernel
theorem dX12_gainOf_7 : decode cX12_gainOf 7 = .ok (.getfield 27, 3) := by decide +kernel
theorem dX12_gainOf_10 : decode cX12_gainOf 10 = .ok (.iload_n 2, 1) := by decide +kernel
theorem dX12_gainOf_11 : decode cX12_gainOf 11 = .ok (.iaload, 1) := by decide +kernel
theorem dX12_gainOf_12 : decode cX12_gainOf 12 = .ok (.isub, 1) := by decide +kernel
theorem dX12_gainOf_13 : decode cX12_gainOf 13 = .ok (.ireturn, 1) := by decide +kernel
theorem dX12_isHad_0 : decode cX12_isHad 0 = .ok (.aload_n 0, 1) := by decide +kernel
theorem dX12_isHad_1 : decode cX12_isHad 1 = .ok (.getfield 7, 3) := by decide +kernel
theorem dX12_isHad_4 : decode cX12_isHad 4 = .ok (.iload_n 1, 1) := by decide +kernel
theorem dX12_isHad_5 : decode cX12_isHad 5 = .ok (.bipush 6, 2) := by decide +kernel
theorem dX12_isHad_7 : decode cX12_isHad 7 = .ok (.iadd, 1) := by decide +kernel
theorem dX12_isHad_8 : decode cX12_isHad 8 = .ok (.bipush 6, 2) := by decide +kernel
theorem dX12_isHad_10 : decode cX12_isHad 10 = .ok (.iload_n 2, 1) := by decide +kernel
theorem dX12_isHad_11 : decode cX12_isHad 11 = .ok (.imul, 1) := by decide +kernel
theorem dX12_isHad_12 : decode cX12_isHad 12 = .ok (.iadd, 1) := by decide +kernel
theorem dX12_isHad_13 : decode cX12_isHad 13 = .ok (.iload_n 3, 1) := by decide +kernel
theorem dX12_isHad_14 : decode cX12_isHad 14 = .ok (.iadd, 1) := by decide +kernel
theorem dX12_isHad_15 : decode cX12_isHad 15 = .ok (.iaload, 1) := by decide +kernel
theorem dX12_isHad_16 : decode cX12_isHad 16 = .ok (.ifCond .le 7, 3) := by decide +kernel
theorem dX12_isHad_19 : decode cX12_isHad 19 = .ok (.iconst 1, 1) := by decide +kernel
theorem dX12_isHad_20 : decode cX12_isHad 20 = .ok (.goto 4, 3) := by decide +kernel
theorem dX12_isHad_23 : decode cX12_isHad 23 = .ok (.iconst 0, 1) := by decide +kernel
theorem dX12_isHad_24 : decode cX12_isHad 24 = .ok (.ireturn, 1) := by decide +kernel
theorem dX12_throwsOne_0 : decode cX12_throwsOne 0 = .ok (.aload_n 0, 1) := by decide +kernel
theorem dX12_throwsOne_1 : decode cX12_throwsOne 1 = .ok (.iload_n 1, 1) := by decide +kernel
theorem dX12_throwsOne_2 : decode cX12_throwsOne 2 = .ok (.iload_n 3, 1) := by decide +kernel
theorem dX12_throwsOne_3 : decode cX12_throwsOne 3 = .ok (.invokevirtual 193, 3) := by decide +kernel
theorem dX12_throwsOne_6 : decode cX12_throwsOne 6 = .ok (.pop, 1) := by decide +kernel
theorem dX12_throwsOne_7 : decode cX12_throwsOne 7 = .ok (.iconst 0, 1) := by decide +kernel
theorem dX12_throwsOne_8 : decode cX12_throwsOne 8 = .ok (.istore 4, 2) := by decide +kernel
theorem dX12_throwsOne_10 : decode cX12_throwsOne 10 = .ok (.iload 4, 2) := by decide +kernel
theorem dX12_throwsOne_12 : decode cX12_throwsOne 12 = .ok (.aload_n 0, 1) := by decide +kernel
theorem dX12_throwsOne_13 : decode cX12_throwsOne 13 = .ok (.getfield 23, 3) := by decide +kernel
theorem dX12_throwsOne_16 : decode cX12_throwsOne 16 = .ok (.if_icmp .ge 57, 3) := by decide +kernel
theorem dX12_throwsOne_19 : decode cX12_throwsOne 19 = .ok (.aload_n 0, 1) := by decide +kernel
theorem dX12_throwsOne_20 : decode cX12_throwsOne 20 = .ok (.getfield 7, 3) := by decide +kernel
theorem dX12_throwsOne_23 : decode cX12_throwsOne 23 = .ok (.iload_n 1, 1) := by decide +kernel
theorem dX12_throwsOne_24 : decode cX12_throwsOne 24 = .ok (.iconst 0, 1) := by decide +kernel
theorem dX12_throwsOne_25 : decode cX12_throwsOne 25 = .ok (.iadd, 1) := by decide +kernel
theorem dX12_throwsOne_26 : decode cX12_throwsOne 26 = .ok (.iload 4, 2) := by decide +kernel
theorem dX12_throwsOne_28 : decode cX12_throwsOne 28 = .ok (.iadd, 1) := by decide +kernel
theorem dX12_throwsOne_29 : decode cX12_throwsOne 29 = .ok (.dup2, 1) := by decide +kernel
theorem dX12_throwsOne_30 : decode cX12_throwsOne 30 = .ok (.iaload, 1) := by decide +kernel
theorem dX12_throwsOne_31 : decode cX12_throwsOne 31 = .ok (.aload_n 0, 1) := by decide +kernel
theorem dX12_throwsOne_32 : decode cX12_throwsOne 32 = .ok (.getfield 42, 3) := by decide +kernel
theorem dX12_throwsOne_35 : decode cX12_throwsOne 35 = .ok (.iload 4, 2) := by decide +kernel
theorem dX12_throwsOne_37 : decode cX12_throwsOne 37 = .ok (.iaload, 1) := by decide +kernel
theorem dX12_throwsOne_38 : decode cX12_throwsOne 38 = .ok (.isub, 1) := by decide +kernel
theorem dX12_throwsOne_39 : decode cX12_throwsOne 39 = .ok (.iastore, 1) := by decide +kernel
theorem dX12_throwsOne_40 : decode cX12_throwsOne 40 = .ok (.aload_n 0, 1) := by decide +kernel
theorem dX12_throwsOne_41 : decode cX12_throwsOne 41 = .ok (.getfield 7, 3) := by decide +kernel
theorem dX12_throwsOne_44 : decode cX12_throwsOne 44 = .ok (.iload_n 1, 1) := by decide +kernel
theorem dX12_throwsOne_45 : decode cX12_throwsOne 45 = .ok (.bipush 6, 2) := by decide +kernel
theorem dX12_throwsOne_47 : decode cX12_throwsOne 47 = .ok (.iadd, 1) := by decide +kernel
theorem dX12_throwsOne_48 : decode cX12_throwsOne 48 = .ok (.bipush 6, 2) := by decide +kernel
theorem dX12_throwsOne_50 : decode cX12_throwsOne 50 = .ok (.iload_n 2, 1) := by decide +kernel
theorem dX12_throwsOne_51 : decode cX12_throwsOne 51 = .ok (.imul, 1) := by decide +kernel
theorem dX12_throwsOne_52 : decode cX12_throwsOne 52 = .ok (.iadd, 1) := by decide +kernel
theorem dX12_throwsOne_53 : decode cX12_throwsOne 53 = .ok (.iload 4, 2) := by decide +kernel
theorem dX12_throwsOne_55 : decode cX12_throwsOne 55 = .ok (.iadd, 1) := by decide +kernel
theorem dX12_throwsOne_56 : decode cX12_throwsOne 56 = .ok (.dup2, 1) := by decide +kernel
theorem dX12_throwsOne_57 : decode cX12_throwsOne 57 = .ok (.iaload, 1) := by decide +kernel
theorem dX12_throwsOne_58 : decode cX12_throwsOne 58 = .ok (.aload_n 0, 1) := by decide +kernel
theorem dX12_throwsOne_59 : decode cX12_throwsOne 59 = .ok (.getfield 42, 3) := by decide +kernel
theorem dX12_throwsOne_62 : decode cX12_throwsOne 62 = .ok (.iload 4, 2) := by decide +kernel
theorem dX12_throwsOne_64 : decode cX12_throwsOne 64 = .ok (.iaload, 1) := by decide +kernel
theorem dX12_throwsOne_65 : decode cX12_throwsOne 65 = .ok (.iadd, 1) := by decide +kernel
theorem dX12_throwsOne_66 : decode cX12_throwsOne 66 = .ok (.iastore, 1) := by decide +kernel
theorem dX12_throwsOne_67 : decode cX12_throwsOne 67 = .ok (.iinc 4 1, 3) := by decide +kernel
theorem dX12_throwsOne_70 : decode cX12_throwsOne 70 = .ok (.goto (-60), 3) := by decide +kernel
theorem dX12_throwsOne_73 : decode cX12_throwsOne 73 = .ok (.aload_n 0, 1) := by decide +kernel
theorem dX12_throwsOne_74 : decode cX12_throwsOne 74 = .ok (.getfield 7, 3) := by decide +kernel
theorem dX12_throwsOne_77 : decode cX12_throwsOne 77 = .ok (.iload_n 1, 1) := by decide +kernel
theorem dX12_throwsOne_78 : decode cX12_throwsOne 78 = .ok (.iconst 0, 1) := by decide +kernel
theorem dX12_throwsOne_79 : decode cX12_throwsOne 79 = .ok (.iadd, 1) := by decide +kernel
theorem dX12_throwsOne_80 : decode cX12_throwsOne 80 = .ok (.iload_n 3, 1) := by decide +kernel
theorem dX12_throwsOne_81 : decode cX12_throwsOne 81 = .ok (.iadd, 1) := by decide +kernel
theorem dX12_throwsOne_82 : decode cX12_throwsOne 82 = .ok (.dup2, 1) := by decide +kernel
theorem dX12_throwsOne_83 : decode cX12_throwsOne 83 = .ok (.iaload, 1) := by decide +kernel
theorem dX12_throwsOne_84 : decode cX12_throwsOne 84 = .ok (.iconst 1, 1) := by decide +kernel
theorem dX12_throwsOne_85 : decode cX12_throwsOne 85 = .ok (.iadd, 1) := by decide +kernel
theorem dX12_throwsOne_86 : decode cX12_throwsOne 86 = .ok (.iastore, 1) := by decide +kernel
theorem dX12_throwsOne_87 : decode cX12_throwsOne 87 = .ok (.aload_n 0, 1) := by decide +kernel
theorem dX12_throwsOne_88 : decode cX12_throwsOne 88 = .ok (.getfield 7, 3) := by decide +kernel
theorem dX12_throwsOne_91 : decode cX12_throwsOne 91 = .ok (.iload_n 1, 1) := by decide +kernel
theorem dX12_throwsOne_92 : decode cX12_throwsOne 92 = .ok (.bipush 6, 2) := by decide +kernel
theorem dX12_throwsOne_94 : decode cX12_throwsOne 94 = .ok (.iadd, 1) := by decide +kernel
theorem dX12_throwsOne_95 : decode cX12_throwsOne 95 = .ok (.bipush 6, 2) := by decide +kernel
theorem dX12_throwsOne_97 : decode cX12_throwsOne 97 = .ok (.iload_n 2, 1) := by decide +kernel
theorem dX12_throwsOne_98 : decode cX12_throwsOne 98 = .ok (.imul, 1) := by decide +kernel
theorem dX12_throwsOne_99 : decode cX12_throwsOne 99 = .ok (.iadd, 1) := by decide +kernel
theorem dX12_throwsOne_100 : decode cX12_throwsOne 100 = .ok (.iload_n 3, 1) := by decide +kernel
theorem dX12_throwsOne_101 : decode cX12_throwsOne 101 = .ok (.iadd, 1) := by decide +kernel
theorem dX12_throwsOne_102 : decode cX12_throwsOne 102 = .ok (.dup2, 1) := by decide +kernel
theorem dX12_throwsOne_103 : decode cX12_throwsOne 103 = .ok (.iaload, 1) := by decide +kernel
theorem dX12_throwsOne_104 : decode cX12_throwsOne 104 = .ok (.iconst 1, 1) := by decide +kernel
theorem dX12_throwsOne_105 : decode cX12_throwsOne 105 = .ok (.isub, 1) := by decide +kernel
theorem dX12_throwsOne_106 : decode cX12_throwsOne 106 = .ok (.iastore, 1) := by decide +kernel
theorem dX12_throwsOne_107 : decode cX12_throwsOne 107 = .ok (.return_, 1) := by decide +kernel
theorem dX12_byHabit_0 : decode cX12_byHabit 0 = .ok (.iconst (-1), 1) := by decide +kernel
theorem dX12_byHabit_1 : decode cX12_byHabit 1 = .ok (.istore_n 3, 1) := by decide +kernel
theorem dX12_byHabit_2 : decode cX12_byHabit 2 = .ok (.iconst 0, 1) := by decide +kernel
theorem dX12_byHabit_3 : decode cX12_byHabit 3 = .ok (.istore 4, 2) := by decide +kernel
theorem dX12_byHabit_5 : decode cX12_byHabit 5 = .ok (.iconst 0, 1) := by decide +kernel
theorem dX12_byHabit_6 : decode cX12_byHabit 6 = .ok (.istore 5, 2) := by decide +kernel
theorem dX12_byHabit_8 : decode cX12_byHabit 8 = .ok (.iload 5, 2) := by decide +kernel
theorem dX12_byHabit_10 : decode cX12_byHabit 10 = .ok (.aload_n 0, 1) := by decide +kernel
theorem dX12_byHabit_11 : decode cX12_byHabit 11 = .ok (.getfield 23, 3) := by decide +kernel
theorem dX12_byHabit_14 : decode cX12_byHabit 14 = .ok (.if_icmp .ge 88, 3) := by decide +kernel
theorem dX12_byHabit_17 : decode cX12_byHabit 17 = .ok (.aload_n 0, 1) := by decide +kernel
theorem dX12_byHabit_18 : decode cX12_byHabit 18 = .ok (.iload_n 1, 1) := by decide +kernel
theorem dX12_byHabit_19 : decode cX12_byHabit 19 = .ok (.iload_n 2, 1) := by decide +kernel
theorem dX12_byHabit_20 : decode cX12_byHabit 20 = .ok (.iload 5, 2) := by decide +kernel
theorem dX12_byHabit_22 : decode cX12_byHabit 22 = .ok (.invokevirtual 196, 3) := by decide +kernel
theorem dX12_byHabit_25 : decode cX12_byHabit 25 = .ok (.ifCond .eq 13, 3) := by decide +kernel
theorem dX12_byHabit_28 : decode cX12_byHabit 28 = .ok (.aload_n 0, 1) := by decide +kernel
theorem dX12_byHabit_29 : decode cX12_byHabit 29 = .ok (.iload_n 1, 1) := by decide +kernel
theorem dX12_byHabit_30 : decode cX12_byHabit 30 = .ok (.iload 5, 2) := by decide +kernel
theorem dX12_byHabit_32 : decode cX12_byHabit 32 = .ok (.invokevirtual 200, 3) := by decide +kernel
theorem dX12_byHabit_35 : decode cX12_byHabit 35 = .ok (.goto 4, 3) := by decide +kernel
theorem dX12_byHabit_38 : decode cX12_byHabit 38 = .ok (.iconst 0, 1) := by decide +kernel
theorem dX12_byHabit_39 : decode cX12_byHabit 39 = .ok (.istore 6, 2) := by decide +kernel
theorem dX12_byHabit_41 : decode cX12_byHabit 41 = .ok (.iload 6, 2) := by decide +kernel
theorem dX12_byHabit_43 : decode cX12_byHabit 43 = .ok (.iload 4, 2) := by decide +kernel
theorem dX12_byHabit_45 : decode cX12_byHabit 45 = .ok (.if_icmp .le 22, 3) := by decide +kernel
theorem dX12_byHabit_48 : decode cX12_byHabit 48 = .ok (.aload_n 0, 1) := by decide +kernel
theorem dX12_byHabit_49 : decode cX12_byHabit 49 = .ok (.getfield 33, 3) := by decide +kernel
theorem dX12_byHabit_52 : decode cX12_byHabit 52 = .ok (.iload_n 2, 1) := by decide +kernel
theorem dX12_byHabit_53 : decode cX12_byHabit 53 = .ok (.iaload, 1) := by decide +kernel
theorem dX12_byHabit_54 : decode cX12_byHabit 54 = .ok (.iconst 3, 1) := by decide +kernel
theorem dX12_byHabit_55 : decode cX12_byHabit 55 = .ok (.if_icmp .ne 8, 3) := by decide +kernel
theorem dX12_byHabit_58 : decode cX12_byHabit 58 = .ok (.iload_n 3, 1) := by decide +kernel
theorem dX12_byHabit_59 : decode cX12_byHabit 59 = .ok (.iconst (-1), 1) := by decide +kernel
theorem dX12_byHabit_60 : decode cX12_byHabit 60 = .ok (.if_icmp .ne 7, 3) := by decide +kernel
theorem dX12_byHabit_63 : decode cX12_byHabit 63 = .ok (.iconst 1, 1) := by decide +kernel
theorem dX12_byHabit_64 : decode cX12_byHabit 64 = .ok (.goto 4, 3) := by decide +kernel
theorem dX12_byHabit_67 : decode cX12_byHabit 67 = .ok (.iconst 0, 1) := by decide +kernel
theorem dX12_byHabit_68 : decode cX12_byHabit 68 = .ok (.istore 7, 2) := by decide +kernel
theorem dX12_byHabit_70 : decode cX12_byHabit 70 = .ok (.iload 7, 2) := by decide +kernel
theorem dX12_byHabit_72 : decode cX12_byHabit 72 = .ok (.ifCond .eq 8, 3) := by decide +kernel
theorem dX12_byHabit_75 : decode cX12_byHabit 75 = .ok (.iload 5, 2) := by decide +kernel
theorem dX12_byHabit_77 : decode cX12_byHabit 77 = .ok (.goto 4, 3) := by decide +kernel
theorem dX12_byHabit_80 : decode cX12_byHabit 80 = .ok (.iload_n 3, 1) := by decide +kernel
theorem dX12_byHabit_81 : decode cX12_byHabit 81 = .ok (.istore_n 3, 1) := by decide +kernel
theorem dX12_byHabit_82 : decode cX12_byHabit 82 = .ok (.iload 7, 2) := by decide +kernel
theorem dX12_byHabit_84 : decode cX12_byHabit 84 = .ok (.ifCond .eq 8, 3) := by decide +kernel
theorem dX12_byHabit_87 : decode cX12_byHabit 87 = .ok (.iload 6, 2) := by decide +kernel
theorem dX12_byHabit_89 : decode cX12_byHabit 89 = .ok (.goto 5, 3) := by decide +kernel
theorem dX12_byHabit_92 : decode cX12_byHabit 92 = .ok (.iload 4, 2) := by decide +kernel
theorem dX12_byHabit_94 : decode cX12_byHabit 94 = .ok (.istore 4, 2) := by decide +kernel
theorem dX12_byHabit_96 : decode cX12_byHabit 96 = .ok (.iinc 5 1, 3) := by decide +kernel
theorem dX12_byHabit_99 : decode cX12_byHabit 99 = .ok (.goto (-91), 3) := by decide +kernel
theorem dX12_byHabit_102 : decode cX12_byHabit 102 = .ok (.aload_n 0, 1) := by decide +kernel
theorem dX12_byHabit_103 : decode cX12_byHabit 103 = .ok (.getfield 33, 3) := by decide +kernel
theorem dX12_byHabit_106 : decode cX12_byHabit 106 = .ok (.iload_n 2, 1) := by decide +kernel
theorem dX12_byHabit_107 : decode cX12_byHabit 107 = .ok (.iaload, 1) := by decide +kernel
theorem dX12_byHabit_108 : decode cX12_byHabit 108 = .ok (.ifCond .eq 24, 3) := by decide +kernel
theorem dX12_byHabit_111 : decode cX12_byHabit 111 = .ok (.aload_n 0, 1) := by decide +kernel
theorem dX12_byHabit_112 : decode cX12_byHabit 112 = .ok (.getfield 33, 3) := by decide +kernel
theorem dX12_byHabit_115 : decode cX12_byHabit 115 = .ok (.iload_n 2, 1) := by decide +kernel
theorem dX12_byHabit_116 : decode cX12_byHabit 116 = .ok (.iaload, 1) := by decide +kernel
theorem dX12_byHabit_117 : decode cX12_byHabit 117 = .ok (.iconst 2, 1) := by decide +kernel
theorem dX12_byHabit_118 : decode cX12_byHabit 118 = .ok (.if_icmp .ne 18, 3) := by decide +kernel
theorem dX12_byHabit_121 : decode cX12_byHabit 121 = .ok (.iload 4, 2) := by decide +kernel
theorem dX12_byHabit_123 : decode cX12_byHabit 123 = .ok (.aload_n 0, 1) := by decide +kernel
theorem dX12_byHabit_124 : decode cX12_byHabit 124 = .ok (.getfield 36, 3) := by decide +kernel
theorem dX12_byHabit_127 : decode cX12_byHabit 127 = .ok (.iload_n 2, 1) := by decide +kernel
theorem dX12_byHabit_128 : decode cX12_byHabit 128 = .ok (.iaload, 1) := by decide +kernel
theorem dX12_byHabit_129 : decode cX12_byHabit 129 = .ok (.if_icmp .ge 7, 3) := by decide +kernel
theorem dX12_byHabit_132 : decode cX12_byHabit 132 = .ok (.iconst (-1), 1) := by decide +kernel
theorem dX12_byHabit_133 : decode cX12_byHabit 133 = .ok (.goto 4, 3) := by decide +kernel
theorem dX12_byHabit_136 : decode cX12_byHabit 136 = .ok (.iload_n 3, 1) := by decide +kernel
theorem dX12_byHabit_137 : decode cX12_byHabit 137 = .ok (.ireturn, 1) := by decide +kernel
theorem dX12_visitsBy_0 : decode cX12_visitsBy 0 = .ok (.aload_n 0, 1) := by decide +kernel
theorem dX12_visitsBy_1 : decode cX12_visitsBy 1 = .ok (.iload_n 1, 1) := by decide +kernel
theorem dX12_visitsBy_2 : decode cX12_visitsBy 2 = .ok (.iload_n 2, 1) := by decide +kernel
theorem dX12_visitsBy_3 : decode cX12_visitsBy 3 = .ok (.invokevirtual 203, 3) := by decide +kernel
theorem dX12_visitsBy_6 : decode cX12_visitsBy 6 = .ok (.istore_n 3, 1) := by decide +kernel
theorem dX12_visitsBy_7 : decode cX12_visitsBy 7 = .ok (.iload_n 3, 1) := by decide +kernel
theorem dX12_visitsBy_8 : decode cX12_visitsBy 8 = .ok (.iconst (-1), 1) := by decide +kernel
theorem dX12_visitsBy_9 : decode cX12_visitsBy 9 = .ok (.if_icmp .eq 10, 3) := by decide +kernel
theorem dX12_visitsBy_12 : decode cX12_visitsBy 12 = .ok (.aload_n 0, 1) := by decide +kernel
theorem dX12_visitsBy_13 : decode cX12_visitsBy 13 = .ok (.iload_n 1, 1) := by decide +kernel
theorem dX12_visitsBy_14 : decode cX12_visitsBy 14 = .ok (.iload_n 2, 1) := by decide +kernel
theorem dX12_visitsBy_15 : decode cX12_visitsBy 15 = .ok (.iload_n 3, 1) := by decide +kernel
theorem dX12_visitsBy_16 : decode cX12_visitsBy 16 = .ok (.invokevirtual 206, 3) := by decide +kernel
theorem dX12_visitsBy_19 : decode cX12_visitsBy 19 = .ok (.iload_n 3, 1) := by decide +kernel
theorem dX12_visitsBy_20 : decode cX12_visitsBy 20 = .ok (.iconst (-1), 1) := by decide +kernel
theorem dX12_visitsBy_21 : decode cX12_visitsBy 21 = .ok (.if_icmp .eq 7, 3) := by decide +kernel
theorem dX12_visitsBy_24 : decode cX12_visitsBy 24 = .ok (.iconst 1, 1) := by decide +kernel
theorem dX12_visitsBy_25 : decode cX12_visitsBy 25 = .ok (.goto 4, 3) := by decide +kernel
theorem dX12_visitsBy_28 : decode cX12_visitsBy 28 = .ok (.iconst 0, 1) := by decide +kernel
theorem dX12_visitsBy_29 : decode cX12_visitsBy 29 = .ok (.ireturn, 1) := by decide +kernel
theorem dX12_as_0 : decode cX12_as 0 = .ok (.iload_n 1, 1) := by decide +kernel
theorem dX12_as_1 : decode cX12_as 1 = .ok (.invokestatic 180, 3) := by decide +kernel
theorem dX12_as_4 : decode cX12_as 4 = .ok (.ifCond .ne 6, 3) := by decide +kernel
theorem dX12_as_7 : decode cX12_as 7 = .ok (.bipush (-2), 2) := by decide +kernel
theorem dX12_as_9 : decode cX12_as 9 = .ok (.ireturn, 1) := by decide +kernel
theorem dX12_as_10 : decode cX12_as 10 = .ok (.iload_n 2, 1) := by decide +kernel
theorem dX12_as_11 : decode cX12_as 11 = .ok (.i2l, 1) := by decide +kernel
theorem dX12_as_12 : decode cX12_as 12 = .ok (.lconst 0, 1) := by decide +kernel
theorem dX12_as_13 : decode cX12_as 13 = .ok (.ldc2_w 210, 3) := by decide +kernel
theorem dX12_as_16 : decode cX12_as 16 = .ok (.invokestatic 62, 3) := by decide +kernel
theorem dX12_as_19 : decode cX12_as 19 = .ok (.ifCond .ne 6, 3) := by decide +kernel
theorem dX12_as_22 : decode cX12_as 22 = .ok (.bipush (-3), 2) := by decide +kernel
theorem dX12_as_24 : decode cX12_as 24 = .ok (.ireturn, 1) := by decide +kernel
theorem dX12_as_25 : decode cX12_as 25 = .ok (.aload_n 0, 1) := by decide +kernel
theorem dX12_as_26 : decode cX12_as 26 = .ok (.getfield 33, 3) := by decide +kernel
theorem dX12_as_29 : decode cX12_as 29 = .ok (.iload_n 1, 1) := by decide +kernel
theorem dX12_as_30 : decode cX12_as 30 = .ok (.iaload, 1) := by decide +kernel
theorem dX12_as_31 : decode cX12_as 31 = .ok (.istore_n 3, 1) := by decide +kernel
theorem dX12_as_32 : decode cX12_as 32 = .ok (.iload_n 2, 1) := by decide +kernel
theorem dX12_as_33 : decode cX12_as 33 = .ok (.ifCond .eq 56, 3) := by decide +kernel
theorem dX12_as_36 : decode cX12_as 36 = .ok (.iload_n 2, 1) := by decide +kernel
theorem dX12_as_37 : decode cX12_as 37 = .ok (.iconst 1, 1) := by decide +kernel
theorem dX12_as_38 : decode cX12_as 38 = .ok (.if_icmp .ne 7, 3) := by decide +kernel
theorem dX12_as_41 : decode cX12_as 41 = .ok (.iload_n 3, 1) := by decide +kernel
theorem dX12_as_42 : decode cX12_as 42 = .ok (.ifCond .eq 47, 3) := by decide +kernel
theorem dX12_as_45 : decode cX12_as 45 = .ok (.iload_n 2, 1) := by decide +kernel
theorem dX12_as_46 : decode cX12_as 46 = .ok (.iconst 2, 1) := by decide +kernel
theorem dX12_as_47 : decode cX12_as 47 = .ok (.if_icmp .ne 7, 3) := by decide +kernel
theorem dX12_as_50 : decode cX12_as 50 = .ok (.iload_n 3, 1) := by decide +kernel
theorem dX12_as_51 : decode cX12_as 51 = .ok (.ifCond .ne 38, 3) := by decide +kernel
theorem dX12_as_54 : decode cX12_as 54 = .ok (.iload_n 2, 1) := by decide +kernel
theorem dX12_as_55 : decode cX12_as 55 = .ok (.iconst 3, 1) := by decide +kernel
theorem dX12_as_56 : decode cX12_as 56 = .ok (.if_icmp .ne 13, 3) := by decide +kernel
theorem dX12_as_59 : decode cX12_as 59 = .ok (.iload_n 3, 1) := by decide +kernel
theorem dX12_as_60 : decode cX12_as 60 = .ok (.iconst 1, 1) := by decide +kernel
theorem dX12_as_61 : decode cX12_as 61 = .ok (.if_icmp .eq 28, 3) := by decide +kernel
theorem dX12_as_64 : decode cX12_as 64 = .ok (.iload_n 3, 1) := by decide +kernel
theorem dX12_as_65 : decode cX12_as 65 = .ok (.iconst 2, 1) := by decide +kernel
theorem dX12_as_66 : decode cX12_as 66 = .ok (.if_icmp .eq 23, 3) := by decide +kernel
theorem dX12_as_69 : decode cX12_as 69 = .ok (.iload_n 2, 1) := by decide +kernel
theorem dX12_as_70 : decode cX12_as 70 = .ok (.iconst 4, 1) := by decide +kernel
theorem dX12_as_71 : decode cX12_as 71 = .ok (.if_icmp .ne 8, 3) := by decide +kernel
theorem dX12_as_74 : decode cX12_as 74 = .ok (.iload_n 3, 1) := by decide +kernel
theorem dX12_as_75 : decode cX12_as 75 = .ok (.iconst 2, 1) := by decide +kernel
theorem dX12_as_76 : decode cX12_as 76 = .ok (.if_icmp .eq 13, 3) := by decide +kernel
theorem dX12_as_79 : decode cX12_as 79 = .ok (.iload_n 2, 1) := by decide +kernel
theorem dX12_as_80 : decode cX12_as 80 = .ok (.iconst 5, 1) := by decide +kernel
theorem dX12_as_81 : decode cX12_as 81 = .ok (.if_icmp .ne 12, 3) := by decide +kernel
theorem dX12_as_84 : decode cX12_as 84 = .ok (.iload_n 3, 1) := by decide +kernel
theorem dX12_as_85 : decode cX12_as 85 = .ok (.iconst 3, 1) := by decide +kernel
theorem dX12_as_86 : decode cX12_as 86 = .ok (.if_icmp .ne 7, 3) := by decide +kernel
theorem dX12_as_89 : decode cX12_as 89 = .ok (.iconst 1, 1) := by decide +kernel
theorem dX12_as_90 : decode cX12_as 90 = .ok (.goto 4, 3) := by decide +kernel
theorem dX12_as_93 : decode cX12_as 93 = .ok (.iconst 0, 1) := by decide +kernel
theorem dX12_as_94 : decode cX12_as 94 = .ok (.istore 4, 2) := by decide +kernel
theorem dX12_as_96 : decode cX12_as 96 = .ok (.iload 4, 2) := by decide +kernel
theorem dX12_as_98 : decode cX12_as 98 = .ok (.ifCond .eq 12, 3) := by decide +kernel
theorem dX12_as_101 : decode cX12_as 101 = .ok (.aload_n 0, 1) := by decide +kernel
theorem dX12_as_102 : decode cX12_as 102 = .ok (.iconst 0, 1) := by decide +kernel
theorem dX12_as_103 : decode cX12_as 103 = .ok (.iload_n 1, 1) := by decide +kernel
theorem dX12_as_104 : decode cX12_as 104 = .ok (.invokevirtual 203, 3) := by decide +kernel
theorem dX12_as_107 : decode cX12_as 107 = .ok (.goto 5, 3) := by decide +kernel
theorem dX12_as_110 : decode cX12_as 110 = .ok (.bipush (-4), 2) := by decide +kernel
theorem dX12_as_112 : decode cX12_as 112 = .ok (.ireturn, 1) := by decide +kernel
theorem dX12_come_0 : decode cX12_come 0 = .ok (.iload_n 1, 1) := by decide +kernel
theorem dX12_come_1 : decode cX12_come 1 = .ok (.ifCond .ge 8, 3) := by decide +kernel
theorem dX12_come_4 : decode cX12_come 4 = .ok (.bipush (-3), 2) := by decide +kernel
theorem dX12_come_6 : decode cX12_come 6 = .ok (.goto 21, 3) := by decide +kernel
theorem dX12_come_9 : decode cX12_come 9 = .ok (.iload_n 1, 1) := by decide +kernel
theorem dX12_come_10 : decode cX12_come 10 = .ok (.aload_n 0, 1) := by decide +kernel
theorem dX12_come_11 : decode cX12_come 11 = .ok (.getfield 147, 3) := by decide +kernel
theorem dX12_come_14 : decode cX12_come 14 = .ok (.if_icmp .ge 12, 3) := by decide +kernel
theorem dX12_come_17 : decode cX12_come 17 = .ok (.aload_n 0, 1) := by decide +kernel
theorem dX12_come_18 : decode cX12_come 18 = .ok (.getfield 39, 3) := by decide +kernel
theorem dX12_come_21 : decode cX12_come 21 = .ok (.iload_n 1, 1) := by decide +kernel
theorem dX12_come_22 : decode cX12_come 22 = .ok (.iaload, 1) := by decide +kernel
theorem dX12_come_23 : decode cX12_come 23 = .ok (.goto 4, 3) := by decide +kernel
theorem dX12_come_26 : decode cX12_come 26 = .ok (.iconst (-1), 1) := by decide +kernel
theorem dX12_come_27 : decode cX12_come 27 = .ok (.ireturn, 1) := by decide +kernel
theorem dX12_gain_0 : decode cX12_gain 0 = .ok (.iload_n 1, 1) := by decide +kernel
theorem dX12_gain_1 : decode cX12_gain 1 = .ok (.invokestatic 180, 3) := by decide +kernel
theorem dX12_gain_4 : decode cX12_gain 4 = .ok (.ifCond .eq 11, 3) := by decide +kernel
theorem dX12_gain_7 : decode cX12_gain 7 = .ok (.aload_n 0, 1) := by decide +kernel
theorem dX12_gain_8 : decode cX12_gain 8 = .ok (.iload_n 2, 1) := by decide +kernel
theorem dX12_gain_9 : decode cX12_gain 9 = .ok (.invokevirtual 177, 3) := by decide +kernel
theorem dX12_gain_12 : decode cX12_gain 12 = .ok (.ifCond .ne 6, 3) := by decide +kernel
theorem dX12_gain_15 : decode cX12_gain 15 = .ok (.bipush (-2), 2) := by decide +kernel
theorem dX12_gain_17 : decode cX12_gain 17 = .ok (.ireturn, 1) := by decide +kernel
theorem dX12_gain_18 : decode cX12_gain 18 = .ok (.aload_n 0, 1) := by decide +kernel
theorem dX12_gain_19 : decode cX12_gain 19 = .ok (.iconst 0, 1) := by decide +kernel
theorem dX12_gain_20 : decode cX12_gain 20 = .ok (.iload_n 1, 1) := by decide +kernel
theorem dX12_gain_21 : decode cX12_gain 21 = .ok (.iload_n 2, 1) := by decide +kernel
theorem dX12_gain_22 : decode cX12_gain 22 = .ok (.invokevirtual 196, 3) := by decide +kernel
theorem dX12_gain_25 : decode cX12_gain 25 = .ok (.ifCond .eq 15, 3) := by decide +kernel
theorem dX12_gain_28 : decode cX12_gain 28 = .ok (.ldc 212, 2) := by decide +kernel
theorem dX12_gain_30 : decode cX12_gain 30 = .ok (.aload_n 0, 1) := by decide +kernel
theorem dX12_gain_31 : decode cX12_gain 31 = .ok (.iconst 0, 1) := by decide +kernel
theorem dX12_gain_32 : decode cX12_gain 32 = .ok (.iload_n 2, 1) := by decide +kernel
theorem dX12_gain_33 : decode cX12_gain 33 = .ok (.invokevirtual 200, 3) := by decide +kernel
theorem dX12_gain_36 : decode cX12_gain 36 = .ok (.iadd, 1) := by decide +kernel
theorem dX12_gain_37 : decode cX12_gain 37 = .ok (.goto 5, 3) := by decide +kernel
theorem dX12_gain_40 : decode cX12_gain 40 = .ok (.bipush (-4), 2) := by decide +kernel
theorem dX12_gain_42 : decode cX12_gain 42 = .ok (.ireturn, 1) := by decide +kernel
theorem dX12_visit_0 : decode cX12_visit 0 = .ok (.iload_n 1, 1) := by decide +kernel
theorem dX12_visit_1 : decode cX12_visit 1 = .ok (.iconst (-1), 1) := by decide +kernel
theorem dX12_visit_2 : decode cX12_visit 2 = .ok (.if_icmp .eq 14, 3) := by decide +kernel
theorem dX12_visit_5 : decode cX12_visit 5 = .ok (.aload_n 0, 1) := by decide +kernel
theorem dX12_visit_6 : decode cX12_visit 6 = .ok (.iload_n 1, 1) := by decide +kernel
theorem dX12_visit_7 : decode cX12_visit 7 = .ok (.invokevirtual 177, 3) := by decide +kernel
theorem dX12_visit_10 : decode cX12_visit 10 = .ok (.ifCond .ne 6, 3) := by decide +kernel
theorem dX12_visit_13 : decode cX12_visit 13 = .ok (.bipush (-2), 2) := by decide +kernel
theorem dX12_visit_15 : decode cX12_visit 15 = .ok (.ireturn, 1) := by decide +kernel
theorem dX12_visit_16 : decode cX12_visit 16 = .ok (.aload_n 0, 1) := by decide +kernel
theorem dX12_visit_17 : decode cX12_visit 17 = .ok (.invokevirtual 213, 3) := by decide +kernel
theorem dX12_visit_20 : decode cX12_visit 20 = .ok (.ifCond .ne 6, 3) := by decide +kernel
theorem dX12_visit_23 : decode cX12_visit 23 = .ok (.bipush (-4), 2) := by decide +kernel
theorem dX12_visit_25 : decode cX12_visit 25 = .ok (.ireturn, 1) := by decide +kernel
theorem dX12_visit_26 : decode cX12_visit 26 = .ok (.aload_n 0, 1) := by decide +kernel
theorem dX12_visit_27 : decode cX12_visit 27 = .ok (.getfield 39, 3) := by decide +kernel
theorem dX12_visit_30 : decode cX12_visit 30 = .ok (.aload_n 0, 1) := by decide +kernel
theorem dX12_visit_31 : decode cX12_visit 31 = .ok (.getfield 7, 3) := by decide +kernel
theorem dX12_visit_34 : decode cX12_visit 34 = .ok (.bipush 30, 2) := by decide +kernel
theorem dX12_visit_36 : decode cX12_visit 36 = .ok (.iaload, 1) := by decide +kernel
theorem dX12_visit_37 : decode cX12_visit 37 = .ok (.iaload, 1) := by decide +kernel
theorem dX12_visit_38 : decode cX12_visit 38 = .ok (.istore_n 2, 1) := by decide +kernel
theorem dX12_visit_39 : decode cX12_visit 39 = .ok (.iload_n 1, 1) := by decide +kernel
theorem dX12_visit_40 : decode cX12_visit 40 = .ok (.iconst (-1), 1) := by decide +kernel
theorem dX12_visit_41 : decode cX12_visit 41 = .ok (.if_icmp .eq 16, 3) := by decide +kernel
theorem dX12_visit_44 : decode cX12_visit 44 = .ok (.aload_n 0, 1) := by decide +kernel
theorem dX12_visit_45 : decode cX12_visit 45 = .ok (.iconst 0, 1) := by decide +kernel
theorem dX12_visit_46 : decode cX12_visit 46 = .ok (.iload_n 2, 1) := by decide +kernel
theorem dX12_visit_47 : decode cX12_visit 47 = .ok (.iload_n 1, 1) := by decide +kernel
theorem dX12_visit_48 : decode cX12_visit 48 = .ok (.invokevirtual 196, 3) := by decide +kernel
theorem dX12_visit_51 : decode cX12_visit 51 = .ok (.ifCond .ne 6, 3) := by decide +kernel
theorem dX12_visit_54 : decode cX12_visit 54 = .ok (.bipush (-4), 2) := by decide +kernel
theorem dX12_visit_56 : decode cX12_visit 56 = .ok (.ireturn, 1) := by decide +kernel
theorem dX12_visit_57 : decode cX12_visit 57 = .ok (.iload_n 1, 1) := by decide +kernel
theorem dX12_visit_58 : decode cX12_visit 58 = .ok (.iconst (-1), 1) := by decide +kernel
theorem dX12_visit_59 : decode cX12_visit 59 = .ok (.if_icmp .ne 7, 3) := by decide +kernel
theorem dX12_visit_62 : decode cX12_visit 62 = .ok (.iconst 0, 1) := by decide +kernel
theorem dX12_visit_63 : decode cX12_visit 63 = .ok (.goto 9, 3) := by decide +kernel
theorem dX12_visit_66 : decode cX12_visit 66 = .ok (.aload_n 0, 1) := by decide +kernel
theorem dX12_visit_67 : decode cX12_visit 67 = .ok (.iconst 0, 1) := by decide +kernel
theorem dX12_visit_68 : decode cX12_visit 68 = .ok (.iload_n 1, 1) := by decide +kernel
theorem dX12_visit_69 : decode cX12_visit 69 = .ok (.invokevirtual 200, 3) := by decide +kernel
theorem dX12_visit_72 : decode cX12_visit 72 = .ok (.istore_n 3, 1) := by decide +kernel
theorem dX12_visit_73 : decode cX12_visit 73 = .ok (.iload_n 1, 1) := by decide +kernel
theorem dX12_visit_74 : decode cX12_visit 74 = .ok (.iconst (-1), 1) := by decide +kernel
theorem dX12_visit_75 : decode cX12_visit 75 = .ok (.if_icmp .eq 10, 3) := by decide +kernel
theorem dX12_visit_78 : decode cX12_visit 78 = .ok (.aload_n 0, 1) := by decide +kernel
theorem dX12_visit_79 : decode cX12_visit 79 = .ok (.iconst 0, 1) := by decide +kernel
theorem dX12_visit_80 : decode cX12_visit 80 = .ok (.iload_n 2, 1) := by decide +kernel
theorem dX12_visit_81 : decode cX12_visit 81 = .ok (.iload_n 1, 1) := by decide +kernel
theorem dX12_visit_82 : decode cX12_visit 82 = .ok (.invokevirtual 206, 3) := by decide +kernel
theorem dX12_visit_85 : decode cX12_visit 85 = .ok (.aload_n 0, 1) := by decide +kernel
theorem dX12_visit_86 : decode cX12_visit 86 = .ok (.getfield 7, 3) := by decide +kernel
theorem dX12_visit_89 : decode cX12_visit 89 = .ok (.bipush 30, 2) := by decide +kernel
theorem dX12_visit_91 : decode cX12_visit 91 = .ok (.dup2, 1) := by decide +kernel
theorem dX12_visit_92 : decode cX12_visit 92 = .ok (.iaload, 1) := by decide +kernel
theorem dX12_visit_93 : decode cX12_visit 93 = .ok (.iconst 1, 1) := by decide +kernel
theorem dX12_visit_94 : decode cX12_visit 94 = .ok (.iadd, 1) := by decide +kernel
theorem dX12_visit_95 : decode cX12_visit 95 = .ok (.iastore, 1) := by decide +kernel
theorem dX12_visit_96 : decode cX12_visit 96 = .ok (.ldc 212, 2) := by decide +kernel
theorem dX12_visit_98 : decode cX12_visit 98 = .ok (.iload_n 3, 1) := by decide +kernel
theorem dX12_visit_99 : decode cX12_visit 99 = .ok (.iadd, 1) := by decide +kernel
theorem dX12_visit_100 : decode cX12_visit 100 = .ok (.ireturn, 1) := by decide +kernel
theorem dX12_go_0 : decode cX12_go 0 = .ok (.iload_n 1, 1) := by decide +kernel
theorem dX12_go_1 : decode cX12_go 1 = .ok (.i2l, 1) := by decide +kernel
theorem dX12_go_2 : decode cX12_go 2 = .ok (.lconst 1, 1) := by decide +kernel
theorem dX12_go_3 : decode cX12_go 3 = .ok (.ldc2_w 216, 3) := by decide +kernel
theorem dX12_go_6 : decode cX12_go 6 = .ok (.invokestatic 62, 3) := by decide +kernel
theorem dX12_go_9 : decode cX12_go 9 = .ok (.ifCond .ne 6, 3) := by decide +kernel
theorem dX12_go_12 : decode cX12_go 12 = .ok (.bipush (-3), 2) := by decide +kernel
theorem dX12_go_14 : decode cX12_go 14 = .ok (.ireturn, 1) := by decide +kernel
theorem dX12_go_15 : decode cX12_go 15 = .ok (.iconst 0, 1) := by decide +kernel
theorem dX12_go_16 : decode cX12_go 16 = .ok (.istore_n 2, 1) := by decide +kernel
theorem dX12_go_17 : decode cX12_go 17 = .ok (.iload_n 2, 1) := by decide +kernel
theorem dX12_go_18 : decode cX12_go 18 = .ok (.iload_n 1, 1) := by decide +kernel
theorem dX12_go_19 : decode cX12_go 19 = .ok (.if_icmp .ge 52, 3) := by decide +kernel
theorem dX12_go_22 : decode cX12_go 22 = .ok (.aload_n 0, 1) := by decide +kernel
theorem dX12_go_23 : decode cX12_go 23 = .ok (.getfield 7, 3) := by decide +kernel
theorem dX12_go_26 : decode cX12_go 26 = .ok (.bipush 30, 2) := by decide +kernel
theorem dX12_go_28 : decode cX12_go 28 = .ok (.iaload, 1) := by decide +kernel
theorem dX12_go_29 : decode cX12_go 29 = .ok (.aload_n 0, 1) := by decide +kernel
theorem dX12_go_30 : decode cX12_go 30 = .ok (.getfield 147, 3) := by decide +kernel
theorem dX12_go_33 : decode cX12_go 33 = .ok (.if_icmp .ge 38, 3) := by decide +kernel
theorem dX12_go_36 : decode cX12_go 36 = .ok (.aload_n 0, 1) := by decide +kernel
theorem dX12_go_37 : decode cX12_go 37 = .ok (.iconst 0, 1) := by decide +kernel
theorem dX12_go_38 : decode cX12_go 38 = .ok (.aload_n 0, 1) := by decide +kernel
theorem dX12_go_39 : decode cX12_go 39 = .ok (.getfield 39, 3) := by decide +kernel
theorem dX12_go_42 : decode cX12_go 42 = .ok (.aload_n 0, 1) := by decide +kernel
theorem dX12_go_43 : decode cX12_go 43 = .ok (.getfield 7, 3) := by decide +kernel
theorem dX12_go_46 : decode cX12_go 46 = .ok (.bipush 30, 2) := by decide +kernel
theorem dX12_go_48 : decode cX12_go 48 = .ok (.iaload, 1) := by decide +kernel
theorem dX12_go_49 : decode cX12_go 49 = .ok (.iaload, 1) := by decide +kernel
theorem dX12_go_50 : decode cX12_go 50 = .ok (.invokevirtual 218, 3) := by decide +kernel
theorem dX12_go_53 : decode cX12_go 53 = .ok (.pop, 1) := by decide +kernel
theorem dX12_go_54 : decode cX12_go 54 = .ok (.aload_n 0, 1) := by decide +kernel
theorem dX12_go_55 : decode cX12_go 55 = .ok (.getfield 7, 3) := by decide +kernel
theorem dX12_go_58 : decode cX12_go 58 = .ok (.bipush 30, 2) := by decide +kernel
theorem dX12_go_60 : decode cX12_go 60 = .ok (.dup2, 1) := by decide +kernel
theorem dX12_go_61 : decode cX12_go 61 = .ok (.iaload, 1) := by decide +kernel
theorem dX12_go_62 : decode cX12_go 62 = .ok (.iconst 1, 1) := by decide +kernel
theorem dX12_go_63 : decode cX12_go 63 = .ok (.iadd, 1) := by decide +kernel
theorem dX12_go_64 : decode cX12_go 64 = .ok (.iastore, 1) := by decide +kernel
theorem dX12_go_65 : decode cX12_go 65 = .ok (.iinc 2 1, 3) := by decide +kernel
theorem dX12_go_68 : decode cX12_go 68 = .ok (.goto (-51), 3) := by decide +kernel
theorem dX12_go_71 : decode cX12_go 71 = .ok (.aload_n 0, 1) := by decide +kernel
theorem dX12_go_72 : decode cX12_go 72 = .ok (.getfield 7, 3) := by decide +kernel
theorem dX12_go_75 : decode cX12_go 75 = .ok (.bipush 30, 2) := by decide +kernel
theorem dX12_go_77 : decode cX12_go 77 = .ok (.iaload, 1) := by decide +kernel
theorem dX12_go_78 : decode cX12_go 78 = .ok (.ireturn, 1) := by decide +kernel
theorem dX12_copy_0 : decode cX12_copy 0 = .ok (.iconst 0, 1) := by decide +kernel
theorem dX12_copy_1 : decode cX12_copy 1 = .ok (.istore_n 3, 1) := by decide +kernel
theorem dX12_copy_2 : decode cX12_copy 2 = .ok (.iload_n 3, 1) := by decide +kernel
theorem dX12_copy_3 : decode cX12_copy 3 = .ok (.bipush 31, 2) := by decide +kernel
theorem dX12_copy_5 : decode cX12_copy 5 = .ok (.if_icmp .ge 31, 3) := by decide +kernel
theorem dX12_copy_8 : decode cX12_copy 8 = .ok (.aload_n 0, 1) := by decide +kernel
theorem dX12_copy_9 : decode cX12_copy 9 = .ok (.getfield 7, 3) := by decide +kernel
theorem dX12_copy_12 : decode cX12_copy 12 = .ok (.bipush 31, 2) := by decide +kernel
theorem dX12_copy_14 : decode cX12_copy 14 = .ok (.iload_n 2, 1) := by decide +kernel
theorem dX12_copy_15 : decode cX12_copy 15 = .ok (.imul, 1) := by decide +kernel
theorem dX12_copy_16 : decode cX12_copy 16 = .ok (.iload_n 3, 1) := by decide +kernel
theorem dX12_copy_17 : decode cX12_copy 17 = .ok (.iadd, 1) := by decide +kernel
theorem dX12_copy_18 : decode cX12_copy 18 = .ok (.aload_n 0, 1) := by decide +kernel
theorem dX12_copy_19 : decode cX12_copy 19 = .ok (.getfield 7, 3) := by decide +kernel
theorem dX12_copy_22 : decode cX12_copy 22 = .ok (.bipush 31, 2) := by decide +kernel
theorem dX12_copy_24 : decode cX12_copy 24 = .ok (.iload_n 1, 1) := by decide +kernel
theorem dX12_copy_25 : decode cX12_copy 25 = .ok (.imul, 1) := by decide +kernel
theorem dX12_copy_26 : decode cX12_copy 26 = .ok (.iload_n 3, 1) := by decide +kernel
theorem dX12_copy_27 : decode cX12_copy 27 = .ok (.iadd, 1) := by decide +kernel
theorem dX12_copy_28 : decode cX12_copy 28 = .ok (.iaload, 1) := by decide +kernel
theorem dX12_copy_29 : decode cX12_copy 29 = .ok (.iastore, 1) := by decide +kernel
theorem dX12_copy_30 : decode cX12_copy 30 = .ok (.iinc 3 1, 3) := by decide +kernel
theorem dX12_copy_33 : decode cX12_copy 33 = .ok (.goto (-31), 3) := by decide +kernel
theorem dX12_copy_36 : decode cX12_copy 36 = .ok (.return_, 1) := by decide +kernel
theorem dX12_powerOf_0 : decode cX12_powerOf 0 = .ok (.iconst 1, 1) := by decide +kernel
theorem dX12_powerOf_1 : decode cX12_powerOf 1 = .ok (.istore_n 1, 1) := by decide +kernel
theorem dX12_powerOf_2 : decode cX12_powerOf 2 = .ok (.iconst 0, 1) := by decide +kernel
theorem dX12_powerOf_3 : decode cX12_powerOf 3 = .ok (.istore_n 2, 1) := by decide +kernel
theorem dX12_powerOf_4 : decode cX12_powerOf 4 = .ok (.iload_n 2, 1) := by decide +kernel
theorem dX12_powerOf_5 : decode cX12_powerOf 5 = .ok (.iload_n 0, 1) := by decide +kernel
theorem dX12_powerOf_6 : decode cX12_powerOf 6 = .ok (.if_icmp .ge 14, 3) := by decide +kernel
theorem dX12_powerOf_9 : decode cX12_powerOf 9 = .ok (.iload_n 1, 1) := by decide +kernel
theorem dX12_powerOf_10 : decode cX12_powerOf 10 = .ok (.bipush 7, 2) := by decide +kernel
theorem dX12_powerOf_12 : decode cX12_powerOf 12 = .ok (.imul, 1) := by decide +kernel
theorem dX12_powerOf_13 : decode cX12_powerOf 13 = .ok (.istore_n 1, 1) := by decide +kernel
theorem dX12_powerOf_14 : decode cX12_powerOf 14 = .ok (.iinc 2 1, 3) := by decide +kernel
theorem dX12_powerOf_17 : decode cX12_powerOf 17 = .ok (.goto (-13), 3) := by decide +kernel
theorem dX12_powerOf_20 : decode cX12_powerOf 20 = .ok (.iload_n 1, 1) := by decide +kernel
theorem dX12_powerOf_21 : decode cX12_powerOf 21 = .ok (.ireturn, 1) := by decide +kernel
theorem dX12_goRow_0 : decode cX12_goRow 0 = .ok (.aload_n 0, 1) := by decide +kernel
theorem dX12_goRow_1 : decode cX12_goRow 1 = .ok (.iconst 0, 1) := by decide +kernel
theorem dX12_goRow_2 : decode cX12_goRow 2 = .ok (.iconst 3, 1) := by decide +kernel
theorem dX12_goRow_3 : decode cX12_goRow 3 = .ok (.invokevirtual 221, 3) := by decide +kernel
theorem dX12_goRow_6 : decode cX12_goRow 6 = .ok (.bipush 93, 2) := by decide +kernel
theorem dX12_goRow_8 : decode cX12_goRow 8 = .ok (.istore 4, 2) := by decide +kernel
theorem dX12_goRow_10 : decode cX12_goRow 10 = .ok (.iload_n 3, 1) := by decide +kernel
theorem dX12_goRow_11 : decode cX12_goRow 11 = .ok (.invokestatic 225, 3) := by decide +kernel
theorem dX12_goRow_14 : decode cX12_goRow 14 = .ok (.istore 5, 2) := by decide +kernel
theorem dX12_goRow_16 : decode cX12_goRow 16 = .ok (.aload_n 0, 1) := by decide +kernel
theorem dX12_goRow_17 : decode cX12_goRow 17 = .ok (.getfield 7, 3) := by decide +kernel
theorem dX12_goRow_20 : decode cX12_goRow 20 = .ok (.bipush 30, 2) := by decide +kernel
theorem dX12_goRow_22 : decode cX12_goRow 22 = .ok (.iaload, 1) := by decide +kernel
theorem dX12_goRow_23 : decode cX12_goRow 23 = .ok (.istore 6, 2) := by decide +kernel
theorem dX12_goRow_25 : decode cX12_goRow 25 = .ok (.iload 6, 2) := by decide +kernel
theorem dX12_goRow_27 : decode cX12_goRow 27 = .ok (.aload_n 0, 1) := by decide +kernel
theorem dX12_goRow_28 : decode cX12_goRow 28 = .ok (.getfield 147, 3) := by decide +kernel
theorem dX12_goRow_31 : decode cX12_goRow 31 = .ok (.if_icmp .ge 103, 3) := by decide +kernel
theorem dX12_goRow_34 : decode cX12_goRow 34 = .ok (.aload_n 0, 1) := by decide +kernel
theorem dX12_goRow_35 : decode cX12_goRow 35 = .ok (.getfield 39, 3) := by decide +kernel
theorem dX12_goRow_38 : decode cX12_goRow 38 = .ok (.iload 6, 2) := by decide +kernel
theorem dX12_goRow_40 : decode cX12_goRow 40 = .ok (.iaload, 1) := by decide +kernel
theorem dX12_goRow_41 : decode cX12_goRow 41 = .ok (.istore 7, 2) := by decide +kernel
theorem dX12_goRow_43 : decode cX12_goRow 43 = .ok (.iload_n 1, 1) := by decide +kernel
theorem dX12_goRow_44 : decode cX12_goRow 44 = .ok (.iload 7, 2) := by decide +kernel
theorem dX12_goRow_46 : decode cX12_goRow 46 = .ok (.invokestatic 183, 3) := by decide +kernel
theorem dX12_goRow_49 : decode cX12_goRow 49 = .ok (.ifCond .eq 70, 3) := by decide +kernel
theorem dX12_goRow_52 : decode cX12_goRow 52 = .ok (.iload 5, 2) := by decide +kernel
theorem dX12_goRow_54 : decode cX12_goRow 54 = .ok (.bipush 7, 2) := by decide +kernel
theorem dX12_goRow_56 : decode cX12_goRow 56 = .ok (.idiv, 1) := by decide +kernel
theorem dX12_goRow_57 : decode cX12_goRow 57 = .ok (.istore 5, 2) := by decide +kernel
theorem dX12_goRow_59 : decode cX12_goRow 59 = .ok (.iload_n 2, 1) := by decide +kernel
theorem dX12_goRow_60 : decode cX12_goRow 60 = .ok (.iload 5, 2) := by decide +kernel
theorem dX12_goRow_62 : decode cX12_goRow 62 = .ok (.idiv, 1) := by decide +kernel
theorem dX12_goRow_63 : decode cX12_goRow 63 = .ok (.bipush 7, 2) := by decide +kernel
theorem dX12_goRow_65 : decode cX12_goRow 65 = .ok (.irem, 1) := by decide +kernel
theorem dX12_goRow_66 : decode cX12_goRow 66 = .ok (.iconst 1, 1) := by decide +kernel
theorem dX12_goRow_67 : decode cX12_goRow 67 = .ok (.isub, 1) := by decide +kernel
theorem dX12_goRow_68 : decode cX12_goRow 68 = .ok (.istore 8, 2) := by decide +kernel
theorem dX12_goRow_70 : decode cX12_goRow 70 = .ok (.iload 8, 2) := by decide +kernel
theorem dX12_goRow_72 : decode cX12_goRow 72 = .ok (.aload_n 0, 1) := by decide +kernel
theorem dX12_goRow_73 : decode cX12_goRow 73 = .ok (.getfield 23, 3) := by decide +kernel
theorem dX12_goRow_76 : decode cX12_goRow 76 = .ok (.if_icmp .ge 22, 3) := by decide +kernel
theorem dX12_goRow_79 : decode cX12_goRow 79 = .ok (.iload 8, 2) := by decide +kernel
theorem dX12_goRow_81 : decode cX12_goRow 81 = .ok (.iconst (-1), 1) := by decide +kernel
theorem dX12_goRow_82 : decode cX12_goRow 82 = .ok (.if_icmp .eq 18, 3) := by decide +kernel
theorem dX12_goRow_85 : decode cX12_goRow 85 = .ok (.aload_n 0, 1) := by decide +kernel
theorem dX12_goRow_86 : decode cX12_goRow 86 = .ok (.iload 4, 2) := by decide +kernel
theorem dX12_goRow_88 : decode cX12_goRow 88 = .ok (.iload 7, 2) := by decide +kernel
theorem dX12_goRow_90 : decode cX12_goRow 90 = .ok (.iload 8, 2) := by decide +kernel
theorem dX12_goRow_92 : decode cX12_goRow 92 = .ok (.invokevirtual 196, 3) := by decide +kernel
theorem dX12_goRow_95 : decode cX12_goRow 95 = .ok (.ifCond .ne 5, 3) := by decide +kernel
theorem dX12_goRow_98 : decode cX12_goRow 98 = .ok (.iconst (-1), 1) := by decide +kernel
theorem dX12_goRow_99 : decode cX12_goRow 99 = .ok (.ireturn, 1) := by decide +kernel
theorem dX12_goRow_100 : decode cX12_goRow 100 = .ok (.iload 8, 2) := by decide +kernel
theorem dX12_goRow_102 : decode cX12_goRow 102 = .ok (.iconst (-1), 1) := by decide +kernel
theorem dX12_goRow_103 : decode cX12_goRow 103 = .ok (.if_icmp .eq 13, 3) := by decide +kernel
theorem dX12_goRow_106 : decode cX12_goRow 106 = .ok (.aload_n 0, 1) := by decide +kernel
theorem dX12_goRow_107 : decode cX12_goRow 107 = .ok (.iload 4, 2) := by decide +kernel
theorem dX12_goRow_109 : decode cX12_goRow 109 = .ok (.iload 7, 2) := by decide +kernel
theorem dX12_goRow_111 : decode cX12_goRow 111 = .ok (.iload 8, 2) := by decide +kernel
theorem dX12_goRow_113 : decode cX12_goRow 113 = .ok (.invokevirtual 206, 3) := by decide +kernel
theorem dX12_goRow_116 : decode cX12_goRow 116 = .ok (.goto 12, 3) := by decide +kernel
theorem dX12_goRow_119 : decode cX12_goRow 119 = .ok (.aload_n 0, 1) := by decide +kernel
theorem dX12_goRow_120 : decode cX12_goRow 120 = .ok (.iload 4, 2) := by decide +kernel
theorem dX12_goRow_122 : decode cX12_goRow 122 = .ok (.iload 7, 2) := by decide +kernel
theorem dX12_goRow_124 : decode cX12_goRow 124 = .ok (.invokevirtual 218, 3) := by decide +kernel
theorem dX12_goRow_127 : decode cX12_goRow 127 = .ok (.pop, 1) := by decide +kernel
theorem dX12_goRow_128 : decode cX12_goRow 128 = .ok (.iinc 6 1, 3) := by decide +kernel
theorem dX12_goRow_131 : decode cX12_goRow 131 = .ok (.goto (-106), 3) := by decide +kernel
theorem dX12_goRow_134 : decode cX12_goRow 134 = .ok (.iconst 0, 1) := by decide +kernel
theorem dX12_goRow_135 : decode cX12_goRow 135 = .ok (.istore 6, 2) := by decide +kernel
theorem dX12_goRow_137 : decode cX12_goRow 137 = .ok (.iconst 0, 1) := by decide +kernel
theorem dX12_goRow_138 : decode cX12_goRow 138 = .ok (.istore 7, 2) := by decide +kernel
theorem dX12_goRow_140 : decode cX12_goRow 140 = .ok (.iload 7, 2) := by decide +kernel
theorem dX12_goRow_142 : decode cX12_goRow 142 = .ok (.iconst 4, 1) := by decide +kernel
theorem dX12_goRow_143 : decode cX12_goRow 143 = .ok (.if_icmp .ge 35, 3) := by decide +kernel
theorem dX12_goRow_146 : decode cX12_goRow 146 = .ok (.iload 6, 2) := by decide +kernel
theorem dX12_goRow_148 : decode cX12_goRow 148 = .ok (.iload_n 1, 1) := by decide +kernel
theorem dX12_goRow_149 : decode cX12_goRow 149 = .ok (.iload 7, 2) := by decide +kernel
theorem dX12_goRow_151 : decode cX12_goRow 151 = .ok (.invokestatic 183, 3) := by decide +kernel
theorem dX12_goRow_154 : decode cX12_goRow 154 = .ok (.ifCond .eq 14, 3) := by decide +kernel
theorem dX12_goRow_157 : decode cX12_goRow 157 = .ok (.aload_n 0, 1) := by decide +kernel
theorem dX12_goRow_158 : decode cX12_goRow 158 = .ok (.iload 4, 2) := by decide +kernel
theorem dX12_goRow_160 : decode cX12_goRow 160 = .ok (.iload 7, 2) := by decide +kernel
theorem dX12_goRow_162 : decode cX12_goRow 162 = .ok (.invokevirtual 186, 3) := by decide +kernel
theorem dX12_goRow_165 : decode cX12_goRow 165 = .ok (.goto 4, 3) := by decide +kernel
theorem dX12_goRow_168 : decode cX12_goRow 168 = .ok (.iconst 0, 1) := by decide +kernel
theorem dX12_goRow_169 : decode cX12_goRow 169 = .ok (.iadd, 1) := by decide +kernel
theorem dX12_goRow_170 : decode cX12_goRow 170 = .ok (.istore 6, 2) := by decide +kernel
theorem dX12_goRow_172 : decode cX12_goRow 172 = .ok (.iinc 7 1, 3) := by decide +kernel
theorem dX12_goRow_175 : decode cX12_goRow 175 = .ok (.goto (-35), 3) := by decide +kernel
theorem dX12_goRow_178 : decode cX12_goRow 178 = .ok (.iload 6, 2) := by decide +kernel
theorem dX12_goRow_180 : decode cX12_goRow 180 = .ok (.ireturn, 1) := by decide +kernel
theorem dX12_layPlan_0 : decode cX12_layPlan 0 = .ok (.aload_n 0, 1) := by decide +kernel
theorem dX12_layPlan_1 : decode cX12_layPlan 1 = .ok (.iconst (-1), 1) := by decide +kernel
theorem dX12_layPlan_2 : decode cX12_layPlan 2 = .ok (.putfield 228, 3) := by decide +kernel
theorem dX12_layPlan_5 : decode cX12_layPlan 5 = .ok (.aload_n 0, 1) := by decide +kernel
theorem dX12_layPlan_6 : decode cX12_layPlan 6 = .ok (.iconst 0, 1) := by decide +kernel
theorem dX12_layPlan_7 : decode cX12_layPlan 7 = .ok (.putfield 231, 3) := by decide +kernel
theorem dX12_layPlan_10 : decode cX12_layPlan 10 = .ok (.iconst 0, 1) := by decide +kernel
theorem dX12_layPlan_11 : decode cX12_layPlan 11 = .ok (.istore_n 3, 1) := by decide +kernel
theorem dX12_layPlan_12 : decode cX12_layPlan 12 = .ok (.iload_n 3, 1) := by decide +kernel
theorem dX12_layPlan_13 : decode cX12_layPlan 13 = .ok (.iload_n 2, 1) := by decide +kernel
theorem dX12_layPlan_14 : decode cX12_layPlan 14 = .ok (.invokestatic 225, 3) := by decide +kernel
theorem dX12_layPlan_17 : decode cX12_layPlan 17 = .ok (.if_icmp .ge 38, 3) := by decide +kernel
theorem dX12_layPlan_20 : decode cX12_layPlan 20 = .ok (.aload_n 0, 1) := by decide +kernel
theorem dX12_layPlan_21 : decode cX12_layPlan 21 = .ok (.iload_n 1, 1) := by decide +kernel
theorem dX12_layPlan_22 : decode cX12_layPlan 22 = .ok (.iload_n 3, 1) := by decide +kernel
theorem dX12_layPlan_23 : decode cX12_layPlan 23 = .ok (.iload_n 2, 1) := by decide +kernel
theorem dX12_layPlan_24 : decode cX12_layPlan 24 = .ok (.invokevirtual 234, 3) := by decide +kernel
theorem dX12_layPlan_27 : decode cX12_layPlan 27 = .ok (.istore 4, 2) := by decide +kernel
theorem dX12_layPlan_29 : decode cX12_layPlan 29 = .ok (.iload 4, 2) := by decide +kernel
theorem dX12_layPlan_31 : decode cX12_layPlan 31 = .ok (.aload_n 0, 1) := by decide +kernel
theorem dX12_layPlan_32 : decode cX12_layPlan 32 = .ok (.getfield 228, 3) := by decide +kernel
theorem dX12_layPlan_35 : decode cX12_layPlan 35 = .ok (.if_icmp .le 14, 3) := by decide +kernel
theorem dX12_layPlan_38 : decode cX12_layPlan 38 = .ok (.aload_n 0, 1) := by decide +kernel
theorem dX12_layPlan_39 : decode cX12_layPlan 39 = .ok (.iload 4, 2) := by decide +kernel
theorem dX12_layPlan_41 : decode cX12_layPlan 41 = .ok (.putfield 228, 3) := by decide +kernel
theorem dX12_layPlan_44 : decode cX12_layPlan 44 = .ok (.aload_n 0, 1) := by decide +kernel
theorem dX12_layPlan_45 : decode cX12_layPlan 45 = .ok (.iload_n 3, 1) := by decide +kernel
theorem dX12_layPlan_46 : decode cX12_layPlan 46 = .ok (.putfield 231, 3) := by decide +kernel
theorem dX12_layPlan_49 : decode cX12_layPlan 49 = .ok (.iinc 3 1, 3) := by decide +kernel
theorem dX12_layPlan_52 : decode cX12_layPlan 52 = .ok (.goto (-40), 3) := by decide +kernel
theorem dX12_layPlan_55 : decode cX12_layPlan 55 = .ok (.return_, 1) := by decide +kernel
theorem dX12_plan_0 : decode cX12_plan 0 = .ok (.iload_n 1, 1) := by decide +kernel
theorem dX12_plan_1 : decode cX12_plan 1 = .ok (.invokestatic 180, 3) := by decide +kernel
theorem dX12_plan_4 : decode cX12_plan 4 = .ok (.ifCond .ne 6, 3) := by decide +kernel
theorem dX12_plan_7 : decode cX12_plan 7 = .ok (.bipush (-2), 2) := by decide +kernel
theorem dX12_plan_9 : decode cX12_plan 9 = .ok (.ireturn, 1) := by decide +kernel
theorem dX12_plan_10 : decode cX12_plan 10 = .ok (.iload_n 2, 1) := by decide +kernel
theorem dX12_plan_11 : decode cX12_plan 11 = .ok (.iconst (-1), 1) := by decide +kernel
theorem dX12_plan_12 : decode cX12_plan 12 = .ok (.if_icmp .ge 6, 3) := by decide +kernel
theorem dX12_plan_15 : decode cX12_plan 15 = .ok (.bipush (-3), 2) := by decide +kernel
theorem dX12_plan_17 : decode cX12_plan 17 = .ok (.ireturn, 1) := by decide +kernel
theorem dX12_plan_18 : decode cX12_plan 18 = .ok (.aload_n 0, 1) := by decide +kernel
theorem dX12_plan_19 : decode cX12_plan 19 = .ok (.iconst 1, 1) := by decide +kernel
theorem dX12_plan_20 : decode cX12_plan 20 = .ok (.iload_n 1, 1) := by decide +kernel
theorem dX12_plan_21 : decode cX12_plan 21 = .ok (.ishl, 1) := by decide +kernel
theorem dX12_plan_22 : decode cX12_plan 22 = .ok (.invokevirtual 190, 3) := by decide +kernel
theorem dX12_plan_25 : decode cX12_plan 25 = .ok (.istore_n 3, 1) := by decide +kernel
theorem dX12_plan_26 : decode cX12_plan 26 = .ok (.iload_n 3, 1) := by decide +kernel
theorem dX12_plan_27 : decode cX12_plan 27 = .ok (.iconst 5, 1) := by decide +kernel
theorem dX12_plan_28 : decode cX12_plan 28 = .ok (.if_icmp .le 6, 3) := by decide +kernel
theorem dX12_plan_31 : decode cX12_plan 31 = .ok (.bipush (-4), 2) := by decide +kernel
theorem dX12_plan_33 : decode cX12_plan 33 = .ok (.ireturn, 1) := by decide +kernel
theorem dX12_plan_34 : decode cX12_plan 34 = .ok (.aload_n 0, 1) := by decide +kernel
theorem dX12_plan_35 : decode cX12_plan 35 = .ok (.iconst 1, 1) := by decide +kernel
theorem dX12_plan_36 : decode cX12_plan 36 = .ok (.iload_n 1, 1) := by decide +kernel
theorem dX12_plan_37 : decode cX12_plan 37 = .ok (.ishl, 1) := by decide +kernel
theorem dX12_plan_38 : decode cX12_plan 38 = .ok (.iload_n 3, 1) := by decide +kernel
theorem dX12_plan_39 : decode cX12_plan 39 = .ok (.invokevirtual 238, 3) := by decide +kernel
theorem dX12_plan_42 : decode cX12_plan 42 = .ok (.iload_n 2, 1) := by decide +kernel
theorem dX12_plan_43 : decode cX12_plan 43 = .ok (.iconst (-1), 1) := by decide +kernel
theorem dX12_plan_44 : decode cX12_plan 44 = .ok (.if_icmp .ne 10, 3) := by decide +kernel
theorem dX12_plan_47 : decode cX12_plan 47 = .ok (.aload_n 0, 1) := by decide +kernel
theorem dX12_plan_48 : decode cX12_plan 48 = .ok (.getfield 228, 3) := by decide +kernel
theorem dX12_plan_51 : decode cX12_plan 51 = .ok (.goto 28, 3) := by decide +kernel
theorem dX12_plan_54 : decode cX12_plan 54 = .ok (.iload_n 2, 1) := by decide +kernel
theorem dX12_plan_55 : decode cX12_plan 55 = .ok (.iload_n 3, 1) := by decide +kernel
theorem dX12_plan_56 : decode cX12_plan 56 = .ok (.if_icmp .ge 22, 3) := by decide +kernel
theorem dX12_plan_59 : decode cX12_plan 59 = .ok (.aload_n 0, 1) := by decide +kernel
theorem dX12_plan_60 : decode cX12_plan 60 = .ok (.getfield 231, 3) := by decide +kernel
theorem dX12_plan_63 : decode cX12_plan 63 = .ok (.iload_n 3, 1) := by decide +kernel
theorem dX12_plan_64 : decode cX12_plan 64 = .ok (.iconst 1, 1) := by decide +kernel
theorem dX12_plan_65 : decode cX12_plan 65 = .ok (.isub, 1) := by decide +kernel
theorem dX12_plan_66 : decode cX12_plan 66 = .ok (.iload_n 2, 1) := by decide +kernel
theorem dX12_plan_67 : decode cX12_plan 67 = .ok (.isub, 1) := by decide +kernel
theorem dX12_plan_68 : decode cX12_plan 68 = .ok (.invokestatic 225, 3) := by decide +kernel
theorem dX12_plan_71 : decode cX12_plan 71 = .ok (.idiv, 1) := by decide +kernel
theorem dX12_plan_72 : decode cX12_plan 72 = .ok (.bipush 7, 2) := by decide +kernel
theorem dX12_plan_74 : decode cX12_plan 74 = .ok (.irem, 1) := by decide +kernel
theorem dX12_plan_75 : decode cX12_plan 75 = .ok (.goto 4, 3) := by decide +kernel
theorem dX12_plan_78 : decode cX12_plan 78 = .ok (.iconst (-1), 1) := by decide +kernel
theorem dX12_plan_79 : decode cX12_plan 79 = .ok (.ireturn, 1) := by decide +kernel
theorem dX12_league_0 : decode cX12_league 0 = .ok (.iload_n 1, 1) := by decide +kernel
theorem dX12_league_1 : decode cX12_league 1 = .ok (.invokestatic 180, 3) := by decide +kernel
theorem dX12_league_4 : decode cX12_league 4 = .ok (.ifCond .eq 10, 3) := by decide +kernel
theorem dX12_league_7 : decode cX12_league 7 = .ok (.iload_n 2, 1) := by decide +kernel
theorem dX12_league_8 : decode cX12_league 8 = .ok (.invokestatic 180, 3) := by decide +kernel
theorem dX12_league_11 : decode cX12_league 11 = .ok (.ifCond .ne 6, 3) := by decide +kernel
theorem dX12_league_14 : decode cX12_league 14 = .ok (.bipush (-2), 2) := by decide +kernel
theorem dX12_league_16 : decode cX12_league 16 = .ok (.ireturn, 1) := by decide +kernel
theorem dX12_league_17 : decode cX12_league 17 = .ok (.iload_n 1, 1) := by decide +kernel
theorem dX12_league_18 : decode cX12_league 18 = .ok (.iload_n 2, 1) := by decide +kernel
theorem dX12_league_19 : decode cX12_league 19 = .ok (.if_icmp .ne 6, 3) := by decide +kernel
theorem dX12_league_22 : decode cX12_league 22 = .ok (.bipush (-3), 2) := by decide +kernel
theorem dX12_league_24 : decode cX12_league 24 = .ok (.ireturn, 1) := by decide +kernel
theorem dX12_league_25 : decode cX12_league 25 = .ok (.iconst 1, 1) := by decide +kernel
theorem dX12_league_26 : decode cX12_league 26 = .ok (.iload_n 1, 1) := by decide +kernel
theorem dX12_league_27 : decode cX12_league 27 = .ok (.ishl, 1) := by decide +kernel
theorem dX12_league_28 : decode cX12_league 28 = .ok (.iconst 1, 1) := by decide +kernel
theorem dX12_league_29 : decode cX12_league 29 = .ok (.iload_n 2, 1) := by decide +kernel
theorem dX12_league_30 : decode cX12_league 30 = .ok (.ishl, 1) := by decide +kernel
theorem dX12_league_31 : decode cX12_league 31 = .ok (.ior, 1) := by decide +kernel
theorem dX12_league_32 : decode cX12_league 32 = .ok (.istore_n 3, 1) := by decide +kernel
theorem dX12_league_33 : decode cX12_league 33 = .ok (.aload_n 0, 1) := by decide +kernel
theorem dX12_league_34 : decode cX12_league 34 = .ok (.iload_n 3, 1) := by decide +kernel
theorem dX12_league_35 : decode cX12_league 35 = .ok (.invokevirtual 190, 3) := by decide +kernel
theorem dX12_league_38 : decode cX12_league 38 = .ok (.istore 4, 2) := by decide +kernel
theorem dX12_league_40 : decode cX12_league 40 = .ok (.iload 4, 2) := by decide +kernel
theorem dX12_league_42 : decode cX12_league 42 = .ok (.iconst 5, 1) := by decide +kernel
theorem dX12_league_43 : decode cX12_league 43 = .ok (.if_icmp .le 6, 3) := by decide +kernel
theorem dX12_league_46 : decode cX12_league 46 = .ok (.bipush (-4), 2) := by decide +kernel
theorem dX12_league_48 : decode cX12_league 48 = .ok (.ireturn, 1) := by decide +kernel
theorem dX12_league_49 : decode cX12_league 49 = .ok (.aload_n 0, 1) := by decide +kernel
theorem dX12_league_50 : decode cX12_league 50 = .ok (.iload_n 3, 1) := by decide +kernel
theorem dX12_league_51 : decode cX12_league 51 = .ok (.iload 4, 2) := by decide +kernel
theorem dX12_league_53 : decode cX12_league 53 = .ok (.invokevirtual 238, 3) := by decide +kernel
theorem dX12_league_56 : decode cX12_league 56 = .ok (.aload_n 0, 1) := by decide +kernel
theorem dX12_league_57 : decode cX12_league 57 = .ok (.getfield 228, 3) := by decide +kernel
theorem dX12_league_60 : decode cX12_league 60 = .ok (.ireturn, 1) := by decide +kernel
theorem dX12_takeUp_0 : decode cX12_takeUp 0 = .ok (.aload_n 0, 1) := by decide +kernel
theorem dX12_takeUp_1 : decode cX12_takeUp 1 = .ok (.getfield 45, 3) := by decide +kernel
theorem dX12_takeUp_4 : decode cX12_takeUp 4 = .ok (.iload_n 1, 1) := by decide +kernel
theorem dX12_takeUp_5 : decode cX12_takeUp 5 = .ok (.iaload, 1) := by decide +kernel
theorem dX12_takeUp_6 : decode cX12_takeUp 6 = .ok (.ifCond .eq 28, 3) := by decide +kernel
theorem dX12_takeUp_9 : decode cX12_takeUp 9 = .ok (.aload_n 0, 1) := by decide +kernel
theorem dX12_takeUp_10 : decode cX12_takeUp 10 = .ok (.getfield 48, 3) := by decide +kernel
theorem dX12_takeUp_13 : decode cX12_takeUp 13 = .ok (.iconst 4, 1) := by decide +kernel
theorem dX12_takeUp_14 : decode cX12_takeUp 14 = .ok (.iload_n 1, 1) := by decide +kernel
theorem dX12_takeUp_15 : decode cX12_takeUp 15 = .ok (.imul, 1) := by decide +kernel
theorem dX12_takeUp_16 : decode cX12_takeUp 16 = .ok (.iconst 4, 1) := by decide +kernel
theorem dX12_takeUp_17 : decode cX12_takeUp 17 = .ok (.iadd, 1) := by decide +kernel
theorem dX12_takeUp_18 : decode cX12_takeUp 18 = .ok (.iload_n 2, 1) := by decide +kernel
theorem dX12_takeUp_19 : decode cX12_takeUp 19 = .ok (.iadd, 1) := by decide +kernel
theorem dX12_takeUp_20 : decode cX12_takeUp 20 = .ok (.iaload, 1) := by decide +kernel
theorem dX12_takeUp_21 : decode cX12_takeUp 21 = .ok (.aload_n 0, 1) := by decide +kernel
theorem dX12_takeUp_22 : decode cX12_takeUp 22 = .ok (.getfield 48, 3) := by decide +kernel
theorem dX12_takeUp_25 : decode cX12_takeUp 25 = .ok (.iconst 4, 1) := by decide +kernel
theorem dX12_takeUp_26 : decode cX12_takeUp 26 = .ok (.iload_n 1, 1) := by decide +kernel
theorem dX12_takeUp_27 : decode cX12_takeUp 27 = .ok (.imul, 1) := by decide +kernel
theorem dX12_takeUp_28 : decode cX12_takeUp 28 = .ok (.iload_n 2, 1) := by decide +kernel
theorem dX12_takeUp_29 : decode cX12_takeUp 29 = .ok (.iadd, 1) := by decide +kernel
theorem dX12_takeUp_30 : decode cX12_takeUp 30 = .ok (.iaload, 1) := by decide +kernel
theorem dX12_takeUp_31 : decode cX12_takeUp 31 = .ok (.if_icmp .le 94, 3) := by decide +kernel
theorem dX12_takeUp_34 : decode cX12_takeUp 34 = .ok (.iconst 0, 1) := by decide +kernel
theorem dX12_takeUp_35 : decode cX12_takeUp 35 = .ok (.istore_n 3, 1) := by decide +kernel
theorem dX12_takeUp_36 : decode cX12_takeUp 36 = .ok (.iload_n 3, 1) := by decide +kernel
theorem dX12_takeUp_37 : decode cX12_takeUp 37 = .ok (.iconst 4, 1) := by decide +kernel
theorem dX12_takeUp_38 : decode cX12_takeUp 38 = .ok (.if_icmp .ge 31, 3) := by decide +kernel
theorem dX12_takeUp_41 : decode cX12_takeUp 41 = .ok (.aload_n 0, 1) := by decide +kernel
theorem dX12_takeUp_42 : decode cX12_takeUp 42 = .ok (.getfield 48, 3) := by decide +kernel
theorem dX12_takeUp_45 : decode cX12_takeUp 45 = .ok (.iconst 4, 1) := by decide +kernel
theorem dX12_takeUp_46 : decode cX12_takeUp 46 = .ok (.iload_n 1, 1) := by decide +kernel
theorem dX12_takeUp_47 : decode cX12_takeUp 47 = .ok (.imul, 1) := by decide +kernel
theorem dX12_takeUp_48 : decode cX12_takeUp 48 = .ok (.iload_n 3, 1) := by decide +kernel
theorem dX12_takeUp_49 : decode cX12_takeUp 49 = .ok (.iadd, 1) := by decide +kernel
theorem dX12_takeUp_50 : decode cX12_takeUp 50 = .ok (.aload_n 0, 1) := by decide +kernel
theorem dX12_takeUp_51 : decode cX12_takeUp 51 = .ok (.getfield 48, 3) := by decide +kernel
theorem dX12_takeUp_54 : decode cX12_takeUp 54 = .ok (.iconst 4, 1) := by decide +kernel
theorem dX12_takeUp_55 : decode cX12_takeUp 55 = .ok (.iload_n 1, 1) := by decide +kernel
theorem dX12_takeUp_56 : decode cX12_takeUp 56 = .ok (.imul, 1) := by decide +kernel
theorem dX12_takeUp_57 : decode cX12_takeUp 57 = .ok (.iconst 4, 1) := by decide +kernel
theorem dX12_takeUp_58 : decode cX12_takeUp 58 = .ok (.iadd, 1) := by decide +kernel
theorem dX12_takeUp_59 : decode cX12_takeUp 59 = .ok (.iload_n 3, 1) := by decide +kernel
theorem dX12_takeUp_60 : decode cX12_takeUp 60 = .ok (.iadd, 1) := by decide +kernel
theorem dX12_takeUp_61 : decode cX12_takeUp 61 = .ok (.iaload, 1) := by decide +kernel
theorem dX12_takeUp_62 : decode cX12_takeUp 62 = .ok (.iastore, 1) := by decide +kernel
theorem dX12_takeUp_63 : decode cX12_takeUp 63 = .ok (.iinc 3 1, 3) := by decide +kernel
theorem dX12_takeUp_66 : decode cX12_takeUp 66 = .ok (.goto (-30), 3) := by decide +kernel
theorem dX12_takeUp_69 : decode cX12_takeUp 69 = .ok (.aload_n 0, 1) := by decide +kernel
theorem dX12_takeUp_70 : decode cX12_takeUp 70 = .ok (.getfield 51, 3) := by decide +kernel
theorem dX12_takeUp_73 : decode cX12_takeUp 73 = .ok (.bipush 7, 2) := by decide +kernel
theorem dX12_takeUp_75 : decode cX12_takeUp 75 = .ok (.iload_n 1, 1) := by decide +kernel
theorem dX12_takeUp_76 : decode cX12_takeUp 76 = .ok (.imul, 1) := by decide +kernel
theorem dX12_takeUp_77 : decode cX12_takeUp 77 = .ok (.aload_n 0, 1) := by decide +kernel
theorem dX12_takeUp_78 : decode cX12_takeUp 78 = .ok (.getfield 45, 3) := by decide +kernel
theorem dX12_takeUp_81 : decode cX12_takeUp 81 = .ok (.iload_n 1, 1) := by decide +kernel
theorem dX12_takeUp_82 : decode cX12_takeUp 82 = .ok (.iaload, 1) := by decide +kernel
theorem dX12_takeUp_83 : decode cX12_takeUp 83 = .ok (.iastore, 1) := by decide +kernel
theorem dX12_takeUp_84 : decode cX12_takeUp 84 = .ok (.iconst 0, 1) := by decide +kernel
theorem dX12_takeUp_85 : decode cX12_takeUp 85 = .ok (.istore_n 3, 1) := by decide +kernel
theorem dX12_takeUp_86 : decode cX12_takeUp 86 = .ok (.iload_n 3, 1) := by decide +kernel
theorem dX12_takeUp_87 : decode cX12_takeUp 87 = .ok (.bipush 6, 2) := by decide +kernel
theorem dX12_takeUp_89 : decode cX12_takeUp 89 = .ok (.if_icmp .ge 36, 3) := by decide +kernel
theorem dX12_takeUp_92 : decode cX12_takeUp 92 = .ok (.aload_n 0, 1) := by decide +kernel
theorem dX12_takeUp_93 : decode cX12_takeUp 93 = .ok (.getfield 51, 3) := by decide +kernel
theorem dX12_takeUp_96 : decode cX12_takeUp 96 = .ok (.bipush 7, 2) := by decide +kernel
theorem dX12_takeUp_98 : decode cX12_takeUp 98 = .ok (.iload_n 1, 1) := by decide +kernel
theorem dX12_takeUp_99 : decode cX12_takeUp 99 = .ok (.imul, 1) := by decide +kernel
theorem dX12_takeUp_100 : decode cX12_takeUp 100 = .ok (.iconst 1, 1) := by decide +kernel
theorem dX12_takeUp_101 : decode cX12_takeUp 101 = .ok (.iadd, 1) := by decide +kernel
theorem dX12_takeUp_102 : decode cX12_takeUp 102 = .ok (.iload_n 3, 1) := by decide +kernel
theorem dX12_takeUp_103 : decode cX12_takeUp 103 = .ok (.iadd, 1) := by decide +kernel
theorem dX12_takeUp_104 : decode cX12_takeUp 104 = .ok (.aload_n 0, 1) := by decide +kernel
theorem dX12_takeUp_105 : decode cX12_takeUp 105 = .ok (.getfield 51, 3) := by decide +kernel
theorem dX12_takeUp_108 : decode cX12_takeUp 108 = .ok (.bipush 7, 2) := by decide +kernel
theorem dX12_takeUp_110 : decode cX12_takeUp 110 = .ok (.iload_n 1, 1) := by decide +kernel
theorem dX12_takeUp_111 : decode cX12_takeUp 111 = .ok (.imul, 1) := by decide +kernel
theorem dX12_takeUp_112 : decode cX12_takeUp 112 = .ok (.bipush 7, 2) := by decide +kernel
theorem dX12_takeUp_114 : decode cX12_takeUp 114 = .ok (.iadd, 1) := by decide +kernel
theorem dX12_takeUp_115 : decode cX12_takeUp 115 = .ok (.iload_n 3, 1) := by decide +kernel
theorem dX12_takeUp_116 : decode cX12_takeUp 116 = .ok (.iadd, 1) := by decide +kernel
theorem dX12_takeUp_117 : decode cX12_takeUp 117 = .ok (.iaload, 1) := by decide +kernel
theorem dX12_takeUp_118 : decode cX12_takeUp 118 = .ok (.iastore, 1) := by decide +kernel
theorem dX12_takeUp_119 : decode cX12_takeUp 119 = .ok (.iinc 3 1, 3) := by decide +kernel
theorem dX12_takeUp_122 : decode cX12_takeUp 122 = .ok (.goto (-36), 3) := by decide +kernel
theorem dX12_takeUp_125 : decode cX12_takeUp 125 = .ok (.return_, 1) := by decide +kernel
theorem dX12_opens_0 : decode cX12_opens 0 = .ok (.bipush 31, 2) := by decide +kernel
theorem dX12_opens_2 : decode cX12_opens 2 = .ok (.iconst 3, 1) := by decide +kernel
theorem dX12_opens_3 : decode cX12_opens 3 = .ok (.iload_n 1, 1) := by decide +kernel
theorem dX12_opens_4 : decode cX12_opens 4 = .ok (.iadd, 1) := by decide +kernel
theorem dX12_opens_5 : decode cX12_opens 5 = .ok (.imul, 1) := by decide +kernel
theorem dX12_opens_6 : decode cX12_opens 6 = .ok (.istore_n 3, 1) := by decide +kernel
theorem dX12_opens_7 : decode cX12_opens 7 = .ok (.aload_n 0, 1) := by decide +kernel
theorem dX12_opens_8 : decode cX12_opens 8 = .ok (.getfield 45, 3) := by decide +kernel
theorem dX12_opens_11 : decode cX12_opens 11 = .ok (.iload_n 1, 1) := by decide +kernel
theorem dX12_opens_12 : decode cX12_opens 12 = .ok (.iaload, 1) := by decide +kernel
theorem dX12_opens_13 : decode cX12_opens 13 = .ok (.iconst 1, 1) := by decide +kernel
theorem dX12_opens_14 : decode cX12_opens 14 = .ok (.isub, 1) := by decide +kernel
theorem dX12_opens_15 : decode cX12_opens 15 = .ok (.istore 4, 2) := by decide +kernel
theorem dX12_opens_17 : decode cX12_opens 17 = .ok (.iload 4, 2) := by decide +kernel
theorem dX12_opens_19 : decode cX12_opens 19 = .ok (.iconst (-1), 1) := by decide +kernel
theorem dX12_opens_20 : decode cX12_opens 20 = .ok (.if_icmp .eq 16, 3) := by decide +kernel
theorem dX12_opens_23 : decode cX12_opens 23 = .ok (.aload_n 0, 1) := by decide +kernel
theorem dX12_opens_24 : decode cX12_opens 24 = .ok (.iload_n 3, 1) := by decide +kernel
theorem dX12_opens_25 : decode cX12_opens 25 = .ok (.iload_n 2, 1) := by decide +kernel
theorem dX12_opens_26 : decode cX12_opens 26 = .ok (.iload 4, 2) := by decide +kernel
theorem dX12_opens_28 : decode cX12_opens 28 = .ok (.invokevirtual 196, 3) := by decide +kernel
theorem dX12_opens_31 : decode cX12_opens 31 = .ok (.ifCond .ne 5, 3) := by decide +kernel
theorem dX12_opens_34 : decode cX12_opens 34 = .ok (.iconst 0, 1) := by decide +kernel
theorem dX12_opens_35 : decode cX12_opens 35 = .ok (.ireturn, 1) := by decide +kernel
theorem dX12_opens_36 : decode cX12_opens 36 = .ok (.aload_n 0, 1) := by decide +kernel
theorem dX12_opens_37 : decode cX12_opens 37 = .ok (.iconst 3, 1) := by decide +kernel
theorem dX12_opens_38 : decode cX12_opens 38 = .ok (.iload_n 1, 1) := by decide +kernel
theorem dX12_opens_39 : decode cX12_opens 39 = .ok (.iadd, 1) := by decide +kernel
theorem dX12_opens_40 : decode cX12_opens 40 = .ok (.iconst 3, 1) := by decide +kernel
theorem dX12_opens_41 : decode cX12_opens 41 = .ok (.iload_n 1, 1) := by decide +kernel
theorem dX12_opens_42 : decode cX12_opens 42 = .ok (.iadd, 1) := by decide +kernel
theorem dX12_opens_43 : decode cX12_opens 43 = .ok (.iconst 1, 1) := by decide +kernel
theorem dX12_opens_44 : decode cX12_opens 44 = .ok (.iadd, 1) := by decide +kernel
theorem dX12_opens_45 : decode cX12_opens 45 = .ok (.invokevirtual 221, 3) := by decide +kernel
theorem dX12_opens_48 : decode cX12_opens 48 = .ok (.iload 4, 2) := by decide +kernel
theorem dX12_opens_50 : decode cX12_opens 50 = .ok (.iconst (-1), 1) := by decide +kernel
theorem dX12_opens_51 : decode cX12_opens 51 = .ok (.if_icmp .eq 14, 3) := by decide +kernel
theorem dX12_opens_54 : decode cX12_opens 54 = .ok (.aload_n 0, 1) := by decide +kernel
theorem dX12_opens_55 : decode cX12_opens 55 = .ok (.iload_n 3, 1) := by decide +kernel
theorem dX12_opens_56 : decode cX12_opens 56 = .ok (.bipush 31, 2) := by decide +kernel
theorem dX12_opens_58 : decode cX12_opens 58 = .ok (.iadd, 1) := by decide +kernel
theorem dX12_opens_59 : decode cX12_opens 59 = .ok (.iload_n 2, 1) := by decide +kernel
theorem dX12_opens_60 : decode cX12_opens 60 = .ok (.iload 4, 2) := by decide +kernel
theorem dX12_opens_62 : decode cX12_opens 62 = .ok (.invokevirtual 206, 3) := by decide +kernel
theorem dX12_opens_65 : decode cX12_opens 65 = .ok (.aload_n 0, 1) := by decide +kernel
theorem dX12_opens_66 : decode cX12_opens 66 = .ok (.getfield 45, 3) := by decide +kernel
theorem dX12_opens_69 : decode cX12_opens 69 = .ok (.iload_n 1, 1) := by decide +kernel
theorem dX12_opens_70 : decode cX12_opens 70 = .ok (.iconst 1, 1) := by decide +kernel
theorem dX12_opens_71 : decode cX12_opens 71 = .ok (.iadd, 1) := by decide +kernel
theorem dX12_opens_72 : decode cX12_opens 72 = .ok (.iconst 0, 1) := by decide +kernel
theorem dX12_opens_73 : decode cX12_opens 73 = .ok (.iastore, 1) := by decide +kernel
theorem dX12_opens_74 : decode cX12_opens 74 = .ok (.iconst 1, 1) := by decide +kernel
theorem dX12_opens_75 : decode cX12_opens 75 = .ok (.ireturn, 1) := by decide +kernel
theorem dX12_layGame_0 : decode cX12_layGame 0 = .ok (.aload_n 0, 1) := by decide +kernel
theorem dX12_layGame_1 : decode cX12_layGame 1 = .ok (.invokevirtual 213, 3) := by decide +kernel
theorem dX12_layGame_4 : decode cX12_layGame 4 = .ok (.istore_n 1, 1) := by decide +kernel
theorem dX12_layGame_5 : decode cX12_layGame 5 = .ok (.aload_n 0, 1) := by decide +kernel
theorem dX12_layGame_6 : decode cX12_layGame 6 = .ok (.iconst 0, 1) := by decide +kernel
theorem dX12_layGame_7 : decode cX12_layGame 7 = .ok (.iconst 3, 1) := by decide +kernel
theorem dX12_layGame_8 : decode cX12_layGame 8 = .ok (.invokevirtual 221, 3) := by decide +kernel
theorem dX12_layGame_11 : decode cX12_layGame 11 = .ok (.aload_n 0, 1) := by decide +kernel
theorem dX12_layGame_12 : decode cX12_layGame 12 = .ok (.getfield 45, 3) := by decide +kernel
theorem dX12_layGame_15 : decode cX12_layGame 15 = .ok (.iconst 0, 1) := by decide +kernel
theorem dX12_layGame_16 : decode cX12_layGame 16 = .ok (.iconst 0, 1) := by decide +kernel
theorem dX12_layGame_17 : decode cX12_layGame 17 = .ok (.iastore, 1) := by decide +kernel
theorem dX12_layGame_18 : decode cX12_layGame 18 = .ok (.iconst 0, 1) := by decide +kernel
theorem dX12_layGame_19 : decode cX12_layGame 19 = .ok (.istore_n 2, 1) := by decide +kernel
theorem dX12_layGame_20 : decode cX12_layGame 20 = .ok (.iload_n 2, 1) := by decide +kernel
theorem dX12_layGame_21 : decode cX12_layGame 21 = .ok (.ifCond .lt 153, 3) := by decide +kernel
theorem dX12_layGame_24 : decode cX12_layGame 24 = .ok (.iload_n 2, 1) := by decide +kernel
theorem dX12_layGame_25 : decode cX12_layGame 25 = .ok (.iload_n 1, 1) := by decide +kernel
theorem dX12_layGame_26 : decode cX12_layGame 26 = .ok (.if_icmp .ge 20, 3) := by decide +kernel
theorem dX12_layGame_29 : decode cX12_layGame 29 = .ok (.aload_n 0, 1) := by decide +kernel
theorem dX12_layGame_30 : decode cX12_layGame 30 = .ok (.getfield 39, 3) := by decide +kernel
theorem dX12_layGame_33 : decode cX12_layGame 33 = .ok (.aload_n 0, 1) := by decide +kernel
theorem dX12_layGame_34 : decode cX12_layGame 34 = .ok (.getfield 7, 3) := by decide +kernel
theorem dX12_layGame_37 : decode cX12_layGame 37 = .ok (.bipush 30, 2) := by decide +kernel
theorem dX12_layGame_39 : decode cX12_layGame 39 = .ok (.iaload, 1) := by decide +kernel
theorem dX12_layGame_40 : decode cX12_layGame 40 = .ok (.iload_n 2, 1) := by decide +kernel
theorem dX12_layGame_41 : decode cX12_layGame 41 = .ok (.iadd, 1) := by decide +kernel
theorem dX12_layGame_42 : decode cX12_layGame 42 = .ok (.iaload, 1) := by decide +kernel
theorem dX12_layGame_43 : decode cX12_layGame 43 = .ok (.goto 4, 3) := by decide +kernel
theorem dX12_layGame_46 : decode cX12_layGame 46 = .ok (.iconst 0, 1) := by decide +kernel
theorem dX12_layGame_47 : decode cX12_layGame 47 = .ok (.istore_n 3, 1) := by decide +kernel
theorem dX12_layGame_48 : decode cX12_layGame 48 = .ok (.iload_n 2, 1) := by decide +kernel
theorem dX12_layGame_49 : decode cX12_layGame 49 = .ok (.iload_n 1, 1) := by decide +kernel
theorem dX12_layGame_50 : decode cX12_layGame 50 = .ok (.if_icmp .ne 44, 3) := by decide +kernel
theorem dX12_layGame_53 : decode cX12_layGame 53 = .ok (.iconst 0, 1) := by decide +kernel
theorem dX12_layGame_54 : decode cX12_layGame 54 = .ok (.istore 4, 2) := by decide +kernel
theorem dX12_layGame_56 : decode cX12_layGame 56 = .ok (.iload 4, 2) := by decide +kernel
theorem dX12_layGame_58 : decode cX12_layGame 58 = .ok (.iconst 4, 1) := by decide +kernel
theorem dX12_layGame_59 : decode cX12_layGame 59 = .ok (.if_icmp .ge 32, 3) := by decide +kernel
theorem dX12_layGame_62 : decode cX12_layGame 62 = .ok (.aload_n 0, 1) := by decide +kernel
theorem dX12_layGame_63 : decode cX12_layGame 63 = .ok (.getfield 48, 3) := by decide +kernel
theorem dX12_layGame_66 : decode cX12_layGame 66 = .ok (.iconst 4, 1) := by decide +kernel
theorem dX12_layGame_67 : decode cX12_layGame 67 = .ok (.iload_n 2, 1) := by decide +kernel
theorem dX12_layGame_68 : decode cX12_layGame 68 = .ok (.imul, 1) := by decide +kernel
theorem dX12_layGame_69 : decode cX12_layGame 69 = .ok (.iload 4, 2) := by decide +kernel
theorem dX12_layGame_71 : decode cX12_layGame 71 = .ok (.iadd, 1) := by decide +kernel
theorem dX12_layGame_72 : decode cX12_layGame 72 = .ok (.aload_n 0, 1) := by decide +kernel
theorem dX12_layGame_73 : decode cX12_layGame 73 = .ok (.bipush 31, 2) := by decide +kernel
theorem dX12_layGame_75 : decode cX12_layGame 75 = .ok (.iconst 3, 1) := by decide +kernel
theorem dX12_layGame_76 : decode cX12_layGame 76 = .ok (.iload_n 2, 1) := by decide +kernel
theorem dX12_layGame_77 : decode cX12_layGame 77 = .ok (.iadd, 1) := by decide +kernel
theorem dX12_layGame_78 : decode cX12_layGame 78 = .ok (.imul, 1) := by decide +kernel
theorem dX12_layGame_79 : decode cX12_layGame 79 = .ok (.iload 4, 2) := by decide +kernel
theorem dX12_layGame_81 : decode cX12_layGame 81 = .ok (.invokevirtual 186, 3) := by decide +kernel
theorem dX12_layGame_84 : decode cX12_layGame 84 = .ok (.iastore, 1) := by decide +kernel
theorem dX12_layGame_85 : decode cX12_layGame 85 = .ok (.iinc 4 1, 3) := by decide +kernel
theorem dX12_layGame_88 : decode cX12_layGame 88 = .ok (.goto (-32), 3) := by decide +kernel
theorem dX12_layGame_91 : decode cX12_layGame 91 = .ok (.goto 44, 3) := by decide +kernel
theorem dX12_layGame_94 : decode cX12_layGame 94 = .ok (.aload_n 0, 1) := by decide +kernel
theorem dX12_layGame_95 : decode cX12_layGame 95 = .ok (.getfield 45, 3) := by decide +kernel
theorem dX12_layGame_98 : decode cX12_layGame 98 = .ok (.iload_n 2, 1) := by decide +kernel
theorem dX12_layGame_99 : decode cX12_layGame 99 = .ok (.iaload, 1) := by decide +kernel
theorem dX12_layGame_100 : decode cX12_layGame 100 = .ok (.aload_n 0, 1) := by decide +kernel
theorem dX12_layGame_101 : decode cX12_layGame 101 = .ok (.getfield 23, 3) := by decide +kernel
theorem dX12_layGame_104 : decode cX12_layGame 104 = .ok (.if_icmp .gt 31, 3) := by decide +kernel
theorem dX12_layGame_107 : decode cX12_layGame 107 = .ok (.aload_n 0, 1) := by decide +kernel
theorem dX12_layGame_108 : decode cX12_layGame 108 = .ok (.iload_n 2, 1) := by decide +kernel
theorem dX12_layGame_109 : decode cX12_layGame 109 = .ok (.iload_n 3, 1) := by decide +kernel
theorem dX12_layGame_110 : decode cX12_layGame 110 = .ok (.invokevirtual 241, 3) := by decide +kernel
theorem dX12_layGame_113 : decode cX12_layGame 113 = .ok (.ifCond .eq 9, 3) := by decide +kernel
theorem dX12_layGame_116 : decode cX12_layGame 116 = .ok (.iinc 2 1, 3) := by decide +kernel
theorem dX12_layGame_119 : decode cX12_layGame 119 = .ok (.goto (-99), 3) := by decide +kernel
theorem dX12_layGame_122 : decode cX12_layGame 122 = .ok (.aload_n 0, 1) := by decide +kernel
theorem dX12_layGame_123 : decode cX12_layGame 123 = .ok (.getfield 45, 3) := by decide +kernel
theorem dX12_layGame_126 : decode cX12_layGame 126 = .ok (.iload_n 2, 1) := by decide +kernel
theorem dX12_layGame_127 : decode cX12_layGame 127 = .ok (.dup2, 1) := by decide +kernel
theorem dX12_layGame_128 : decode cX12_layGame 128 = .ok (.iaload, 1) := by decide +kernel
theorem dX12_layGame_129 : decode cX12_layGame 129 = .ok (.iconst 1, 1) := by decide +kernel
theorem dX12_layGame_130 : decode cX12_layGame 130 = .ok (.iadd, 1) := by decide +kernel
theorem dX12_layGame_131 : decode cX12_layGame 131 = .ok (.iastore, 1) := by decide +kernel
theorem dX12_layGame_132 : decode cX12_layGame 132 = .ok (.goto (-112), 3) := by decide +kernel
theorem dX12_layGame_135 : decode cX12_layGame 135 = .ok (.iinc 2 (-1), 3) := by decide +kernel
theorem dX12_layGame_138 : decode cX12_layGame 138 = .ok (.iload_n 2, 1) := by decide +kernel
theorem dX12_layGame_139 : decode cX12_layGame 139 = .ok (.ifCond .lt 32, 3) := by decide +kernel
theorem dX12_layGame_142 : decode cX12_layGame 142 = .ok (.aload_n 0, 1) := by decide +kernel
theorem dX12_layGame_143 : decode cX12_layGame 143 = .ok (.iload_n 2, 1) := by decide +kernel
theorem dX12_layGame_144 : decode cX12_layGame 144 = .ok (.aload_n 0, 1) := by decide +kernel
theorem dX12_layGame_145 : decode cX12_layGame 145 = .ok (.getfield 39, 3) := by decide +kernel
theorem dX12_layGame_148 : decode cX12_layGame 148 = .ok (.aload_n 0, 1) := by decide +kernel
theorem dX12_layGame_149 : decode cX12_layGame 149 = .ok (.getfield 7, 3) := by decide +kernel
theorem dX12_layGame_152 : decode cX12_layGame 152 = .ok (.bipush 30, 2) := by decide +kernel
theorem dX12_layGame_154 : decode cX12_layGame 154 = .ok (.iaload, 1) := by decide +kernel
theorem dX12_layGame_155 : decode cX12_layGame 155 = .ok (.iload_n 2, 1) := by decide +kernel
theorem dX12_layGame_156 : decode cX12_layGame 156 = .ok (.iadd, 1) := by decide +kernel
theorem dX12_layGame_157 : decode cX12_layGame 157 = .ok (.iaload, 1) := by decide +kernel
theorem dX12_layGame_158 : decode cX12_layGame 158 = .ok (.invokevirtual 244, 3) := by decide +kernel
theorem dX12_layGame_161 : decode cX12_layGame 161 = .ok (.aload_n 0, 1) := by decide +kernel
theorem dX12_layGame_162 : decode cX12_layGame 162 = .ok (.getfield 45, 3) := by decide +kernel
theorem dX12_layGame_165 : decode cX12_layGame 165 = .ok (.iload_n 2, 1) := by decide +kernel
theorem dX12_layGame_166 : decode cX12_layGame 166 = .ok (.dup2, 1) := by decide +kernel
theorem dX12_layGame_167 : decode cX12_layGame 167 = .ok (.iaload, 1) := by decide +kernel
theorem dX12_layGame_168 : decode cX12_layGame 168 = .ok (.iconst 1, 1) := by decide +kernel
theorem dX12_layGame_169 : decode cX12_layGame 169 = .ok (.iadd, 1) := by decide +kernel
theorem dX12_layGame_170 : decode cX12_layGame 170 = .ok (.iastore, 1) := by decide +kernel
theorem dX12_layGame_171 : decode cX12_layGame 171 = .ok (.goto (-151), 3) := by decide +kernel
theorem dX12_layGame_174 : decode cX12_layGame 174 = .ok (.return_, 1) := by decide +kernel
theorem dX12_game_0 : decode cX12_game 0 = .ok (.iload_n 1, 1) := by decide +kernel
theorem dX12_game_1 : decode cX12_game 1 = .ok (.invokestatic 180, 3) := by decide +kernel
theorem dX12_game_4 : decode cX12_game 4 = .ok (.ifCond .ne 6, 3) := by decide +kernel
theorem dX12_game_7 : decode cX12_game 7 = .ok (.bipush (-2), 2) := by decide +kernel
theorem dX12_game_9 : decode cX12_game 9 = .ok (.ireturn, 1) := by decide +kernel
theorem dX12_game_10 : decode cX12_game 10 = .ok (.aload_n 0, 1) := by decide +kernel
theorem dX12_game_11 : decode cX12_game 11 = .ok (.invokevirtual 213, 3) := by decide +kernel
theorem dX12_game_14 : decode cX12_game 14 = .ok (.bipush 6, 2) := by decide +kernel
theorem dX12_game_16 : decode cX12_game 16 = .ok (.if_icmp .le 6, 3) := by decide +kernel
theorem dX12_game_19 : decode cX12_game 19 = .ok (.bipush (-4), 2) := by decide +kernel
theorem dX12_game_21 : decode cX12_game 21 = .ok (.ireturn, 1) := by decide +kernel
theorem dX12_game_22 : decode cX12_game 22 = .ok (.aload_n 0, 1) := by decide +kernel
theorem dX12_game_23 : decode cX12_game 23 = .ok (.invokevirtual 247, 3) := by decide +kernel
theorem dX12_game_26 : decode cX12_game 26 = .ok (.aload_n 0, 1) := by decide +kernel
theorem dX12_game_27 : decode cX12_game 27 = .ok (.getfield 48, 3) := by decide +kernel
theorem dX12_game_30 : decode cX12_game 30 = .ok (.iload_n 1, 1) := by decide +kernel
theorem dX12_game_31 : decode cX12_game 31 = .ok (.iaload, 1) := by decide +kernel
theorem dX12_game_32 : decode cX12_game 32 = .ok (.ireturn, 1) := by decide +kernel
theorem dX12_choice_0 : decode cX12_choice 0 = .ok (.iload_n 1, 1) := by decide +kernel
theorem dX12_choice_1 : decode cX12_choice 1 = .ok (.ifCond .ge 6, 3) := by decide +kernel
theorem dX12_choice_4 : decode cX12_choice 4 = .ok (.bipush (-3), 2) := by decide +kernel
theorem dX12_choice_6 : decode cX12_choice 6 = .ok (.ireturn, 1) := by decide +kernel
theorem dX12_choice_7 : decode cX12_choice 7 = .ok (.aload_n 0, 1) := by decide +kernel
theorem dX12_choice_8 : decode cX12_choice 8 = .ok (.invokevirtual 213, 3) := by decide +kernel
theorem dX12_choice_11 : decode cX12_choice 11 = .ok (.bipush 6, 2) := by decide +kernel
theorem dX12_choice_13 : decode cX12_choice 13 = .ok (.if_icmp .le 6, 3) := by decide +kernel
theorem dX12_choice_16 : decode cX12_choice 16 = .ok (.bipush (-4), 2) := by decide +kernel
theorem dX12_choice_18 : decode cX12_choice 18 = .ok (.ireturn, 1) := by decide +kernel
theorem dX12_choice_19 : decode cX12_choice 19 = .ok (.aload_n 0, 1) := by decide +kernel
theorem dX12_choice_20 : decode cX12_choice 20 = .ok (.invokevirtual 247, 3) := by decide +kernel
theorem dX12_choice_23 : decode cX12_choice 23 = .ok (.iload_n 1, 1) := by decide +kernel
theorem dX12_choice_24 : decode cX12_choice 24 = .ok (.aload_n 0, 1) := by decide +kernel
theorem dX12_choice_25 : decode cX12_choice 25 = .ok (.invokevirtual 213, 3) := by decide +kernel
theorem dX12_choice_28 : decode cX12_choice 28 = .ok (.if_icmp .ge 12, 3) := by decide +kernel
theorem dX12_choice_31 : decode cX12_choice 31 = .ok (.aload_n 0, 1) := by decide +kernel
theorem dX12_choice_32 : decode cX12_choice 32 = .ok (.getfield 51, 3) := by decide +kernel
theorem dX12_choice_35 : decode cX12_choice 35 = .ok (.iload_n 1, 1) := by decide +kernel
theorem dX12_choice_36 : decode cX12_choice 36 = .ok (.iaload, 1) := by decide +kernel
theorem dX12_choice_37 : decode cX12_choice 37 = .ok (.goto 4, 3) := by decide +kernel
theorem dX12_choice_40 : decode cX12_choice 40 = .ok (.iconst (-1), 1) := by decide +kernel
theorem dX12_choice_41 : decode cX12_choice 41 = .ok (.ireturn, 1) := by decide +kernel
theorem dX12_divisor_0 : decode cX12_divisor 0 = .ok (.lload_n 0, 1) := by decide +kernel
theorem dX12_divisor_1 : decode cX12_divisor 1 = .ok (.lstore 4, 2) := by decide +kernel
theorem dX12_divisor_3 : decode cX12_divisor 3 = .ok (.lload_n 2, 1) := by decide +kernel
theorem dX12_divisor_4 : decode cX12_divisor 4 = .ok (.lstore 6, 2) := by decide +kernel
theorem dX12_divisor_6 : decode cX12_divisor 6 = .ok (.lload 6, 2) := by decide +kernel
theorem dX12_divisor_8 : decode cX12_divisor 8 = .ok (.lconst 0, 1) := by decide +kernel
theorem dX12_divisor_9 : decode cX12_divisor 9 = .ok (.lcmp, 1) := by decide +kernel
theorem dX12_divisor_10 : decode cX12_divisor 10 = .ok (.ifCond .eq 21, 3) := by decide +kernel
theorem dX12_divisor_13 : decode cX12_divisor 13 = .ok (.lload 4, 2) := by decide +kernel
theorem dX12_divisor_15 : decode cX12_divisor 15 = .ok (.lload 6, 2) := by decide +kernel
theorem dX12_divisor_17 : decode cX12_divisor 17 = .ok (.lrem, 1) := by decide +kernel
theorem dX12_divisor_18 : decode cX12_divisor 18 = .ok (.lstore 8, 2) := by decide +kernel
theorem dX12_divisor_20 : decode cX12_divisor 20 = .ok (.lload 6, 2) := by decide +kernel
theorem dX12_divisor_22 : decode cX12_divisor 22 = .ok (.lstore 4, 2) := by decide +kernel
theorem dX12_divisor_24 : decode cX12_divisor 24 = .ok (.lload 8, 2) := by decide +kernel
theorem dX12_divisor_26 : decode cX12_divisor 26 = .ok (.lstore 6, 2) := by decide +kernel
theorem dX12_divisor_28 : decode cX12_divisor 28 = .ok (.goto (-22), 3) := by decide +kernel
theorem dX12_divisor_31 : decode cX12_divisor 31 = .ok (.lload 4, 2) := by decide +kernel
theorem dX12_divisor_33 : decode cX12_divisor 33 = .ok (.lreturn, 1) := by decide +kernel
theorem dX12_worthBy_0 : decode cX12_worthBy 0 = .ok (.aload_n 0, 1) := by decide +kernel
theorem dX12_worthBy_1 : decode cX12_worthBy 1 = .ok (.iconst 0, 1) := by decide +kernel
theorem dX12_worthBy_2 : decode cX12_worthBy 2 = .ok (.iconst 3, 1) := by decide +kernel
theorem dX12_worthBy_3 : decode cX12_worthBy 3 = .ok (.invokevirtual 221, 3) := by decide +kernel
theorem dX12_worthBy_6 : decode cX12_worthBy 6 = .ok (.iconst 0, 1) := by decide +kernel
theorem dX12_worthBy_7 : decode cX12_worthBy 7 = .ok (.istore_n 3, 1) := by decide +kernel
theorem dX12_worthBy_8 : decode cX12_worthBy 8 = .ok (.aload_n 0, 1) := by decide +kernel
theorem dX12_worthBy_9 : decode cX12_worthBy 9 = .ok (.getfield 7, 3) := by decide +kernel
theorem dX12_worthBy_12 : decode cX12_worthBy 12 = .ok (.bipush 30, 2) := by decide +kernel
theorem dX12_worthBy_14 : decode cX12_worthBy 14 = .ok (.iaload, 1) := by decide +kernel
theorem dX12_worthBy_15 : decode cX12_worthBy 15 = .ok (.istore 4, 2) := by decide +kernel
theorem dX12_worthBy_17 : decode cX12_worthBy 17 = .ok (.iload 4, 2) := by decide +kernel
theorem dX12_worthBy_19 : decode cX12_worthBy 19 = .ok (.aload_n 0, 1) := by decide +kernel
theorem dX12_worthBy_20 : decode cX12_worthBy 20 = .ok (.getfield 147, 3) := by decide +kernel
theorem dX12_worthBy_23 : decode cX12_worthBy 23 = .ok (.if_icmp .ge 67, 3) := by decide +kernel
theorem dX12_worthBy_26 : decode cX12_worthBy 26 = .ok (.aload_n 0, 1) := by decide +kernel
theorem dX12_worthBy_27 : decode cX12_worthBy 27 = .ok (.getfield 39, 3) := by decide +kernel
theorem dX12_worthBy_30 : decode cX12_worthBy 30 = .ok (.iload 4, 2) := by decide +kernel
theorem dX12_worthBy_32 : decode cX12_worthBy 32 = .ok (.iaload, 1) := by decide +kernel
theorem dX12_worthBy_33 : decode cX12_worthBy 33 = .ok (.iload_n 1, 1) := by decide +kernel
theorem dX12_worthBy_34 : decode cX12_worthBy 34 = .ok (.if_icmp .ne 7, 3) := by decide +kernel
theorem dX12_worthBy_37 : decode cX12_worthBy 37 = .ok (.iconst 1, 1) := by decide +kernel
theorem dX12_worthBy_38 : decode cX12_worthBy 38 = .ok (.goto 4, 3) := by decide +kernel
theorem dX12_worthBy_41 : decode cX12_worthBy 41 = .ok (.iconst 0, 1) := by decide +kernel
theorem dX12_worthBy_42 : decode cX12_worthBy 42 = .ok (.istore 5, 2) := by decide +kernel
theorem dX12_worthBy_44 : decode cX12_worthBy 44 = .ok (.iload 5, 2) := by decide +kernel
theorem dX12_worthBy_46 : decode cX12_worthBy 46 = .ok (.ifCond .ne 11, 3) := by decide +kernel
theorem dX12_worthBy_49 : decode cX12_worthBy 49 = .ok (.iload_n 2, 1) := by decide +kernel
theorem dX12_worthBy_50 : decode cX12_worthBy 50 = .ok (.iload_n 3, 1) := by decide +kernel
theorem dX12_worthBy_51 : decode cX12_worthBy 51 = .ok (.invokestatic 183, 3) := by decide +kernel
theorem dX12_worthBy_54 : decode cX12_worthBy 54 = .ok (.ifCond .eq 17, 3) := by decide +kernel
theorem dX12_worthBy_57 : decode cX12_worthBy 57 = .ok (.aload_n 0, 1) := by decide +kernel
theorem dX12_worthBy_58 : decode cX12_worthBy 58 = .ok (.bipush 93, 2) := by decide +kernel
theorem dX12_worthBy_60 : decode cX12_worthBy 60 = .ok (.aload_n 0, 1) := by decide +kernel
theorem dX12_worthBy_61 : decode cX12_worthBy 61 = .ok (.getfield 39, 3) := by decide +kernel
theorem dX12_worthBy_64 : decode cX12_worthBy 64 = .ok (.iload 4, 2) := by decide +kernel
theorem dX12_worthBy_66 : decode cX12_worthBy 66 = .ok (.iaload, 1) := by decide +kernel
theorem dX12_worthBy_67 : decode cX12_worthBy 67 = .ok (.invokevirtual 218, 3) := by decide +kernel
theorem dX12_worthBy_70 : decode cX12_worthBy 70 = .ok (.pop, 1) := by decide +kernel
theorem dX12_worthBy_71 : decode cX12_worthBy 71 = .ok (.iload_n 3, 1) := by decide +kernel
theorem dX12_worthBy_72 : decode cX12_worthBy 72 = .ok (.iload 5, 2) := by decide +kernel
theorem dX12_worthBy_74 : decode cX12_worthBy 74 = .ok (.ifCond .eq 7, 3) := by decide +kernel
theorem dX12_worthBy_77 : decode cX12_worthBy 77 = .ok (.iconst 0, 1) := by decide +kernel
theorem dX12_worthBy_78 : decode cX12_worthBy 78 = .ok (.goto 4, 3) := by decide +kernel
theorem dX12_worthBy_81 : decode cX12_worthBy 81 = .ok (.iconst 1, 1) := by decide +kernel
theorem dX12_worthBy_82 : decode cX12_worthBy 82 = .ok (.iadd, 1) := by decide +kernel
theorem dX12_worthBy_83 : decode cX12_worthBy 83 = .ok (.istore_n 3, 1) := by decide +kernel
theorem dX12_worthBy_84 : decode cX12_worthBy 84 = .ok (.iinc 4 1, 3) := by decide +kernel
theorem dX12_worthBy_87 : decode cX12_worthBy 87 = .ok (.goto (-70), 3) := by decide +kernel
theorem dX12_worthBy_90 : decode cX12_worthBy 90 = .ok (.aload_n 0, 1) := by decide +kernel
theorem dX12_worthBy_91 : decode cX12_worthBy 91 = .ok (.bipush 93, 2) := by decide +kernel
theorem dX12_worthBy_93 : decode cX12_worthBy 93 = .ok (.iload_n 1, 1) := by decide +kernel
theorem dX12_worthBy_94 : decode cX12_worthBy 94 = .ok (.invokevirtual 186, 3) := by decide +kernel
theorem dX12_worthBy_97 : decode cX12_worthBy 97 = .ok (.ireturn, 1) := by decide +kernel
theorem dX12_mean_0 : decode cX12_mean 0 = .ok (.iload_n 1, 1) := by decide +kernel
theorem dX12_mean_1 : decode cX12_mean 1 = .ok (.invokestatic 180, 3) := by decide +kernel
theorem dX12_mean_4 : decode cX12_mean 4 = .ok (.ifCond .ne 7, 3) := by decide +kernel
theorem dX12_mean_7 : decode cX12_mean 7 = .ok (.ldc2_w 250, 3) := by decide +kernel
theorem dX12_mean_10 : decode cX12_mean 10 = .ok (.lreturn, 1) := by decide +kernel
theorem dX12_mean_11 : decode cX12_mean 11 = .ok (.iload_n 2, 1) := by decide +kernel
theorem dX12_mean_12 : decode cX12_mean 12 = .ok (.i2l, 1) := by decide +kernel
theorem dX12_mean_13 : decode cX12_mean 13 = .ok (.lconst 0, 1) := by decide +kernel
theorem dX12_mean_14 : decode cX12_mean 14 = .ok (.ldc2_w 252, 3) := by decide +kernel
theorem dX12_mean_17 : decode cX12_mean 17 = .ok (.invokestatic 62, 3) := by decide +kernel
theorem dX12_mean_20 : decode cX12_mean 20 = .ok (.ifCond .eq 13, 3) := by decide +kernel
theorem dX12_mean_23 : decode cX12_mean 23 = .ok (.iload_n 3, 1) := by decide +kernel
theorem dX12_mean_24 : decode cX12_mean 24 = .ok (.i2l, 1) := by decide +kernel
theorem dX12_mean_25 : decode cX12_mean 25 = .ok (.lconst 0, 1) := by decide +kernel
theorem dX12_mean_26 : decode cX12_mean 26 = .ok (.lconst 1, 1) := by decide +kernel
theorem dX12_mean_27 : decode cX12_mean 27 = .ok (.invokestatic 62, 3) := by decide +kernel
theorem dX12_mean_30 : decode cX12_mean 30 = .ok (.ifCond .ne 7, 3) := by decide +kernel
theorem dX12_mean_33 : decode cX12_mean 33 = .ok (.ldc2_w 254, 3) := by decide +kernel
theorem dX12_mean_36 : decode cX12_mean 36 = .ok (.lreturn, 1) := by decide +kernel
theorem dX12_mean_37 : decode cX12_mean 37 = .ok (.aload_n 0, 1) := by decide +kernel
theorem dX12_mean_38 : decode cX12_mean 38 = .ok (.invokevirtual 213, 3) := by decide +kernel
theorem dX12_mean_41 : decode cX12_mean 41 = .ok (.bipush 10, 2) := by decide +kernel
theorem dX12_mean_43 : decode cX12_mean 43 = .ok (.if_icmp .le 7, 3) := by decide +kernel
theorem dX12_mean_46 : decode cX12_mean 46 = .ok (.ldc2_w 256, 3) := by decide +kernel
theorem dX12_mean_49 : decode cX12_mean 49 = .ok (.lreturn, 1) := by decide +kernel
theorem dX12_mean_50 : decode cX12_mean 50 = .ok (.aload_n 0, 1) := by decide +kernel
theorem dX12_mean_51 : decode cX12_mean 51 = .ok (.invokevirtual 213, 3) := by decide +kernel
theorem dX12_mean_54 : decode cX12_mean 54 = .ok (.aload_n 0, 1) := by decide +kernel
theorem dX12_mean_55 : decode cX12_mean 55 = .ok (.iconst 1, 1) := by decide +kernel
theorem dX12_mean_56 : decode cX12_mean 56 = .ok (.iload_n 1, 1) := by decide +kernel
theorem dX12_mean_57 : decode cX12_mean 57 = .ok (.ishl, 1) := by decide +kernel
theorem dX12_mean_58 : decode cX12_mean 58 = .ok (.invokevirtual 190, 3) := by decide +kernel
theorem dX12_mean_61 : decode cX12_mean 61 = .ok (.isub, 1) := by decide +kernel
theorem dX12_mean_62 : decode cX12_mean 62 = .ok (.istore 4, 2) := by decide +kernel
theorem dX12_mean_64 : decode cX12_mean 64 = .ok (.lconst 0, 1) := by decide +kernel
theorem dX12_mean_65 : decode cX12_mean 65 = .ok (.lstore 5, 2) := by decide +kernel
theorem dX12_mean_67 : decode cX12_mean 67 = .ok (.lconst 1, 1) := by decide +kernel
theorem dX12_mean_68 : decode cX12_mean 68 = .ok (.lstore 7, 2) := by decide +kernel
theorem dX12_mean_70 : decode cX12_mean 70 = .ok (.iconst 0, 1) := by decide +kernel
theorem dX12_mean_71 : decode cX12_mean 71 = .ok (.istore 9, 2) := by decide +kernel
theorem dX12_mean_73 : decode cX12_mean 73 = .ok (.iload 9, 2) := by decide +kernel
theorem dX12_mean_75 : decode cX12_mean 75 = .ok (.iload 4, 2) := by decide +kernel
theorem dX12_mean_77 : decode cX12_mean 77 = .ok (.if_icmp .ge 17, 3) := by decide +kernel
theorem dX12_mean_80 : decode cX12_mean 80 = .ok (.lload 7, 2) := by decide +kernel
theorem dX12_mean_82 : decode cX12_mean 82 = .ok (.ldc2_w 252, 3) := by decide +kernel
theorem dX12_mean_85 : decode cX12_mean 85 = .ok (.lmul, 1) := by decide +kernel
theorem dX12_mean_86 : decode cX12_mean 86 = .ok (.lstore 7, 2) := by decide +kernel
theorem dX12_mean_88 : decode cX12_mean 88 = .ok (.iinc 9 1, 3) := by decide +kernel
theorem dX12_mean_91 : decode cX12_mean 91 = .ok (.goto (-18), 3) := by decide +kernel
theorem dX12_mean_94 : decode cX12_mean 94 = .ok (.iconst 0, 1) := by decide +kernel
theorem dX12_mean_95 : decode cX12_mean 95 = .ok (.istore 9, 2) := by decide +kernel
theorem dX12_mean_97 : decode cX12_mean 97 = .ok (.iload 9, 2) := by decide +kernel
theorem dX12_mean_99 : decode cX12_mean 99 = .ok (.iconst 1, 1) := by decide +kernel
theorem dX12_mean_100 : decode cX12_mean 100 = .ok (.iload 4, 2) := by decide +kernel
theorem dX12_mean_102 : decode cX12_mean 102 = .ok (.ishl, 1) := by decide +kernel
theorem dX12_mean_103 : decode cX12_mean 103 = .ok (.if_icmp .ge 67, 3) := by decide +kernel
theorem dX12_mean_106 : decode cX12_mean 106 = .ok (.aload_n 0, 1) := by decide +kernel
theorem dX12_mean_107 : decode cX12_mean 107 = .ok (.iload_n 1, 1) := by decide +kernel
theorem dX12_mean_108 : decode cX12_mean 108 = .ok (.iload 9, 2) := by decide +kernel
theorem dX12_mean_110 : decode cX12_mean 110 = .ok (.invokevirtual 258, 3) := by decide +kernel
theorem dX12_mean_113 : decode cX12_mean 113 = .ok (.i2l, 1) := by decide +kernel
theorem dX12_mean_114 : decode cX12_mean 114 = .ok (.lstore 10, 2) := by decide +kernel
theorem dX12_mean_116 : decode cX12_mean 116 = .ok (.iconst 0, 1) := by decide +kernel
theorem dX12_mean_117 : decode cX12_mean 117 = .ok (.istore 12, 2) := by decide +kernel
theorem dX12_mean_119 : decode cX12_mean 119 = .ok (.iload 12, 2) := by decide +kernel
theorem dX12_mean_121 : decode cX12_mean 121 = .ok (.iload 4, 2) := by decide +kernel
theorem dX12_mean_123 : decode cX12_mean 123 = .ok (.if_icmp .ge 34, 3) := by decide +kernel
theorem dX12_mean_126 : decode cX12_mean 126 = .ok (.lload 10, 2) := by decide +kernel
theorem dX12_mean_128 : decode cX12_mean 128 = .ok (.iload 9, 2) := by decide +kernel
theorem dX12_mean_130 : decode cX12_mean 130 = .ok (.iload 12, 2) := by decide +kernel
theorem dX12_mean_132 : decode cX12_mean 132 = .ok (.invokestatic 183, 3) := by decide +kernel
theorem dX12_mean_135 : decode cX12_mean 135 = .ok (.ifCond .eq 8, 3) := by decide +kernel
theorem dX12_mean_138 : decode cX12_mean 138 = .ok (.iload_n 2, 1) := by decide +kernel
theorem dX12_mean_139 : decode cX12_mean 139 = .ok (.i2l, 1) := by decide +kernel
theorem dX12_mean_140 : decode cX12_mean 140 = .ok (.goto 8, 3) := by decide +kernel
theorem dX12_mean_143 : decode cX12_mean 143 = .ok (.bipush 10, 2) := by decide +kernel
theorem dX12_mean_145 : decode cX12_mean 145 = .ok (.iload_n 2, 1) := by decide +kernel
theorem dX12_mean_146 : decode cX12_mean 146 = .ok (.isub, 1) := by decide +kernel
theorem dX12_mean_147 : decode cX12_mean 147 = .ok (.i2l, 1) := by decide +kernel
theorem dX12_mean_148 : decode cX12_mean 148 = .ok (.lmul, 1) := by decide +kernel
theorem dX12_mean_149 : decode cX12_mean 149 = .ok (.lstore 10, 2) := by decide +kernel
theorem dX12_mean_151 : decode cX12_mean 151 = .ok (.iinc 12 1, 3) := by decide +kernel
theorem dX12_mean_154 : decode cX12_mean 154 = .ok (.goto (-35), 3) := by decide +kernel
theorem dX12_mean_157 : decode cX12_mean 157 = .ok (.lload 5, 2) := by decide +kernel
theorem dX12_mean_159 : decode cX12_mean 159 = .ok (.lload 10, 2) := by decide +kernel
theorem dX12_mean_161 : decode cX12_mean 161 = .ok (.ladd, 1) := by decide +kernel
theorem dX12_mean_162 : decode cX12_mean 162 = .ok (.lstore 5, 2) := by decide +kernel
theorem dX12_mean_164 : decode cX12_mean 164 = .ok (.iinc 9 1, 3) := by decide +kernel
theorem dX12_mean_167 : decode cX12_mean 167 = .ok (.goto (-70), 3) := by decide +kernel
theorem dX12_mean_170 : decode cX12_mean 170 = .ok (.lload 5, 2) := by decide +kernel
theorem dX12_mean_172 : decode cX12_mean 172 = .ok (.lload 7, 2) := by decide +kernel
theorem dX12_mean_174 : decode cX12_mean 174 = .ok (.invokestatic 261, 3) := by decide +kernel
theorem dX12_mean_177 : decode cX12_mean 177 = .ok (.lstore 9, 2) := by decide +kernel
theorem dX12_mean_179 : decode cX12_mean 179 = .ok (.iload_n 3, 1) := by decide +kernel
theorem dX12_mean_180 : decode cX12_mean 180 = .ok (.ifCond .ne 11, 3) := by decide +kernel
theorem dX12_mean_183 : decode cX12_mean 183 = .ok (.lload 5, 2) := by decide +kernel
theorem dX12_mean_185 : decode cX12_mean 185 = .ok (.lload 9, 2) := by decide +kernel
theorem dX12_mean_187 : decode cX12_mean 187 = .ok (.ldiv, 1) := by decide +kernel
theorem dX12_mean_188 : decode cX12_mean 188 = .ok (.goto 8, 3) := by decide +kernel
theorem dX12_mean_191 : decode cX12_mean 191 = .ok (.lload 7, 2) := by decide +kernel
theorem dX12_mean_193 : decode cX12_mean 193 = .ok (.lload 9, 2) := by decide +kernel
theorem dX12_mean_195 : decode cX12_mean 195 = .ok (.ldiv, 1) := by decide +kernel
theorem dX12_mean_196 : decode cX12_mean 196 = .ok (.lreturn, 1) := by decide +kernel
theorem dX12_dry_0 : decode cX12_dry 0 = .ok (.aload_n 0, 1) := by decide +kernel
theorem dX12_dry_1 : decode cX12_dry 1 = .ok (.getfield 147, 3) := by decide +kernel
theorem dX12_dry_4 : decode cX12_dry 4 = .ok (.ifCond .ne 5, 3) := by decide +kernel
theorem dX12_dry_7 : decode cX12_dry 7 = .ok (.iconst (-1), 1) := by decide +kernel
theorem dX12_dry_8 : decode cX12_dry 8 = .ok (.ireturn, 1) := by decide +kernel
theorem dX12_dry_9 : decode cX12_dry 9 = .ok (.aload_n 0, 1) := by decide +kernel
theorem dX12_dry_10 : decode cX12_dry 10 = .ok (.iconst 0, 1) := by decide +kernel
theorem dX12_dry_11 : decode cX12_dry 11 = .ok (.iconst 3, 1) := by decide +kernel
theorem dX12_dry_12 : decode cX12_dry 12 = .ok (.invokevirtual 221, 3) := by decide +kernel
theorem dX12_dry_15 : decode cX12_dry 15 = .ok (.iconst 0, 1) := by decide +kernel
theorem dX12_dry_16 : decode cX12_dry 16 = .ok (.istore_n 1, 1) := by decide +kernel
theorem dX12_dry_17 : decode cX12_dry 17 = .ok (.iconst 0, 1) := by decide +kernel
theorem dX12_dry_18 : decode cX12_dry 18 = .ok (.istore_n 2, 1) := by decide +kernel
theorem dX12_dry_19 : decode cX12_dry 19 = .ok (.iload_n 2, 1) := by decide +kernel
theorem dX12_dry_20 : decode cX12_dry 20 = .ok (.sipush 200, 3) := by decide +kernel
theorem dX12_dry_23 : decode cX12_dry 23 = .ok (.if_icmp .ge 57, 3) := by decide +kernel
theorem dX12_dry_26 : decode cX12_dry 26 = .ok (.aload_n 0, 1) := by decide +kernel
theorem dX12_dry_27 : decode cX12_dry 27 = .ok (.bipush 93, 2) := by decide +kernel
theorem dX12_dry_29 : decode cX12_dry 29 = .ok (.aload_n 0, 1) := by decide +kernel
theorem dX12_dry_30 : decode cX12_dry 30 = .ok (.getfield 39, 3) := by decide +kernel
theorem dX12_dry_33 : decode cX12_dry 33 = .ok (.aload_n 0, 1) := by decide +kernel
theorem dX12_dry_34 : decode cX12_dry 34 = .ok (.getfield 7, 3) := by decide +kernel
theorem dX12_dry_37 : decode cX12_dry 37 = .ok (.bipush 30, 2) := by decide +kernel
theorem dX12_dry_39 : decode cX12_dry 39 = .ok (.iaload, 1) := by decide +kernel
theorem dX12_dry_40 : decode cX12_dry 40 = .ok (.iload_n 2, 1) := by decide +kernel
theorem dX12_dry_41 : decode cX12_dry 41 = .ok (.iadd, 1) := by decide +kernel
theorem dX12_dry_42 : decode cX12_dry 42 = .ok (.aload_n 0, 1) := by decide +kernel
theorem dX12_dry_43 : decode cX12_dry 43 = .ok (.getfield 147, 3) := by decide +kernel
theorem dX12_dry_46 : decode cX12_dry 46 = .ok (.irem, 1) := by decide +kernel
theorem dX12_dry_47 : decode cX12_dry 47 = .ok (.iaload, 1) := by decide +kernel
theorem dX12_dry_48 : decode cX12_dry 48 = .ok (.invokevirtual 218, 3) := by decide +kernel
theorem dX12_dry_51 : decode cX12_dry 51 = .ok (.ifCond .eq 7, 3) := by decide +kernel
theorem dX12_dry_54 : decode cX12_dry 54 = .ok (.iconst 0, 1) := by decide +kernel
theorem dX12_dry_55 : decode cX12_dry 55 = .ok (.goto 6, 3) := by decide +kernel
theorem dX12_dry_58 : decode cX12_dry 58 = .ok (.iload_n 1, 1) := by decide +kernel
theorem dX12_dry_59 : decode cX12_dry 59 = .ok (.iconst 1, 1) := by decide +kernel
theorem dX12_dry_60 : decode cX12_dry 60 = .ok (.iadd, 1) := by decide +kernel
theorem dX12_dry_61 : decode cX12_dry 61 = .ok (.istore_n 1, 1) := by decide +kernel
theorem dX12_dry_62 : decode cX12_dry 62 = .ok (.iload_n 1, 1) := by decide +kernel
theorem dX12_dry_63 : decode cX12_dry 63 = .ok (.aload_n 0, 1) := by decide +kernel
theorem dX12_dry_64 : decode cX12_dry 64 = .ok (.getfield 147, 3) := by decide +kernel
theorem dX12_dry_67 : decode cX12_dry 67 = .ok (.if_icmp .ne 7, 3) := by decide +kernel
theorem dX12_dry_70 : decode cX12_dry 70 = .ok (.iload_n 2, 1) := by decide +kernel
theorem dX12_dry_71 : decode cX12_dry 71 = .ok (.iconst 1, 1) := by decide +kernel
theorem dX12_dry_72 : decode cX12_dry 72 = .ok (.iadd, 1) := by decide +kernel
theorem dX12_dry_73 : decode cX12_dry 73 = .ok (.ireturn, 1) := by decide +kernel
theorem dX12_dry_74 : decode cX12_dry 74 = .ok (.iinc 2 1, 3) := by decide +kernel
theorem dX12_dry_77 : decode cX12_dry 77 = .ok (.goto (-58), 3) := by decide +kernel
theorem dX12_dry_80 : decode cX12_dry 80 = .ok (.iconst (-1), 1) := by decide +kernel
theorem dX12_dry_81 : decode cX12_dry 81 = .ok (.ireturn, 1) := by decide +kernel
theorem dX12_bait_0 : decode cX12_bait 0 = .ok (.iload_n 1, 1) := by decide +kernel
theorem dX12_bait_1 : decode cX12_bait 1 = .ok (.invokestatic 180, 3) := by decide +kernel
theorem dX12_bait_4 : decode cX12_bait 4 = .ok (.ifCond .ne 6, 3) := by decide +kernel
theorem dX12_bait_7 : decode cX12_bait 7 = .ok (.bipush (-2), 2) := by decide +kernel
theorem dX12_bait_9 : decode cX12_bait 9 = .ok (.ireturn, 1) := by decide +kernel
theorem dX12_bait_10 : decode cX12_bait 10 = .ok (.iconst (-1), 1) := by decide +kernel
theorem dX12_bait_11 : decode cX12_bait 11 = .ok (.istore_n 2, 1) := by decide +kernel
theorem dX12_bait_12 : decode cX12_bait 12 = .ok (.iconst 0, 1) := by decide +kernel
theorem dX12_bait_13 : decode cX12_bait 13 = .ok (.istore_n 3, 1) := by decide +kernel
theorem dX12_bait_14 : decode cX12_bait 14 = .ok (.iload_n 3, 1) := by decide +kernel
theorem dX12_bait_15 : decode cX12_bait 15 = .ok (.sipush 343, 3) := by decide +kernel
theorem dX12_bait_18 : decode cX12_bait 18 = .ok (.if_icmp .ge 180, 3) := by decide +kernel
theorem dX12_bait_21 : decode cX12_bait 21 = .ok (.iconst 0, 1) := by decide +kernel
theorem dX12_bait_22 : decode cX12_bait 22 = .ok (.istore 4, 2) := by decide +kernel
theorem dX12_bait_24 : decode cX12_bait 24 = .ok (.iconst 1, 1) := by decide +kernel
theorem dX12_bait_25 : decode cX12_bait 25 = .ok (.istore 5, 2) := by decide +kernel
theorem dX12_bait_27 : decode cX12_bait 27 = .ok (.iload_n 3, 1) := by decide +kernel
theorem dX12_bait_28 : decode cX12_bait 28 = .ok (.istore 6, 2) := by decide +kernel
theorem dX12_bait_30 : decode cX12_bait 30 = .ok (.aload_n 0, 1) := by decide +kernel
theorem dX12_bait_31 : decode cX12_bait 31 = .ok (.iconst 0, 1) := by decide +kernel
theorem dX12_bait_32 : decode cX12_bait 32 = .ok (.iconst 3, 1) := by decide +kernel
theorem dX12_bait_33 : decode cX12_bait 33 = .ok (.invokevirtual 221, 3) := by decide +kernel
theorem dX12_bait_36 : decode cX12_bait 36 = .ok (.iconst 0, 1) := by decide +kernel
theorem dX12_bait_37 : decode cX12_bait 37 = .ok (.istore 7, 2) := by decide +kernel
theorem dX12_bait_39 : decode cX12_bait 39 = .ok (.iload 7, 2) := by decide +kernel
theorem dX12_bait_41 : decode cX12_bait 41 = .ok (.iconst 3, 1) := by decide +kernel
theorem dX12_bait_42 : decode cX12_bait 42 = .ok (.if_icmp .ge 116, 3) := by decide +kernel
theorem dX12_bait_45 : decode cX12_bait 45 = .ok (.iload 6, 2) := by decide +kernel
theorem dX12_bait_47 : decode cX12_bait 47 = .ok (.bipush 7, 2) := by decide +kernel
theorem dX12_bait_49 : decode cX12_bait 49 = .ok (.irem, 1) := by decide +kernel
theorem dX12_bait_50 : decode cX12_bait 50 = .ok (.istore 8, 2) := by decide +kernel
theorem dX12_bait_52 : decode cX12_bait 52 = .ok (.iload 6, 2) := by decide +kernel
theorem dX12_bait_54 : decode cX12_bait 54 = .ok (.bipush 7, 2) := by decide +kernel
theorem dX12_bait_56 : decode cX12_bait 56 = .ok (.idiv, 1) := by decide +kernel
theorem dX12_bait_57 : decode cX12_bait 57 = .ok (.istore 6, 2) := by decide +kernel
theorem dX12_bait_59 : decode cX12_bait 59 = .ok (.iload 5, 2) := by decide +kernel
theorem dX12_bait_61 : decode cX12_bait 61 = .ok (.ifCond .eq 23, 3) := by decide +kernel
theorem dX12_bait_64 : decode cX12_bait 64 = .ok (.iload 8, 2) := by decide +kernel
theorem dX12_bait_66 : decode cX12_bait 66 = .ok (.aload_n 0, 1) := by decide +kernel
theorem dX12_bait_67 : decode cX12_bait 67 = .ok (.getfield 23, 3) := by decide +kernel
theorem dX12_bait_70 : decode cX12_bait 70 = .ok (.if_icmp .lt 10, 3) := by decide +kernel
theorem dX12_bait_73 : decode cX12_bait 73 = .ok (.iload 8, 2) := by decide +kernel
theorem dX12_bait_75 : decode cX12_bait 75 = .ok (.bipush 6, 2) := by decide +kernel
theorem dX12_bait_77 : decode cX12_bait 77 = .ok (.if_icmp .ne 7, 3) := by decide +kernel
theorem dX12_bait_80 : decode cX12_bait 80 = .ok (.iconst 1, 1) := by decide +kernel
theorem dX12_bait_81 : decode cX12_bait 81 = .ok (.goto 4, 3) := by decide +kernel
theorem dX12_bait_84 : decode cX12_bait 84 = .ok (.iconst 0, 1) := by decide +kernel
theorem dX12_bait_85 : decode cX12_bait 85 = .ok (.istore 5, 2) := by decide +kernel
theorem dX12_bait_87 : decode cX12_bait 87 = .ok (.iload 4, 2) := by decide +kernel
theorem dX12_bait_89 : decode cX12_bait 89 = .ok (.iload 8, 2) := by decide +kernel
theorem dX12_bait_91 : decode cX12_bait 91 = .ok (.aload_n 0, 1) := by decide +kernel
theorem dX12_bait_92 : decode cX12_bait 92 = .ok (.getfield 23, 3) := by decide +kernel
theorem dX12_bait_95 : decode cX12_bait 95 = .ok (.if_icmp .ge 13, 3) := by decide +kernel
theorem dX12_bait_98 : decode cX12_bait 98 = .ok (.aload_n 0, 1) := by decide +kernel
theorem dX12_bait_99 : decode cX12_bait 99 = .ok (.getfield 27, 3) := by decide +kernel
theorem dX12_bait_102 : decode cX12_bait 102 = .ok (.iload 8, 2) := by decide +kernel
theorem dX12_bait_104 : decode cX12_bait 104 = .ok (.iaload, 1) := by decide +kernel
theorem dX12_bait_105 : decode cX12_bait 105 = .ok (.goto 4, 3) := by decide +kernel
theorem dX12_bait_108 : decode cX12_bait 108 = .ok (.iconst 0, 1) := by decide +kernel
theorem dX12_bait_109 : decode cX12_bait 109 = .ok (.iadd, 1) := by decide +kernel
theorem dX12_bait_110 : decode cX12_bait 110 = .ok (.istore 4, 2) := by decide +kernel
theorem dX12_bait_112 : decode cX12_bait 112 = .ok (.aload_n 0, 1) := by decide +kernel
theorem dX12_bait_113 : decode cX12_bait 113 = .ok (.getfield 7, 3) := by decide +kernel
theorem dX12_bait_116 : decode cX12_bait 116 = .ok (.bipush 93, 2) := by decide +kernel
theorem dX12_bait_118 : decode cX12_bait 118 = .ok (.iload 8, 2) := by decide +kernel
theorem dX12_bait_120 : decode cX12_bait 120 = .ok (.aload_n 0, 1) := by decide +kernel
theorem dX12_bait_121 : decode cX12_bait 121 = .ok (.getfield 23, 3) := by decide +kernel
theorem dX12_bait_124 : decode cX12_bait 124 = .ok (.if_icmp .ge 8, 3) := by decide +kernel
theorem dX12_bait_127 : decode cX12_bait 127 = .ok (.iload 8, 2) := by decide +kernel
theorem dX12_bait_129 : decode cX12_bait 129 = .ok (.goto 4, 3) := by decide +kernel
theorem dX12_bait_132 : decode cX12_bait 132 = .ok (.iconst 0, 1) := by decide +kernel
theorem dX12_bait_133 : decode cX12_bait 133 = .ok (.iadd, 1) := by decide +kernel
theorem dX12_bait_134 : decode cX12_bait 134 = .ok (.dup2, 1) := by decide +kernel
theorem dX12_bait_135 : decode cX12_bait 135 = .ok (.iaload, 1) := by decide +kernel
theorem dX12_bait_136 : decode cX12_bait 136 = .ok (.iload 8, 2) := by decide +kernel
theorem dX12_bait_138 : decode cX12_bait 138 = .ok (.aload_n 0, 1) := by decide +kernel
theorem dX12_bait_139 : decode cX12_bait 139 = .ok (.getfield 23, 3) := by decide +kernel
theorem dX12_bait_142 : decode cX12_bait 142 = .ok (.if_icmp .ge 7, 3) := by decide +kernel
theorem dX12_bait_145 : decode cX12_bait 145 = .ok (.iconst 1, 1) := by decide +kernel
theorem dX12_bait_146 : decode cX12_bait 146 = .ok (.goto 4, 3) := by decide +kernel
theorem dX12_bait_149 : decode cX12_bait 149 = .ok (.iconst 0, 1) := by decide +kernel
theorem dX12_bait_150 : decode cX12_bait 150 = .ok (.iadd, 1) := by decide +kernel
theorem dX12_bait_151 : decode cX12_bait 151 = .ok (.iastore, 1) := by decide +kernel
theorem dX12_bait_152 : decode cX12_bait 152 = .ok (.iinc 7 1, 3) := by decide +kernel
theorem dX12_bait_155 : decode cX12_bait 155 = .ok (.goto (-116), 3) := by decide +kernel
theorem dX12_bait_158 : decode cX12_bait 158 = .ok (.iload 5, 2) := by decide +kernel
theorem dX12_bait_160 : decode cX12_bait 160 = .ok (.ifCond .eq 30, 3) := by decide +kernel
theorem dX12_bait_163 : decode cX12_bait 163 = .ok (.aload_n 0, 1) := by decide +kernel
theorem dX12_bait_164 : decode cX12_bait 164 = .ok (.bipush 93, 2) := by decide +kernel
theorem dX12_bait_166 : decode cX12_bait 166 = .ok (.iload_n 1, 1) := by decide +kernel
theorem dX12_bait_167 : decode cX12_bait 167 = .ok (.invokevirtual 203, 3) := by decide +kernel
theorem dX12_bait_170 : decode cX12_bait 170 = .ok (.iconst (-1), 1) := by decide +kernel
theorem dX12_bait_171 : decode cX12_bait 171 = .ok (.if_icmp .eq 19, 3) := by decide +kernel
theorem dX12_bait_174 : decode cX12_bait 174 = .ok (.iload_n 2, 1) := by decide +kernel
theorem dX12_bait_175 : decode cX12_bait 175 = .ok (.iconst (-1), 1) := by decide +kernel
theorem dX12_bait_176 : decode cX12_bait 176 = .ok (.if_icmp .eq 9, 3) := by decide +kernel
theorem dX12_bait_179 : decode cX12_bait 179 = .ok (.iload 4, 2) := by decide +kernel
theorem dX12_bait_181 : decode cX12_bait 181 = .ok (.iload_n 2, 1) := by decide +kernel
theorem dX12_bait_182 : decode cX12_bait 182 = .ok (.if_icmp .ge 8, 3) := by decide +kernel
theorem dX12_bait_185 : decode cX12_bait 185 = .ok (.iload 4, 2) := by decide +kernel
theorem dX12_bait_187 : decode cX12_bait 187 = .ok (.goto 4, 3) := by decide +kernel
theorem dX12_bait_190 : decode cX12_bait 190 = .ok (.iload_n 2, 1) := by decide +kernel
theorem dX12_bait_191 : decode cX12_bait 191 = .ok (.istore_n 2, 1) := by decide +kernel
theorem dX12_bait_192 : decode cX12_bait 192 = .ok (.iinc 3 1, 3) := by decide +kernel
theorem dX12_bait_195 : decode cX12_bait 195 = .ok (.goto (-181), 3) := by decide +kernel
theorem dX12_bait_198 : decode cX12_bait 198 = .ok (.iload_n 2, 1) := by decide +kernel
theorem dX12_bait_199 : decode cX12_bait 199 = .ok (.ireturn, 1) := by decide +kernel
theorem dX12_note_0 : decode cX12_note 0 = .ok (.aload_n 0, 1) := by decide +kernel
theorem dX12_note_1 : decode cX12_note 1 = .ok (.iload_n 1, 1) := by decide +kernel
theorem dX12_note_2 : decode cX12_note 2 = .ok (.invokevirtual 177, 3) := by decide +kernel
theorem dX12_note_5 : decode cX12_note 5 = .ok (.ifCond .ne 6, 3) := by decide +kernel
theorem dX12_note_8 : decode cX12_note 8 = .ok (.bipush (-2), 2) := by decide +kernel
theorem dX12_note_10 : decode cX12_note 10 = .ok (.ireturn, 1) := by decide +kernel
theorem dX12_note_11 : decode cX12_note 11 = .ok (.iload_n 2, 1) := by decide +kernel
theorem dX12_note_12 : decode cX12_note 12 = .ok (.i2l, 1) := by decide +kernel
theorem dX12_note_13 : decode cX12_note 13 = .ok (.lconst 0, 1) := by decide +kernel
theorem dX12_note_14 : decode cX12_note 14 = .ok (.ldc2_w 265, 3) := by decide +kernel
theorem dX12_note_17 : decode cX12_note 17 = .ok (.invokestatic 62, 3) := by decide +kernel
theorem dX12_note_20 : decode cX12_note 20 = .ok (.ifCond .ne 6, 3) := by decide +kernel
theorem dX12_note_23 : decode cX12_note 23 = .ok (.bipush (-3), 2) := by decide +kernel
theorem dX12_note_25 : decode cX12_note 25 = .ok (.ireturn, 1) := by decide +kernel
theorem dX12_note_26 : decode cX12_note 26 = .ok (.aload_n 0, 1) := by decide +kernel
theorem dX12_note_27 : decode cX12_note 27 = .ok (.getfield 172, 3) := by decide +kernel
theorem dX12_note_30 : decode cX12_note 30 = .ok (.bipush 6, 2) := by decide +kernel
theorem dX12_note_32 : decode cX12_note 32 = .ok (.if_icmp .ne 6, 3) := by decide +kernel
theorem dX12_note_35 : decode cX12_note 35 = .ok (.bipush (-5), 2) := by decide +kernel
theorem dX12_note_37 : decode cX12_note 37 = .ok (.ireturn, 1) := by decide +kernel
theorem dX12_note_38 : decode cX12_note 38 = .ok (.aload_n 0, 1) := by decide +kernel
theorem dX12_note_39 : decode cX12_note 39 = .ok (.getfield 54, 3) := by decide +kernel
theorem dX12_note_42 : decode cX12_note 42 = .ok (.aload_n 0, 1) := by decide +kernel
theorem dX12_note_43 : decode cX12_note 43 = .ok (.getfield 172, 3) := by decide +kernel
theorem dX12_note_46 : decode cX12_note 46 = .ok (.iload_n 1, 1) := by decide +kernel
theorem dX12_note_47 : decode cX12_note 47 = .ok (.iastore, 1) := by decide +kernel
theorem dX12_note_48 : decode cX12_note 48 = .ok (.aload_n 0, 1) := by decide +kernel
theorem dX12_note_49 : decode cX12_note 49 = .ok (.getfield 57, 3) := by decide +kernel
theorem dX12_note_52 : decode cX12_note 52 = .ok (.aload_n 0, 1) := by decide +kernel
theorem dX12_note_53 : decode cX12_note 53 = .ok (.getfield 172, 3) := by decide +kernel
theorem dX12_note_56 : decode cX12_note 56 = .ok (.iload_n 2, 1) := by decide +kernel
theorem dX12_note_57 : decode cX12_note 57 = .ok (.iastore, 1) := by decide +kernel
theorem dX12_note_58 : decode cX12_note 58 = .ok (.aload_n 0, 1) := by decide +kernel
theorem dX12_note_59 : decode cX12_note 59 = .ok (.dup, 1) := by decide +kernel
theorem dX12_note_60 : decode cX12_note 60 = .ok (.getfield 172, 3) := by decide +kernel
theorem dX12_note_63 : decode cX12_note 63 = .ok (.iconst 1, 1) := by decide +kernel
theorem dX12_note_64 : decode cX12_note 64 = .ok (.iadd, 1) := by decide +kernel
theorem dX12_note_65 : decode cX12_note 65 = .ok (.putfield 172, 3) := by decide +kernel
theorem dX12_note_68 : decode cX12_note 68 = .ok (.aload_n 0, 1) := by decide +kernel
theorem dX12_note_69 : decode cX12_note 69 = .ok (.getfield 172, 3) := by decide +kernel
theorem dX12_note_72 : decode cX12_note 72 = .ok (.ireturn, 1) := by decide +kernel
theorem dX12_forget_0 : decode cX12_forget 0 = .ok (.aload_n 0, 1) := by decide +kernel
theorem dX12_forget_1 : decode cX12_forget 1 = .ok (.getfield 172, 3) := by decide +kernel
theorem dX12_forget_4 : decode cX12_forget 4 = .ok (.istore_n 1, 1) := by decide +kernel
theorem dX12_forget_5 : decode cX12_forget 5 = .ok (.aload_n 0, 1) := by decide +kernel
theorem dX12_forget_6 : decode cX12_forget 6 = .ok (.iconst 0, 1) := by decide +kernel
theorem dX12_forget_7 : decode cX12_forget 7 = .ok (.putfield 172, 3) := by decide +kernel
theorem dX12_forget_10 : decode cX12_forget 10 = .ok (.iload_n 1, 1) := by decide +kernel
theorem dX12_forget_11 : decode cX12_forget 11 = .ok (.ireturn, 1) := by decide +kernel
theorem dX12_layOf_0 : decode cX12_layOf 0 = .ok (.iload_n 1, 1) := by decide +kernel
theorem dX12_layOf_1 : decode cX12_layOf 1 = .ok (.iconst 2, 1) := by decide +kernel
theorem dX12_layOf_2 : decode cX12_layOf 2 = .ok (.aload_n 0, 1) := by decide +kernel
theorem dX12_layOf_3 : decode cX12_layOf 3 = .ok (.getfield 23, 3) := by decide +kernel
theorem dX12_layOf_6 : decode cX12_layOf 6 = .ok (.iconst 1, 1) := by decide +kernel
theorem dX12_layOf_7 : decode cX12_layOf 7 = .ok (.isub, 1) := by decide +kernel
theorem dX12_layOf_8 : decode cX12_layOf 8 = .ok (.iload_n 2, 1) := by decide +kernel
theorem dX12_layOf_9 : decode cX12_layOf 9 = .ok (.isub, 1) := by decide +kernel
theorem dX12_layOf_10 : decode cX12_layOf 10 = .ok (.imul, 1) := by decide +kernel
theorem dX12_layOf_11 : decode cX12_layOf 11 = .ok (.ishr, 1) := by decide +kernel
theorem dX12_layOf_12 : decode cX12_layOf 12 = .ok (.iconst 3, 1) := by decide +kernel
theorem dX12_layOf_13 : decode cX12_layOf 13 = .ok (.iand, 1) := by decide +kernel
theorem dX12_layOf_14 : decode cX12_layOf 14 = .ok (.ireturn, 1) := by decide +kernel
theorem dX12_isSo_0 : decode cX12_isSo 0 = .ok (.bipush 93, 2) := by decide +kernel
theorem dX12_isSo_2 : decode cX12_isSo 2 = .ok (.istore_n 2, 1) := by decide +kernel
theorem dX12_isSo_3 : decode cX12_isSo 3 = .ok (.iconst 0, 1) := by decide +kernel
theorem dX12_isSo_4 : decode cX12_isSo 4 = .ok (.istore_n 3, 1) := by decide +kernel
theorem dX12_isSo_5 : decode cX12_isSo 5 = .ok (.iload_n 3, 1) := by decide +kernel
theorem dX12_isSo_6 : decode cX12_isSo 6 = .ok (.aload_n 0, 1) := by decide +kernel
theorem dX12_isSo_7 : decode cX12_isSo 7 = .ok (.getfield 23, 3) := by decide +kernel
theorem dX12_isSo_10 : decode cX12_isSo 10 = .ok (.if_icmp .ge 25, 3) := by decide +kernel
theorem dX12_isSo_13 : decode cX12_isSo 13 = .ok (.aload_n 0, 1) := by decide +kernel
theorem dX12_isSo_14 : decode cX12_isSo 14 = .ok (.getfield 7, 3) := by decide +kernel
theorem dX12_isSo_17 : decode cX12_isSo 17 = .ok (.iload_n 2, 1) := by decide +kernel
theorem dX12_isSo_18 : decode cX12_isSo 18 = .ok (.iconst 0, 1) := by decide +kernel
theorem dX12_isSo_19 : decode cX12_isSo 19 = .ok (.iadd, 1) := by decide +kernel
theorem dX12_isSo_20 : decode cX12_isSo 20 = .ok (.iload_n 3, 1) := by decide +kernel
theorem dX12_isSo_21 : decode cX12_isSo 21 = .ok (.iadd, 1) := by decide +kernel
theorem dX12_isSo_22 : decode cX12_isSo 22 = .ok (.aload_n 0, 1) := by decide +kernel
theorem dX12_isSo_23 : decode cX12_isSo 23 = .ok (.iload_n 1, 1) := by decide +kernel
theorem dX12_isSo_24 : decode cX12_isSo 24 = .ok (.iload_n 3, 1) := by decide +kernel
theorem dX12_isSo_25 : decode cX12_isSo 25 = .ok (.invokevirtual 267, 3) := by decide +kernel
theorem dX12_isSo_28 : decode cX12_isSo 28 = .ok (.iastore, 1) := by decide +kernel
theorem dX12_isSo_29 : decode cX12_isSo 29 = .ok (.iinc 3 1, 3) := by decide +kernel
theorem dX12_isSo_32 : decode cX12_isSo 32 = .ok (.goto (-27), 3) := by decide +kernel
theorem dX12_isSo_35 : decode cX12_isSo 35 = .ok (.iconst 1, 1) := by decide +kernel
theorem dX12_isSo_36 : decode cX12_isSo 36 = .ok (.istore_n 3, 1) := by decide +kernel
theorem dX12_isSo_37 : decode cX12_isSo 37 = .ok (.iconst 0, 1) := by decide +kernel
theorem dX12_isSo_38 : decode cX12_isSo 38 = .ok (.istore 4, 2) := by decide +kernel
theorem dX12_isSo_40 : decode cX12_isSo 40 = .ok (.iload 4, 2) := by decide +kernel
theorem dX12_isSo_42 : decode cX12_isSo 42 = .ok (.aload_n 0, 1) := by decide +kernel
theorem dX12_isSo_43 : decode cX12_isSo 43 = .ok (.getfield 172, 3) := by decide +kernel
theorem dX12_isSo_46 : decode cX12_isSo 46 = .ok (.if_icmp .ge 100, 3) := by decide +kernel
theorem dX12_isSo_49 : decode cX12_isSo 49 = .ok (.iload_n 3, 1) := by decide +kernel
theorem dX12_isSo_50 : decode cX12_isSo 50 = .ok (.ifCond .eq 96, 3) := by decide +kernel
theorem dX12_isSo_53 : decode cX12_isSo 53 = .ok (.aload_n 0, 1) := by decide +kernel
theorem dX12_isSo_54 : decode cX12_isSo 54 = .ok (.iload_n 2, 1) := by decide +kernel
theorem dX12_isSo_55 : decode cX12_isSo 55 = .ok (.aload_n 0, 1) := by decide +kernel
theorem dX12_isSo_56 : decode cX12_isSo 56 = .ok (.getfield 54, 3) := by decide +kernel
theorem dX12_isSo_59 : decode cX12_isSo 59 = .ok (.iload 4, 2) := by decide +kernel
theorem dX12_isSo_61 : decode cX12_isSo 61 = .ok (.iaload, 1) := by decide +kernel
theorem dX12_isSo_62 : decode cX12_isSo 62 = .ok (.invokevirtual 193, 3) := by decide +kernel
theorem dX12_isSo_65 : decode cX12_isSo 65 = .ok (.aload_n 0, 1) := by decide +kernel
theorem dX12_isSo_66 : decode cX12_isSo 66 = .ok (.getfield 57, 3) := by decide +kernel
theorem dX12_isSo_69 : decode cX12_isSo 69 = .ok (.iload 4, 2) := by decide +kernel
theorem dX12_isSo_71 : decode cX12_isSo 71 = .ok (.iaload, 1) := by decide +kernel
theorem dX12_isSo_72 : decode cX12_isSo 72 = .ok (.if_icmp .ne 7, 3) := by decide +kernel
theorem dX12_isSo_75 : decode cX12_isSo 75 = .ok (.iconst 1, 1) := by decide +kernel
theorem dX12_isSo_76 : decode cX12_isSo 76 = .ok (.goto 4, 3) := by decide +kernel
theorem dX12_isSo_79 : decode cX12_isSo 79 = .ok (.iconst 0, 1) := by decide +kernel
theorem dX12_isSo_80 : decode cX12_isSo 80 = .ok (.istore_n 3, 1) := by decide +kernel
theorem dX12_isSo_81 : decode cX12_isSo 81 = .ok (.iconst 0, 1) := by decide +kernel
theorem dX12_isSo_82 : decode cX12_isSo 82 = .ok (.istore 5, 2) := by decide +kernel
theorem dX12_isSo_84 : decode cX12_isSo 84 = .ok (.iload 5, 2) := by decide +kernel
theorem dX12_isSo_86 : decode cX12_isSo 86 = .ok (.aload_n 0, 1) := by decide +kernel
theorem dX12_isSo_87 : decode cX12_isSo 87 = .ok (.getfield 23, 3) := by decide +kernel
theorem dX12_isSo_90 : decode cX12_isSo 90 = .ok (.if_icmp .ge 30, 3) := by decide +kernel
theorem dX12_isSo_93 : decode cX12_isSo 93 = .ok (.aload_n 0, 1) := by decide +kernel
theorem dX12_isSo_94 : decode cX12_isSo 94 = .ok (.getfield 7, 3) := by decide +kernel
theorem dX12_isSo_97 : decode cX12_isSo 97 = .ok (.iload_n 2, 1) := by decide +kernel
theorem dX12_isSo_98 : decode cX12_isSo 98 = .ok (.iconst 0, 1) := by decide +kernel
theorem dX12_isSo_99 : decode cX12_isSo 99 = .ok (.iadd, 1) := by decide +kernel
theorem dX12_isSo_100 : decode cX12_isSo 100 = .ok (.iload 5, 2) := by decide +kernel
theorem dX12_isSo_102 : decode cX12_isSo 102 = .ok (.iadd, 1) := by decide +kernel
theorem dX12_isSo_103 : decode cX12_isSo 103 = .ok (.dup2, 1) := by decide +kernel
theorem dX12_isSo_104 : decode cX12_isSo 104 = .ok (.iaload, 1) := by decide +kernel
theorem dX12_isSo_105 : decode cX12_isSo 105 = .ok (.aload_n 0, 1) := by decide +kernel
theorem dX12_isSo_106 : decode cX12_isSo 106 = .ok (.getfield 42, 3) := by decide +kernel
theorem dX12_isSo_109 : decode cX12_isSo 109 = .ok (.iload 5, 2) := by decide +kernel
theorem dX12_isSo_111 : decode cX12_isSo 111 = .ok (.iaload, 1) := by decide +kernel
theorem dX12_isSo_112 : decode cX12_isSo 112 = .ok (.isub, 1) := by decide +kernel
theorem dX12_isSo_113 : decode cX12_isSo 113 = .ok (.iastore, 1) := by decide +kernel
theorem dX12_isSo_114 : decode cX12_isSo 114 = .ok (.iinc 5 1, 3) := by decide +kernel
theorem dX12_isSo_117 : decode cX12_isSo 117 = .ok (.goto (-33), 3) := by decide +kernel
theorem dX12_isSo_120 : decode cX12_isSo 120 = .ok (.aload_n 0, 1) := by decide +kernel
theorem dX12_isSo_121 : decode cX12_isSo 121 = .ok (.getfield 7, 3) := by decide +kernel
theorem dX12_isSo_124 : decode cX12_isSo 124 = .ok (.iload_n 2, 1) := by decide +kernel
theorem dX12_isSo_125 : decode cX12_isSo 125 = .ok (.iconst 0, 1) := by decide +kernel
theorem dX12_isSo_126 : decode cX12_isSo 126 = .ok (.iadd, 1) := by decide +kernel
theorem dX12_isSo_127 : decode cX12_isSo 127 = .ok (.aload_n 0, 1) := by decide +kernel
theorem dX12_isSo_128 : decode cX12_isSo 128 = .ok (.getfield 54, 3) := by decide +kernel
theorem dX12_isSo_131 : decode cX12_isSo 131 = .ok (.iload 4, 2) := by decide +kernel
theorem dX12_isSo_133 : decode cX12_isSo 133 = .ok (.iaload, 1) := by decide +kernel
theorem dX12_isSo_134 : decode cX12_isSo 134 = .ok (.iadd, 1) := by decide +kernel
theorem dX12_isSo_135 : decode cX12_isSo 135 = .ok (.dup2, 1) := by decide +kernel
theorem dX12_isSo_136 : decode cX12_isSo 136 = .ok (.iaload, 1) := by decide +kernel
theorem dX12_isSo_137 : decode cX12_isSo 137 = .ok (.iconst 1, 1) := by decide +kernel
theorem dX12_isSo_138 : decode cX12_isSo 138 = .ok (.iadd, 1) := by decide +kernel
theorem dX12_isSo_139 : decode cX12_isSo 139 = .ok (.iastore, 1) := by decide +kernel
theorem dX12_isSo_140 : decode cX12_isSo 140 = .ok (.iinc 4 1, 3) := by decide +kernel
theorem dX12_isSo_143 : decode cX12_isSo 143 = .ok (.goto (-103), 3) := by decide +kernel
theorem dX12_isSo_146 : decode cX12_isSo 146 = .ok (.iload_n 3, 1) := by decide +kernel
theorem dX12_isSo_147 : decode cX12_isSo 147 = .ok (.ireturn, 1) := by decide +kernel
theorem dX12_lay_0 : decode cX12_lay 0 = .ok (.iload_n 1, 1) := by decide +kernel
theorem dX12_lay_1 : decode cX12_lay 1 = .ok (.i2l, 1) := by decide +kernel
theorem dX12_lay_2 : decode cX12_lay 2 = .ok (.lconst 0, 1) := by decide +kernel
theorem dX12_lay_3 : decode cX12_lay 3 = .ok (.lconst 1, 1) := by decide +kernel
theorem dX12_lay_4 : decode cX12_lay 4 = .ok (.invokestatic 62, 3) := by decide +kernel
theorem dX12_lay_7 : decode cX12_lay 7 = .ok (.ifCond .ne 44, 3) := by decide +kernel
theorem dX12_lay_10 : decode cX12_lay 10 = .ok (.iload_n 1, 1) := by decide +kernel
theorem dX12_lay_11 : decode cX12_lay 11 = .ok (.i2l, 1) := by decide +kernel
theorem dX12_lay_12 : decode cX12_lay 12 = .ok (.ldc2_w 252, 3) := by decide +kernel
theorem dX12_lay_15 : decode cX12_lay 15 = .ok (.bipush 9, 2) := by decide +kernel
theorem dX12_lay_17 : decode cX12_lay 17 = .ok (.aload_n 0, 1) := by decide +kernel
theorem dX12_lay_18 : decode cX12_lay 18 = .ok (.getfield 23, 3) := by decide +kernel
theorem dX12_lay_21 : decode cX12_lay 21 = .ok (.iadd, 1) := by decide +kernel
theorem dX12_lay_22 : decode cX12_lay 22 = .ok (.i2l, 1) := by decide +kernel
theorem dX12_lay_23 : decode cX12_lay 23 = .ok (.invokestatic 62, 3) := by decide +kernel
theorem dX12_lay_26 : decode cX12_lay 26 = .ok (.ifCond .ne 25, 3) := by decide +kernel
theorem dX12_lay_29 : decode cX12_lay 29 = .ok (.iload_n 1, 1) := by decide +kernel
theorem dX12_lay_30 : decode cX12_lay 30 = .ok (.i2l, 1) := by decide +kernel
theorem dX12_lay_31 : decode cX12_lay 31 = .ok (.ldc2_w 270, 3) := by decide +kernel
theorem dX12_lay_34 : decode cX12_lay 34 = .ok (.bipush 19, 2) := by decide +kernel
theorem dX12_lay_36 : decode cX12_lay 36 = .ok (.aload_n 0, 1) := by decide +kernel
theorem dX12_lay_37 : decode cX12_lay 37 = .ok (.getfield 23, 3) := by decide +kernel
theorem dX12_lay_40 : decode cX12_lay 40 = .ok (.iadd, 1) := by decide +kernel
theorem dX12_lay_41 : decode cX12_lay 41 = .ok (.i2l, 1) := by decide +kernel
theorem dX12_lay_42 : decode cX12_lay 42 = .ok (.invokestatic 62, 3) := by decide +kernel
theorem dX12_lay_45 : decode cX12_lay 45 = .ok (.ifCond .ne 6, 3) := by decide +kernel
theorem dX12_lay_48 : decode cX12_lay 48 = .ok (.bipush (-3), 2) := by decide +kernel
theorem dX12_lay_50 : decode cX12_lay 50 = .ok (.ireturn, 1) := by decide +kernel
theorem dX12_lay_51 : decode cX12_lay 51 = .ok (.aload_n 0, 1) := by decide +kernel
theorem dX12_lay_52 : decode cX12_lay 52 = .ok (.getfield 23, 3) := by decide +kernel
theorem dX12_lay_55 : decode cX12_lay 55 = .ok (.iconst 4, 1) := by decide +kernel
theorem dX12_lay_56 : decode cX12_lay 56 = .ok (.if_icmp .le 6, 3) := by decide +kernel
theorem dX12_lay_59 : decode cX12_lay 59 = .ok (.bipush (-4), 2) := by decide +kernel
theorem dX12_lay_61 : decode cX12_lay 61 = .ok (.ireturn, 1) := by decide +kernel
theorem dX12_lay_62 : decode cX12_lay 62 = .ok (.iconst 0, 1) := by decide +kernel
theorem dX12_lay_63 : decode cX12_lay 63 = .ok (.istore_n 2, 1) := by decide +kernel
theorem dX12_lay_64 : decode cX12_lay 64 = .ok (.iconst (-1), 1) := by decide +kernel
theorem dX12_lay_65 : decode cX12_lay 65 = .ok (.istore_n 3, 1) := by decide +kernel
theorem dX12_lay_66 : decode cX12_lay 66 = .ok (.iconst (-1), 1) := by decide +kernel
theorem dX12_lay_67 : decode cX12_lay 67 = .ok (.istore 4, 2) := by decide +kernel
theorem dX12_lay_69 : decode cX12_lay 69 = .ok (.iconst (-1), 1) := by decide +kernel
theorem dX12_lay_70 : decode cX12_lay 70 = .ok (.istore 5, 2) := by decide +kernel
theorem dX12_lay_72 : decode cX12_lay 72 = .ok (.iconst 0, 1) := by decide +kernel
theorem dX12_lay_73 : decode cX12_lay 73 = .ok (.istore 6, 2) := by decide +kernel
theorem dX12_lay_75 : decode cX12_lay 75 = .ok (.iload 6, 2) := by decide +kernel
theorem dX12_lay_77 : decode cX12_lay 77 = .ok (.iconst 1, 1) := by decide +kernel
theorem dX12_lay_78 : decode cX12_lay 78 = .ok (.iconst 2, 1) := by decide +kernel
theorem dX12_lay_79 : decode cX12_lay 79 = .ok (.aload_n 0, 1) := by decide +kernel
theorem dX12_lay_80 : decode cX12_lay 80 = .ok (.getfield 23, 3) := by decide +kernel
theorem dX12_lay_83 : decode cX12_lay 83 = .ok (.imul, 1) := by decide +kernel
theorem dX12_lay_84 : decode cX12_lay 84 = .ok (.ishl, 1) := by decide +kernel
theorem dX12_lay_85 : decode cX12_lay 85 = .ok (.if_icmp .ge 90, 3) := by decide +kernel
theorem dX12_lay_88 : decode cX12_lay 88 = .ok (.aload_n 0, 1) := by decide +kernel
theorem dX12_lay_89 : decode cX12_lay 89 = .ok (.iload 6, 2) := by decide +kernel
theorem dX12_lay_91 : decode cX12_lay 91 = .ok (.invokevirtual 272, 3) := by decide +kernel
theorem dX12_lay_94 : decode cX12_lay 94 = .ok (.ifCond .eq 75, 3) := by decide +kernel
theorem dX12_lay_97 : decode cX12_lay 97 = .ok (.iload_n 1, 1) := by decide +kernel
theorem dX12_lay_98 : decode cX12_lay 98 = .ok (.bipush 10, 2) := by decide +kernel
theorem dX12_lay_100 : decode cX12_lay 100 = .ok (.if_icmp .ge 7, 3) := by decide +kernel
theorem dX12_lay_103 : decode cX12_lay 103 = .ok (.iconst 0, 1) := by decide +kernel
theorem dX12_lay_104 : decode cX12_lay 104 = .ok (.goto 13, 3) := by decide +kernel
theorem dX12_lay_107 : decode cX12_lay 107 = .ok (.aload_n 0, 1) := by decide +kernel
theorem dX12_lay_108 : decode cX12_lay 108 = .ok (.iload 6, 2) := by decide +kernel
theorem dX12_lay_110 : decode cX12_lay 110 = .ok (.iload_n 1, 1) := by decide +kernel
theorem dX12_lay_111 : decode cX12_lay 111 = .ok (.bipush 10, 2) := by decide +kernel
theorem dX12_lay_113 : decode cX12_lay 113 = .ok (.irem, 1) := by decide +kernel
theorem dX12_lay_114 : decode cX12_lay 114 = .ok (.invokevirtual 267, 3) := by decide +kernel
theorem dX12_lay_117 : decode cX12_lay 117 = .ok (.istore 7, 2) := by decide +kernel
theorem dX12_lay_119 : decode cX12_lay 119 = .ok (.iload_n 2, 1) := by decide +kernel
theorem dX12_lay_120 : decode cX12_lay 120 = .ok (.ifCond .ne 8, 3) := by decide +kernel
theorem dX12_lay_123 : decode cX12_lay 123 = .ok (.iload 6, 2) := by decide +kernel
theorem dX12_lay_125 : decode cX12_lay 125 = .ok (.goto 4, 3) := by decide +kernel
theorem dX12_lay_128 : decode cX12_lay 128 = .ok (.iload_n 3, 1) := by decide +kernel
theorem dX12_lay_129 : decode cX12_lay 129 = .ok (.istore_n 3, 1) := by decide +kernel
theorem dX12_lay_130 : decode cX12_lay 130 = .ok (.iload_n 2, 1) := by decide +kernel
theorem dX12_lay_131 : decode cX12_lay 131 = .ok (.ifCond .eq 10, 3) := by decide +kernel
theorem dX12_lay_134 : decode cX12_lay 134 = .ok (.iload 7, 2) := by decide +kernel
theorem dX12_lay_136 : decode cX12_lay 136 = .ok (.iload 4, 2) := by decide +kernel
theorem dX12_lay_138 : decode cX12_lay 138 = .ok (.if_icmp .ge 8, 3) := by decide +kernel
theorem dX12_lay_141 : decode cX12_lay 141 = .ok (.iload 7, 2) := by decide +kernel
theorem dX12_lay_143 : decode cX12_lay 143 = .ok (.goto 5, 3) := by decide +kernel
theorem dX12_lay_146 : decode cX12_lay 146 = .ok (.iload 4, 2) := by decide +kernel
theorem dX12_lay_148 : decode cX12_lay 148 = .ok (.istore 4, 2) := by decide +kernel
theorem dX12_lay_150 : decode cX12_lay 150 = .ok (.iload 7, 2) := by decide +kernel
theorem dX12_lay_152 : decode cX12_lay 152 = .ok (.iload 5, 2) := by decide +kernel
theorem dX12_lay_154 : decode cX12_lay 154 = .ok (.if_icmp .le 8, 3) := by decide +kernel
theorem dX12_lay_157 : decode cX12_lay 157 = .ok (.iload 7, 2) := by decide +kernel
theorem dX12_lay_159 : decode cX12_lay 159 = .ok (.goto 5, 3) := by decide +kernel
theorem dX12_lay_162 : decode cX12_lay 162 = .ok (.iload 5, 2) := by decide +kernel
theorem dX12_lay_164 : decode cX12_lay 164 = .ok (.istore 5, 2) := by decide +kernel
theorem dX12_lay_166 : decode cX12_lay 166 = .ok (.iinc 2 1, 3) := by decide +kernel
theorem dX12_lay_169 : decode cX12_lay 169 = .ok (.iinc 6 1, 3) := by decide +kernel
theorem dX12_lay_172 : decode cX12_lay 172 = .ok (.goto (-97), 3) := by decide +kernel
theorem dX12_lay_175 : decode cX12_lay 175 = .ok (.iload_n 1, 1) := by decide +kernel
theorem dX12_lay_176 : decode cX12_lay 176 = .ok (.ifCond .ne 7, 3) := by decide +kernel
theorem dX12_lay_179 : decode cX12_lay 179 = .ok (.iload_n 2, 1) := by decide +kernel
theorem dX12_lay_180 : decode cX12_lay 180 = .ok (.goto 25, 3) := by decide +kernel
theorem dX12_lay_183 : decode cX12_lay 183 = .ok (.iload_n 1, 1) := by decide +kernel
theorem dX12_lay_184 : decode cX12_lay 184 = .ok (.iconst 1, 1) := by decide +kernel
theorem dX12_lay_185 : decode cX12_lay 185 = .ok (.if_icmp .ne 7, 3) := by decide +kernel
theorem dX12_lay_188 : decode cX12_lay 188 = .ok (.iload_n 3, 1) := by decide +kernel
theorem dX12_lay_189 : decode cX12_lay 189 = .ok (.goto 16, 3) := by decide +kernel
theorem dX12_lay_192 : decode cX12_lay 192 = .ok (.iload_n 1, 1) := by decide +kernel
theorem dX12_lay_193 : decode cX12_lay 193 = .ok (.bipush 20, 2) := by decide +kernel
theorem dX12_lay_195 : decode cX12_lay 195 = .ok (.if_icmp .ge 8, 3) := by decide +kernel
theorem dX12_lay_198 : decode cX12_lay 198 = .ok (.iload 4, 2) := by decide +kernel
theorem dX12_lay_200 : decode cX12_lay 200 = .ok (.goto 5, 3) := by decide +kernel
theorem dX12_lay_203 : decode cX12_lay 203 = .ok (.iload 5, 2) := by decide +kernel
theorem dX12_lay_205 : decode cX12_lay 205 = .ok (.ireturn, 1) := by decide +kernel
theorem dX12_keep_0 : decode cX12_keep 0 = .ok (.iload_n 1, 1) := by decide +kernel
theorem dX12_keep_1 : decode cX12_keep 1 = .ok (.i2l, 1) := by decide +kernel
theorem dX12_keep_2 : decode cX12_keep 2 = .ok (.lconst 0, 1) := by decide +kernel
theorem dX12_keep_3 : decode cX12_keep 3 = .ok (.lconst 1, 1) := by decide +kernel
theorem dX12_keep_4 : decode cX12_keep 4 = .ok (.invokestatic 62, 3) := by decide +kernel
theorem dX12_keep_7 : decode cX12_keep 7 = .ok (.ifCond .ne 6, 3) := by decide +kernel
theorem dX12_keep_10 : decode cX12_keep 10 = .ok (.bipush (-2), 2) := by decide +kernel
theorem dX12_keep_12 : decode cX12_keep 12 = .ok (.ireturn, 1) := by decide +kernel
theorem dX12_keep_13 : decode cX12_keep 13 = .ok (.aload_n 0, 1) := by decide +kernel
theorem dX12_keep_14 : decode cX12_keep 14 = .ok (.iconst 0, 1) := by decide +kernel
theorem dX12_keep_15 : decode cX12_keep 15 = .ok (.iconst 1, 1) := by decide +kernel
theorem dX12_keep_16 : decode cX12_keep 16 = .ok (.iload_n 1, 1) := by decide +kernel
theorem dX12_keep_17 : decode cX12_keep 17 = .ok (.iadd, 1) := by decide +kernel
theorem dX12_keep_18 : decode cX12_keep 18 = .ok (.invokevirtual 221, 3) := by decide +kernel
theorem dX12_keep_21 : decode cX12_keep 21 = .ok (.aload_n 0, 1) := by decide +kernel
theorem dX12_keep_22 : decode cX12_keep 22 = .ok (.getfield 13, 3) := by decide +kernel
theorem dX12_keep_25 : decode cX12_keep 25 = .ok (.iload_n 1, 1) := by decide +kernel
theorem dX12_keep_26 : decode cX12_keep 26 = .ok (.iconst 1, 1) := by decide +kernel
theorem dX12_keep_27 : decode cX12_keep 27 = .ok (.bastore, 1) := by decide +kernel
theorem dX12_keep_28 : decode cX12_keep 28 = .ok (.aload_n 0, 1) := by decide +kernel
theorem dX12_keep_29 : decode cX12_keep 29 = .ok (.getfield 7, 3) := by decide +kernel
theorem dX12_keep_32 : decode cX12_keep 32 = .ok (.bipush 30, 2) := by decide +kernel
theorem dX12_keep_34 : decode cX12_keep 34 = .ok (.iaload, 1) := by decide +kernel
theorem dX12_keep_35 : decode cX12_keep 35 = .ok (.ireturn, 1) := by decide +kernel
theorem dX12_back_0 : decode cX12_back 0 = .ok (.iload_n 1, 1) := by decide +kernel
theorem dX12_back_1 : decode cX12_back 1 = .ok (.i2l, 1) := by decide +kernel
theorem dX12_back_2 : decode cX12_back 2 = .ok (.lconst 0, 1) := by decide +kernel
theorem dX12_back_3 : decode cX12_back 3 = .ok (.lconst 1, 1) := by decide +kernel
theorem dX12_back_4 : decode cX12_back 4 = .ok (.invokestatic 62, 3) := by decide +kernel
theorem dX12_back_7 : decode cX12_back 7 = .ok (.ifCond .ne 6, 3) := by decide +kernel
theorem dX12_back_10 : decode cX12_back 10 = .ok (.bipush (-2), 2) := by decide +kernel
theorem dX12_back_12 : decode cX12_back 12 = .ok (.ireturn, 1) := by decide +kernel
theorem dX12_back_13 : decode cX12_back 13 = .ok (.aload_n 0, 1) := by decide +kernel
theorem dX12_back_14 : decode cX12_back 14 = .ok (.getfield 13, 3) := by decide +kernel
theorem dX12_back_17 : decode cX12_back 17 = .ok (.iload_n 1, 1) := by decide +kernel
theorem dX12_back_18 : decode cX12_back 18 = .ok (.baload, 1) := by decide +kernel
theorem dX12_back_19 : decode cX12_back 19 = .ok (.ifCond .ne 6, 3) := by decide +kernel
theorem dX12_back_22 : decode cX12_back 22 = .ok (.bipush (-4), 2) := by decide +kernel
theorem dX12_back_24 : decode cX12_back 24 = .ok (.ireturn, 1) := by decide +kernel
theorem dX12_back_25 : decode cX12_back 25 = .ok (.aload_n 0, 1) := by decide +kernel
theorem dX12_back_26 : decode cX12_back 26 = .ok (.iconst 1, 1) := by decide +kernel
theorem dX12_back_27 : decode cX12_back 27 = .ok (.iload_n 1, 1) := by decide +kernel
theorem dX12_back_28 : decode cX12_back 28 = .ok (.iadd, 1) := by decide +kernel
theorem dX12_back_29 : decode cX12_back 29 = .ok (.iconst 0, 1) := by decide +kernel
theorem dX12_back_30 : decode cX12_back 30 = .ok (.invokevirtual 221, 3) := by decide +kernel
theorem dX12_back_33 : decode cX12_back 33 = .ok (.aload_n 0, 1) := by decide +kernel
theorem dX12_back_34 : decode cX12_back 34 = .ok (.getfield 7, 3) := by decide +kernel
theorem dX12_back_37 : decode cX12_back 37 = .ok (.bipush 30, 2) := by decide +kernel
theorem dX12_back_39 : decode cX12_back 39 = .ok (.iaload, 1) := by decide +kernel
theorem dX12_back_40 : decode cX12_back 40 = .ok (.ireturn, 1) := by decide +kernel
theorem dX12_worthThere_0 : decode cX12_worthThere 0 = .ok (.iconst 0, 1) := by decide +kernel
theorem dX12_worthThere_1 : decode cX12_worthThere 1 = .ok (.istore_n 1, 1) := by decide +kernel
theorem dX12_worthThere_2 : decode cX12_worthThere 2 = .ok (.iconst 0, 1) := by decide +kernel
theorem dX12_worthThere_3 : decode cX12_worthThere 3 = .ok (.istore_n 2, 1) := by decide +kernel
theorem dX12_worthThere_4 : decode cX12_worthThere 4 = .ok (.iload_n 2, 1) := by decide +kernel
theorem dX12_worthThere_5 : decode cX12_worthThere 5 = .ok (.aload_n 0, 1) := by decide +kernel
theorem dX12_worthThere_6 : decode cX12_worthThere 6 = .ok (.getfield 23, 3) := by decide +kernel
theorem dX12_worthThere_9 : decode cX12_worthThere 9 = .ok (.if_icmp .ge 27, 3) := by decide +kernel
theorem dX12_worthThere_12 : decode cX12_worthThere 12 = .ok (.iload_n 1, 1) := by decide +kernel
theorem dX12_worthThere_13 : decode cX12_worthThere 13 = .ok (.aload_n 0, 1) := by decide +kernel
theorem dX12_worthThere_14 : decode cX12_worthThere 14 = .ok (.getfield 7, 3) := by decide +kernel
theorem dX12_worthThere_17 : decode cX12_worthThere 17 = .ok (.iconst 0, 1) := by decide +kernel
theorem dX12_worthThere_18 : decode cX12_worthThere 18 = .ok (.iload_n 2, 1) := by decide +kernel
theorem dX12_worthThere_19 : decode cX12_worthThere 19 = .ok (.iadd, 1) := by decide +kernel
theorem dX12_worthThere_20 : decode cX12_worthThere 20 = .ok (.iaload, 1) := by decide +kernel
theorem dX12_worthThere_21 : decode cX12_worthThere 21 = .ok (.aload_n 0, 1) := by decide +kernel
theorem dX12_worthThere_22 : decode cX12_worthThere 22 = .ok (.getfield 27, 3) := by decide +kernel
theorem dX12_worthThere_25 : decode cX12_worthThere 25 = .ok (.iload_n 2, 1) := by decide +kernel
theorem dX12_worthThere_26 : decode cX12_worthThere 26 = .ok (.iaload, 1) := by decide +kernel
theorem dX12_worthThere_27 : decode cX12_worthThere 27 = .ok (.imul, 1) := by decide +kernel
theorem dX12_worthThere_28 : decode cX12_worthThere 28 = .ok (.iadd, 1) := by decide +kernel
theorem dX12_worthThere_29 : decode cX12_worthThere 29 = .ok (.istore_n 1, 1) := by decide +kernel
theorem dX12_worthThere_30 : decode cX12_worthThere 30 = .ok (.iinc 2 1, 3) := by decide +kernel
theorem dX12_worthThere_33 : decode cX12_worthThere 33 = .ok (.goto (-29), 3) := by decide +kernel
theorem dX12_worthThere_36 : decode cX12_worthThere 36 = .ok (.iload_n 1, 1) := by decide +kernel
theorem dX12_worthThere_37 : decode cX12_worthThere 37 = .ok (.ireturn, 1) := by decide +kernel
theorem dX12_count_0 : decode cX12_count 0 = .ok (.iload_n 1, 1) := by decide +kernel
theorem dX12_count_1 : decode cX12_count 1 = .ok (.tableswitch 118 0 7 #[47, 52, 57, 62, 67, 75, 80, 85], 47) := by decide +kernel
theorem dX12_count_48 : decode cX12_count 48 = .ok (.aload_n 0, 1) := by decide +kernel
theorem dX12_count_49 : decode cX12_count 49 = .ok (.getfield 23, 3) := by decide +kernel
theorem dX12_count_52 : decode cX12_count 52 = .ok (.ireturn, 1) := by decide +kernel
theorem dX12_count_53 : decode cX12_count 53 = .ok (.aload_n 0, 1) := by decide +kernel
theorem dX12_count_54 : decode cX12_count 54 = .ok (.invokevirtual 275, 3) := by decide +kernel
theorem dX12_count_57 : decode cX12_count 57 = .ok (.ireturn, 1) := by decide +kernel
theorem dX12_count_58 : decode cX12_count 58 = .ok (.aload_n 0, 1) := by decide +kernel
theorem dX12_count_59 : decode cX12_count 59 = .ok (.getfield 160, 3) := by decide +kernel
theorem dX12_count_62 : decode cX12_count 62 = .ok (.ireturn, 1) := by decide +kernel
theorem dX12_count_63 : decode cX12_count 63 = .ok (.aload_n 0, 1) := by decide +kernel
theorem dX12_count_64 : decode cX12_count 64 = .ok (.getfield 147, 3) := by decide +kernel
theorem dX12_count_67 : decode cX12_count 67 = .ok (.ireturn, 1) := by decide +kernel
theorem dX12_count_68 : decode cX12_count 68 = .ok (.aload_n 0, 1) := by decide +kernel
theorem dX12_count_69 : decode cX12_count 69 = .ok (.getfield 7, 3) := by decide +kernel
theorem dX12_count_72 : decode cX12_count 72 = .ok (.bipush 30, 2) := by decide +kernel
theorem dX12_count_74 : decode cX12_count 74 = .ok (.iaload, 1) := by decide +kernel
theorem dX12_count_75 : decode cX12_count 75 = .ok (.ireturn, 1) := by decide +kernel
theorem dX12_count_76 : decode cX12_count 76 = .ok (.aload_n 0, 1) := by decide +kernel
theorem dX12_count_77 : decode cX12_count 77 = .ok (.getfield 172, 3) := by decide +kernel
theorem dX12_count_80 : decode cX12_count 80 = .ok (.ireturn, 1) := by decide +kernel
theorem dX12_count_81 : decode cX12_count 81 = .ok (.aload_n 0, 1) := by decide +kernel
theorem dX12_count_82 : decode cX12_count 82 = .ok (.getfield 66, 3) := by decide +kernel
theorem dX12_count_85 : decode cX12_count 85 = .ok (.ireturn, 1) := by decide +kernel
theorem dX12_count_86 : decode cX12_count 86 = .ok (.aload_n 0, 1) := by decide +kernel
theorem dX12_count_87 : decode cX12_count 87 = .ok (.invokevirtual 275, 3) := by decide +kernel
theorem dX12_count_90 : decode cX12_count 90 = .ok (.aload_n 0, 1) := by decide +kernel
theorem dX12_count_91 : decode cX12_count 91 = .ok (.iconst 0, 1) := by decide +kernel
theorem dX12_count_92 : decode cX12_count 92 = .ok (.iconst 0, 1) := by decide +kernel
theorem dX12_count_93 : decode cX12_count 93 = .ok (.invokevirtual 186, 3) := by decide +kernel
theorem dX12_count_96 : decode cX12_count 96 = .ok (.iadd, 1) := by decide +kernel
theorem dX12_count_97 : decode cX12_count 97 = .ok (.aload_n 0, 1) := by decide +kernel
theorem dX12_count_98 : decode cX12_count 98 = .ok (.iconst 0, 1) := by decide +kernel
theorem dX12_count_99 : decode cX12_count 99 = .ok (.iconst 1, 1) := by decide +kernel
theorem dX12_count_100 : decode cX12_count 100 = .ok (.invokevirtual 186, 3) := by decide +kernel
theorem dX12_count_103 : decode cX12_count 103 = .ok (.iadd, 1) := by decide +kernel
theorem dX12_count_104 : decode cX12_count 104 = .ok (.aload_n 0, 1) := by decide +kernel
theorem dX12_count_105 : decode cX12_count 105 = .ok (.iconst 0, 1) := by decide +kernel
theorem dX12_count_106 : decode cX12_count 106 = .ok (.iconst 2, 1) := by decide +kernel
theorem dX12_count_107 : decode cX12_count 107 = .ok (.invokevirtual 186, 3) := by decide +kernel
theorem dX12_count_110 : decode cX12_count 110 = .ok (.iadd, 1) := by decide +kernel
theorem dX12_count_111 : decode cX12_count 111 = .ok (.aload_n 0, 1) := by decide +kernel
theorem dX12_count_112 : decode cX12_count 112 = .ok (.iconst 0, 1) := by decide +kernel
theorem dX12_count_113 : decode cX12_count 113 = .ok (.iconst 3, 1) := by decide +kernel
theorem dX12_count_114 : decode cX12_count 114 = .ok (.invokevirtual 186, 3) := by decide +kernel
theorem dX12_count_117 : decode cX12_count 117 = .ok (.iadd, 1) := by decide +kernel
theorem dX12_count_118 : decode cX12_count 118 = .ok (.ireturn, 1) := by decide +kernel
theorem dX12_count_119 : decode cX12_count 119 = .ok (.bipush (-3), 2) := by decide +kernel
theorem dX12_count_121 : decode cX12_count 121 = .ok (.ireturn, 1) := by decide +kernel
